/-! WHAT THE CALLS DO -/
def sP (s : stt) (p : List Nat) : stt := ((s.1.1, p, s.1.2.2), s.2)
def sW (s : stt) (w : List Nat) : stt := ((s.1.1, s.1.2.1, w, s.1.2.2.2), s.2)
def sI (s : stt) (im : Nat → List Nat) : stt := ((s.1.1, s.1.2.1, s.1.2.2.1, im), s.2)
abbrev gK (s : stt) : Nat := s.1.1
abbrev gP (s : stt) : List Nat := s.1.2.1
abbrev gW (s : stt) : List Nat := s.1.2.2.1
abbrev gI (s : stt) : Nat → List Nat := s.1.2.2.2
abbrev gV (s : stt) : Option dsk := s.2.1
abbrev gS (s : stt) : Nat → Option (List Nat) := s.2.2.1
abbrev gO (s : stt) : Option (Nat → List Nat) := s.2.2.2
def o_appendVariable (s : stt) (x : Int) : ans := if 0 ≤ x ∧ x < 5 then (if (gP s).length < 15 then (.inl ((gP s).length + 1), sP s (gP s ++ [x.toNat])) else (.inr 2, s)) else (.inr 1, s)
def o_clearPattern (s : stt) : ans := (.inl (gP s).length, sP s [])
def o_patternLength (s : stt) : ans := (.inl (gP s).length, s)
def o_patternVariable (s : stt) (x : Int) : ans := if 0 ≤ x ∧ x < (gP s).length then (.inl ((gP s).getD x.toNat 0 : Nat), s) else (.inr 1, s)
def o_variables (s : stt) : ans := (.inl (pm_mem (gP s)), s)
def o_loadZimin (s : stt) (x : Int) : ans := if 1 ≤ x ∧ x ≤ 4 then (.inl (pm_zm x.toNat).length, sP s (pm_zm x.toNat)) else (.inr 1, s)
def o_canonicalize (s : stt) : ans := (.inl (if gP s = pm_cn (gP s) then 0 else 1), sP s (pm_cn (gP s)))
def o_reversePattern (s : stt) : ans := (.inl (if gP s = (gP s).reverse then 0 else 1), sP s (gP s).reverse)
def o_occursInZimin (s : stt) (x : Int) : ans := if 1 ≤ x ∧ x ≤ 4 then (if gP s = [] then (.inr 2, s) else (.inl (bI (FO (gP s) (pm_zm x.toNat)).isSome), s)) else (.inr 1, s)
def o_shelve (s : stt) (x : Int) : ans := if 0 ≤ x ∧ x < 4 then (.inl (gP s).length, (s.1, gV s, fun i => if i = x.toNat then some (gP s) else gS s i, gO s)) else (.inr 1, s)
def o_useShelf (s : stt) (x : Int) : ans := if 0 ≤ x ∧ x < 4 then (match gS s x.toNat with | none => (.inr 2, s) | some q => (.inl q.length, sP s q)) else (.inr 1, s)
def o_isIsomorphic (s : stt) (x : Int) : ans := if 0 ≤ x ∧ x < 4 then (match gS s x.toNat with | none => (.inr 2, s) | some q => (.inl (if pm_cn (gP s) = pm_cn q then 1 else 0), s)) else (.inr 1, s)
def o_contains (s : stt) (x : Int) : ans := if 0 ≤ x ∧ x < 4 then (match gS s x.toNat with | none => (.inr 2, s) | some q => if q = [] then (.inr 2, s) else (.inl (bI (FO q (gP s)).isSome), s)) else (.inr 1, s)
def o_setLetterCount (s : stt) (x : Int) : ans := if 2 ≤ x ∧ x ≤ 4 then (.inl (gK s), ((x.toNat, gP s, [], fun _ => []), s.2)) else (.inr 1, s)
def o_appendLetter (s : stt) (x : Int) : ans := if 0 ≤ x ∧ x < gK s then (if (gW s).length < 24 then (.inl ((gW s).length + 1), sW s (gW s ++ [x.toNat])) else (.inr 2, s)) else (.inr 1, s)
def o_clearWord (s : stt) : ans := (.inl (gW s).length, sW s [])
def o_wordLength (s : stt) : ans := (.inl (gW s).length, s)
def o_letter (s : stt) (x : Int) : ans := if 0 ≤ x ∧ x < (gW s).length then (.inl ((gW s).getD x.toNat 0 : Nat), s) else (.inr 1, s)
def o_avoids (s : stt) : ans := if gP s = [] then (.inr 1, s) else (.inl (bI (!(FO (gP s) (gW s)).isSome)), s)
def o_findOccurrence (s : stt) : ans := if gP s = [] then (.inr 1, s) else match FO (gP s) (gW s) with | none => (.inr 2, s) | some q => (.inl (q.1 : Nat), (s.1, gV s, gS s, some q.2))
def o_imageLength (s : stt) (x : Int) : ans := if 0 ≤ x ∧ x < 5 then (match gO s with | none => (.inr 2, s) | some f => (.inl (f x.toNat).length, s)) else (.inr 1, s)
def o_imageLetter (s : stt) (x y : Int) : ans := if 0 ≤ x ∧ x < 5 then (match gO s with | none => (.inr 2, s) | some f => if 0 ≤ y ∧ y < (f x.toNat).length then (.inl ((f x.toNat).getD y.toNat 0 : Nat), s) else (.inr 3, s)) else (.inr 1, s)
def o_occurrenceCount (s : stt) : ans := if gP s = [] then (.inr 1, s) else (.inl (occN (gP s) (gW s)), s)
def o_appendImage (s : stt) (x y : Int) : ans := if 0 ≤ x ∧ x < gK s ∧ 0 ≤ y ∧ y < gK s then (if (gI s x.toNat).length < 4 then (.inl ((gI s x.toNat).length + 1), sI s (ud (gI s) x.toNat (gI s x.toNat ++ [y.toNat]))) else (.inr 2, s)) else (.inr 1, s)
def o_clearImage (s : stt) (x : Int) : ans := if 0 ≤ x ∧ x < gK s then (.inl (gI s x.toNat).length, sI s (ud (gI s) x.toNat [])) else (.inr 1, s)
def o_applyMorphism (s : stt) : ans := if (pm_ap (gI s) (gW s)).length ≤ 24 then (.inl (pm_ap (gI s) (gW s)).length, sW s (pm_ap (gI s) (gW s))) else (.inr 1, s)
/-- a word changed some times; none: too long on the way -/
def itr (im : Nat → List Nat) (w : List Nat) : Nat → Option (List Nat)
  | 0 => some w
  | c + 1 => if (pm_ap im w).length ≤ 24 then itr im (pm_ap im w) c else none
def o_iterate (s : stt) (x y : Int) : ans := if (0 ≤ x ∧ x < gK s) ∧ 0 ≤ y ∧ y ≤ 10 then (match itr (gI s) [x.toNat] y.toNat with | none => (.inr 2, s) | some w => (.inl w.length, sW s w)) else (.inr 1, s)
def o_save (s : stt) : ans := (.inl (gW s).length, (s.1, some s.1, gS s, gO s))
def o_restore (s : stt) : ans := match gV s with | none => (.inr 1, s) | some x => (.inl x.2.2.1.length, (x, s.2))
/-- a call of the class -/
def LO (xc : List Nat) (o : ans) (n : Nat) (kd : Nat → Nat) (M : Nat → Nat → Int) (Qr : Option pm_V → pm_Me → Prop) (Qx : Nat → pm_Me → Prop) : Prop := ∀ M', Lab M' o.2 → pm_fr 0 97 M M' → match o.1 with
  | .inl v => Qr (some (.inl v)) (pm_m n kd M')
  | .inr c => Qx (xc.getD (c - 1) 9) (pm_m n kd M')
/-- a call of the reference -/
def RO (o : ans) (n : Nat) (kd : Nat → Nat) (M : Nat → Nat → Int) (Qr : Option pm_V → pm_Me → Prop) : Prop := ∀ M', Ref M' o.2 → pm_fr 97 122 M M' → match o.1 with
  | .inl v => M' 97 0 = 0 → Qr (some (.inl v)) (pm_m n kd M')
  | .inr c => M' 97 0 = (c : Int) → Qr (some (.inl 0)) (pm_m n kd M')
theorem Lab.p {M : Nat → Nat → Int} {s : stt} (h : Lab M s) : pm_row M 2 (gP s) := h.1.2.1
theorem Lab.w {M : Nat → Nat → Int} {s : stt} (h : Lab M s) : pm_row M 4 (gW s) := h.1.2.2.1
theorem Lab.k {M : Nat → Nat → Int} {s : stt} (h : Lab M s) : M 1 0 = (gK s : Int) := h.1.1
theorem Lab.i {M : Nat → Nat → Int} {s : stt} (h : Lab M s) : pm_img M 6 (gI s) := h.1.2.2.2
theorem Lab.ii {M : Nat → Nat → Int} {s : stt} (h : Lab M s) {l : Nat} (hl : l < 4) : pm_row M (8 + 2 * l) (gI s l) := h.i l hl
theorem occ_end {p t : List Nat} {s : Nat} (h : occ p t s ≠ []) (hp : p ≠ []) : s < t.length := by
  apply Classical.byContradiction
  intro hs
  have : 0 < p.length := List.length_pos_iff.mpr hp
  exact h (occ_need (by omega) hp)
theorem head_ne {α : Type} {L : List α} {a : α} (h : L.head? = some a) : L ≠ [] := by
  intro z; rw [z] at h; cases h
theorem ln0 {p : List Nat} : p.length ≠ 0 ↔ p ≠ [] := by
  rw [ne_eq, List.length_eq_zero_iff]

/-! THE STATE OF BOTH SIDES: desk (letters, pattern, word, images), snapshot, shelves, remembered images -/
abbrev dsk : Type := Nat × List Nat × List Nat × (Nat → List Nat)
abbrev stt : Type := dsk × Option dsk × (Nat → Option (List Nat)) × Option (Nat → List Nat)
/-- an answer (a number, or the code of what is thrown), and the state behind the call -/
abbrev ans : Type := (Int ⊕ Nat) × stt
def wfp (p : List Nat) : Prop := p.length ≤ 15 ∧ ∀ v ∈ p, v < 5
def wfw (K : Nat) (w : List Nat) : Prop := w.length ≤ 24 ∧ ∀ v ∈ w, v < K
def wfi (K : Nat) (im : Nat → List Nat) : Prop := (∀ l, (im l).length ≤ 4) ∧ (∀ l, ∀ v ∈ im l, v < K) ∧ ∀ l, K ≤ l → im l = []
def wfd (x : dsk) : Prop := (2 ≤ x.1 ∧ x.1 ≤ 4) ∧ wfp x.2.1 ∧ wfw x.1 x.2.2.1 ∧ wfi x.1 x.2.2.2
def wfs (s : stt) : Prop := wfd s.1 ∧ (∀ x, s.2.1 = some x → wfd x) ∧ (∀ i q, s.2.2.1 i = some q → wfp q) ∧ ∀ f, s.2.2.2 = some f → ∀ v, (f v).length ≤ 24
def LabS (M : Nat → Nat → Int) (i : Nat) (o : Option (List Nat)) : Prop := match o with
  | none => M 40 i = 0
  | some q => M 40 i = 1 ∧ pm_row M (32 + 2 * i) q
def LabO (M : Nat → Nat → Int) (o : Option (Nat → List Nat)) : Prop := match o with
  | none => M 41 0 = 0
  | some f => M 41 0 = 1 ∧ ∀ v, v < 5 → pm_row M (43 + 2 * v) (f v)
def LabV (M : Nat → Nat → Int) (o : Option dsk) : Prop := match o with
  | none => M 0 2 = 0
  | some x => M 0 2 = 1 ∧ pm_desk M 16 x.1 x.2.1 x.2.2.1 x.2.2.2
def Lab (M : Nat → Nat → Int) (s : stt) : Prop := pm_desk M 1 s.1.1 s.1.2.1 s.1.2.2.1 s.1.2.2.2 ∧ LabV M s.2.1 ∧ (∀ i, i < 4 → LabS M i (s.2.2.1 i)) ∧ LabO M s.2.2.2
theorem LabV.fr {M M' : Nat → Nat → Int} {lo hi : Nat} {o : Option dsk} (h : LabV M o) (ho : pm_fr lo hi M M') (h1 : 31 ≤ lo ∨ (1 ≤ lo ∧ hi ≤ 16)) : LabV M' o := by
  cases o with
  | none => exact (ho.at (by omega)).trans h
  | some x => exact ⟨(ho.at (by omega)).trans h.1, h.2.fr ho (by omega)⟩
theorem LabS.fr {M M' : Nat → Nat → Int} {lo hi i : Nat} {o : Option (List Nat)} (h : LabS M i o) (ho : pm_fr lo hi M M') (hi4 : i < 4) (h1 : 41 ≤ lo ∨ hi ≤ 32) : LabS M' i o := by
  cases o with
  | none => exact (ho.at (by omega)).trans h
  | some x => exact ⟨(ho.at (by omega)).trans h.1, h.2.fr ho (by omega)⟩
theorem LabO.fr {M M' : Nat → Nat → Int} {lo hi : Nat} {o : Option (Nat → List Nat)} (h : LabO M o) (ho : pm_fr lo hi M M') (h1 : 53 ≤ lo ∨ hi ≤ 41) : LabO M' o := by
  cases o with
  | none => exact (ho.at (by omega)).trans h
  | some x => exact ⟨(ho.at (by omega)).trans h.1, fun v hv => (h.2 v hv).fr ho (by omega)⟩
theorem Lab.fr {M M' : Nat → Nat → Int} {lo hi : Nat} {s : stt} (h : Lab M s) (ho : pm_fr lo hi M M') (h1 : 53 ≤ lo) : Lab M' s :=
  ⟨h.1.fr ho (by omega), h.2.1.fr ho (by omega), fun i hi => (h.2.2.1 i hi).fr ho hi (by omega), h.2.2.2.fr ho (by omega)⟩
/-- a new desk -/
theorem Lab.dk {M M' : Nat → Nat → Int} {lo hi : Nat} {s : stt} {x : dsk} (h : Lab M s) (ho : pm_fr lo hi M M') (h1 : 1 ≤ lo) (h2 : hi ≤ 16) (hx : pm_desk M' 1 x.1 x.2.1 x.2.2.1 x.2.2.2) : Lab M' (x, s.2) :=
  ⟨hx, h.2.1.fr ho (by omega), fun i hi => (h.2.2.1 i hi).fr ho hi (by omega), h.2.2.2.fr ho (by omega)⟩
/-- a new pattern -/
theorem Lab.sp {M M' : Nat → Nat → Int} {s : stt} {p : List Nat} (h : Lab M s) (ho : pm_fr 2 4 M M') (hx : pm_row M' 2 p) : Lab M' ((s.1.1, p, s.1.2.2), s.2) :=
  h.dk ho (by decide) (by decide) ⟨(ho.at (by decide)).trans h.1.1, hx, h.1.2.2.1.fr ho (by decide), h.1.2.2.2.fr ho (by decide)⟩
/-- a new word -/
theorem Lab.sw {M M' : Nat → Nat → Int} {s : stt} {w : List Nat} (h : Lab M s) (ho : pm_fr 4 6 M M') (hx : pm_row M' 4 w) : Lab M' ((s.1.1, s.1.2.1, w, s.1.2.2.2), s.2) :=
  h.dk ho (by decide) (by decide) ⟨(ho.at (by decide)).trans h.1.1, h.1.2.1.fr ho (by decide), hx, h.1.2.2.2.fr ho (by decide)⟩
/-- new images -/
theorem Lab.si {M M' : Nat → Nat → Int} {s : stt} {im : Nat → List Nat} (h : Lab M s) (ho : pm_fr 8 16 M M') (hx : pm_img M' 6 im) : Lab M' ((s.1.1, s.1.2.1, s.1.2.2.1, im), s.2) :=
  h.dk ho (by decide) (by decide) ⟨(ho.at (by decide)).trans h.1.1, h.1.2.1.fr ho (by decide), h.1.2.2.1.fr ho (by decide), hx⟩
/-- the reference -/
def px_ar (M : Nat → Nat → Int) (a o : Nat) (xs : List Nat) : Prop := ∀ j, j < xs.length → M a (o + j) = ((xs.getD j 0 : Nat) : Int)
/-- letters, pattern, word, images at these fields and arrays -/
def RefD (M : Nat → Nat → Int) (fk fp fw ap aw as' ai : Nat) (x : dsk) : Prop := M 97 fk = (x.1 : Int) ∧ M 97 fp = (x.2.1.length : Int) ∧ M 97 fw = (x.2.2.1.length : Int) ∧ px_ar M ap 0 x.2.1 ∧ px_ar M aw 0 x.2.2.1 ∧ ∀ l, l < 4 → M as' l = ((x.2.2.2 l).length : Int) ∧ px_ar M ai (4 * l) (x.2.2.2 l)
def RefV (M : Nat → Nat → Int) (o : Option dsk) : Prop := match o with
  | none => M 97 14 = 0
  | some x => M 97 14 = 1 ∧ RefD M 15 16 17 106 107 108 109 x
def RefS (M : Nat → Nat → Int) (i : Nat) (o : Option (List Nat)) : Prop := match o with
  | none => M 102 i = -1
  | some q => M 102 i = (q.length : Int) ∧ px_ar M 103 (15 * i) q
def RefO (M : Nat → Nat → Int) (o : Option (Nat → List Nat)) : Prop := match o with
  | none => M 97 10 = 0
  | some f => M 97 10 = 1 ∧ ∀ v, v < 5 → M 104 v = ((f v).length : Int) ∧ px_ar M 105 (24 * v) (f v)
def Ref (M : Nat → Nat → Int) (s : stt) : Prop := RefD M 3 1 4 98 99 100 101 s.1 ∧ RefV M s.2.1 ∧ (∀ i, i < 4 → RefS M i (s.2.2.1 i)) ∧ RefO M s.2.2.2
/-- what the reference uses for its work: thrown, and what has no meaning behind a call -/
def px_sc (M M' : Nat → Nat → Int) : Prop := (∀ a, a < 97 ∨ (98 ≤ a ∧ a < 110) ∨ 122 ≤ a → M' a = M a) ∧ ∀ j, 0 < j → j < 23 → M' 97 j = M 97 j
theorem px_sc.rf {M : Nat → Nat → Int} : px_sc M M := ⟨fun _ _ => rfl, fun _ _ _ => rfl⟩
theorem px_sc.tr {M M1 M2 : Nat → Nat → Int} (h1 : px_sc M M1) (h2 : px_sc M1 M2) : px_sc M M2 := ⟨fun a x => (h2.1 a x).trans (h1.1 a x), fun j hj hj2 => (h2.2 j hj hj2).trans (h1.2 j hj hj2)⟩
theorem px_sc.up {M M1 : Nat → Nat → Int} {q j : Nat} {x : Int} (h : px_sc M M1) (hq : (q = 97 ∧ (j = 0 ∨ 23 ≤ j)) ∨ (110 ≤ q ∧ q < 122)) : px_sc M (pm_up M1 q j x) :=
  ⟨fun a x => (pm_up_row (by omega)).trans (h.1 a x), fun i h1 h2 => (pm_up_ne (by omega)).trans (h.2 i h1 h2)⟩
theorem px_gf.sc {M M' : Nat → Nat → Int} (h : px_gf M M') : px_sc M M' := ⟨fun a ha => h.1 a (by omega) (by omega) (by omega), fun j h1 h2 => h.2 j (by omega)⟩
theorem px_ar.cg {M M' : Nat → Nat → Int} {a o : Nat} {xs : List Nat} (h : px_ar M a o xs) (e : M' a = M a) : px_ar M' a o xs := fun j hj => by rw [e]; exact h j hj
theorem RefD.sc {M M' : Nat → Nat → Int} {x : dsk} (h : RefD M 3 1 4 98 99 100 101 x) (g : px_sc M M') : RefD M' 3 1 4 98 99 100 101 x := by
  obtain ⟨a, b, c, e, f, i⟩ := h
  exact ⟨(g.2 3 (by decide) (by decide)).trans a, (g.2 1 (by decide) (by decide)).trans b, (g.2 4 (by decide) (by decide)).trans c, e.cg (g.1 98 (by decide)), f.cg (g.1 99 (by decide)), fun l hl => ⟨by rw [g.1 100 (by decide)]; exact (i l hl).1, (i l hl).2.cg (g.1 101 (by decide))⟩⟩
theorem RefV.cg {M M' : Nat → Nat → Int} {o : Option dsk} (h : RefV M o) (g : ∀ j, 14 ≤ j → j < 18 → M' 97 j = M 97 j) (g2 : ∀ a, 106 ≤ a → a < 110 → M' a = M a) : RefV M' o := by
  cases o with
  | none => exact (g 14 (by decide) (by decide)).trans h
  | some x =>
    obtain ⟨h1, a, b, c, e, f, i⟩ := h
    exact ⟨(g 14 (by decide) (by decide)).trans h1, (g 15 (by decide) (by decide)).trans a, (g 16 (by decide) (by decide)).trans b, (g 17 (by decide) (by decide)).trans c, e.cg (g2 106 (by decide) (by decide)), f.cg (g2 107 (by decide) (by decide)), fun l hl => ⟨by rw [g2 108 (by decide) (by decide)]; exact (i l hl).1, (i l hl).2.cg (g2 109 (by decide) (by decide))⟩⟩
theorem RefS.cg {M M' : Nat → Nat → Int} {i : Nat} {o : Option (List Nat)} (h : RefS M i o) (g1 : M' 102 = M 102) (g2 : M' 103 = M 103) : RefS M' i o := by
  cases o with
  | none => exact (by rw [show M' 102 i = M 102 i by rw [g1]]; exact h : M' 102 i = -1)
  | some q => exact ⟨by rw [g1]; exact h.1, h.2.cg g2⟩
theorem RefO.cg {M M' : Nat → Nat → Int} {o : Option (Nat → List Nat)} (h : RefO M o) (g : M' 97 10 = M 97 10) (g1 : M' 104 = M 104) (g2 : M' 105 = M 105) : RefO M' o := by
  cases o with
  | none => exact g.trans h
  | some f => exact ⟨g.trans h.1, fun v hv => ⟨by rw [g1]; exact (h.2 v hv).1, (h.2 v hv).2.cg g2⟩⟩
theorem Ref.sc {M M' : Nat → Nat → Int} {s : stt} (h : Ref M s) (g : px_sc M M') : Ref M' s :=
  ⟨h.1.sc g, h.2.1.cg (fun j h1 h2 => g.2 j (by omega) (by omega)) (fun a h1 h2 => g.1 a (by omega)), fun i hi => (h.2.2.1 i hi).cg (g.1 102 (by decide)) (g.1 103 (by decide)), h.2.2.2.cg (g.2 10 (by decide) (by decide)) (g.1 104 (by decide)) (g.1 105 (by decide))⟩
/-- what only the desk and the work change -/
def px_dc (M M' : Nat → Nat → Int) : Prop := (∀ a, a < 97 ∨ (102 ≤ a ∧ a < 110) ∨ 122 ≤ a → M' a = M a) ∧ ∀ j, 5 ≤ j → j < 23 → M' 97 j = M 97 j
theorem px_sc.dc {M M' : Nat → Nat → Int} (h : px_sc M M') : px_dc M M' := ⟨fun a ha => h.1 a (by omega), fun j h1 h2 => h.2 j (by omega) h2⟩
theorem px_dc.tr {M M1 M2 : Nat → Nat → Int} (h1 : px_dc M M1) (h2 : px_dc M1 M2) : px_dc M M2 := ⟨fun a x => (h2.1 a x).trans (h1.1 a x), fun j hj hj2 => (h2.2 j hj hj2).trans (h1.2 j hj hj2)⟩
theorem px_dc.rf {M : Nat → Nat → Int} : px_dc M M := ⟨fun _ _ => rfl, fun _ _ _ => rfl⟩
theorem px_dc.up {M M1 : Nat → Nat → Int} {q j : Nat} {x : Int} (h : px_dc M M1) (hq : (q = 97 ∧ (j < 5 ∨ 23 ≤ j)) ∨ (98 ≤ q ∧ q < 102) ∨ (110 ≤ q ∧ q < 122)) : px_dc M (pm_up M1 q j x) :=
  ⟨fun a x => (pm_up_row (by omega)).trans (h.1 a x), fun i h1 h2 => (pm_up_ne (by omega)).trans (h.2 i h1 h2)⟩
theorem Ref.dk {M M' : Nat → Nat → Int} {s : stt} {x : dsk} (h : Ref M s) (g : px_dc M M') (hx : RefD M' 3 1 4 98 99 100 101 x) : Ref M' (x, s.2) :=
  ⟨hx, h.2.1.cg (fun j h1 h2 => g.2 j (by omega) (by omega)) (fun a h1 h2 => g.1 a (by omega)), fun i hi => (h.2.2.1 i hi).cg (g.1 102 (by decide)) (g.1 103 (by decide)), h.2.2.2.cg (g.2 10 (by decide) (by decide)) (g.1 104 (by decide)) (g.1 105 (by decide))⟩
/-- the first occurrence -/
def foA (p t : List Nat) : Nat → Nat → Option (Nat × (Nat → List Nat))
  | _, 0 => none
  | i, c + 1 => match (occ p t i).head? with
    | some q => some (i, q.1)
    | none => foA p t (i + 1) c
def FO (p t : List Nat) : Option (Nat × (Nat → List Nat)) := foA p t 0 t.length
theorem foA_some {p t : List Nat} {s : Nat} {E : Nat → List Nat} {r : List Nat} (h : (occ p t s).head? = some (E, r)) : ∀ {c i : Nat}, i ≤ s → s < i + c → (∀ j, i ≤ j → j < s → occ p t j = []) → foA p t i c = some (s, E)
  | 0, i, h1, h2, _ => by omega
  | c + 1, i, h1, h2, h3 => by
    rw [foA]
    by_cases e : i = s
    · subst e; rw [h]
    · rw [h3 i (Nat.le_refl _) (by omega)]
      exact foA_some h (by omega) (by omega) (fun j a b => h3 j (by omega) b)
theorem foA_none {p t : List Nat} : ∀ {c i : Nat}, (∀ j, i ≤ j → j < i + c → occ p t j = []) → foA p t i c = none
  | 0, _, _ => rfl
  | c + 1, i, h => by
    rw [foA, h i (Nat.le_refl _) (by omega)]
    exact foA_none (fun j a b => h j (by omega) (by omega))
theorem FO_some {p t : List Nat} {s : Nat} {E : Nat → List Nat} {r : List Nat} (h : (occ p t s).head? = some (E, r)) (hs : s < t.length) (hb : ∀ j, j < s → occ p t j = []) : FO p t = some (s, E) := foA_some h (Nat.zero_le _) (by omega) (fun j _ b => hb j b)
theorem FO_none {p t : List Nat} (h : ∀ j, j < t.length → occ p t j = []) : FO p t = none := foA_none (fun j _ b => h j (by omega))
theorem occF_false {p t : List Nat} {s : Nat} : occF false p t s = occ p t s := by
  show List.filter (fun z => okB false z.2) (mtL l24 p e0 (t.drop s)) = mtL l24 p e0 (t.drop s)
  exact List.filter_eq_self.mpr (fun a _ => rfl)
def bI (b : Bool) : Int := if b = true then 1 else 0
theorem bI_or (b : Bool) : bI b = 0 ∨ bI b = 1 := by cases b; exact Or.inl rfl; exact Or.inr rfl

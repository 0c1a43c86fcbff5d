/-! CALLS OF THE REFERENCE: pattern, word, shelves -/
theorem px_sc.fr {M M' : Nat → Nat → Int} (h : px_sc M M') : pm_fr 97 122 M M' := fun a ha => h.1 a (by omega)
theorem px_dc.fr {M M' : Nat → Nat → Int} (h : px_dc M M') : pm_fr 97 122 M M' := fun a ha => h.1 a (by omega)
/-- only the place q changed -/
def px_ao (q : Nat) (M M' : Nat → Nat → Int) : Prop := ∀ a, a ≠ q → M' a = M a
theorem px_ao.rf {q : Nat} {M : Nat → Nat → Int} : px_ao q M M := fun _ _ => rfl
theorem px_ao.tr {q : Nat} {M M1 M2 : Nat → Nat → Int} (h1 : px_ao q M M1) (h2 : px_ao q M1 M2) : px_ao q M M2 := fun a ha => (h2 a ha).trans (h1 a ha)
theorem px_ao.up {q j : Nat} {M M1 : Nat → Nat → Int} {x : Int} (h : px_ao q M M1) : px_ao q M (pm_up M1 q j x) := fun a ha => (pm_up_row ha).trans (h a ha)
theorem px_ao.at {q a b : Nat} {M M1 : Nat → Nat → Int} (h : px_ao q M M1) (ha : a ≠ q) : M1 a b = M a b := by rw [h a ha]
theorem px_ao.sc {q : Nat} {M M1 : Nat → Nat → Int} (h : px_ao q M M1) (hq : 110 ≤ q ∧ q < 122) : px_sc M M1 := ⟨fun a ha => h a (by omega), fun j _ _ => h.at (by omega)⟩
theorem px_ao.dc {q : Nat} {M M1 : Nat → Nat → Int} (h : px_ao q M M1) (hq : (98 ≤ q ∧ q < 102) ∨ (110 ≤ q ∧ q < 122)) : px_dc M M1 := ⟨fun a ha => h a (by omega), fun j _ _ => h.at (by omega)⟩
theorem px_ar0 {M : Nat → Nat → Int} {a : Nat} {xs : List Nat} : px_ar M a 0 xs ↔ ∀ j, j < xs.length → M a j = ((xs.getD j 0 : Nat) : Int) := by
  unfold px_ar
  simp only [Nat.zero_add]
theorem Ref.k {M : Nat → Nat → Int} {s : stt} (h : Ref M s) : M 97 3 = (gK s : Int) := h.1.1
theorem Ref.np {M : Nat → Nat → Int} {s : stt} (h : Ref M s) : M 97 1 = ((gP s).length : Int) := h.1.2.1
theorem Ref.nw {M : Nat → Nat → Int} {s : stt} (h : Ref M s) : M 97 4 = ((gW s).length : Int) := h.1.2.2.1
theorem Ref.p {M : Nat → Nat → Int} {s : stt} (h : Ref M s) : ∀ j, j < (gP s).length → M 98 j = (((gP s).getD j 0 : Nat) : Int) := px_ar0.mp h.1.2.2.2.1
theorem Ref.w {M : Nat → Nat → Int} {s : stt} (h : Ref M s) : ∀ j, j < (gW s).length → M 99 j = (((gW s).getD j 0 : Nat) : Int) := px_ar0.mp h.1.2.2.2.2.1
theorem Ref.i {M : Nat → Nat → Int} {s : stt} (h : Ref M s) : ∀ l, l < 4 → M 100 l = ((gI s l).length : Int) ∧ px_ar M 101 (4 * l) (gI s l) := h.1.2.2.2.2.2
theorem Ref.sp {M M' : Nat → Nat → Int} {s : stt} {p : List Nat} (h : Ref M s) (g : px_dc M M') (g3 : M' 97 3 = M 97 3) (g4 : M' 97 4 = M 97 4) (ga : ∀ a, 99 ≤ a → a < 102 → M' a = M a) (h1 : M' 97 1 = (p.length : Int)) (h2 : ∀ j, j < p.length → M' 98 j = ((p.getD j 0 : Nat) : Int)) : Ref M' (sP s p) :=
  h.dk g ⟨g3.trans h.1.1, h1, g4.trans h.1.2.2.1, px_ar0.mpr h2, h.1.2.2.2.2.1.cg (ga 99 (by decide) (by decide)), fun l hl => ⟨by rw [ga 100 (by decide) (by decide)]; exact (h.i l hl).1, (h.i l hl).2.cg (ga 101 (by decide) (by decide))⟩⟩
theorem Ref.sw {M M' : Nat → Nat → Int} {s : stt} {w : List Nat} (h : Ref M s) (g : px_dc M M') (g3 : M' 97 3 = M 97 3) (g4 : M' 97 1 = M 97 1) (ga : ∀ a, 98 ≤ a → a < 102 → a ≠ 99 → M' a = M a) (h1 : M' 97 4 = (w.length : Int)) (h2 : ∀ j, j < w.length → M' 99 j = ((w.getD j 0 : Nat) : Int)) : Ref M' (sW s w) :=
  h.dk g ⟨g3.trans h.1.1, g4.trans h.1.2.1, h1, h.1.2.2.2.1.cg (ga 98 (by decide) (by decide) (by decide)), px_ar0.mpr h2, fun l hl => ⟨by rw [ga 100 (by decide) (by decide) (by decide)]; exact (h.i l hl).1, (h.i l hl).2.cg (ga 101 (by decide) (by decide) (by decide))⟩⟩
section RFA
variable {d n : Nat} {kd : Nat → Nat} {M : Nat → Nat → Int} {Qr : Option pm_V → pm_Me → Prop} {Qx : Nat → pm_Me → Prop} {s : stt} {x y : Int}
theorem RO.bad {c : Nat} {M1 : Nat → Nat → Int} (h : RO (.inr c, s) n kd M Qr) (hR : Ref M s) (g : px_sc M M1) : Qr (some (.inl 0)) (pm_m n kd (pm_up M1 97 0 (c : Int))) :=
  have g2 : px_sc M (pm_up M1 97 0 (c : Int)) := g.up (by omega)
  h _ (hR.sc g2) g2.fr pm_up_eq
theorem RO.ok {v : Int} {M1 : Nat → Nat → Int} (h : RO (.inl v, s) n kd M Qr) (hR : Ref M s) (g : px_sc M M1) : Qr (some (.inl v)) (pm_m n kd (pm_up M1 97 0 0)) :=
  have g2 : px_sc M (pm_up M1 97 0 0) := g.up (by omega)
  h _ (hR.sc g2) g2.fr pm_up_eq
/-- a new pattern -/
theorem RO.sp {v : Int} {M1 : Nat → Nat → Int} {p : List Nat} (h : RO (.inl v, sP s p) n kd M Qr) (hR : Ref M s) (g : px_dc M M1) (g3 : M1 97 3 = M 97 3) (g4 : M1 97 4 = M 97 4) (ga : ∀ a, 99 ≤ a → a < 102 → M1 a = M a) (h1 : M1 97 1 = (p.length : Int)) (h2 : ∀ j, j < p.length → M1 98 j = ((p.getD j 0 : Nat) : Int)) : Qr (some (.inl v)) (pm_m n kd (pm_up M1 97 0 0)) := by
  have g2 : px_dc M (pm_up M1 97 0 0) := g.up (by omega)
  exact h _ (hR.sp g2 ((pm_up_ne (by omega)).trans g3) ((pm_up_ne (by omega)).trans g4) (fun a a1 a2 => (pm_up_row (by omega)).trans (ga a a1 a2)) ((pm_up_ne (by omega)).trans h1) (fun j hj => (pm_up_ne (by omega)).trans (h2 j hj))) g2.fr pm_up_eq
theorem RO.sw {v : Int} {M1 : Nat → Nat → Int} {w : List Nat} (h : RO (.inl v, sW s w) n kd M Qr) (hR : Ref M s) (g : px_dc M M1) (g3 : M1 97 3 = M 97 3) (g4 : M1 97 1 = M 97 1) (ga : ∀ a, 98 ≤ a → a < 102 → a ≠ 99 → M1 a = M a) (h1 : M1 97 4 = (w.length : Int)) (h2 : ∀ j, j < w.length → M1 99 j = ((w.getD j 0 : Nat) : Int)) : Qr (some (.inl v)) (pm_m n kd (pm_up M1 97 0 0)) := by
  have g2 : px_dc M (pm_up M1 97 0 0) := g.up (by omega)
  exact h _ (hR.sw g2 ((pm_up_ne (by omega)).trans g3) ((pm_up_ne (by omega)).trans g4) (fun a a1 a2 a3 => (pm_up_row (by omega)).trans (ga a a1 a2 a3)) ((pm_up_ne (by omega)).trans h1) (fun j hj => (pm_up_ne (by omega)).trans (h2 j hj))) g2.fr pm_up_eq
theorem gd_snoc {xs : List Nat} {x j : Nat} (hj : j < (xs ++ [x]).length) : (xs ++ [x]).getD j 0 = if j = xs.length then x else xs.getD j 0 := by
  rw [List.length_append, List.length_singleton] at hj
  split
  · next e => rw [e, gd_last]
  · next e => rw [gd_app (by omega)]
theorem ra_129 (hd : 2 ≤ d) (hR : Ref M s) (hW : wfs s) (h : RO (o_appendVariable s x) n kd M Qr) : pm_run d 129 [.inr (.inl (9, 97)), .inl x] (pm_m n kd M) Qr Qx := by
  obtain ⟨d, rfl⟩ := pm_ex1 (show 1 ≤ d by omega)
  have hn := hR.np
  have h15 : (gP s).length ≤ 15 := hW.1.2.1.1
  unfold o_appendVariable at h
  refine tr_129 (by omega) ⟨fun z => ?_, fun z => ?_⟩
  · rw [if_pos (by omega)] at h
    refine ⟨fun z2 => ⟨⟨by omega, by omega⟩, ?_⟩, fun z2 => ?_⟩
    · rw [if_pos (by omega)] at h
      rw [pm_up_ne (Or.inl (by decide)), pm_up_eq]
      refine ⟨⟨by omega, by omega⟩, ?_⟩
      have e : M 97 1 + 1 = ((gP s).length : Int) + 1 := by rw [hn]
      rw [e]
      refine h.sp hR ((px_dc.rf.up (by omega)).up (by omega)) ?_ ?_ ?_ ?_ ?_
      · rw [pm_up_ne (by omega), pm_up_ne (by omega)]
      · rw [pm_up_ne (by omega), pm_up_ne (by omega)]
      · intro a a1 a2; rw [pm_up_row (by omega), pm_up_row (by omega)]
      · rw [pm_up_eq, List.length_append]; rfl
      · intro j hj
        rw [gd_snoc hj, pm_up_ne (by omega), hn, Int.toNat_natCast]
        rw [List.length_append, List.length_singleton] at hj
        split
        · next e => rw [e, pm_up_eq]; omega
        · next e => rw [pm_up_ne (Or.inr e)]; exact hR.p j (by omega)
    · rw [if_neg (by omega)] at h
      exact h.bad hR px_sc.rf
  · rw [if_neg (by omega)] at h
    exact h.bad hR px_sc.rf
theorem ra_130 (hd : 2 ≤ d) (hR : Ref M s) (h : RO (o_clearPattern s) n kd M Qr) : pm_run d 130 [.inr (.inl (9, 97))] (pm_m n kd M) Qr Qx := by
  obtain ⟨d, rfl⟩ := pm_ex1 (show 1 ≤ d by omega)
  refine tr_130 (by omega) ?_
  rw [hR.np]
  exact RO.sp h hR (px_dc.rf.up (by omega)) (pm_up_ne (by omega)) (pm_up_ne (by omega)) (fun a a1 a2 => pm_up_row (by omega)) pm_up_eq (fun j hj => absurd hj (Nat.not_lt_zero j))
theorem ra_131 (hd : 2 ≤ d) (hR : Ref M s) (h : RO (o_patternLength s) n kd M Qr) : pm_run d 131 [.inr (.inl (9, 97))] (pm_m n kd M) Qr Qx := by
  obtain ⟨d, rfl⟩ := pm_ex1 (show 1 ≤ d by omega)
  refine tr_131 (by omega) ?_
  rw [hR.np]
  exact RO.ok h hR px_sc.rf
theorem ra_132 (hd : 2 ≤ d) (hR : Ref M s) (hW : wfs s) (h : RO (o_patternVariable s x) n kd M Qr) : pm_run d 132 [.inr (.inl (9, 97)), .inl x] (pm_m n kd M) Qr Qx := by
  obtain ⟨d, rfl⟩ := pm_ex1 (show 1 ≤ d by omega)
  have hn := hR.np
  have h15 : (gP s).length ≤ 15 := hW.1.2.1.1
  unfold o_patternVariable at h
  refine tr_132 (by omega) ⟨⟨by omega, by omega⟩, fun z => ⟨⟨by omega, by omega⟩, ?_⟩, fun z => ?_⟩
  · rw [if_pos (by omega)] at h
    rw [hR.p _ (by omega)]
    exact h.ok hR px_sc.rf
  · rw [if_neg (by omega)] at h
    exact h.bad hR px_sc.rf
/-- variablesOf -/
theorem ra_133 (hd : 1 ≤ d) (hR : Ref M s) (hW : wfs s) (h : Qr (some (.inl (pm_mem (gP s) : Int))) (pm_m n kd M)) : pm_run d 133 [.inr (.inl (9, 97))] (pm_m n kd M) Qr Qx := by
  obtain ⟨d, rfl⟩ := pm_ex1 hd
  have hn := hR.np
  have h15 : (gP s).length ≤ 15 := hW.1.2.1.1
  have h5 : ∀ v ∈ gP s, v < 5 := hW.1.2.1.2
  refine tr_133 (pm_lp (α := Nat) (N := (gP s).length) (G := fun i c => pm_wq d 133 Qr Qx (4, [some (.inr (.inl (9, 97))), some (.inl (c : Int)), some (.inl (i : Int))], [], pm_m n kd M, 0, 0)) (I := fun i c => c = pm_mem ((gP s).take i)) ?_ ?_ 0 0 (Nat.zero_le _) rfl)
  · intro c hc
    refine tr_133_4 ⟨fun _ => ?_, fun z => by omega⟩
    rw [hc, List.take_length]
    exact h
  · intro i c hi hc ih
    refine tr_133_4 ⟨fun z => by omega, fun _ => ⟨⟨by omega, by omega⟩, ⟨by omega, by omega⟩, ?_⟩⟩
    rw [Int.toNat_natCast, hR.p i hi, pm_or_small c (by rw [hc]; exact pm_mem_lt h5 i (by omega)) _ (h5 _ (gd_mem hi))]
    refine ih _ ?_
    rw [tk_succ hi, pm_mem_snoc, hc]
theorem ra_134 (hd : 2 ≤ d) (hR : Ref M s) (hW : wfs s) (h : RO (o_variables s) n kd M Qr) : pm_run d 134 [.inr (.inl (9, 97))] (pm_m n kd M) Qr Qx := by
  obtain ⟨d, rfl⟩ := pm_ex1 (show 1 ≤ d by omega)
  exact tr_134 (by omega) (ra_133 (by omega) hR hW (tr_134_5 (by omega) (RO.ok h hR px_sc.rf)))
/-- how often 2 divides -/
def rul (v : Nat) : Nat := if v % 2 = 1 then 0 else if v / 2 % 2 = 1 then 1 else if v / 4 % 2 = 1 then 2 else 3
theorem ra_135 {k : Nat} (hd : 1 ≤ d) (hk : k < 15) (h : Qr (some (.inl (rul (k + 1) : Int))) (pm_m n kd M)) : pm_run d 135 [.inl (k : Int)] (pm_m n kd M) Qr Qx := by
  obtain ⟨d, rfl⟩ := pm_ex1 hd
  unfold rul at h
  refine tr_135 ⟨⟨by omega, by omega⟩, tr_135_6 ⟨⟨by omega, by decide⟩, fun z => ?_, fun z => ⟨⟨by omega, by decide⟩, ⟨by decide, by decide⟩, tr_135_6 ⟨⟨by omega, by decide⟩, fun z2 => ?_, fun z2 => ⟨⟨by omega, by decide⟩, ⟨by decide, by decide⟩, tr_135_6 ⟨⟨by omega, by decide⟩, fun z3 => ?_, fun z3 => ⟨⟨by omega, by decide⟩, ⟨by decide, by decide⟩, tr_135_6 ⟨⟨by omega, by decide⟩, fun z4 => ?_, fun z4 => absurd z4 (by omega)⟩⟩⟩⟩⟩⟩⟩⟩
  · rw [if_pos (by omega)] at h; exact h
  · rw [if_neg (by omega), if_pos (by omega)] at h; exact h
  · rw [if_neg (by omega), if_neg (by omega), if_pos (by omega)] at h; exact h
  · rw [if_neg (by omega), if_neg (by omega), if_neg (by omega)] at h; exact h
theorem rul_zm : ∀ x, x ≤ 4 → ∀ j, j < 15 → j < (pm_zm x).length → (pm_zm x).getD j 0 = rul (j + 1) := by decide +kernel
theorem shl_zm : ∀ x, 1 ≤ x → x ≤ 4 → pm_shl 1 (x : Nat) - 1 = ((pm_zm x).length : Int) := by
  intro x h1 h2
  have : x = 1 ∨ x = 2 ∨ x = 3 ∨ x = 4 := by omega
  rcases this with e | e | e | e <;> subst e <;> decide +kernel
theorem zm_le {x : Nat} (h : x ≤ 4) : (pm_zm x).length ≤ 15 := by
  have := pm_zm_len x h
  have : 2 ^ x ≤ 2 ^ 4 := Nat.pow_le_pow_right (by decide) h
  omega
theorem ra_136 (hd : 2 ≤ d) (hR : Ref M s) (h : RO (o_loadZimin s x) n kd M Qr) : pm_run d 136 [.inr (.inl (9, 97)), .inl x] (pm_m n kd M) Qr Qx := by
  obtain ⟨d, rfl⟩ := pm_ex1 (show 1 ≤ d by omega)
  unfold o_loadZimin at h
  refine tr_136 (by omega) ⟨fun z => ?_, fun z => ?_⟩
  · rw [if_pos z] at h
    obtain ⟨k, rfl⟩ : ∃ k : Nat, x = (k : Int) := ⟨x.toNat, by omega⟩
    rw [Int.toNat_natCast] at h
    rw [shl_zm k (by omega) (by omega)]
    have hl := @zm_le k (by omega)
    refine ⟨⟨by omega, by omega⟩, ?_⟩
    refine pm_lp (N := (pm_zm k).length) (G := fun i M1 => pm_wq d 136 Qr Qx (26, [some (.inr (.inl (9, 97))), none, some (.inl (i : Int))], [], pm_m n kd M1, 0, 0)) (I := fun i M1 => (∀ j, j < i → M1 98 j = (((pm_zm k).getD j 0 : Nat) : Int)) ∧ px_ao 98 (pm_up M 97 1 ((pm_zm k).length : Int)) M1) ?_ ?_ 0 _ (Nat.zero_le _) ⟨fun j hj => absurd hj (Nat.not_lt_zero j), px_ao.rf⟩
    · intro M1 ⟨hj, ho⟩
      have h1 : M1 97 1 = ((pm_zm k).length : Int) := (ho.at (by decide)).trans pm_up_eq
      refine tr_136_26 (by omega) ⟨fun _ => ?_, fun z => by omega⟩
      rw [h1]
      refine h.sp hR ((px_dc.rf.up (q := 97) (j := 1) (by omega)).tr (ho.dc (by omega))) ?_ ?_ ?_ h1 hj
      · rw [ho.at (by decide), pm_up_ne (by omega)]
      · rw [ho.at (by decide), pm_up_ne (by omega)]
      · intro a a1 a2; rw [ho a (by omega), pm_up_row (by omega)]
    · intro i M1 hi ⟨hj, ho⟩ ih
      have h1 : M1 97 1 = ((pm_zm k).length : Int) := (ho.at (by decide)).trans pm_up_eq
      refine tr_136_26 (by omega) ⟨fun z => by omega, fun _ => ra_135 (by omega) (by omega) (tr_136_43 (by omega) ⟨⟨by omega, by omega⟩, ⟨by omega, by omega⟩, ih _ ⟨fun j hj2 => ?_, ho.up⟩⟩)⟩
      rw [Int.toNat_natCast]
      by_cases e : j = i
      · rw [e, pm_up_eq, rul_zm k (by omega) i (by omega) hi]
      · rw [pm_up_ne (Or.inr e)]; exact hj j (by omega)
  · rw [if_neg z] at h
    exact h.bad hR px_sc.rf
/-- tellNames, of the pattern -/
def nmI (S : List Nat) (v : Nat) : Int := if v ∈ S then (pm_ix S v : Int) else -1
theorem ra_137 {p : List Nat} (hd : 1 ≤ d) (h5 : ∀ v ∈ p, v < 5) (h15 : p.length ≤ 15) (hp : ∀ j, j < p.length → M 98 j = ((p.getD j 0 : Nat) : Int)) (h : ∀ M', (∀ v, v < 5 → M' 110 v = nmI (pm_sn p) v) → px_ao 110 M M' → Qr none (pm_m n kd M')) : pm_run d 137 [.inr (.inl (9, 97)), .inr (.inl (1015, 98)), .inl 0, .inl (p.length : Int)] (pm_m n kd M) Qr Qx := by
  obtain ⟨d, rfl⟩ := pm_ex1 hd
  refine tr_137 (pm_lp (N := 5) (G := fun i M1 => pm_wq d 137 Qr Qx (6, [some (.inr (.inl (9, 97))), some (.inr (.inl (1015, 98))), some (.inl 0), some (.inl (p.length : Int)), some (.inl 0), some (.inl (i : Int))], [], pm_m n kd M1, 0, 0)) (I := fun i M1 => (∀ v, v < i → M1 110 v = -1) ∧ px_ao 110 M M1) ?_ ?_ 0 M (Nat.zero_le _) ⟨fun v hv => absurd hv (Nat.not_lt_zero v), px_ao.rf⟩)
  · intro M1 ⟨hv, ho⟩
    refine tr_137_6 ⟨fun _ => ?_, fun z => by omega⟩
    refine pm_lp2 (N := p.length) (G := fun i M2 (c : Nat) => pm_wq d 137 Qr Qx (29, [some (.inr (.inl (9, 97))), some (.inr (.inl (1015, 98))), some (.inl 0), some (.inl (p.length : Int)), some (.inl (c : Int)), some (.inl (i : Int))], [], pm_m n kd M2, 0, 0)) (I := fun i M2 c => (∀ v, v < 5 → M2 110 v = nmI (pm_sn (p.take i)) v) ∧ c = (pm_sn (p.take i)).length ∧ px_ao 110 M M2) ?_ ?_ 0 M1 0 (Nat.zero_le _) ⟨fun v hv5 => by rw [hv v hv5]; rfl, rfl, ho⟩
    · intro M2 c ⟨hn, hc, ho2⟩
      rw [List.take_length] at hn
      exact tr_137_29 ⟨fun _ => h M2 hn ho2, fun z => by omega⟩
    · intro i M2 c hi ⟨hn, hc, ho2⟩ ih
      have hat : M2 98 i = ((p.getD i 0 : Nat) : Int) := (ho2.at (by decide)).trans (hp i hi)
      have hv5 := h5 _ (gd_mem hi)
      have hcl : c ≤ i := by rw [hc]; exact Nat.le_trans pm_sn_len (by rw [tk_len (by omega)]; exact Nat.le_refl _)
      have e0 : ((0 : Int) + (i : Int)).toNat = i := by omega
      refine tr_137_29 ⟨fun z => by omega, fun _ => ⟨⟨by omega, by omega⟩, ⟨by omega, by omega⟩, ?_⟩⟩
      rw [e0, hat, Int.toNat_natCast, hn _ hv5]
      refine ⟨⟨by omega, by omega⟩, fun z => ⟨⟨by omega, by omega⟩, ?_⟩, fun z => ⟨⟨by omega, by omega⟩, ⟨by omega, by omega⟩, ⟨by omega, by omega⟩, ⟨by omega, by omega⟩, ⟨by omega, by omega⟩, ?_⟩⟩
      · have hm : p.getD i 0 ∈ pm_sn (p.take i) := by
          apply Classical.byContradiction
          intro w
          rw [nmI, if_neg w] at z
          exact z rfl
        refine ih M2 c ⟨?_, ?_, ho2⟩
        · rw [tk_succ hi, pm_sn_snoc, if_pos hm]; exact hn
        · rw [tk_succ hi, pm_sn_snoc, if_pos hm]; exact hc
      · have hm : p.getD i 0 ∉ pm_sn (p.take i) := by
          intro w
          rw [nmI, if_pos w] at z
          omega
        refine ih _ (c + 1) ⟨fun v hv => ?_, ?_, ho2.up⟩
        · rw [tk_succ hi, pm_sn_snoc, if_neg hm]
          by_cases e : v = p.getD i 0
          · rw [e, pm_up_eq, nmI, if_pos (List.mem_append_right _ List.mem_cons_self)]
            have : pm_ix (pm_sn (p.take i) ++ [p.getD i 0]) (p.getD i 0) = (pm_sn (p.take i)).length := by
              rw [← ix_split hm (r := [])]
            rw [this, hc]
          · rw [pm_up_ne (Or.inr e), hn v hv]
            unfold nmI
            by_cases w : v ∈ pm_sn (p.take i)
            · rw [if_pos w, if_pos (List.mem_append_left _ w), pm_ix_app w]
            · rw [if_neg w, if_neg (by rw [List.mem_append, List.mem_singleton]; rintro (w2 | w2); exact w w2; exact e w2)]
        · rw [tk_succ hi, pm_sn_snoc, if_neg hm, List.length_append, hc]; rfl
  · intro i M1 hi ⟨hv, ho⟩ ih
    refine tr_137_6 ⟨fun z => by omega, fun _ => ⟨⟨by omega, by omega⟩, ⟨by omega, by omega⟩, ih _ ⟨fun v hv2 => ?_, ho.up⟩⟩⟩
    rw [Int.toNat_natCast]
    by_cases e : v = i
    · subst e; exact pm_up_eq
    · rw [pm_up_ne (Or.inr e)]; exact hv v (by omega)
theorem cn_at {p : List Nat} {j : Nat} (hj : j < p.length) : (pm_cn p).getD j 0 = pm_ix (pm_sn p) (p.getD j 0) := gd_map hj
theorem cn_len {p : List Nat} : (pm_cn p).length = p.length := List.length_map _
theorem ra_138 (hd : 3 ≤ d) (hR : Ref M s) (hW : wfs s) (h : RO (o_canonicalize s) n kd M Qr) : pm_run d 138 [.inr (.inl (9, 97))] (pm_m n kd M) Qr Qx := by
  obtain ⟨d, rfl⟩ := pm_ex1 (show 1 ≤ d by omega)
  have hn := hR.np
  have h15 : (gP s).length ≤ 15 := hW.1.2.1.1
  have h5 : ∀ v ∈ gP s, v < 5 := hW.1.2.1.2
  refine tr_138 (by omega) ?_
  rw [hn]
  refine ra_137 (by omega) h5 h15 hR.p (fun M1 hnm ho => tr_138_13 (by omega) ?_)
  have hne : ∀ i, i < (gP s).length → M1 110 ((gP s).getD i 0) = (((pm_cn (gP s)).getD i 0 : Nat) : Int) := by
    intro i hi
    rw [hnm _ (h5 _ (gd_mem hi)), nmI, if_pos (pm_sn_mem.mpr (gd_mem hi)), cn_at hi]
  refine pm_lp2 (N := (gP s).length) (G := fun i M2 (c : Int) => pm_wq d 138 Qr Qx (17, [some (.inr (.inl (9, 97))), some (.inl c), some (.inl (i : Int))], [], pm_m n kd M2, 0, 0)) (I := fun i M2 c => (∀ j, j < i → M2 98 j = (((pm_cn (gP s)).getD j 0 : Nat) : Int)) ∧ (∀ j, i ≤ j → j < (gP s).length → M2 98 j = (((gP s).getD j 0 : Nat) : Int)) ∧ ((c = 0 ∧ ∀ j, j < i → (gP s).getD j 0 = (pm_cn (gP s)).getD j 0) ∨ (c = 1 ∧ gP s ≠ pm_cn (gP s))) ∧ px_ao 98 M1 M2) ?_ ?_ 0 M1 0 (Nat.zero_le _) ⟨fun j hj => absurd hj (Nat.not_lt_zero j), fun j _ hj => (ho.at (by decide)).trans (hR.p j hj), Or.inl ⟨rfl, fun j hj => absurd hj (Nat.not_lt_zero j)⟩, px_ao.rf⟩
  · intro M2 c ⟨ha, hb, hc, ho2⟩
    have h1 : M2 97 1 = ((gP s).length : Int) := (ho2.at (by decide)).trans ((ho.at (by decide)).trans hn)
    refine tr_138_17 (by omega) ⟨fun _ => ⟨by omega, by omega, ?_⟩, fun z => by omega⟩
    have ec : c = if gP s = pm_cn (gP s) then 0 else 1 := by
      rcases hc with ⟨c0, hj⟩ | ⟨c1, hne2⟩
      · rw [if_pos (gd_ext cn_len.symm hj)]; exact c0
      · rw [if_neg hne2]; exact c1
    rw [ec]
    refine RO.sp h hR ((ho.dc (by omega)).tr (ho2.dc (by omega))) ?_ ?_ ?_ (by rw [cn_len]; exact h1) (fun j hj => ha j (by rw [cn_len] at hj; exact hj))
    · rw [ho2.at (by decide), ho.at (by decide)]
    · rw [ho2.at (by decide), ho.at (by decide)]
    · intro a a1 a2; rw [ho2 a (by omega), ho a (by omega)]
  · intro i M2 c hi ⟨ha, hb, hc, ho2⟩ ih
    have h1 : M2 97 1 = ((gP s).length : Int) := (ho2.at (by decide)).trans ((ho.at (by decide)).trans hn)
    have hv5 := h5 _ (gd_mem hi)
    have hne2 : M2 110 ((gP s).getD i 0) = (((pm_cn (gP s)).getD i 0 : Nat) : Int) := (ho2.at (by decide)).trans (hne i hi)
    have next : ∀ c' : Int, ((c' = 0 ∧ ∀ j, j < i + 1 → (gP s).getD j 0 = (pm_cn (gP s)).getD j 0) ∨ (c' = 1 ∧ gP s ≠ pm_cn (gP s))) → pm_wq d 138 Qr Qx (17, [some (.inr (.inl (9, 97))), some (.inl c'), some (.inl ((i + 1 : Nat) : Int))], [], pm_m n kd (pm_up M2 98 i (((pm_cn (gP s)).getD i 0 : Nat) : Int)), 0, 0) := by
      intro c' hc'
      refine ih _ c' ⟨fun j hj => ?_, fun j h1 h2 => ?_, hc', ho2.up⟩
      · by_cases e : j = i
        · rw [e, pm_up_eq]
        · rw [pm_up_ne (Or.inr e)]; exact ha j (by omega)
      · rw [pm_up_ne (Or.inr (by omega))]; exact hb j (by omega) h2
    refine tr_138_17 (by omega) ⟨fun z => by omega, fun _ => ?_⟩
    rw [Int.toNat_natCast, hb i (Nat.le_refl _) hi, Int.toNat_natCast, hne2]
    refine ⟨fun z => ⟨⟨by omega, by omega⟩, ⟨by omega, by omega⟩, ⟨by omega, by omega⟩, ⟨by omega, by omega⟩, next 1 (Or.inr ⟨rfl, ?_⟩)⟩, fun z => ⟨⟨by omega, by omega⟩, ⟨by omega, by omega⟩, ⟨by omega, by omega⟩, fun z2 => ⟨⟨by omega, by omega⟩, ⟨by omega, by omega⟩, ⟨by omega, by omega⟩, ⟨by omega, by omega⟩, next 0 (Or.inl ⟨rfl, ?_⟩)⟩, fun z2 => ⟨⟨by omega, by omega⟩, ⟨by omega, by omega⟩, ⟨by omega, by omega⟩, ⟨by omega, by omega⟩, next 1 (Or.inr ⟨rfl, ?_⟩)⟩⟩⟩
    · rcases hc with ⟨c0, _⟩ | ⟨_, hne3⟩
      · exact absurd c0 z
      · exact hne3
    · rcases hc with ⟨_, hj⟩ | ⟨c1, _⟩
      · intro j hj2
        by_cases e : j = i
        · rw [e]; omega
        · exact hj j (by omega)
      · omega
    · intro w
      apply z2
      rw [← w]
theorem ra_139 (hd : 2 ≤ d) (hR : Ref M s) (hW : wfs s) (h : RO (o_reversePattern s) n kd M Qr) : pm_run d 139 [.inr (.inl (9, 97))] (pm_m n kd M) Qr Qx := by
  obtain ⟨d, rfl⟩ := pm_ex1 (show 1 ≤ d by omega)
  have hn := hR.np
  have h15 : (gP s).length ≤ 15 := hW.1.2.1.1
  have hrev : ∀ j, j < (gP s).length → (gP s).reverse.getD j 0 = (gP s).getD ((gP s).length - 1 - j) 0 := by
    intro j hj
    rw [gd_eq (by rw [List.length_reverse]; exact hj), gd_eq (by omega), List.getElem_reverse]
  have swp : ∀ c : Int, c = (if gP s = (gP s).reverse then 0 else 1) → pm_wq d 139 Qr Qx (52, [some (.inr (.inl (9, 97))), some (.inl c), some (.inl 0), none], [], pm_m n kd M, 0, 0) := by
    intro c hc
    refine pm_lp (N := (gP s).length / 2) (G := fun i M1 => pm_wq d 139 Qr Qx (52, [some (.inr (.inl (9, 97))), some (.inl c), some (.inl (i : Int)), none], [], pm_m n kd M1, 0, 0)) (I := fun i M1 => (∀ j, j < i ∨ (gP s).length - i ≤ j → j < (gP s).length → M1 98 j = (((gP s).reverse.getD j 0 : Nat) : Int)) ∧ (∀ j, i ≤ j → j < (gP s).length - i → M1 98 j = (((gP s).getD j 0 : Nat) : Int)) ∧ px_ao 98 M M1) ?_ ?_ 0 M (Nat.zero_le _) ⟨fun j h1 h2 => by omega, fun j _ h2 => hR.p j (by omega), px_ao.rf⟩
    · intro M1 ⟨ha, hb, ho⟩
      have h1 : M1 97 1 = ((gP s).length : Int) := (ho.at (by decide)).trans hn
      refine tr_139_52 (by omega) ?_
      rw [h1]
      refine ⟨⟨by omega, by decide⟩, fun _ => ⟨by rw [hc]; exact if_01, by rw [hc]; exact if_01, ?_⟩, fun z => by omega⟩
      rw [hc]
      refine RO.sp h hR (ho.dc (by omega)) (ho.at (by decide)) (ho.at (by decide)) (fun a a1 a2 => ho a (by omega)) (by rw [List.length_reverse]; exact h1) (fun j hj => ?_)
      rw [List.length_reverse] at hj
      by_cases e : j < (gP s).length / 2 ∨ (gP s).length - (gP s).length / 2 ≤ j
      · exact ha j e hj
      · rw [hb j (by omega) (by omega), hrev j hj]
        congr 2
        omega
    · intro i M1 hi ⟨ha, hb, ho⟩ ih
      have h1 : M1 97 1 = ((gP s).length : Int) := (ho.at (by decide)).trans hn
      have e1 : (((gP s).length : Int) - 1 - (i : Int)).toNat = (gP s).length - 1 - i := by omega
      refine tr_139_52 (by omega) ?_
      rw [pm_up_ne (Or.inl (by decide)), h1, e1, Int.toNat_natCast]
      refine ⟨⟨by omega, by decide⟩, fun z => by omega, fun _ => ⟨⟨by omega, by omega⟩, ⟨by omega, by omega⟩, ⟨by omega, by omega⟩, ⟨by omega, by omega⟩, ⟨by omega, by omega⟩, ⟨by omega, by omega⟩, ⟨by omega, by omega⟩, ⟨by omega, by omega⟩, ⟨by omega, by omega⟩, ih _ ⟨fun j h2 h3 => ?_, fun j h2 h3 => ?_, ho.up.up⟩⟩⟩
      · by_cases e : j = (gP s).length - 1 - i
        · rw [e, pm_up_eq, hb i (Nat.le_refl _) (by omega), hrev _ (by omega)]
          congr 2
          omega
        · rw [pm_up_ne (Or.inr e)]
          by_cases e2 : j = i
          · rw [e2, pm_up_eq, hb _ (by omega) (by omega), hrev i (by omega)]
          · rw [pm_up_ne (Or.inr e2)]
            exact ha j (by omega) h3
      · rw [pm_up_ne (Or.inr (by omega)), pm_up_ne (Or.inr (by omega))]
        exact hb j (by omega) (by omega)
  refine tr_139 (by omega) (pm_lp (α := Int) (N := (gP s).length) (G := fun i c => pm_wq d 139 Qr Qx (4, [some (.inr (.inl (9, 97))), some (.inl c), some (.inl (i : Int)), none], [], pm_m n kd M, 0, 0)) (I := fun i c => (c = 0 ∧ ∀ j, j < i → (gP s).getD j 0 = (gP s).reverse.getD j 0) ∨ (c = 1 ∧ gP s ≠ (gP s).reverse)) ?_ ?_ 0 0 (Nat.zero_le _) (Or.inl ⟨rfl, fun j hj => absurd hj (Nat.not_lt_zero j)⟩))
  · intro c hc
    refine tr_139_4 (by omega) ⟨fun _ => swp c ?_, fun z => by omega⟩
    rcases hc with ⟨c0, hj⟩ | ⟨c1, hne⟩
    · rw [if_pos (gd_ext List.length_reverse.symm hj)]; exact c0
    · rw [if_neg hne]; exact c1
  · intro i c hi hc ih
    have e1 : (((gP s).length : Int) - 1 - (i : Int)).toNat = (gP s).length - 1 - i := by omega
    refine tr_139_4 (by omega) ⟨fun z => by omega, fun _ => ?_⟩
    rw [hn, e1, Int.toNat_natCast, hR.p i hi, hR.p _ (by omega)]
    refine ⟨fun z => ⟨⟨by omega, by omega⟩, ih 1 ?_⟩, fun z => ⟨⟨by omega, by omega⟩, ⟨by omega, by omega⟩, ⟨by omega, by omega⟩, ⟨by omega, by omega⟩, fun z2 => ⟨⟨by omega, by omega⟩, ih 0 ?_⟩, fun z2 => ⟨⟨by omega, by omega⟩, ih 1 ?_⟩⟩⟩
    · rcases hc with ⟨c0, _⟩ | ⟨_, hne⟩
      · exact absurd c0 z
      · exact Or.inr ⟨rfl, hne⟩
    · rcases hc with ⟨_, hj⟩ | ⟨c1, _⟩
      · refine Or.inl ⟨rfl, fun j hj2 => ?_⟩
        by_cases e : j = i
        · rw [e, hrev i hi]; omega
        · exact hj j (by omega)
      · omega
    · refine Or.inr ⟨rfl, fun w => z2 ?_⟩
      rw [← hrev i hi, ← w]
theorem ra_151 (hd : 2 ≤ d) (hR : Ref M s) (h : RO (o_setLetterCount s x) n kd M Qr) : pm_run d 151 [.inr (.inl (9, 97)), .inl x] (pm_m n kd M) Qr Qx := by
  obtain ⟨d, rfl⟩ := pm_ex1 (show 1 ≤ d by omega)
  unfold o_setLetterCount at h
  refine tr_151 (by omega) ⟨fun z => ?_, fun z => ?_⟩
  · rw [if_pos z] at h
    rw [hR.k]
    refine pm_lp (N := 4) (G := fun i M1 => pm_wq d 151 Qr Qx (32, [some (.inr (.inl (9, 97))), none, some (.inl (gK s : Int)), some (.inl (i : Int))], [], pm_m n kd M1, 0, 0)) (I := fun i M1 => (∀ l, l < i → M1 100 l = 0) ∧ px_ao 100 (pm_up (pm_up M 97 3 x) 97 4 0) M1) ?_ ?_ 0 _ (Nat.zero_le _) ⟨fun l hl => absurd hl (Nat.not_lt_zero l), px_ao.rf⟩
    · intro M1 ⟨hl, ho⟩
      refine tr_151_32 (by omega) ⟨fun _ => ?_, fun z => by omega⟩
      have g : px_dc M (pm_up M1 97 0 0) := (((px_dc.rf.up (q := 97) (j := 3) (by omega)).up (q := 97) (j := 4) (by omega)).tr (ho.dc (by omega))).up (by omega)
      refine h _ (hR.dk g ⟨?_, ?_, ?_, ?_, ?_, ?_⟩) g.fr pm_up_eq
      · rw [pm_up_ne (by omega), ho.at (by decide), pm_up_ne (by omega), pm_up_eq]; exact (Int.toNat_of_nonneg (by omega)).symm
      · rw [pm_up_ne (by omega), ho.at (by decide), pm_up_ne (by omega), pm_up_ne (by omega)]; exact hR.np
      · rw [pm_up_ne (by omega), ho.at (by decide), pm_up_eq]; rfl
      · exact px_ar0.mpr (fun j hj => by rw [pm_up_ne (by omega), ho.at (by decide), pm_up_ne (by omega), pm_up_ne (by omega)]; exact hR.p j hj)
      · exact fun j hj => absurd hj (Nat.not_lt_zero j)
      · exact fun l hl4 => ⟨by rw [pm_up_ne (by omega)]; exact hl l hl4, fun j hj => absurd hj (Nat.not_lt_zero j)⟩
    · intro i M1 hi ⟨hl, ho⟩ ih
      refine tr_151_32 (by omega) ⟨fun z => by omega, fun _ => ⟨⟨by omega, by omega⟩, ⟨by omega, by omega⟩, ih _ ⟨fun l hl2 => ?_, ho.up⟩⟩⟩
      rw [Int.toNat_natCast]
      by_cases e : l = i
      · subst e; exact pm_up_eq
      · rw [pm_up_ne (Or.inr e)]; exact hl l (by omega)
  · rw [if_neg z] at h
    exact h.bad hR px_sc.rf
theorem ra_152 (hd : 3 ≤ d) (hR : Ref M s) (hW : wfs s) (h : RO (o_appendLetter s x) n kd M Qr) : pm_run d 152 [.inr (.inl (9, 97)), .inl x] (pm_m n kd M) Qr Qx := by
  obtain ⟨d, rfl⟩ := pm_ex1 (show 1 ≤ d by omega)
  have hn := hR.nw
  have hk := hR.k
  have hk4 : gK s ≤ 4 := hW.1.1.2
  have h15 : (gW s).length ≤ 24 := hW.1.2.2.1.1
  unfold o_appendLetter at h
  refine tr_152 (by omega) ⟨⟨by omega, by omega⟩, fun z => ?_, fun z => ?_⟩
  · rw [if_pos (by omega)] at h
    refine ⟨fun z2 => ⟨⟨by omega, by omega⟩, ?_⟩, fun z2 => ?_⟩
    · rw [if_pos (by omega)] at h
      rw [pm_up_ne (Or.inl (by decide)), pm_up_eq]
      refine ⟨⟨by omega, by omega⟩, ?_⟩
      have e : M 97 4 + 1 = ((gW s).length : Int) + 1 := by rw [hn]
      rw [e]
      refine h.sw hR ((px_dc.rf.up (by omega)).up (by omega)) ?_ ?_ ?_ ?_ ?_
      · rw [pm_up_ne (by omega), pm_up_ne (by omega)]
      · rw [pm_up_ne (by omega), pm_up_ne (by omega)]
      · intro a a1 a2 a3; rw [pm_up_row (by omega), pm_up_row (by omega)]
      · rw [pm_up_eq, List.length_append]; rfl
      · intro j hj
        rw [gd_snoc hj, pm_up_ne (by omega), hn, Int.toNat_natCast]
        rw [List.length_append, List.length_singleton] at hj
        split
        · next e => rw [e, pm_up_eq]; omega
        · next e => rw [pm_up_ne (Or.inr e)]; exact hR.w j (by omega)
    · rw [if_neg (by omega)] at h
      exact h.bad hR px_sc.rf
  · rw [if_neg (by omega)] at h
    exact h.bad hR px_sc.rf
theorem ra_153 (hd : 2 ≤ d) (hR : Ref M s) (h : RO (o_clearWord s) n kd M Qr) : pm_run d 153 [.inr (.inl (9, 97))] (pm_m n kd M) Qr Qx := by
  obtain ⟨d, rfl⟩ := pm_ex1 (show 1 ≤ d by omega)
  refine tr_153 (by omega) ?_
  rw [hR.nw]
  exact RO.sw h hR (px_dc.rf.up (by omega)) (pm_up_ne (by omega)) (pm_up_ne (by omega)) (fun a a1 a2 a3 => pm_up_row (by omega)) pm_up_eq (fun j hj => absurd hj (Nat.not_lt_zero j))
theorem ra_154 (hd : 2 ≤ d) (hR : Ref M s) (h : RO (o_wordLength s) n kd M Qr) : pm_run d 154 [.inr (.inl (9, 97))] (pm_m n kd M) Qr Qx := by
  obtain ⟨d, rfl⟩ := pm_ex1 (show 1 ≤ d by omega)
  refine tr_154 (by omega) ?_
  rw [hR.nw]
  exact RO.ok h hR px_sc.rf
theorem ra_155 (hd : 2 ≤ d) (hR : Ref M s) (hW : wfs s) (h : RO (o_letter s x) n kd M Qr) : pm_run d 155 [.inr (.inl (9, 97)), .inl x] (pm_m n kd M) Qr Qx := by
  obtain ⟨d, rfl⟩ := pm_ex1 (show 1 ≤ d by omega)
  have hn := hR.nw
  have h15 : (gW s).length ≤ 24 := hW.1.2.2.1.1
  unfold o_letter at h
  refine tr_155 (by omega) ⟨⟨by omega, by omega⟩, fun z => ⟨⟨by omega, by omega⟩, ?_⟩, fun z => ?_⟩
  · rw [if_pos (by omega)] at h
    rw [hR.w _ (by omega)]
    exact h.ok hR px_sc.rf
  · rw [if_neg (by omega)] at h
    exact h.bad hR px_sc.rf
end RFA

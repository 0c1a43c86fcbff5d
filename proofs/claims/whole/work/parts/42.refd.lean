/-! CALLS OF THE REFERENCE: connected sides, free sets, reductions -/
/-- the pattern without the variables of a set -/
def kg (w : Nat) (p : List Nat) : List Nat := p.filter fun v => !w.testBit v
theorem kg_snoc {w v : Nat} {p : List Nat} : kg w (p ++ [v]) = if w.testBit v = true then kg w p else kg w p ++ [v] := by
  unfold kg
  rw [List.filter_append, List.filter_cons]
  cases h : w.testBit v <;> simp
theorem kg_lt {w : Nat} {p : List Nat} (h : ∀ u ∈ p, u < 5) : ∀ u ∈ kg w p, u < 5 := fun u hu => h u (List.mem_filter.mp hu).1
theorem kg_zero {p : List Nat} : kg 0 p = p := by
  unfold kg
  rw [List.filter_eq_self]
  intro a _
  simp
theorem kg_kf {p : List Nat} (h5 : ∀ v ∈ p, v < 5) {w : Nat} (hw : w < 32) (hs : sb w (pm_mem p) = true) : kg w p = kf (pm_mem p - w) p := by
  unfold kg kf
  apply List.filter_congr
  intro v hv
  exact (sb_bit _ (pm_mem_lt' h5) w hw hs v (h5 v hv) ((mem_bit' h5 (h5 v hv)).mpr hv)).symm
/-- what the groups know of the sides -/
def GI (G : Nat → Int) (q : List Nat) : Prop := (∀ F : Nat → Nat → Prop, (∀ a b, b ∈ fol a q → F a = F (5 + b)) → ∀ i, i < 10 → ∀ j, j < 10 → G i = G j → F i = F j) ∧ ∀ a b, b ∈ fol a q → G a = G (5 + b)
theorem GI.cg {G : Nat → Int} {q q' : List Nat} (h : GI G q) (e : ∀ a, fol a q' = fol a q) : GI G q' := ⟨fun F hF => h.1 F (fun a b hb => hF a b (by rw [e]; exact hb)), fun a b hb => h.2 a b (by rw [← e]; exact hb)⟩
theorem GI.start {G : Nat → Int} (hG : ∀ i, i < 10 → G i = (i : Int)) : GI G [] := ⟨fun F _ i hi j hj e => by
  rw [hG i hi, hG j hj] at e
  have : i = j := by omega
  rw [this], fun a b h => by simp [fol] at h⟩
theorem GI.conn {G : Nat → Int} {q : List Nat} (h : GI G q) (h5 : ∀ u ∈ q, u < 5) {x y : Nat} (hx : x < 5) (hy : y < 5) : G x = G (5 + y) ↔ cnB q x y = true := by
  rw [cnB_iff]
  constructor
  · intro e
    have hF : ∀ a b, b ∈ fol a q → (fun (i z : Nat) => if i < 5 then Conn q i z else z = i - 5 ∨ ∃ u, Conn q u (i - 5) ∧ Conn q u z) a = (fun (i z : Nat) => if i < 5 then Conn q i z else z = i - 5 ∨ ∃ u, Conn q u (i - 5) ∧ Conn q u z) (5 + b) := by
      intro a b hab
      have hl := fol_lt h5 hab
      funext z
      show (if a < 5 then Conn q a z else z = a - 5 ∨ ∃ u, Conn q u (a - 5) ∧ Conn q u z) = (if 5 + b < 5 then Conn q (5 + b) z else z = 5 + b - 5 ∨ ∃ u, Conn q u (5 + b - 5) ∧ Conn q u z)
      rw [if_pos hl.1, if_neg (by omega), Nat.add_sub_cancel_left]
      apply propext
      constructor
      · intro h1; exact Or.inr ⟨a, Conn.of hab, h1⟩
      · rintro (h1 | ⟨u, h1, h2⟩)
        · rw [h1]; exact Conn.of hab
        · exact Conn.di (Conn.of hab) h1 h2
    have h1 := h.1 _ hF x (by omega) (5 + y) (by omega) e
    have h2 : (if x < 5 then Conn q x y else y = x - 5 ∨ ∃ u, Conn q u (x - 5) ∧ Conn q u y) = (if 5 + y < 5 then Conn q (5 + y) y else y = 5 + y - 5 ∨ ∃ u, Conn q u (5 + y - 5) ∧ Conn q u y) := congrFun h1 y
    rw [if_pos hx, if_neg (by omega)] at h2
    rw [h2]
    exact Or.inl (by omega)
  · intro hc
    exact (hc (fun a b => a < 5 ∧ b < 5 ∧ G a = G (5 + b)) (fun a b hab => ⟨(fol_lt h5 hab).1, (fol_lt h5 hab).2, h.2 a b hab⟩) (fun a b c e h1 h2 h3 => ⟨h1.1, h3.2.1, (h1.2.2.trans h2.2.2.symm).trans h3.2.2⟩)).2.2
theorem GI.join {G G' : Nat → Int} {q q' : List Nat} {a b : Nat} (h : GI G q) (ha : a < 5) (hb : b < 5) (hq : ∀ x, fol x q' = fol x q ++ (if a = x then [b] else [])) (hG : ∀ i, i < 10 → G' i = if G i = G (5 + b) then G a else G i) (h5 : ∀ x z, z ∈ fol x q → x < 5 ∧ z < 5) : GI G' q' := by
  refine ⟨fun F hF i hi j hj e => ?_, fun x z hz => ?_⟩
  · have hF1 : ∀ x z, z ∈ fol x q → F x = F (5 + z) := fun x z hz => hF x z (by rw [hq]; exact List.mem_append_left _ hz)
    have hF2 : F a = F (5 + b) := hF a b (by rw [hq, if_pos rfl]; exact List.mem_append_right _ (List.mem_singleton.mpr rfl))
    have k := h.1 F hF1
    rw [hG i hi, hG j hj] at e
    by_cases e1 : G i = G (5 + b)
    · by_cases e2 : G j = G (5 + b)
      · exact k i hi j hj (e1.trans e2.symm)
      · rw [if_pos e1, if_neg e2] at e
        exact (k i hi (5 + b) (by omega) e1).trans (hF2.symm.trans (k a (by omega) j hj e))
    · by_cases e2 : G j = G (5 + b)
      · rw [if_neg e1, if_pos e2] at e
        exact ((k j hj (5 + b) (by omega) e2).trans (hF2.symm.trans (k a (by omega) i hi e.symm))).symm
      · rw [if_neg e1, if_neg e2] at e
        exact k i hi j hj e
  · rw [hq] at hz
    rcases List.mem_append.mp hz with hz | hz
    · have hl := h5 x z hz
      rw [hG x (by omega), hG (5 + z) (by omega), h.2 x z hz]
    · by_cases e : a = x
      · rw [if_pos e, List.mem_singleton] at hz
        rw [hz, ← e, hG a (by omega), hG (5 + b) (by omega)]
        rw [if_pos (show G (5 + b) = G (5 + b) from rfl)]
        split <;> rfl
      · rw [if_neg e] at hz
        cases hz
/-- a set in the reference's table -/
def fw (o : Option Nat) : Int := match o with
  | none => -1
  | some c => (c : Int)
/-- what the reference's table of reductions has at a set that is gone -/
def TT (p : List Nat) (M : Nat → Nat → Int) (j : Nat) : Prop := M 116 j = fw (RD p (pm_mem p - j)).1 ∧ ∀ c, (RD p (pm_mem p - j)).1 = some (c + 1) → M 117 j = ((RD p (pm_mem p - j)).2 : Int)
def px_rd (M M' : Nat → Nat → Int) : Prop := ∀ a, a ≠ 115 → a ≠ 116 → a ≠ 117 → M' a = M a
theorem px_rd.sc {M M' : Nat → Nat → Int} (h : px_rd M M') : px_sc M M' := ⟨fun a ha => h a (by omega) (by omega) (by omega), fun j _ _ => by rw [h 97 (by decide) (by decide) (by decide)]⟩
theorem px_rd.tr {M M1 M2 : Nat → Nat → Int} (h1 : px_rd M M1) (h2 : px_rd M1 M2) : px_rd M M2 := fun a x y z => (h2 a x y z).trans (h1 a x y z)
theorem px_rd.up {M M1 : Nat → Nat → Int} {q j : Nat} {x : Int} (h : px_rd M M1) (hq : q = 116 ∨ q = 117) : px_rd M (pm_up M1 q j x) := fun a x y z => (pm_up_row (by omega)).trans (h a x y z)
section RFD
variable {d n : Nat} {kd : Nat → Nat} {M : Nat → Nat → Int} {Qr : Option pm_V → pm_Me → Prop} {Qx : Nat → pm_Me → Prop} {s : stt} {x y : Int}
/-- joins -/
theorem ra_169 {a b : Int} (hd : 1 ≤ d) (h : ∀ M', (∀ i, i < 10 → M' 115 i = if M 115 i = b then a else M 115 i) → px_ao 115 M M' → Qr none (pm_m n kd M')) : pm_run d 169 [.inr (.inl (9, 97)), .inl a, .inl b] (pm_m n kd M) Qr Qx := by
  obtain ⟨d, rfl⟩ := pm_ex1 hd
  refine tr_169 (pm_lp (N := 10) (G := fun i M1 => pm_wq d 169 Qr Qx (2, [some (.inr (.inl (9, 97))), some (.inl a), some (.inl b), some (.inl (i : Int))], [], pm_m n kd M1, 0, 0)) (I := fun i M1 => (∀ j, j < i → M1 115 j = if M 115 j = b then a else M 115 j) ∧ (∀ j, i ≤ j → M1 115 j = M 115 j) ∧ px_ao 115 M M1) ?_ ?_ 0 M (Nat.zero_le _) ⟨fun j hj => absurd hj (Nat.not_lt_zero j), fun _ _ => rfl, px_ao.rf⟩)
  · intro M1 ⟨h1, h2, ho⟩
    exact tr_169_2 ⟨fun _ => h M1 h1 ho, fun z => by omega⟩
  · intro i M1 hi ⟨h1, h2, ho⟩ ih
    have e0 := h2 i (Nat.le_refl _)
    refine tr_169_2 ⟨fun z => by omega, fun _ => ⟨⟨by omega, by omega⟩, ?_⟩⟩
    rw [Int.toNat_natCast]
    refine ⟨fun z => ⟨⟨by omega, by omega⟩, ⟨by omega, by omega⟩, ⟨by omega, by omega⟩, ih _ ⟨fun j hj => ?_, fun j hj => ?_, ho.up⟩⟩, fun z => ⟨⟨by omega, by omega⟩, ⟨by omega, by omega⟩, ih _ ⟨fun j hj => ?_, fun j hj => ?_, ho.up⟩⟩⟩
    · by_cases e : j = i
      · rw [e, pm_up_eq, e0, if_neg (by rw [← e0]; exact z)]
      · rw [pm_up_ne (Or.inr e)]; exact h1 j (by omega)
    · rw [pm_up_ne (Or.inr (by omega))]; exact h2 j (by omega)
    · by_cases e : j = i
      · rw [e, pm_up_eq, if_pos (by rw [← e0]; exact Classical.byContradiction z)]
      · rw [pm_up_ne (Or.inr e)]; exact h1 j (by omega)
    · rw [pm_up_ne (Or.inr (by omega))]; exact h2 j (by omega)
/-- tellGroups -/
theorem ra_168 {w : Nat} {p : List Nat} (hd : 2 ≤ d) (hw : w < 32) (h5 : ∀ v ∈ p, v < 5) (h15 : p.length ≤ 15) (hn : M 97 1 = (p.length : Int)) (hp : ∀ j, j < p.length → M 98 j = ((p.getD j 0 : Nat) : Int)) (h : ∀ M', GI (M' 115) (kg w p) → px_ao 115 M M' → Qr none (pm_m n kd M')) : pm_run d 168 [.inr (.inl (9, 97)), .inl (w : Int)] (pm_m n kd M) Qr Qx := by
  obtain ⟨d, rfl⟩ := pm_ex1 (show 1 ≤ d by omega)
  refine tr_168 (pm_lp (N := 10) (G := fun i M1 => pm_wq d 168 Qr Qx (2, [some (.inr (.inl (9, 97))), some (.inl (w : Int)), some (.inl (i : Int)), none], [], pm_m n kd M1, 0, 0)) (I := fun i M1 => (∀ j, j < i → M1 115 j = (j : Int)) ∧ px_ao 115 M M1) ?_ ?_ 0 M (Nat.zero_le _) ⟨fun j hj => absurd hj (Nat.not_lt_zero j), px_ao.rf⟩)
  · intro M1 ⟨h1, ho⟩
    refine tr_168_2 ⟨fun _ => ?_, fun z => by omega⟩
    refine pm_lp2 (N := p.length) (G := fun i M2 (b : Int) => pm_wq d 168 Qr Qx (25, [some (.inr (.inl (9, 97))), some (.inl (w : Int)), some (.inl b), some (.inl (i : Int))], [], pm_m n kd M2, 0, 0)) (I := fun i M2 b => GI (M2 115) (kg w (p.take i)) ∧ ((kg w (p.take i) = [] ∧ b = -1) ∨ ∃ l u, kg w (p.take i) = l ++ [u] ∧ b = ((u : Nat) : Int) ∧ u < 5) ∧ px_ao 115 M M2) ?_ ?_ 0 M1 (-1) (Nat.zero_le _) ⟨GI.start h1, Or.inl ⟨rfl, rfl⟩, ho⟩
    · intro M2 b ⟨hg, hb, ho2⟩
      rw [List.take_length] at hg
      have hn2 : M2 97 1 = (p.length : Int) := (ho2.at (by decide)).trans hn
      exact tr_168_25 ⟨fun _ => h M2 hg ho2, fun z => by omega⟩
    · intro i M2 b hi ⟨hg, hb, ho2⟩ ih
      have hn2 : M2 97 1 = (p.length : Int) := (ho2.at (by decide)).trans hn
      have hat : M2 98 i = ((p.getD i 0 : Nat) : Int) := (ho2.at (by decide)).trans (hp i hi)
      have hv := h5 _ (gd_mem hi)
      have hsb := shr_32 w hw _ hv
      refine tr_168_25 ⟨fun z => by omega, fun _ => ⟨⟨by omega, by omega⟩, ?_⟩⟩
      rw [Int.toNat_natCast, hat]
      refine ⟨fun z => ⟨⟨by omega, by omega⟩, ?_⟩, fun z => ?_⟩
      · have hz : w.testBit (p.getD i 0) = true := by
          cases hc : w.testBit (p.getD i 0) with
          | true => rfl
          | false => exact absurd (hsb.mpr hc) z
        have e : kg w (p.take (i + 1)) = kg w (p.take i) := by rw [tk_succ hi, kg_snoc, if_pos hz]
        refine ih M2 b ⟨?_, ?_, ho2⟩
        · rw [e]; exact hg
        · rw [e]; exact hb
      · have hz : ¬ w.testBit (p.getD i 0) = true := fun hc => by
          have := hsb.mp (Classical.byContradiction z)
          rw [this] at hc
          cases hc
        have hq1 : kg w (p.take (i + 1)) = kg w (p.take i) ++ [p.getD i 0] := by rw [tk_succ hi, kg_snoc, if_neg hz]
        rcases hb with ⟨b0, b1⟩ | ⟨l, u, b0, b1, b2⟩
        · refine ⟨fun _ => ⟨⟨by omega, by omega⟩, ⟨by omega, by omega⟩, ih M2 _ ⟨?_, Or.inr ⟨[], p.getD i 0, ?_, rfl, hv⟩, ho2⟩⟩, fun z2 => absurd b1 z2⟩
          · rw [hq1, b0]
            rw [b0] at hg
            exact hg.cg (fun a => by simp [fol])
          · rw [hq1, b0]
        · subst b1
          refine ⟨fun z2 => by omega, fun _ => ⟨⟨by omega, by omega⟩, ⟨by omega, by omega⟩, ⟨by omega, by omega⟩, ⟨by omega, by omega⟩, ?_⟩⟩
          have e5 : (5 + ((p.getD i 0 : Nat) : Int)).toNat = 5 + p.getD i 0 := by omega
          rw [e5, Int.toNat_natCast]
          refine ra_169 (by omega) (fun M3 hm ho3 => tr_168_74 ⟨⟨by omega, by omega⟩, ⟨by omega, by omega⟩, ?_⟩)
          have hat3 : M3 98 i = ((p.getD i 0 : Nat) : Int) := (ho3.at (by decide)).trans hat
          rw [Int.toNat_natCast, hat3]
          refine ih M3 _ ⟨hg.join b2 hv (fun x => ?_) hm (fun x z hz => fol_lt (kg_lt (fun u hu => h5 u (List.mem_of_mem_take hu))) hz), Or.inr ⟨kg w (p.take i), p.getD i 0, hq1, rfl, hv⟩, ho2.tr ho3⟩
          rw [hq1, b0, fol_snoc]
  · intro i M1 hi ⟨h1, ho⟩ ih
    refine tr_168_2 ⟨fun z => by omega, fun _ => ⟨⟨by omega, by omega⟩, ⟨by omega, by omega⟩, ih _ ⟨fun j hj => ?_, ho.up⟩⟩⟩
    rw [Int.toNat_natCast]
    by_cases e : j = i
    · rw [e, pm_up_eq]
    · rw [pm_up_ne (Or.inr e)]; exact h1 j (by omega)
/-- isFreeSet -/
theorem ra_170 {q : List Nat} {t : Nat} (hd : 1 ≤ d) (ht : t < 32) (h5 : ∀ u ∈ q, u < 5) (hG : GI (M 115) q) (h : Qr (some (.inl (bI (frB q t)))) (pm_m n kd M)) : pm_run d 170 [.inr (.inl (9, 97)), .inl (t : Int)] (pm_m n kd M) Qr Qx := by
  obtain ⟨d, rfl⟩ := pm_ex1 hd
  refine tr_170 (pm_lp (N := 5) (G := fun i (v : Int) => pm_wq d 170 Qr Qx (4, [some (.inr (.inl (9, 97))), some (.inl (t : Int)), some (.inl v), some (.inl (i : Int)), none], [], pm_m n kd M, 0, 0)) (I := fun i v => (v = 0 ∨ v = 1) ∧ (v = 1 ↔ ∀ x, x < i → ∀ y, y < 5 → ¬ (t.testBit x = true ∧ t.testBit y = true ∧ cnB q x y = true))) ?_ ?_ 0 1 (Nat.zero_le _) ⟨Or.inr rfl, ⟨fun _ x hx => absurd hx (Nat.not_lt_zero x), fun _ => rfl⟩⟩)
  · intro v ⟨h1, h2⟩
    refine tr_170_4 ⟨fun _ => ⟨h1, ?_⟩, fun z => by omega⟩
    have : v = bI (frB q t) := by
      cases hc : frB q t with
      | true => exact h2.mpr (frB_iff.mp hc)
      | false =>
        rcases h1 with h1 | h1
        · exact h1
        · rw [frB_iff.mpr (h2.mp h1)] at hc
          cases hc
    rw [this]
    exact h
  · intro i v hi ⟨h1, h2⟩ ih
    refine tr_170_4 ⟨fun z => by omega, fun _ => ?_⟩
    refine pm_lp (N := 5) (G := fun j (v : Int) => pm_wq d 170 Qr Qx (12, [some (.inr (.inl (9, 97))), some (.inl (t : Int)), some (.inl v), some (.inl (i : Int)), some (.inl (j : Int))], [], pm_m n kd M, 0, 0)) (I := fun j v => (v = 0 ∨ v = 1) ∧ (v = 1 ↔ (∀ x, x < i → ∀ y, y < 5 → ¬ (t.testBit x = true ∧ t.testBit y = true ∧ cnB q x y = true)) ∧ ∀ y, y < j → ¬ (t.testBit i = true ∧ t.testBit y = true ∧ cnB q i y = true))) ?_ ?_ 0 v (Nat.zero_le _) ⟨h1, ⟨fun e => ⟨h2.mp e, fun y hy => absurd hy (Nat.not_lt_zero y)⟩, fun e => h2.mpr e.1⟩⟩
    · intro v ⟨k1, k2⟩
      refine tr_170_12 ⟨fun _ => ⟨⟨by omega, by omega⟩, ih v ⟨k1, ?_⟩⟩, fun z => by omega⟩
      rw [k2]
      constructor
      · intro hh x hx y hy
        by_cases e : x = i
        · rw [e]; exact hh.2 y hy
        · exact hh.1 x (by omega) y hy
      · intro hh
        exact ⟨fun x hx => hh x (by omega), fun y hy => hh i (by omega) y hy⟩
    · intro j v hj ⟨k1, k2⟩ ih2
      have h1x := shr_32 t ht i hi
      have h1y := shr_32 t ht j hj
      refine tr_170_12 ⟨fun z => by omega, fun _ => ⟨fun z => ⟨⟨by omega, by omega⟩, ih2 0 ⟨Or.inl rfl, ⟨fun e => absurd e (by decide), fun e => ?_⟩⟩⟩, fun z => ?_⟩⟩
      · have := k2.mpr ⟨e.1, fun y hy => e.2 y (by omega)⟩
        omega
      · have hv : v = 1 := by omega
        have hall := k2.mp hv
        have nxt : ∀ v' : Int, (v' = 0 ∨ v' = 1) → (v' = 1 ↔ ¬ (t.testBit i = true ∧ t.testBit j = true ∧ cnB q i j = true)) → pm_wq d 170 Qr Qx (12, [some (.inr (.inl (9, 97))), some (.inl (t : Int)), some (.inl v'), some (.inl (i : Int)), some (.inl ((j : Int) + 1))], [], pm_m n kd M, 0, 0) := by
          intro v' g1 g2
          refine ih2 v' ⟨g1, ⟨fun e => ⟨hall.1, fun y hy => ?_⟩, fun e => g2.mpr (e.2 j (by omega))⟩⟩
          by_cases ey : y = j
          · rw [ey]; exact g2.mp e
          · exact hall.2 y (by omega)
        refine ⟨fun z2 => ⟨⟨by omega, by omega⟩, nxt 1 (Or.inr rfl) ⟨fun _ w => ?_, fun _ => rfl⟩⟩, fun z2 => ⟨fun z3 => ⟨⟨by omega, by omega⟩, nxt 1 (Or.inr rfl) ⟨fun _ w => ?_, fun _ => rfl⟩⟩, fun z3 => ⟨⟨by omega, by omega⟩, ⟨by omega, by omega⟩, ⟨by omega, by omega⟩, ?_⟩⟩⟩
        · rw [h1x.mp z2] at w; exact absurd w.1 (by decide)
        · rw [h1y.mp z3] at w; exact absurd w.2.1 (by decide)
        · have e5 : (5 + (j : Int)).toNat = 5 + j := by omega
          rw [e5, Int.toNat_natCast, hG.conn h5 hi hj]
          have b1 : t.testBit i = true := by
            cases hc : t.testBit i with
            | true => rfl
            | false => exact absurd (h1x.mpr hc) z2
          have b2 : t.testBit j = true := by
            cases hc : t.testBit j with
            | true => rfl
            | false => exact absurd (h1y.mpr hc) z3
          exact ⟨fun z4 => ⟨⟨by omega, by omega⟩, nxt 0 (Or.inl rfl) ⟨fun e => absurd e (by decide), fun w => absurd ⟨b1, b2, z4⟩ w⟩⟩, fun z4 => ⟨⟨by omega, by omega⟩, nxt 1 (Or.inr rfl) ⟨fun _ w => z4 w.2.2, fun _ => rfl⟩⟩⟩
/-- isOfPattern -/
theorem ra_171 (hd : 2 ≤ d) (hR : Ref M s) (hW : wfs s) (hx : pm_r x) (hy : 0 < x → x < 32 → sb x.toNat (pm_mem (gP s)) = true → Qr (some (.inl 1)) (pm_m n kd M)) (hn : ¬ (0 < x ∧ x < 32 ∧ sb x.toNat (pm_mem (gP s)) = true) → Qr (some (.inl 0)) (pm_m n kd M)) : pm_run d 171 [.inr (.inl (9, 97)), .inl x] (pm_m n kd M) Qr Qx := by
  obtain ⟨d, rfl⟩ := pm_ex1 (show 1 ≤ d by omega)
  have h5 : ∀ v ∈ gP s, v < 5 := hW.1.2.1.2
  have hm := pm_mem_lt' h5
  refine tr_171 ⟨fun z => hn (by omega), fun z => ra_133 (by omega) hR hW (tr_171_9 ⟨fun z2 => hn (fun hh => ?_), fun z2 => ?_⟩)⟩
  · obtain ⟨k, rfl⟩ : ∃ k : Nat, x = (k : Int) := ⟨x.toNat, by omega⟩
    rw [Int.toNat_natCast] at hh
    have := (sb_32 k (by omega) _ hm).mp z2
    rw [hh.2.2] at this
    cases this
  · have z3 : pm_and x (pm_xor (pm_mem (gP s) : Int) (-1)) = 0 := Classical.byContradiction z2
    have hr := ask_set hx hm z3
    obtain ⟨k, rfl⟩ : ∃ k : Nat, x = (k : Int) := ⟨x.toNat, by omega⟩
    refine hy (by omega) (by omega) ?_
    rw [Int.toNat_natCast]
    cases hc : sb k (pm_mem (gP s)) with
    | true => rfl
    | false => exact absurd z3 ((sb_32 k (by omega) _ hm).mpr hc)
/-- tellGroups, nothing gone -/
theorem ra_168z (hd : 2 ≤ d) (hR : Ref M s) (hW : wfs s) (h : ∀ M', GI (M' 115) (gP s) → px_ao 115 M M' → Qr none (pm_m n kd M')) : pm_run d 168 [.inr (.inl (9, 97)), .inl 0] (pm_m n kd M) Qr Qx :=
  ra_168 (w := 0) hd (by decide) hW.1.2.1.2 hW.1.2.1.1 hR.np hR.p (fun M1 hg ho => h M1 (by rw [kg_zero] at hg; exact hg) ho)
theorem ra_172 (hd : 4 ≤ d) (hR : Ref M s) (hW : wfs s) (h : RO (o_areConnected s x y) n kd M Qr) : pm_run d 172 [.inr (.inl (9, 97)), .inl x, .inl y] (pm_m n kd M) Qr Qx := by
  obtain ⟨d, rfl⟩ := pm_ex1 (show 1 ≤ d by omega)
  have h5 : ∀ v ∈ gP s, v < 5 := hW.1.2.1.2
  have hm := pm_mem_lt' h5
  unfold o_areConnected at h
  refine tr_172 (by omega) ⟨fun z => ⟨fun z2 => ?_, fun z2 => ?_⟩, fun z => ?_⟩
  · obtain ⟨a, rfl⟩ : ∃ k : Nat, x = (k : Int) := ⟨x.toNat, by omega⟩
    obtain ⟨b, rfl⟩ : ∃ k : Nat, y = (k : Int) := ⟨y.toNat, by omega⟩
    rw [Int.toNat_natCast, Int.toNat_natCast] at h
    have ha := pow_lt a (by omega)
    have hb := pow_lt b (by omega)
    have sa := bit_sb a (by omega) _ hm
    have sb1 := bit_sb b (by omega) _ hm
    rw [shl_pow a (by omega)]
    refine ra_171 (by omega) hR hW ⟨by omega, by omega⟩ (fun _ _ z3 => ?_) (fun z3 => ?_)
    · rw [Int.toNat_natCast] at z3
      refine tr_172_35 (by omega) ⟨fun z => absurd z (by decide), fun _ => ?_⟩
      rw [shl_pow b (by omega)]
      refine ra_171 (by omega) hR hW ⟨by omega, by omega⟩ (fun _ _ z4 => ?_) (fun z4 => ?_)
      · rw [Int.toNat_natCast] at z4
        rw [if_pos ⟨⟨by omega, by omega⟩, ⟨by omega, by omega⟩, sa.mp z3, sb1.mp z4⟩] at h
        refine tr_172_45 (by omega) ⟨fun _ => ra_168z (by omega) hR hW (fun M1 hg ho => ?_), fun z => absurd (by decide) z⟩
        refine tr_172_59 (by omega) ⟨⟨by omega, by omega⟩, ⟨by omega, by omega⟩, ⟨by omega, by omega⟩, ?_⟩
        have e5 : (5 + (b : Int)).toNat = 5 + b := by omega
        rw [e5, Int.toNat_natCast]
        have hc := hg.conn h5 (show a < 5 by omega) (show b < 5 by omega)
        have hok := RO.ok h hR (ho.sc (by decide))
        refine ⟨fun z5 => ?_, fun z5 => ?_⟩
        · have : cnB (gP s) a b = false := by
            cases hb2 : cnB (gP s) a b with
            | false => rfl
            | true => exact absurd (hc.mpr hb2) z5
          rw [this] at hok
          exact hok
        · have : cnB (gP s) a b = true := hc.mp (Classical.byContradiction z5)
          rw [this] at hok
          exact hok
      · rw [if_neg (fun w => z4 ⟨by omega, by omega, by rw [Int.toNat_natCast]; exact sb1.mpr w.2.2.2⟩)] at h
        exact tr_172_45 (by omega) ⟨fun z => absurd rfl z, fun _ => RO.bad h hR px_sc.rf⟩
    · rw [if_neg (fun w => z3 ⟨by omega, by omega, by rw [Int.toNat_natCast]; exact sa.mpr w.2.2.1⟩)] at h
      exact tr_172_35 (by omega) ⟨fun _ => RO.bad h hR px_sc.rf, fun z => absurd rfl z⟩
  · rw [if_neg (fun w => z2 (by omega))] at h
    exact RO.bad h hR px_sc.rf
  · rw [if_neg (fun w => z (by omega))] at h
    exact RO.bad h hR px_sc.rf
theorem ra_173 (hd : 4 ≤ d) (hR : Ref M s) (hW : wfs s) (hx : pm_r x) (h : RO (o_isFree s x) n kd M Qr) : pm_run d 173 [.inr (.inl (9, 97)), .inl x] (pm_m n kd M) Qr Qx := by
  obtain ⟨d, rfl⟩ := pm_ex1 (show 1 ≤ d by omega)
  have h5 : ∀ v ∈ gP s, v < 5 := hW.1.2.1.2
  unfold o_isFree at h
  refine tr_173 (by omega) (ra_171 (by omega) hR hW hx (fun z1 z2 z3 => ?_) (fun z => ?_))
  · rw [if_pos ⟨z1, z2, z3⟩] at h
    refine tr_173_5 (by omega) ⟨fun _ => ra_168z (by omega) hR hW (fun M1 hg ho => tr_173_19 (by omega) ?_), fun z => absurd (by decide) z⟩
    obtain ⟨k, rfl⟩ : ∃ k : Nat, x = (k : Int) := ⟨x.toNat, by omega⟩
    rw [Int.toNat_natCast] at h
    exact ra_170 (by omega) (by omega) h5 hg (tr_173_25 (by omega) ⟨bI_or _, bI_or _, RO.ok h hR (ho.sc (by decide))⟩)
  · rw [if_neg z] at h
    exact tr_173_5 (by omega) ⟨fun z => absurd rfl z, fun _ => RO.bad h hR px_sc.rf⟩
theorem ra_174 (hd : 4 ≤ d) (hR : Ref M s) (hW : wfs s) (h : RO (o_freeSetCount s) n kd M Qr) : pm_run d 174 [.inr (.inl (9, 97))] (pm_m n kd M) Qr Qx := by
  obtain ⟨d, rfl⟩ := pm_ex1 (show 1 ≤ d by omega)
  have h5 : ∀ v ∈ gP s, v < 5 := hW.1.2.1.2
  unfold o_freeSetCount at h
  refine tr_174 (by omega) (ra_168z (by omega) hR hW (fun M1 hg ho => tr_174_5 (by omega) ?_))
  have hR1 := hR.sc (ho.sc (by decide))
  have key := pm_lp (α := Unit) (N := 31) (G := fun i _ => pm_wq d 174 Qr Qx (9, [some (.inr (.inl (9, 97))), some (.inl (fcnt (gP s) i : Int)), some (.inl ((i : Int) + 1))], [], pm_m n kd M1, 0, 0)) (I := fun _ _ => True) (fun _ _ => tr_174_9 (by omega) ⟨fun _ => RO.ok h hR (ho.sc (by decide)), fun z => absurd (by decide) z⟩) (fun i _ hi _ ih => by
      have ih := ih () trivial
      have hle := fcnt_le (p := gP s) i
      rw [fcnt] at ih
      have e : ((i : Int) + 1) = ((i + 1 : Nat) : Int) := by omega
      refine tr_174_9 (by omega) ⟨fun z => by omega, fun _ => ra_171 (by omega) hR1 hW ⟨by omega, by omega⟩ (fun _ _ z3 => ?_) (fun z3 => ?_)⟩
      · have z3 : sb (i + 1) (pm_mem (gP s)) = true := z3
        refine tr_174_21 (by omega) ⟨fun z => absurd z (by decide), fun _ => ?_⟩
        rw [e]
        refine ra_170 (by omega) (by omega) h5 hg (tr_174_29 (by omega) ⟨fun z2 => ⟨⟨by omega, by omega⟩, ⟨by omega, by omega⟩, ?_⟩, fun z2 => ⟨⟨by omega, by omega⟩, ⟨by omega, by omega⟩, ?_⟩⟩)
        · have hf : frB (gP s) (i + 1) = false := by cases hc : frB (gP s) (i + 1); rfl; rw [hc] at z2; exact absurd z2 (by decide)
          have hok : ok1 (gP s) (i + 1) = false := by unfold ok1; rw [hf, Bool.and_false]
          rw [hok, if_neg (by decide)] at ih
          rw [Int.add_zero]
          exact ih
        · have hf : frB (gP s) (i + 1) = true := by cases hc : frB (gP s) (i + 1); rw [hc] at z2; exact absurd rfl z2; rfl
          have hok : ok1 (gP s) (i + 1) = true := by unfold ok1; rw [hf, z3]; rfl
          rw [hok, if_pos rfl] at ih
          exact ih
      · have hs : sb (i + 1) (pm_mem (gP s)) = false := by
          cases hc : sb (i + 1) (pm_mem (gP s)) with
          | false => rfl
          | true => exact absurd ⟨by omega, by omega, hc⟩ z3
        have hok : ok1 (gP s) (i + 1) = false := by unfold ok1; rw [hs]; rfl
        rw [hok, if_neg (by decide)] at ih
        refine tr_174_21 (by omega) ⟨fun _ => ⟨⟨by omega, by omega⟩, ⟨by omega, by omega⟩, ?_⟩, fun z => absurd rfl z⟩
        rw [Int.add_zero]
        exact ih) 0 () (Nat.zero_le _) trivial
  exact key
theorem ra_175 (hd : 4 ≤ d) (hR : Ref M s) (hW : wfs s) (hx : pm_r x) (h : RO (o_freeSet s x) n kd M Qr) : pm_run d 175 [.inr (.inl (9, 97)), .inl x] (pm_m n kd M) Qr Qx := by
  obtain ⟨d, rfl⟩ := pm_ex1 (show 1 ≤ d by omega)
  have h5 : ∀ v ∈ gP s, v < 5 := hW.1.2.1.2
  obtain ⟨hx1, hx2⟩ := hx
  unfold o_freeSet at h
  refine tr_175 (by omega) (ra_168z (by omega) hR hW (fun M1 hg ho => tr_175_5 (by omega) ?_))
  have hR1 := hR.sc (ho.sc (by decide))
  by_cases hneg : x < 0
  · rw [if_pos hneg] at h
    exact tr_175_9 (by omega) ⟨fun z => absurd z (by decide), fun _ => ⟨fun _ => RO.bad h hR (ho.sc (by decide)), fun z => absurd hneg z⟩⟩
  · rw [if_neg hneg] at h
    generalize hF : fsel (gP s) 1 31 x.toNat = F0 at h
    have key : ∀ (c i k : Nat), c + i = 32 → 1 ≤ i → (k : Int) ≤ x → F0 = fsel (gP s) i c k → pm_wq d 175 Qr Qx (9, [some (.inr (.inl (9, 97))), some (.inl x), some (.inl (k : Int)), some (.inl (i : Int))], [], pm_m n kd M1, 0, 0) := by
      intro c
      induction c with
      | zero =>
        intro i k hc hi hk he
        have he : F0 = 0 := he
        rw [if_pos he] at h
        exact tr_175_9 (by omega) ⟨fun _ => RO.bad h hR (ho.sc (by decide)), fun z => by omega⟩
      | succ c ih =>
        intro i k hc hi hk he
        rw [fsel] at he
        refine tr_175_9 (by omega) ⟨fun z => by omega, fun _ => ⟨fun z2 => absurd z2 hneg, fun _ => ra_171 (by omega) hR1 hW ⟨by omega, by omega⟩ (fun _ _ z3 => ?_) (fun z3 => ?_)⟩⟩
        · have hs : sb i (pm_mem (gP s)) = true := z3
          refine tr_175_24 (by omega) ⟨fun z => absurd z (by decide), fun _ => ?_⟩
          refine ra_170 (by omega) (by omega) h5 hg (tr_175_32 (by omega) ⟨fun z3 => ⟨⟨by omega, by omega⟩, ?_⟩, fun z3 => ?_⟩)
          · have hf : frB (gP s) i = false := by cases hc : frB (gP s) i; rfl; rw [hc] at z3; exact absurd z3 (by decide)
            have hok : ok1 (gP s) i = false := by unfold ok1; rw [hf, Bool.and_false]
            rw [hok, if_neg (by decide)] at he
            exact ih (i + 1) k (by omega) (by omega) hk he
          · have hf : frB (gP s) i = true := by cases hc : frB (gP s) i; rw [hc] at z3; exact absurd rfl z3; rfl
            have hok : ok1 (gP s) i = true := by unfold ok1; rw [hf, hs]; rfl
            rw [hok, if_pos rfl] at he
            refine ⟨fun z4 => ⟨⟨by omega, by omega⟩, ⟨by omega, by omega⟩, ?_⟩, fun z4 => ?_⟩
            · rw [if_neg (by omega)] at he
              have e : ((k : Int) + (-1)) = ((k - 1 : Nat) : Int) := by omega
              rw [e]
              exact ih (i + 1) (k - 1) (by omega) (by omega) (by omega) he
            · rw [if_pos (by omega)] at he
              rw [if_neg (by omega), he] at h
              exact RO.ok h hR (ho.sc (by decide))
        · have hs : sb i (pm_mem (gP s)) = false := by
            cases hc : sb i (pm_mem (gP s)) with
            | false => rfl
            | true => exact absurd ⟨by omega, by omega, hc⟩ z3
          have hok : ok1 (gP s) i = false := by unfold ok1; rw [hs]; rfl
          rw [hok, if_neg (by decide)] at he
          exact tr_175_24 (by omega) ⟨fun _ => ⟨⟨by omega, by omega⟩, ih (i + 1) k (by omega) (by omega) hk he⟩, fun z => absurd rfl z⟩
    have e : x = ((x.toNat : Nat) : Int) := by omega
    have := key 31 1 x.toNat (by omega) (by omega) (by omega) hF.symm
    rw [← e] at this
    exact this
theorem ra_176 (hd : 4 ≤ d) (hR : Ref M s) (hW : wfs s) (hx : pm_r x) (h : RO (o_delete s x) n kd M Qr) : pm_run d 176 [.inr (.inl (9, 97)), .inl x] (pm_m n kd M) Qr Qx := by
  obtain ⟨d, rfl⟩ := pm_ex1 (show 1 ≤ d by omega)
  have h5 : ∀ v ∈ gP s, v < 5 := hW.1.2.1.2
  have h15 : (gP s).length ≤ 15 := hW.1.2.1.1
  unfold o_delete at h
  refine tr_176 (by omega) (ra_171 (by omega) hR hW hx (fun z1 z2 z3 => ?_) (fun z => ?_))
  · rw [if_pos ⟨z1, z2, z3⟩] at h
    refine tr_176_5 (by omega) ⟨fun _ => ra_168z (by omega) hR hW (fun M1 hg ho => tr_176_19 (by omega) ?_), fun z => absurd (by decide) z⟩
    obtain ⟨t, rfl⟩ : ∃ k : Nat, x = (k : Int) := ⟨x.toNat, by omega⟩
    rw [Int.toNat_natCast] at h
    refine ra_170 (by omega) (by omega) h5 hg (tr_176_24 (by omega) ⟨fun z => ?_, fun z => ?_⟩)
    · have hf : frB (gP s) t = true := by cases hc : frB (gP s) t; rw [hc] at z; exact absurd rfl z; rfl
      rw [if_pos hf] at h
      have hR1 := hR.sc (ho.sc (by decide))
      have hn := hR1.np
      have key := pm_lp2 (N := (gP s).length) (G := fun i M2 (c : Nat) => pm_wq d 176 Qr Qx (37, [some (.inr (.inl (9, 97))), some (.inl (t : Int)), some (.inl (c : Int)), some (.inl (i : Int))], [], pm_m n kd M2, 0, 0)) (I := fun i M2 c => c = (((gP s).take i).filter fun v => !t.testBit v).length ∧ c ≤ i ∧ (∀ j, j < c → M2 98 j = ((((((gP s).take i).filter fun v => !t.testBit v).getD j 0 : Nat)) : Int)) ∧ (∀ j, i ≤ j → M2 98 j = M1 98 j) ∧ px_ao 98 M1 M2) (fun M2 c ⟨hc, hle, hf2, hg2, ho2⟩ => by
          rw [List.take_length] at hc hf2
          have hn2 : M2 97 1 = ((gP s).length : Int) := (ho2.at (by decide)).trans hn
          refine tr_176_37 (by omega) ⟨fun _ => ?_, fun z => by omega⟩
          have gd : px_dc M M2 := (ho.dc (by decide)).tr (ho2.dc (by decide))
          rw [hc]
          rw [hc] at hf2
          refine RO.sp h hR (M1 := pm_up M2 97 1 _) (gd.up (by decide)) ?_ ?_ ?_ pm_up_eq ?_
          · rw [pm_up_ne (Or.inr (by decide)), ho2.at (by decide), ho.at (by decide)]
          · rw [pm_up_ne (Or.inr (by decide)), ho2.at (by decide), ho.at (by decide)]
          · intro a a1 a2
            rw [pm_up_row (by omega), ho2 a (by omega), ho a (by omega)]
          · intro j hj
            rw [pm_up_ne (Or.inl (by decide))]
            exact hf2 j hj) (fun i M2 c hi ⟨hc, hle, hf2, hg2, ho2⟩ ih => by
          have hn2 : M2 97 1 = ((gP s).length : Int) := (ho2.at (by decide)).trans hn
          have hat : M2 98 i = (((gP s).getD i 0 : Nat) : Int) := (hg2 i (Nat.le_refl _)).trans (hR1.p i hi)
          have hv := h5 _ (gd_mem hi)
          have hsb := shr_32 t (by omega) _ hv
          refine tr_176_37 (by omega) ⟨fun z => by omega, fun _ => ⟨⟨by omega, by omega⟩, ?_⟩⟩
          rw [Int.toNat_natCast, hat, Int.toNat_natCast]
          refine ⟨fun z => ⟨⟨by omega, by omega⟩, ?_⟩, fun z => ⟨⟨by omega, by omega⟩, ⟨by omega, by omega⟩, ⟨by omega, by omega⟩, ⟨by omega, by omega⟩, ?_⟩⟩
          · have hz : t.testBit ((gP s).getD i 0) = true := by
              cases hc : t.testBit ((gP s).getD i 0) with
              | true => rfl
              | false => exact absurd (hsb.mpr hc) z
            have e : (((gP s).take (i + 1)).filter fun v => !t.testBit v) = (((gP s).take i).filter fun v => !t.testBit v) := by
              rw [tk_succ hi, List.filter_append, List.filter_cons, hz]; simp
            exact ih M2 c ⟨by rw [e]; exact hc, by omega, fun j hj => by rw [e]; exact hf2 j hj, fun j hj => hg2 j (by omega), ho2⟩
          · have hz : t.testBit ((gP s).getD i 0) = false := hsb.mp (Classical.byContradiction z)
            have e : (((gP s).take (i + 1)).filter fun v => !t.testBit v) = (((gP s).take i).filter fun v => !t.testBit v) ++ [(gP s).getD i 0] := by
              rw [tk_succ hi, List.filter_append, List.filter_cons, hz]; simp
            refine ih _ (c + 1) ⟨?_, by omega, fun j hj => ?_, fun j hj => ?_, ho2.up⟩
            · rw [e, List.length_append, List.length_singleton]; exact congrArg (· + 1) hc
            · rw [e]
              by_cases hjc : j = c
              · rw [hjc, pm_up_eq]
                conv => rhs; rw [hc]
                rw [gd_last]
              · rw [pm_up_ne (Or.inr hjc), hf2 j (by omega), gd_app (by omega)]
            · rw [pm_up_ne (Or.inr (by omega))]
              exact hg2 j (by omega)) 0 M1 0 (Nat.zero_le _) ⟨rfl, Nat.le_refl _, fun j hj => absurd hj (Nat.not_lt_zero j), fun _ _ => rfl, px_ao.rf⟩
      exact key
    · have hf : ¬ frB (gP s) t = true := fun w => by rw [w] at z; exact z (by decide)
      rw [if_neg hf] at h
      exact RO.bad h hR (ho.sc (by decide))
  · rw [if_neg z] at h
    exact tr_176_5 (by omega) ⟨fun z => absurd rfl z, fun _ => RO.bad h hR px_sc.rf⟩
end RFD

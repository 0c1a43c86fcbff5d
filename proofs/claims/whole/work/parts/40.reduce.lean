/-! THE REDUCER, and the calls that use it -/
def jn (m : Nat → Nat) (y : Nat) : Nat → Nat
  | 0 => 0
  | i + 1 => if (m i).testBit y = true then jn m y i ||| m i else jn m y i
theorem jn_lt {m : Nat → Nat} {y : Nat} (h : ∀ x, x < 5 → m x < 32) : ∀ i, i ≤ 5 → jn m y i < 32
  | 0, _ => by rw [jn]; decide
  | i + 1, hi => by
    rw [jn]
    split
    · exact or_lt32 _ (jn_lt h i (by omega)) _ (h i (by omega))
    · exact jn_lt h i (by omega)
theorem jn_bit {m : Nat → Nat} {y z : Nat} : ∀ i, (jn m y i).testBit z = true ↔ ∃ x, x < i ∧ (m x).testBit y = true ∧ (m x).testBit z = true
  | 0 => by simp [jn]
  | i + 1 => by
    rw [jn]
    split
    · next h =>
      rw [Nat.testBit_or, Bool.or_eq_true, jn_bit i]
      constructor
      · rintro (⟨x, a, b, c⟩ | a)
        · exact ⟨x, by omega, b, c⟩
        · exact ⟨i, by omega, h, a⟩
      · rintro ⟨x, a, b, c⟩
        by_cases e : x = i
        · subst e; exact Or.inr c
        · exact Or.inl ⟨x, by omega, b, c⟩
    · next h =>
      rw [jn_bit i]
      constructor
      · rintro ⟨x, a, b, c⟩; exact ⟨x, by omega, b, c⟩
      · rintro ⟨x, a, b, c⟩
        by_cases e : x = i
        · subst e; exact absurd b h
        · exact ⟨x, by omega, b, c⟩
def LK (M : Nat → Nat → Int) (q : List Nat) : Prop := ∃ m : Nat → Nat, ∀ x, x < 5 → m x < 32 ∧ M 79 x = (m x : Int) ∧ ∀ y, y < 5 → (m x).testBit y = cnB q x y
theorem LK.fr {M M' : Nat → Nat → Int} {q : List Nat} {lo hi : Nat} (h : LK M q) (ho : pm_fr lo hi M M') (h1 : 80 ≤ lo ∨ hi ≤ 79) : LK M' q := by
  obtain ⟨m, hm⟩ := h
  exact ⟨m, fun x hx => ⟨(hm x hx).1, by rw [ho.at (by omega)]; exact (hm x hx).2.1, (hm x hx).2.2⟩⟩
def setsL (p : List Nat) (i : Nat) : Nat := (List.range i).countP fun j => sb (j + 1) (pm_mem p) && true
section RDC
variable {d n : Nat} {kd : Nat → Nat} {M : Nat → Nat → Int} {Qr : Option pm_V → pm_Me → Prop} {Qx : Nat → pm_Me → Prop} {s : stt} {x y : Int}
/-- joinAt -/
theorem sp_25 {m : Nat → Nat} {y : Nat} (hd : 3 ≤ d) (hy : y < 5) (hm : ∀ x, x < 5 → m x < 32 ∧ M 79 x = (m x : Int)) (h : ∀ M', (∀ x, x < 5 → M' 79 x = ((if (m x).testBit y = true then jn m y 5 else m x : Nat) : Int)) → pm_fr 79 80 M M' → Qr none (pm_m n kd M')) : pm_run d 25 [.inr (.inl (4, 78)), .inl (y : Int)] (pm_m n kd M) Qr Qx := by
  obtain ⟨d, rfl⟩ := pm_ex1 (show 1 ≤ d by omega)
  have hlt : ∀ x, x < 5 → m x < 32 := fun x hx => (hm x hx).1
  refine tr_25 (by omega) (pm_lp (α := Unit) (N := 5) (G := fun i _ => pm_wq d 25 Qr Qx (4, [some (.inr (.inl (4, 78))), some (.inl (y : Int)), some (.inl (jn m y i : Int)), some (.inl (i : Int))], [], pm_m n kd M, 0, 0)) (I := fun _ _ => True) ?_ ?_ 0 () (Nat.zero_le _) trivial)
  · intro _ _
    refine tr_25_4 (by omega) ⟨fun _ => ?_, fun z => by omega⟩
    refine pm_lp (N := 5) (G := fun i M1 => pm_wq d 25 Qr Qx (39, [some (.inr (.inl (4, 78))), some (.inl (y : Int)), some (.inl (jn m y 5 : Int)), some (.inl (i : Int))], [], pm_m n kd M1, 0, 0)) (I := fun i M1 => (∀ x, x < i → M1 79 x = ((if (m x).testBit y = true then jn m y 5 else m x : Nat) : Int)) ∧ (∀ x, i ≤ x → M1 79 x = M 79 x) ∧ pm_fr 79 80 M M1) ?_ ?_ 0 M (Nat.zero_le _) ⟨fun x hx => absurd hx (Nat.not_lt_zero x), fun _ _ => rfl, pm_fr.rf⟩
    · intro M1 ⟨h1, h2, ho⟩
      exact tr_25_39 (by omega) ⟨fun _ => h M1 h1 ho, fun z => by omega⟩
    · intro i M1 hi ⟨h1, h2, ho⟩ ih
      have e : M1 79 i = (m i : Int) := (h2 i (Nat.le_refl _)).trans (hm i hi).2
      refine tr_25_39 (by omega) ⟨fun z => by omega, fun _ => ⟨⟨by omega, by omega⟩, ?_⟩⟩
      rw [Int.toNat_natCast, e, pm_holds (m i) (hlt i hi) y hy]
      refine ⟨fun z => ⟨⟨by omega, by omega⟩, ⟨by omega, by omega⟩, ih _ ⟨fun x hx => ?_, fun x hx => ?_, ho.up (by decide) (by decide)⟩⟩, fun z => ⟨⟨by omega, by omega⟩, ih M1 ⟨fun x hx => ?_, fun x hx => h2 x (by omega), ho⟩⟩⟩
      · by_cases e2 : x = i
        · subst e2; rw [pm_up_eq, if_pos z]
        · rw [pm_up_ne (Or.inr e2)]; exact h1 x (by omega)
      · rw [pm_up_ne (by omega)]; exact h2 x (by omega)
      · by_cases e2 : x = i
        · subst e2; rw [if_neg z]; exact e
        · exact h1 x (by omega)
  · intro i _ hi _ ih
    refine tr_25_4 (by omega) ⟨fun z => by omega, fun _ => ⟨⟨by omega, by omega⟩, ?_⟩⟩
    rw [Int.toNat_natCast, (hm i hi).2, pm_holds (m i) (hlt i hi) y hy, or_32 _ (jn_lt hlt i (by omega)) _ (hlt i hi)]
    have := ih () trivial
    rw [jn] at this
    refine ⟨fun z => ⟨⟨by omega, by omega⟩, ⟨by omega, by omega⟩, ?_⟩, fun z => ⟨⟨by omega, by omega⟩, ?_⟩⟩
    · rw [if_pos z] at this; exact this
    · rw [if_neg z] at this; exact this
/-- link -/
theorem sp_24 {k : Nat} {p : List Nat} (hd : 4 ≤ d) (hp : pm_row M 2 p) (h5 : ∀ v ∈ p, v < 5) (hk : k < 32) (h : ∀ M', LK M' (kf k p) → pm_fr 79 80 M M' → Qr none (pm_m n kd M')) : pm_run d 24 [.inr (.inl (4, 78)), .inr (.inl (6, 2)), .inl (k : Int)] (pm_m n kd M) Qr Qx := by
  obtain ⟨d, rfl⟩ := pm_ex1 (show 1 ≤ d by omega)
  refine tr_24 (by omega) (pm_lp (N := 5) (G := fun i M1 => pm_wq d 24 Qr Qx (2, [some (.inr (.inl (4, 78))), some (.inr (.inl (6, 2))), some (.inl (k : Int)), some (.inl (i : Int)), none, none], [], pm_m n kd M1, 0, 0)) (I := fun i M1 => (∀ x, x < i → M1 79 x = 0) ∧ pm_fr 79 80 M M1) ?_ ?_ 0 M (Nat.zero_le _) ⟨fun x hx => absurd hx (Nat.not_lt_zero x), pm_fr.rf⟩)
  · intro M1 ⟨hz, ho⟩
    refine tr_24_2 (by omega) ⟨fun _ => ?_, fun z => by omega⟩
    refine pm_lp3 (N := p.length) (G := fun i M2 (m : Nat → Nat) (b : Int) => pm_wq d 24 Qr Qx (25, [some (.inr (.inl (4, 78))), some (.inr (.inl (6, 2))), some (.inl (k : Int)), some (.inl b), some (.inl (i : Int)), none], [], pm_m n kd M2, 0, 0)) (I := fun i M2 m b => (∀ x, x < 5 → m x < 32 ∧ M2 79 x = (m x : Int) ∧ ∀ y, y < 5 → ((m x).testBit y = true ↔ y ∈ fol x (kf k (p.take i)))) ∧ ((kf k (p.take i) = [] ∧ b = -1) ∨ ∃ l u, kf k (p.take i) = l ++ [u] ∧ b = ((u : Nat) : Int) ∧ u < 5) ∧ pm_fr 79 80 M M2) ?_ ?_ 0 M1 (fun _ => 0) (-1) (Nat.zero_le _) ⟨fun x hx => ⟨by decide, hz x hx, fun y hy => by simp [kf, fol]⟩, Or.inl ⟨rfl, rfl⟩, ho⟩
    · intro M2 m b ⟨hm, hb, ho2⟩
      have hs := (hp.fr ho2 (by decide)).size
      rw [List.take_length] at hm
      refine tr_24_25 (by omega) ⟨fun _ => ?_, fun z => by omega⟩
      have hq5 := kf_lt (k := k) h5
      -- the rounds of joining
      refine pm_lp2 (N := 5) (G := fun y M3 (m : Nat → Nat) => pm_wq d 24 Qr Qx (80, [some (.inr (.inl (4, 78))), none, none, none, some (.inl (y : Int)), none], [], pm_m n kd M3, 0, 0)) (I := fun y M3 m => (∀ x, x < 5 → m x < 32 ∧ M3 79 x = (m x : Int)) ∧ (∀ x, x < 5 → ∀ z, z < 5 → z ∈ fol x (kf k p) → (m x).testBit z = true) ∧ (∀ x, x < 5 → ∀ z, z < 5 → (m x).testBit z = true → Conn (kf k p) x z) ∧ (∀ y', y' < y → ∀ x, x < 5 → ∀ x', x' < 5 → (m x).testBit y' = true → (m x').testBit y' = true → m x = m x') ∧ pm_fr 79 80 M M3) ?_ ?_ 0 M2 m (Nat.zero_le _) ⟨fun x hx => ⟨(hm x hx).1, (hm x hx).2.1⟩, fun x hx z hz hh => ((hm x hx).2.2 z hz).mpr hh, fun x hx z hz hh => Conn.of (((hm x hx).2.2 z hz).mp hh), fun y' hy' => absurd hy' (Nat.not_lt_zero y'), ho2⟩
      · intro M3 m ⟨j1, j2, j3, j4, ho3⟩
        refine tr_24_80 (by omega) ⟨fun _ => h M3 ⟨m, fun x hx => ⟨(j1 x hx).1, (j1 x hx).2, fun y hy => ?_⟩⟩ ho3, fun z => by omega⟩
        cases hb2 : (m x).testBit y with
        | true => exact (cnB_iff.mpr (j3 x hx y hy hb2)).symm
        | false =>
          cases hc : cnB (kf k p) x y with
          | false => rfl
          | true =>
            have hcc := cnB_iff.mp hc (fun a b => a < 5 ∧ b < 5 ∧ (m a).testBit b = true) (fun a b hab => by
              have := fol_lt hq5 hab
              exact ⟨this.1, this.2, j2 a this.1 b this.2 hab⟩) (fun a b c e h1 h2 h3 => ⟨h1.1, h3.2.1, by
              rw [j4 b h1.2.1 a h1.1 c h2.1 h1.2.2 h2.2.2]; exact h3.2.2⟩)
            rw [hcc.2.2] at hb2
            cases hb2
      · intro y M3 m hy ⟨j1, j2, j3, j4, ho3⟩ ih
        have jlt : ∀ x, x < 5 → m x < 32 := fun x hx => (j1 x hx).1
        refine tr_24_80 (by omega) ⟨fun z => by omega, fun _ => ?_⟩
        refine sp_25 (by omega) hy j1 (fun M4 hm4 ho4 => tr_24_92 (by omega) ⟨⟨by omega, by omega⟩, ih M4 (fun x => if (m x).testBit y = true then jn m y 5 else m x) ⟨fun x hx => ⟨?_, hm4 x hx⟩, fun x hx z hz hh => ?_, fun x hx z hz hh => ?_, fun y' hy' x hx x' hx' h1 h2 => ?_, ho3.tr ho4⟩⟩)
        · show (if (m x).testBit y = true then jn m y 5 else m x) < 32
          split
          · exact jn_lt jlt 5 (Nat.le_refl _)
          · exact jlt x hx
        · show (if (m x).testBit y = true then jn m y 5 else m x).testBit z = true
          split
          · next e => exact (jn_bit 5).mpr ⟨x, hx, e, j2 x hx z hz hh⟩
          · exact j2 x hx z hz hh
        · have hh : (if (m x).testBit y = true then jn m y 5 else m x).testBit z = true := hh
          split at hh
          · next e =>
            obtain ⟨u, u1, u2, u3⟩ := (jn_bit 5).mp hh
            exact Conn.di (j3 x hx y hy e) (j3 u u1 y hy u2) (j3 u u1 z hz u3)
          · exact j3 x hx z hz hh
        · show (if (m x).testBit y = true then jn m y 5 else m x) = (if (m x').testBit y = true then jn m y 5 else m x')
          have h1 : (if (m x).testBit y = true then jn m y 5 else m x).testBit y' = true := h1
          have h2 : (if (m x').testBit y = true then jn m y 5 else m x').testBit y' = true := h2
          by_cases e1 : (m x).testBit y = true
          · by_cases e2 : (m x').testBit y = true
            · rw [if_pos e1, if_pos e2]
            · exfalso
              rw [if_pos e1] at h1
              rw [if_neg e2] at h2
              obtain ⟨u, u1, u2, u3⟩ := (jn_bit 5).mp h1
              by_cases ey : y' = y
              · rw [ey] at h2; exact e2 h2
              · have := j4 y' (by omega) u u1 x' hx' u3 h2
                rw [this] at u2
                exact e2 u2
          · by_cases e2 : (m x').testBit y = true
            · exfalso
              rw [if_neg e1] at h1
              rw [if_pos e2] at h2
              obtain ⟨u, u1, u2, u3⟩ := (jn_bit 5).mp h2
              by_cases ey : y' = y
              · rw [ey] at h1; exact e1 h1
              · have := j4 y' (by omega) u u1 x hx u3 h1
                rw [this] at u2
                exact e1 u2
            · rw [if_neg e1] at h1 ⊢
              rw [if_neg e2] at h2 ⊢
              by_cases ey : y' = y
              · rw [ey] at h1; exact absurd h1 e1
              · exact j4 y' (by omega) x hx x' hx' h1 h2
    · intro i M2 m b hi ⟨hm, hb, ho2⟩ ih
      have hp2 := hp.fr ho2 (by decide)
      have hs := hp2.size
      have hv := h5 _ (gd_mem hi)
      refine tr_24_25 (by omega) ⟨fun z => by omega, fun _ => ⟨⟨by omega, by omega, by omega⟩, ?_⟩⟩
      rw [Int.toNat_natCast, hp2.at hi, pm_holds k hk _ hv]
      refine ⟨fun z => ?_, fun z => ⟨⟨by omega, by omega⟩, ?_⟩⟩
      · have hq1 : kf k (p.take (i + 1)) = kf k (p.take i) ++ [p.getD i 0] := by rw [tk_succ hi, kf_snoc, if_pos z]
        rcases hb with ⟨b0, b1⟩ | ⟨l, u, b0, b1, b2⟩
        · refine ⟨fun _ => ⟨⟨by omega, by omega⟩, ih M2 m _ ⟨fun x hx => ⟨(hm x hx).1, (hm x hx).2.1, fun y hy => ?_⟩, Or.inr ⟨[], p.getD i 0, ?_, rfl, hv⟩, ho2⟩⟩, fun z2 => by omega⟩
          · rw [(hm x hx).2.2 y hy, hq1, b0]; simp [fol]
          · rw [hq1, b0]
        · refine ⟨fun z2 => by omega, fun _ => ⟨⟨by omega, by omega⟩, ⟨by omega, by omega⟩, ⟨by omega, by omega⟩, ?_⟩⟩
          rw [b1, Int.toNat_natCast, (hm u b2).2.1, pm_or_small _ (hm u b2).1 _ hv]
          refine ih _ (fun x => if x = u then m u ||| 2 ^ p.getD i 0 else m x) _ ⟨fun x hx => ?_, Or.inr ⟨kf k (p.take i), p.getD i 0, hq1, rfl, hv⟩, ho2.up (by decide) (by decide)⟩
          have hfs : fol x (kf k (p.take (i + 1))) = fol x (kf k (p.take i)) ++ (if u = x then [p.getD i 0] else []) := by rw [hq1, b0, fol_snoc]
          show (if x = u then m u ||| 2 ^ p.getD i 0 else m x) < 32 ∧ _ ∧ ∀ y, y < 5 → ((if x = u then m u ||| 2 ^ p.getD i 0 else m x).testBit y = true ↔ _)
          by_cases e : x = u
          · subst e
            rw [if_pos rfl]
            refine ⟨pm_or_lt _ (hm x hx).1 _ hv, ?_, fun y hy => ?_⟩
            · exact pm_up_eq
            · rw [hfs, if_pos rfl, Nat.testBit_or, Bool.or_eq_true, (hm x hx).2.2 y hy, List.mem_append, List.mem_singleton, Nat.testBit_two_pow, decide_eq_true_eq]
              constructor
              · rintro (a | a); exact Or.inl a; exact Or.inr a.symm
              · rintro (a | a); exact Or.inl a; exact Or.inr a.symm
          · rw [if_neg e]
            refine ⟨(hm x hx).1, ?_, fun y hy => ?_⟩
            · rw [pm_up_ne (Or.inr e)]; exact (hm x hx).2.1
            · rw [hfs, if_neg (fun w => e w.symm), List.append_nil]; exact (hm x hx).2.2 y hy
      · have hq1 : kf k (p.take (i + 1)) = kf k (p.take i) := by rw [tk_succ hi, kf_snoc, if_neg z]
        refine ih M2 m b ⟨fun x hx => ⟨(hm x hx).1, (hm x hx).2.1, fun y hy => ?_⟩, ?_, ho2⟩
        · rw [hq1]; exact (hm x hx).2.2 y hy
        · rw [hq1]; exact hb
  · intro i M1 hi ⟨hz, ho⟩ ih
    refine tr_24_2 (by omega) ⟨fun z => by omega, fun _ => ⟨⟨by omega, by omega⟩, ⟨by omega, by omega⟩, ih _ ⟨fun x hx => ?_, ho.up (by decide) (by decide)⟩⟩⟩
    rw [Int.toNat_natCast]
    by_cases e : x = i
    · subst e; exact pm_up_eq
    · rw [pm_up_ne (Or.inr e)]; exact hz x (by omega)
/-- isLinked -/
theorem sp_26 {q : List Nat} {a b : Nat} (hd : 3 ≤ d) (ha : a < 5) (hb : b < 5) (hL : LK M q) (h : Qr (some (.inl (bI (cnB q a b)))) (pm_m n kd M)) : pm_run d 26 [.inr (.inl (4, 78)), .inl (a : Int), .inl (b : Int)] (pm_m n kd M) Qr Qx := by
  obtain ⟨d, rfl⟩ := pm_ex1 (show 1 ≤ d by omega)
  obtain ⟨m, hm⟩ := hL
  refine tr_26 (by omega) ⟨⟨by omega, by omega⟩, ?_⟩
  rw [Int.toNat_natCast, (hm a ha).2.1, pm_holds _ (hm a ha).1 b hb, (hm a ha).2.2 b hb]
  refine ⟨fun z => ?_, fun z => ?_⟩
  · rw [z] at h; exact h
  · have : cnB q a b = false := by cases hc : cnB q a b; rfl; exact absurd hc z
    rw [this] at h; exact h
/-- isLoose -/
theorem sp_27 {q : List Nat} {t : Nat} (hd : 3 ≤ d) (ht : t < 32) (hL : LK M q) (h : Qr (some (.inl (bI (frB q t)))) (pm_m n kd M)) : pm_run d 27 [.inr (.inl (4, 78)), .inl (t : Int)] (pm_m n kd M) Qr Qx := by
  obtain ⟨d, rfl⟩ := pm_ex1 (show 1 ≤ d by omega)
  obtain ⟨m, hm⟩ := hL
  refine tr_27 (by omega) (pm_lp (α := Unit) (N := 5) (G := fun i _ => pm_wq d 27 Qr Qx (2, [some (.inr (.inl (4, 78))), some (.inl (t : Int)), some (.inl (i : Int))], [], pm_m n kd M, 0, 0)) (I := fun i _ => ∀ x, x < i → ∀ y, y < 5 → ¬ (t.testBit x = true ∧ t.testBit y = true ∧ cnB q x y = true)) ?_ ?_ 0 () (Nat.zero_le _) (fun x hx => absurd hx (Nat.not_lt_zero x)))
  · intro _ hI
    rw [frB_iff.mpr hI] at h
    exact tr_27_2 (by omega) ⟨fun _ => h, fun z => by omega⟩
  · intro i _ hi hI ih
    refine tr_27_2 (by omega) ⟨fun z => by omega, fun _ => ?_⟩
    rw [pm_holds t ht i hi, Int.toNat_natCast, (hm i hi).2.1, and_32 _ (hm i hi).1 t ht]
    refine ⟨fun z => ⟨⟨by omega, by omega⟩, fun z2 => ⟨⟨by omega, by omega⟩, ih () (fun x hx y hy hh => ?_)⟩, fun z2 => ?_⟩, fun z => ⟨⟨by omega, by omega⟩, ih () (fun x hx y hy hh => ?_)⟩⟩
    · by_cases e : x = i
      · subst e
        have h0 : m x &&& t = 0 := by omega
        refine (and_bit _ (hm x hi).1 t ht).mp h0 y hy ⟨?_, hh.2.1⟩
        rw [(hm x hi).2.2 y hy]; exact hh.2.2
      · exact hI x (by omega) y hy hh
    · have : frB q t = false := by
        apply Classical.byContradiction
        intro w
        have hf : frB q t = true := by cases hc : frB q t; exact absurd hc w; rfl
        apply z2
        have : m i &&& t = 0 := (and_bit _ (hm i hi).1 t ht).mpr (fun v hv hh => by
          rw [(hm i hi).2.2 v hv] at hh
          exact frB_iff.mp hf i hi v hv ⟨z, hh.2, hh.1⟩)
        omega
      rw [this] at h
      exact h
    · by_cases e : x = i
      · subst e; exact z hh.1
      · exact hI x (by omega) y hy hh
end RDC

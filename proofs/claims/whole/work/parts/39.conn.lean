/-! CONNECTED SIDES, FREE SETS, REDUCTIONS -/
def Conn (q : List Nat) (x y : Nat) : Prop := ∀ R : Nat → Nat → Prop, (∀ a b, b ∈ fol a q → R a b) → (∀ a b c e, R a b → R c b → R c e → R a e) → R x y
theorem Conn.of {q : List Nat} {x y : Nat} (h : y ∈ fol x q) : Conn q x y := fun R h1 _ => h1 x y h
theorem Conn.di {q : List Nat} {a b c e : Nat} (h1 : Conn q a b) (h2 : Conn q c b) (h3 : Conn q c e) : Conn q a e := fun R k1 k2 => k2 a b c e (h1 R k1 k2) (h2 R k1 k2) (h3 R k1 k2)
noncomputable def cnB (q : List Nat) (x y : Nat) : Bool := @decide (Conn q x y) (Classical.propDecidable _)
theorem cnB_iff {q : List Nat} {x y : Nat} : cnB q x y = true ↔ Conn q x y := by
  unfold cnB
  exact @decide_eq_true_iff _ (Classical.propDecidable _)
/-- a set in which no right side meets a left side -/
noncomputable def frB (q : List Nat) (s : Nat) : Bool := (List.range 5).all fun x => (List.range 5).all fun y => !(s.testBit x && s.testBit y && cnB q x y)
theorem frB_iff {q : List Nat} {s : Nat} : frB q s = true ↔ ∀ x, x < 5 → ∀ y, y < 5 → ¬ (s.testBit x = true ∧ s.testBit y = true ∧ cnB q x y = true) := by
  unfold frB
  simp only [List.all_eq_true, List.mem_range, Bool.not_eq_true', Bool.and_eq_false_iff]
  constructor
  · intro h x hx y hy hh
    have := h x hx y hy
    rw [hh.1, hh.2.1, hh.2.2] at this
    simp at this
  · intro h x hx y hy
    have := h x hx y hy
    cases h1 : s.testBit x with
    | false => exact Or.inl (Or.inl rfl)
    | true =>
      cases h2 : s.testBit y with
      | false => exact Or.inl (Or.inr rfl)
      | true =>
        cases h3 : cnB q x y with
        | false => exact Or.inr rfl
        | true => exact absurd ⟨h1, h2, h3⟩ this
theorem frB_false {q : List Nat} {s x y : Nat} (hx : x < 5) (hy : y < 5) (h1 : s.testBit x = true) (h2 : s.testBit y = true) (h3 : cnB q x y = true) : frB q s = false := by
  cases h : frB q s
  · rfl
  · exact absurd ⟨h1, h2, h3⟩ (frB_iff.mp h x hx y hy)
/-- the pattern with the variables of a set alone -/
def kf (k : Nat) (p : List Nat) : List Nat := p.filter fun v => k.testBit v
theorem kf_snoc {k v : Nat} {p : List Nat} : kf k (p ++ [v]) = if k.testBit v = true then kf k p ++ [v] else kf k p := by
  unfold kf
  rw [List.filter_append, List.filter_cons]
  split
  · rfl
  · simp
theorem fol_lt {v x : Nat} {p : List Nat} (h : ∀ u ∈ p, u < 5) (hx : x ∈ fol v p) : v < 5 ∧ x < 5 := by
  obtain ⟨p1, p2, e⟩ := fol_mem.mp hx
  exact ⟨h v (by rw [e]; simp), h x (by rw [e]; simp)⟩
theorem kf_lt {k : Nat} {p : List Nat} (h : ∀ u ∈ p, u < 5) : ∀ u ∈ kf k p, u < 5 := fun u hu => h u (List.mem_filter.mp hu).1
theorem mem_bit {p : List Nat} (h : ∀ u ∈ p, u < 5) : ∀ i, i ≤ p.length → ∀ v, v < 5 → ((pm_mem (p.take i)).testBit v = true ↔ v ∈ p.take i) := by
  intro i
  induction i with
  | zero => intro _ v _; simp [pm_mem]
  | succ i ih =>
    intro hi v hv
    rw [tk_succ (by omega), pm_mem_snoc, Nat.testBit_or, Bool.or_eq_true, ih (by omega) v hv, List.mem_append, List.mem_singleton, Nat.testBit_two_pow]
    simp only [decide_eq_true_eq]
    constructor
    · rintro (a | a)
      · exact Or.inl a
      · exact Or.inr a.symm
    · rintro (a | a)
      · exact Or.inl a
      · exact Or.inr a.symm
theorem mem_bit' {p : List Nat} (h : ∀ u ∈ p, u < 5) {v : Nat} (hv : v < 5) : (pm_mem p).testBit v = true ↔ v ∈ p := by
  have := mem_bit h p.length (Nat.le_refl _) v hv
  rwa [List.take_length] at this
theorem kf_all {p : List Nat} (h : ∀ u ∈ p, u < 5) : kf (pm_mem p) p = p := by
  unfold kf
  exact List.filter_eq_self.mpr (fun v hv => (mem_bit' h (h v hv)).mpr hv)
/-- sets as numbers below 32 -/
def sb (s k : Nat) : Bool := s &&& k == s
theorem sb_32 : ∀ s, s < 32 → ∀ k, k < 32 → (pm_and (s : Nat) (pm_xor (k : Nat) (-1)) ≠ 0 ↔ sb s k = false) := by decide +kernel
theorem sub_32 : ∀ k, k < 32 → ∀ s, s < 32 → sb s k = true → pm_and (k : Nat) (pm_xor (s : Nat) (-1)) = ((k - s : Nat) : Int) := by decide +kernel
theorem or_32 : ∀ x, x < 32 → ∀ y, y < 32 → pm_or (x : Nat) (y : Nat) = ((x ||| y : Nat) : Int) := by decide +kernel
theorem or_lt32 : ∀ x, x < 32 → ∀ y, y < 32 → (x ||| y) < 32 := by decide +kernel
theorem and_32 : ∀ x, x < 32 → ∀ y, y < 32 → pm_and (x : Nat) (y : Nat) = ((x &&& y : Nat) : Int) := by decide +kernel
theorem shr_32 : ∀ s, s < 32 → ∀ v, v < 5 → (pm_and (pm_shr (s : Nat) (v : Nat)) 1 = 0 ↔ s.testBit v = false) := by decide +kernel
theorem and_bit : ∀ x, x < 32 → ∀ y, y < 32 → (x &&& y = 0 ↔ ∀ v, v < 5 → ¬ (x.testBit v = true ∧ y.testBit v = true)) := by decide +kernel
theorem sb_le {s k : Nat} (h : sb s k = true) : s ≤ k := by
  have : s &&& k = s := beq_iff_eq.mp h
  rw [← this]
  exact Nat.and_le_right
theorem sb_sub0 : ∀ k, k < 32 → ∀ s, s < 32 → ∀ a, a < 32 → ((!sb s k || !sb k a) || (sb (k - s) a && ((a - k) ||| s) == a - (k - s))) = true := by decide +kernel
theorem sb_sub {k s a : Nat} (hk : k < 32) (hs : s < 32) (h1 : sb s k = true) (ha : a < 32) (h2 : sb k a = true) : sb (k - s) a = true ∧ ((a - k) ||| s) = a - (k - s) := by
  have := sb_sub0 k hk s hs a ha
  rw [h1, h2] at this
  simpa using this
theorem sb_dis : ∀ a, a < 32 → ∀ k, k < 32 → sb k a = true → ∀ s, s < 32 → (sb s k = true ↔ (s &&& (a - k) = 0 ∧ sb s a = true)) := by decide +kernel
theorem sq_cmp : ∀ a, a < 32 → ∀ k, k < 32 → sb k a = true → sb (a - k) a = true ∧ a - (a - k) = k := by decide +kernel
theorem sb_bit : ∀ a, a < 32 → ∀ k, k < 32 → sb k a = true → ∀ v, v < 5 → a.testBit v = true → ((a - k).testBit v = !k.testBit v) := by decide +kernel
theorem sb_refl (s : Nat) : sb s s = true := by
  unfold sb
  rw [Nat.and_self]
  exact beq_self_eq_true s
theorem bit_sb : ∀ v, v < 5 → ∀ m, m < 32 → (sb (2 ^ v) m = true ↔ m.testBit v = true) := by decide +kernel
theorem shl_pow : ∀ v, v < 5 → pm_shl 1 (v : Nat) = ((2 ^ v : Nat) : Int) := by decide +kernel
theorem pow_lt : ∀ v, v < 5 → 0 < 2 ^ v ∧ 2 ^ v < 32 := by decide +kernel
/-- a set that is asked for -/
theorem ask_set {x : Int} {m : Nat} (hx : pm_r x) (hm : m < 32) (h : pm_and x (pm_xor (m : Nat) (-1)) = 0) : 0 ≤ x ∧ x < 32 := by
  obtain ⟨h1, h2⟩ := hx
  have key : (Int32.ofInt x &&& Int32.ofInt (pm_xor (m : Nat) (-1))).toBitVec.toNat = 0 := by
    have h3 : (Int32.ofInt x &&& Int32.ofInt (pm_xor (m : Nat) (-1))).toInt = 0 := h
    have h4 : (Int32.ofInt x &&& Int32.ofInt (pm_xor (m : Nat) (-1))).toBitVec.toInt = 0 := h3
    have h5 := BitVec.eq_of_toInt_eq (x := (Int32.ofInt x &&& Int32.ofInt (pm_xor (m : Nat) (-1))).toBitVec) (y := 0#32) (by rw [h4]; rfl)
    rw [h5]
    rfl
  have hb : ∀ m, m < 32 → (Int32.ofInt (pm_xor (m : Nat) (-1))).toBitVec.toNat >>> 5 = 2 ^ 27 - 1 := by decide +kernel
  rw [Int32.toBitVec_and, BitVec.toNat_and] at key
  have k2 := congrArg (· >>> 5) key
  simp only [Nat.zero_shiftRight, Nat.shiftRight_and_distrib] at k2
  rw [hb m hm, Nat.and_two_pow_sub_one_eq_mod] at k2
  have k3 : (Int32.ofInt x).toBitVec.toNat = (x % 4294967296).toNat := by
    show (BitVec.ofInt 32 x).toNat = _
    rw [BitVec.toNat_ofInt]
    rfl
  rw [k3, Nat.shiftRight_eq_div_pow] at k2
  omega
/-- reductions: how many sets are needed at least, and the first of them; none: there is no reduction -/
noncomputable def rdS (p : List Nat) (k : Nat) (F : Nat → Option Nat × Nat) (a : Option Nat × Nat) (s : Nat) : Option Nat × Nat :=
  if sb s k = true ∧ frB (kf k p) s = true then (match (F (k - s)).1 with
    | none => a
    | some c => match a.1 with
      | none => (some (c + 1), s)
      | some m => if c + 1 < m then (some (c + 1), s) else a) else a
noncomputable def rdL (p : List Nat) (k : Nat) (F : Nat → Option Nat × Nat) (i : Nat) : Option Nat × Nat := (List.range i).foldl (fun a s => rdS p k F a (s + 1)) (none, 0)
theorem rdL_succ {p : List Nat} {k : Nat} {F : Nat → Option Nat × Nat} {i : Nat} : rdL p k F (i + 1) = rdS p k F (rdL p k F i) (i + 1) := by
  unfold rdL
  rw [List.range_succ, List.foldl_append]
  rfl
noncomputable def RDf (p : List Nat) : Nat → Nat → Option Nat × Nat
  | 0, _ => (none, 0)
  | f + 1, k => if k = 0 then (some 0, 0) else rdL p k (RDf p f) 31
noncomputable def RD (p : List Nat) (k : Nat) : Option Nat × Nat := RDf p (k + 1) k
theorem rdL_congr {p : List Nat} {k : Nat} {F G : Nat → Option Nat × Nat} (h : ∀ j, j < k → F j = G j) : ∀ i, rdL p k F i = rdL p k G i := by
  intro i
  induction i with
  | zero => rfl
  | succ i ih =>
    rw [rdL_succ, rdL_succ, ih]
    unfold rdS
    by_cases hc : sb (i + 1) k = true ∧ frB (kf k p) (i + 1) = true
    · rw [if_pos hc, if_pos hc, h (k - (i + 1)) (by have := sb_le hc.1; omega)]
    · rw [if_neg hc, if_neg hc]
theorem RDf_eq {p : List Nat} : ∀ f k, k < f → RDf p f k = RD p k := by
  intro f
  induction f using Nat.strongRecOn with
  | _ f ih =>
    intro k hk
    cases f with
    | zero => omega
    | succ f =>
      unfold RD
      by_cases h0 : k = 0
      · rw [RDf, RDf, if_pos h0, if_pos h0]
      · rw [RDf, RDf, if_neg h0, if_neg h0]
        refine rdL_congr (fun j hj => ?_) 31
        rw [ih f (by omega) j (by omega)]
        by_cases e : f = k
        · rw [← e, ih f (by omega) j (by omega)]
        · rw [ih k (by omega) j hj]
theorem RD_zero {p : List Nat} : RD p 0 = (some 0, 0) := by
  unfold RD
  rw [RDf, if_pos rfl]
theorem RD_pos {p : List Nat} {k : Nat} (h : 0 < k) : RD p k = rdL p k (RD p) 31 := by
  unfold RD
  rw [RDf, if_neg (by omega)]
  exact rdL_congr (fun j hj => RDf_eq k j hj) 31
theorem rdS_or {p : List Nat} {k : Nat} {F : Nat → Option Nat × Nat} {a : Option Nat × Nat} {s : Nat} : rdS p k F a s = a ∨ ∃ c, sb s k = true ∧ (F (k - s)).1 = some c ∧ rdS p k F a s = (some (c + 1), s) := by
  unfold rdS
  by_cases hc : sb s k = true ∧ frB (kf k p) s = true
  · rw [if_pos hc]
    cases hF : (F (k - s)).1 with
    | none => exact Or.inl rfl
    | some e =>
      cases ha : a.1 with
      | none => exact Or.inr ⟨e, hc.1, rfl, rfl⟩
      | some m =>
        by_cases hlt : e + 1 < m
        · exact Or.inr ⟨e, hc.1, rfl, if_pos hlt⟩
        · exact Or.inl (if_neg hlt)
  · rw [if_neg hc]; exact Or.inl rfl
/-- what the first set of a reduction is -/
theorem rdL_some {p : List Nat} {k : Nat} {F : Nat → Option Nat × Nat} : ∀ i c, (rdL p k F i).1 = some c → 0 < c ∧ sb (rdL p k F i).2 k = true ∧ 0 < (rdL p k F i).2 ∧ (rdL p k F i).2 ≤ i ∧ (F (k - (rdL p k F i).2)).1 = some (c - 1) := by
  intro i
  induction i with
  | zero => intro c h; cases h
  | succ i ih =>
    intro c h
    rw [rdL_succ] at h ⊢
    rcases @rdS_or p k F (rdL p k F i) (i + 1) with e | ⟨c2, e1, e2, e3⟩
    · rw [e] at h ⊢
      obtain ⟨b1, b2, b3, b4, b5⟩ := ih c h
      exact ⟨b1, b2, b3, by omega, b5⟩
    · rw [e3] at h ⊢
      cases h
      exact ⟨by omega, e1, by simp, by simp, e2⟩
theorem RD_some {p : List Nat} {k c : Nat} (h : (RD p k).1 = some (c + 1)) : 0 < k ∧ sb (RD p k).2 k = true ∧ 0 < (RD p k).2 ∧ (RD p k).2 < 32 ∧ (RD p (k - (RD p k).2)).1 = some c := by
  have hk : 0 < k := by
    apply Classical.byContradiction
    intro w
    have : k = 0 := by omega
    rw [this, RD_zero] at h
    cases h
  rw [RD_pos hk] at h
  have := rdL_some 31 _ h
  rw [← RD_pos hk] at this
  exact ⟨hk, this.2.1, this.2.2.1, by omega, this.2.2.2.2⟩
theorem RD_le {p : List Nat} : ∀ k c, (RD p k).1 = some c → c ≤ k := by
  intro k
  induction k using Nat.strongRecOn with
  | _ k ih =>
    intro c h
    cases c with
    | zero => omega
    | succ c =>
      obtain ⟨h1, h2, h3, h4, h5⟩ := RD_some h
      have hle := sb_le h2
      have := ih _ (by omega) c h5
      omega

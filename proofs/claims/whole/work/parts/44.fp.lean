/-! DOUBLES: what is finite stays so, and nothing that arises is NaN -/
def fpN (b E T : Nat) : Nat := (b * 2048 + E) * 4503599627370496 + T
theorem fp_asm (s : Bool) (E T : Nat) : FP.Core.assemble FP.Core.b64 s E T = fpN s.toNat E T := rfl
theorem fp_fT (m : Nat) : FP.Core.fieldT FP.Core.b64 m = m % 4503599627370496 := rfl
theorem fp_fE (m : Nat) : FP.Core.fieldE FP.Core.b64 m = m / 4503599627370496 % 2048 := rfl
theorem fp_qmin : FP.Core.b64.qmin = -1074 := rfl
theorem fp_qmax : FP.Core.b64.qmax = 971 := rfl
theorem fp_tails : FP.Core.b64.tails = 4503599627370496 := rfl
theorem fp_exps : FP.Core.b64.exps = 2048 := rfl
theorem fp_bool (s : Bool) : s.toNat ≤ 1 := by cases s <;> decide
/-- a number of the second power n at most -/
def fpB (n : Int) (x : UInt64) : Prop := ∃ s c q, FP.Core.decode FP.Core.b64 x.toNat = .fin s c q ∧ c < 9007199254740992 ∧ q ≤ n
theorem fpB.mono {n n' : Int} {x : UInt64} (h : fpB n x) (hn : n ≤ n') : fpB n' x := by
  obtain ⟨s, c, q, h1, h2, h3⟩ := h
  exact ⟨s, c, q, h1, h2, by omega⟩
theorem fp_dec {b E T : Nat} (hb : b ≤ 1) (hE : E < 2047) (hT : T < 4503599627370496) : ∃ s, FP.Core.decode FP.Core.b64 (fpN b E T) = if E = 0 then .fin s T (-1074) else .fin s (4503599627370496 + T) (-1074 + ((E : Int) - 1)) := by
  have h1 : FP.Core.fieldE FP.Core.b64 (fpN b E T) = E := by rw [fp_fE]; unfold fpN; omega
  have h2 : FP.Core.fieldT FP.Core.b64 (fpN b E T) = T := by rw [fp_fT]; unfold fpN; omega
  refine ⟨FP.Core.fieldS FP.Core.b64 (fpN b E T), ?_⟩
  unfold FP.Core.decode
  rw [h1, h2, fp_exps, fp_qmin, fp_tails, if_neg (by omega)]
theorem fp_enc {s : Bool} {c : Nat} {q : Int} (hc : c < 9007199254740992) (h1 : -1074 ≤ q) (h2 : q ≤ 971) : ∃ E T, E < 2047 ∧ T < 4503599627370496 ∧ FP.Core.encode FP.Core.b64 (.fin s c q) = fpN s.toNat E T ∧ ((E = 0 ∧ T = c) ∨ (E = (q + 1074).toNat + 1 ∧ c = 4503599627370496 + T)) := by
  show ∃ E T, E < 2047 ∧ T < 4503599627370496 ∧ (if c < 4503599627370496 then FP.Core.assemble FP.Core.b64 s 0 c else FP.Core.assemble FP.Core.b64 s ((q - (-1074)).toNat + 1) (c - 4503599627370496)) = fpN s.toNat E T ∧ _
  by_cases h : c < 4503599627370496
  · refine ⟨0, c, by decide, h, ?_, Or.inl ⟨rfl, rfl⟩⟩
    rw [if_pos h, fp_asm]
  · refine ⟨(q + 1074).toNat + 1, c - 4503599627370496, by omega, by omega, ?_, Or.inr ⟨rfl, by omega⟩⟩
    rw [if_neg h, fp_asm, show q - (-1074) = q + 1074 by omega]
theorem fp_toNat {b E T : Nat} (hb : b ≤ 1) (hE : E < 2048) (hT : T < 4503599627370496) : (UInt64.ofNat (fpN b E T)).toNat = fpN b E T := by
  rw [UInt64.toNat_ofNat']
  apply Nat.mod_eq_of_lt
  unfold fpN
  omega
theorem fp_back {s : Bool} {c : Nat} {q n : Int} (hc : c < 9007199254740992) (h1 : -1074 ≤ q) (h2 : q ≤ 971) (hn : q ≤ n) : fpB n (UInt64.ofNat (FP.Core.encode FP.Core.b64 (.fin s c q))) := by
  obtain ⟨E, T, hE, hT, he, hh⟩ := fp_enc (s := s) hc h1 h2
  obtain ⟨s', hd⟩ := fp_dec (fp_bool s) hE hT
  unfold fpB
  rw [he, fp_toNat (fp_bool s) (by omega) hT, hd]
  rcases hh with ⟨e0, e1⟩ | ⟨e0, e1⟩
  · rw [if_pos e0]
    exact ⟨s', T, -1074, rfl, by omega, by omega⟩
  · rw [if_neg (by omega)]
    exact ⟨s', 4503599627370496 + T, -1074 + ((E : Int) - 1), rfl, by omega, by omega⟩
theorem fp_vfN {x : UInt64} (h : x.toNat % 9223372036854775808 ≤ 9218868437227405312) : vf_n64 x := by
  unfold vf_n64
  rw [UInt64.le_iff_toNat_le, UInt64.toNat_and]
  show x.toNat &&& (2 ^ 63 - 1) ≤ 9218868437227405312
  rw [Nat.and_two_pow_sub_one_eq_mod]
  exact h
theorem fpB.vf {n : Int} {x : UInt64} (h : fpB n x) : vf_n64 x := by
  obtain ⟨s, c, q, h1, -, -⟩ := h
  apply fp_vfN
  unfold FP.Core.decode at h1
  rw [fp_exps, fp_fE] at h1
  by_cases hE : x.toNat / 4503599627370496 % 2048 = 2048 - 1
  · rw [if_pos hE] at h1
    split at h1 <;> cases h1
  · omega
/-- rounding -/
theorem fp_settle {s : Bool} {c : Nat} {q n : Int} (h1 : -1074 ≤ q) (hn : q + 1 ≤ n) (hn2 : n ≤ 971) : ∃ c' q', FP.Core.settle FP.Core.b64 s c q = .fin s c' q' ∧ c' < 9007199254740992 ∧ -1074 ≤ q' ∧ q' ≤ n := by
  show ∃ c' q', (if c < 9007199254740992 then (if q ≤ 971 then FP.Core.Datum.fin s c q else .inf s) else (if q + 1 ≤ 971 then FP.Core.Datum.fin s 4503599627370496 (q + 1) else .inf s)) = .fin s c' q' ∧ _
  by_cases hc : c < 9007199254740992
  · rw [if_pos hc, if_pos (by omega)]
    exact ⟨c, q, rfl, hc, h1, by omega⟩
  · rw [if_neg hc, if_pos (by omega)]
    exact ⟨_, q + 1, rfl, by decide, by omega, by omega⟩
theorem fp_lead {num : Nat} (hn : num ≠ 0) {k : Nat} (hk : num < 2 ^ k) : FP.Core.leading num 1 ≤ (k : Int) - 1 := by
  have h1 : num.log2 < k := (Nat.log2_lt hn).mpr hk
  have h2 : Nat.log2 1 = 0 := by decide
  unfold FP.Core.leading
  simp only [h2]
  split <;> omega
theorem fp_round {s : Bool} {num k : Nat} {e n : Int} (hk : num < 2 ^ k) (h1 : (k : Int) + e - 52 ≤ n) (h2 : -1073 ≤ n) (h3 : n ≤ 971) : ∃ c q, FP.Core.round FP.Core.b64 (.fin s num e) = .fin s c q ∧ c < 9007199254740992 ∧ -1074 ≤ q ∧ q ≤ n := by
  show ∃ c q, FP.Core.roundRatio FP.Core.b64 s num 1 e = .fin s c q ∧ _
  unfold FP.Core.roundRatio
  by_cases h0 : num = 0
  · rw [if_pos h0]
    exact ⟨0, -1074, rfl, by decide, by decide, by omega⟩
  · rw [if_neg h0]
    have hl := fp_lead h0 hk
    unfold FP.Core.roundAt
    have hq : FP.Core.quantum FP.Core.b64 num 1 e = max (-1074) (FP.Core.leading num 1 + e - 52) := rfl
    rw [hq]
    exact fp_settle (by omega) (by omega) h3
theorem fp_ofRound {s : Bool} {num k : Nat} {e n : Int} (hk : num < 2 ^ k) (h1 : (k : Int) + e - 52 ≤ n) (h2 : -1073 ≤ n) (h3 : n ≤ 971) : fpB n (UInt64.ofNat (FP.Core.encode FP.Core.b64 (FP.Core.round FP.Core.b64 (.fin s num e)))) := by
  obtain ⟨c, q, he, a1, a2, a3⟩ := fp_round (s := s) hk h1 h2 h3
  rw [he]
  exact fp_back a1 a2 (by omega) a3
theorem fp_dmul {a b : UInt64} {n m k : Int} (ha : fpB n a) (hb : fpB m b) (h1 : n + m + 54 ≤ k) (h2 : -1073 ≤ k) (h3 : k ≤ 971) : fpB k (FP.dmul a b) := by
  obtain ⟨s, c, q, e1, e2, e3⟩ := ha
  obtain ⟨t, d, r, f1, f2, f3⟩ := hb
  show fpB k (UInt64.ofNat (FP.Core.encode FP.Core.b64 (FP.Core.round FP.Core.b64 (FP.Core.exactProduct (FP.Core.decode FP.Core.b64 a.toNat) (FP.Core.decode FP.Core.b64 b.toNat)))))
  rw [e1, f1]
  have hlt : c * d < 2 ^ 106 := Nat.lt_of_lt_of_le (Nat.mul_lt_mul'' e2 f2) (by decide)
  exact fp_ofRound (s := (s != t)) (num := c * d) (e := q + r) hlt (by omega) h2 h3
theorem fp_signed {s t : Bool} {A B : Nat} : (FP.Core.signed s A + FP.Core.signed t B).natAbs ≤ A + B := by
  unfold FP.Core.signed
  cases s <;> cases t <;> simp <;> omega
theorem fp_dadd {a b : UInt64} {n k : Int} (ha : fpB n a) (hb : fpB n b) (h1 : n + 2 ≤ k) (h2 : -1073 ≤ k) (h3 : k ≤ 971) : fpB k (FP.dadd a b) := by
  obtain ⟨s, c, q, e1, e2, e3⟩ := ha
  obtain ⟨t, d, r, f1, f2, f3⟩ := hb
  show fpB k (UInt64.ofNat (FP.Core.encode FP.Core.b64 (FP.Core.round FP.Core.b64 (FP.Core.exactSum (FP.Core.decode FP.Core.b64 a.toNat) (FP.Core.decode FP.Core.b64 b.toNat)))))
  rw [e1, f1]
  show fpB k (UInt64.ofNat (FP.Core.encode FP.Core.b64 (FP.Core.round FP.Core.b64 (.fin _ (FP.Core.signed s (c * 2 ^ (q - min q r).toNat) + FP.Core.signed t (d * 2 ^ (r - min q r).toNat)).natAbs (min q r)))))
  have hA : c * 2 ^ (q - min q r).toNat < 2 ^ (53 + (max q r - min q r).toNat) := by
    rw [Nat.pow_add]
    exact Nat.lt_of_lt_of_le (Nat.mul_lt_mul_of_pos_right e2 (Nat.two_pow_pos _)) (Nat.mul_le_mul_left _ (Nat.pow_le_pow_right (by decide) (by omega)))
  have hB : d * 2 ^ (r - min q r).toNat < 2 ^ (53 + (max q r - min q r).toNat) := by
    rw [Nat.pow_add]
    exact Nat.lt_of_lt_of_le (Nat.mul_lt_mul_of_pos_right f2 (Nat.two_pow_pos _)) (Nat.mul_le_mul_left _ (Nat.pow_le_pow_right (by decide) (by omega)))
  have hS := @fp_signed s t (c * 2 ^ (q - min q r).toNat) (d * 2 ^ (r - min q r).toNat)
  refine fp_ofRound (k := 54 + (max q r - min q r).toNat) ?_ (by omega) h2 h3
  have : 2 ^ (54 + (max q r - min q r).toNat) = 2 ^ (53 + (max q r - min q r).toNat) + 2 ^ (53 + (max q r - min q r).toNat) := by
    rw [show 54 + (max q r - min q r).toNat = (53 + (max q r - min q r).toNat) + 1 by omega, Nat.pow_succ, Nat.mul_two]
  rw [this]
  exact Nat.lt_of_le_of_lt hS (Nat.add_lt_add hA hB)
theorem fp_i2d (a : Int32) : fpB (-20) (FP.i2d a) := by
  show fpB (-20) (UInt64.ofNat (FP.Core.encode FP.Core.b64 (FP.Core.round FP.Core.b64 (.fin (decide (a.toInt < 0)) a.toInt.natAbs 0))))
  have h1 := a.toInt_lt
  have h2 := a.le_toInt
  exact fp_ofRound (k := 32) (by omega) (by decide) (by decide) (by decide)
theorem fp_small : ∀ v, v < 4 → fpB (-51) (FP.i2d (Int32.ofInt (v : Nat))) := by
  intro v hv
  have h : ∀ v, v < 4 → (match FP.Core.decode FP.Core.b64 (FP.i2d (Int32.ofInt (v : Nat))).toNat with | .fin _ c q => decide (c < 9007199254740992 ∧ q ≤ -51) | _ => false) = true := by decide +kernel
  have h2 := h v hv
  unfold fpB
  generalize FP.Core.decode FP.Core.b64 (FP.i2d (Int32.ofInt (v : Nat))).toNat = D at h2 ⊢
  cases D with
  | nan => cases h2
  | inf s => cases h2
  | fin s c q => exact ⟨s, c, q, rfl, (of_decide_eq_true h2).1, (of_decide_eq_true h2).2⟩
theorem fp_one : fpB (-52) (UInt64.ofNat 4607182418800017408) := ⟨false, 4503599627370496, -52, by decide +kernel, by decide, by decide⟩
theorem fp_zero : fpB (-1074) (UInt64.ofNat 0) := ⟨false, 0, -1074, by decide +kernel, by decide, by decide⟩
theorem fp_eighth : fpB (-55) (UInt64.ofNat 4593671619917905920) := ⟨false, 4503599627370496, -55, by decide +kernel, by decide, by decide⟩
/-- what isn't NaN is like itself -/
theorem fp_self {x : UInt64} (h : vf_n64 x) : FP.dcmp x x = some .eq := by
  have hx : x.toNat % 9223372036854775808 ≤ 9218868437227405312 := by
    unfold vf_n64 at h
    rw [UInt64.le_iff_toNat_le, UInt64.toNat_and] at h
    have h : x.toNat &&& (2 ^ 63 - 1) ≤ 9218868437227405312 := h
    rw [Nat.and_two_pow_sub_one_eq_mod] at h
    exact h
  show FP.Core.order (FP.Core.decode FP.Core.b64 x.toNat) (FP.Core.decode FP.Core.b64 x.toNat) = some .eq
  have hn : FP.Core.decode FP.Core.b64 x.toNat ≠ .nan := by
    unfold FP.Core.decode
    rw [fp_fE, fp_fT, fp_exps]
    split
    · next hE =>
      rw [if_pos (by omega)]
      intro z; cases z
    · split <;> (intro z; cases z)
  cases hd : FP.Core.decode FP.Core.b64 x.toNat with
  | nan => exact absurd hd hn
  | inf s => show some (compare (FP.Core.signed s 1) (FP.Core.signed s 1)) = some .eq; cases s <;> rfl
  | fin s c q =>
    show some (compare (FP.Core.signed s (FP.Core.inUnits c q (min q q))) (FP.Core.signed s (FP.Core.inUnits c q (min q q)))) = some .eq
    congr 1
    generalize FP.Core.signed s (FP.Core.inUnits c q (min q q)) = A
    show compareOfLessAndEq A A = .eq
    unfold compareOfLessAndEq
    rw [if_neg (Int.lt_irrefl _), if_pos rfl]
/-- quotients of whole numbers -/
theorem fp_ddiv {a b : UInt64} {n m : Int} (ha : fpB n a) (hb : fpB m b) (hz : ∀ s q, FP.Core.decode FP.Core.b64 b.toNat ≠ .fin s 0 q) : vf_n64 (FP.ddiv a b) := by
  obtain ⟨s, c, q, e1, e2, e3⟩ := ha
  obtain ⟨t, d, r, f1, f2, f3⟩ := hb
  have hd : d ≠ 0 := fun z => hz t r (by rw [f1, z])
  show vf_n64 (UInt64.ofNat (FP.Core.encode FP.Core.b64 (FP.Core.quotient FP.Core.b64 (FP.Core.decode FP.Core.b64 a.toNat) (FP.Core.decode FP.Core.b64 b.toNat))))
  rw [e1, f1]
  show vf_n64 (UInt64.ofNat (FP.Core.encode FP.Core.b64 (if d = 0 then (if c = 0 then .nan else .inf (s != t)) else FP.Core.roundRatio FP.Core.b64 (s != t) c d (q - r))))
  rw [if_neg hd]
  generalize hu : (s != t) = u
  have hinf : vf_n64 (UInt64.ofNat (FP.Core.encode FP.Core.b64 (.inf u))) := by
    apply fp_vfN
    show (UInt64.ofNat (fpN u.toNat 2047 0)).toNat % 9223372036854775808 ≤ 9218868437227405312
    have := fp_bool u
    rw [fp_toNat this (by decide) (by decide)]
    unfold fpN
    omega
  have hfin : ∀ c' q', c' < 9007199254740992 → -1074 ≤ q' → q' ≤ 971 → vf_n64 (UInt64.ofNat (FP.Core.encode FP.Core.b64 (.fin u c' q'))) := fun c' q' h1 h2 h3 => (fp_back (n := 971) h1 h2 h3 h3).vf
  unfold FP.Core.roundRatio
  split
  · rw [fp_qmin]
    exact hfin 0 (-1074) (by decide) (by decide) (by decide)
  · unfold FP.Core.roundAt
    have hq : -1074 ≤ FP.Core.quantum FP.Core.b64 c d (q - r) := by
      show -1074 ≤ max (-1074) (FP.Core.leading c d + (q - r) - 52)
      omega
    generalize FP.Core.quantum FP.Core.b64 c d (q - r) = q0 at hq
    generalize FP.Core.nearest (FP.Core.unitsNum c (q - r) q0) (FP.Core.unitsDen d (q - r) q0) = c0
    show vf_n64 (UInt64.ofNat (FP.Core.encode FP.Core.b64 (if c0 < 9007199254740992 then (if q0 ≤ 971 then FP.Core.Datum.fin u c0 q0 else .inf u) else (if q0 + 1 ≤ 971 then FP.Core.Datum.fin u 4503599627370496 (q0 + 1) else .inf u))))
    split
    · next hc =>
      split
      · exact hfin c0 q0 hc hq (by assumption)
      · exact hinf
    · split
      · exact hfin _ _ (by decide) (by omega) (by assumption)
      · exact hinf
theorem fp_pos : ∀ v, v < 2000 → v ≠ 0 → ∀ s q, FP.Core.decode FP.Core.b64 (FP.i2d (Int32.ofInt (v : Nat))).toNat ≠ .fin s 0 q := by
  have h : ∀ v, v < 2000 → v ≠ 0 → (match FP.Core.decode FP.Core.b64 (FP.i2d (Int32.ofInt (v : Nat))).toNat with | .fin _ c _ => decide (c ≠ 0) | _ => false) = true := by decide +kernel
  intro v hv h0 s q he
  have := h v hv h0
  rw [he] at this
  cases this
theorem fp_quot {a b : Nat} (hb : b < 2000) (hb0 : b ≠ 0) : vf_n64 (FP.ddiv (FP.i2d (Int32.ofInt (a : Nat))) (FP.i2d (Int32.ofInt (b : Nat)))) := fp_ddiv (fp_i2d _) (fp_i2d _) (fp_pos b hb hb0)
/-- densities -/
theorem fp_dens : ∀ b, b < 25 → b ≠ 0 → ∀ a, a < 25 → vf_n32 (FP.fdiv (FP.i2f (Int32.ofInt (a : Nat))) (FP.i2f (Int32.ofInt (b : Nat)))) ∧ vf_n64 (FP.f2d (FP.fdiv (FP.i2f (Int32.ofInt (a : Nat))) (FP.i2f (Int32.ofInt (b : Nat))))) := by
  unfold vf_n32 vf_n64
  decide +kernel

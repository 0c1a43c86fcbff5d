/-! THE STRONGEST FACTOR, densities, sums -/
/-- the best of a row of fractions, the first among equals -/
def bst (f : Nat → Nat × Nat) (i : Nat) (b : Nat × Nat × Nat) : Nat → Nat × Nat × Nat
  | 0 => b
  | c + 1 => if (bst f i b c).2.1 * (f (c + 1)).2 < (f (c + 1)).1 * (bst f i b c).2.2 then (i, f (c + 1)) else bst f i b c
theorem mul_cancel {a b k : Nat} (h : a * k < b * k) : a < b := Nat.lt_of_mul_lt_mul_right h
/-- x / p ≤ l / q and l / q < y / d give x / p < y / d -/
theorem frac_lt {x p l q y d : Nat} (hq : 0 < q) (hp : 0 < p) (h1 : x * q ≤ l * p) (h2 : l * d < y * q) : x * d < y * p := by
  apply mul_cancel (k := q)
  calc x * d * q = x * q * d := Nat.mul_right_comm _ _ _
    _ ≤ l * p * d := Nat.mul_le_mul_right _ h1
    _ = l * d * p := Nat.mul_right_comm _ _ _
    _ < y * q * p := Nat.mul_lt_mul_of_pos_right h2 hp
    _ = y * p * q := Nat.mul_right_comm _ _ _
theorem bst_pos {f : Nat → Nat × Nat} {i : Nat} {b : Nat × Nat × Nat} (hb : 0 < b.2.2) : ∀ c, (∀ j, 1 ≤ j → j ≤ c → 0 < (f j).2) → 0 < (bst f i b c).2.2
  | 0, _ => hb
  | c + 1, h => by
    rw [bst]
    split
    · exact h (c + 1) (by omega) (Nat.le_refl _)
    · exact bst_pos hb c (fun j h1 h2 => h j h1 (by omega))
theorem bst_spec {f : Nat → Nat × Nat} {i : Nat} {b : Nat × Nat × Nat} (hb : 0 < b.2.2) : ∀ c, (∀ j, 1 ≤ j → j ≤ c → 0 < (f j).2) →
    (∀ j, 1 ≤ j → j ≤ c → (f j).1 * (bst f i b c).2.2 ≤ (bst f i b c).2.1 * (f j).2) ∧ (bst f i b c = b ∨ ∃ j, 1 ≤ j ∧ j ≤ c ∧ bst f i b c = (i, f j) ∧ b.2.1 * (f j).2 < (f j).1 * b.2.2 ∧ ∀ j', 1 ≤ j' → j' < j → (f j').1 * (f j).2 < (f j).1 * (f j').2)
  | 0, _ => ⟨fun j h1 h2 => by omega, Or.inl rfl⟩
  | c + 1, h => by
    have hc := fun j h1 h2 => h j h1 (Nat.le_succ_of_le h2)
    obtain ⟨s1, s2⟩ := bst_spec (i := i) hb c hc
    have hp := bst_pos (i := i) hb c hc
    have hd := h (c + 1) (by omega) (Nat.le_refl _)
    rw [bst]
    split
    · next hlt =>
      have key : ∀ j', 1 ≤ j' → j' < c + 1 → (f j').1 * (f (c + 1)).2 < (f (c + 1)).1 * (f j').2 := fun j' a1 a2 => frac_lt hp (h j' a1 (by omega)) (s1 j' a1 (by omega)) hlt
      refine ⟨fun j a1 a2 => ?_, Or.inr ⟨c + 1, by omega, Nat.le_refl _, rfl, ?_, key⟩⟩
      · show (f j).1 * (f (c + 1)).2 ≤ (f (c + 1)).1 * (f j).2
        by_cases e : j = c + 1
        · rw [e]; exact Nat.le_refl _
        · exact Nat.le_of_lt (key j a1 (by omega))
      · rcases s2 with e | ⟨j, a1, a2, a3, a4, -⟩
        · rw [e] at hlt; exact hlt
        · rw [a3] at hlt
          have hlt : (f j).1 * (f (c + 1)).2 < (f (c + 1)).1 * (f j).2 := hlt
          exact frac_lt (hc j a1 a2) hb (Nat.le_of_lt a4) hlt
    · next hge =>
      refine ⟨fun j a1 a2 => ?_, ?_⟩
      · by_cases e : j = c + 1
        · rw [e]; omega
        · exact s1 j a1 (by omega)
      · rcases s2 with e | ⟨j, a1, a2, a3⟩
        · exact Or.inl e
        · exact Or.inr ⟨j, a1, by omega, a3⟩
/-- two rows of fractions with the same best -/
theorem bst_same {L P : Nat → Nat} {i N : Nat} {b : Nat × Nat × Nat} (hb : 0 < b.2.2) (h1 : ∀ d, 1 ≤ d → d ≤ N → d ≤ L d ∧ L d ≤ N ∧ P (L d) ≤ d) (h2 : ∀ l, 1 ≤ l → l ≤ N → 1 ≤ P l ∧ P l ≤ l ∧ l ≤ L (P l)) : bst (fun d => (L d, d)) i b N = bst (fun l => (l, P l)) i b N := by
  obtain ⟨a1, a2⟩ := bst_spec (f := fun d => (L d, d)) (i := i) hb N (fun j h _ => h)
  obtain ⟨c1, c2⟩ := bst_spec (f := fun l => (l, P l)) (i := i) hb N (fun j x y => (h2 j x y).1)
  rcases a2 with e | ⟨d, x1, x2, e, x3, x4⟩
  · rcases c2 with e' | ⟨l, y1, y2, e', y3, y4⟩
    · rw [e, e']
    · exfalso
      obtain ⟨p1, p2, p3⟩ := h2 l y1 y2
      have q := a1 (P l) p1 (by omega)
      rw [e] at q
      have q : L (P l) * b.2.2 ≤ b.2.1 * P l := q
      have y3 : b.2.1 * P l < l * b.2.2 := y3
      have : l * b.2.2 ≤ L (P l) * b.2.2 := Nat.mul_le_mul_right _ p3
      omega
  · obtain ⟨p1, p2, p3⟩ := h1 d x1 x2
    have x3 : b.2.1 * d < L d * b.2.2 := x3
    rcases c2 with e' | ⟨l, y1, y2, e', y3, y4⟩
    · exfalso
      have q := c1 (L d) (by omega) p2
      rw [e'] at q
      have q : L d * b.2.2 ≤ b.2.1 * P (L d) := q
      have : b.2.1 * P (L d) ≤ b.2.1 * d := Nat.mul_le_mul_left _ p3
      omega
    · obtain ⟨r1, r2, r3⟩ := h2 l y1 y2
      have q1 := a1 (P l) r1 (by omega)
      rw [e] at q1
      have q1 : L (P l) * d ≤ L d * P l := q1
      have q2 := c1 (L d) (by omega) p2
      rw [e'] at q2
      have q2 : L d * P l ≤ l * P (L d) := q2
      have q3 : l * P (L d) ≤ l * d := Nat.mul_le_mul_left _ p3
      have q4 : l * d ≤ L (P l) * d := Nat.mul_le_mul_right _ r3
      have e1 : l * d = L d * P l := by omega
      have e2 : l * P (L d) = l * d := by omega
      have e3 : P (L d) = d := Nat.eq_of_mul_eq_mul_left (by omega) e2
      have hpd : P l = d := by
        rcases Nat.lt_trichotomy (P l) d with hlt | heq | hgt
        · have x4 : L (P l) * d < L d * P l := x4 (P l) r1 hlt
          omega
        · exact heq
        · exfalso
          have hl : L d < l := by
            apply Classical.byContradiction
            intro hh
            have : l * d < L d * P l := Nat.lt_of_le_of_lt (Nat.mul_le_mul_right _ (by omega)) (Nat.mul_lt_mul_of_pos_left hgt (by omega))
            omega
          have y4 : L d * P l < l * P (L d) := y4 (L d) (by omega) hl
          omega
      have hld : l = L d := by
        rw [hpd] at e1
        exact Nat.eq_of_mul_eq_mul_right (by omega) e1
      rw [e, e']
      show (i, L d, d) = (i, l, P l)
      rw [hpd, hld]
/-- how far a word goes on with a period -/
def enx (w : List Nat) (d : Nat) : Nat → Nat → Nat
  | 0, e => e
  | c + 1, e => if w.getD e 0 = w.getD (e - d) 0 then enx w d c (e + 1) else e
theorem enx_spec {w : List Nat} {d : Nat} : ∀ c e, e ≤ enx w d c e ∧ enx w d c e ≤ e + c ∧ (∀ k, e ≤ k → k < enx w d c e → w.getD k 0 = w.getD (k - d) 0) ∧ (enx w d c e < e + c → w.getD (enx w d c e) 0 ≠ w.getD (enx w d c e - d) 0)
  | 0, e => ⟨Nat.le_refl _, Nat.le_refl _, fun k a b => by rw [enx] at b; omega, fun h => by rw [enx] at h; omega⟩
  | c + 1, e => by
    rw [enx]
    split
    · next h =>
      obtain ⟨a1, a2, a3, a4⟩ := enx_spec (w := w) (d := d) c (e + 1)
      refine ⟨by omega, by omega, fun k b1 b2 => ?_, fun b => a4 (by omega)⟩
      by_cases ek : k = e
      · rw [ek]; exact h
      · exact a3 k (by omega) b2
    · next h => exact ⟨Nat.le_refl _, by omega, fun k b1 b2 => by omega, fun _ => h⟩
def Lx (w : List Nat) (i d : Nat) : Nat := enx w d (w.length - (i + d)) (i + d) - i
/-- whether p is a period of the factor of length l at i -/
def isp (w : List Nat) (i l p : Nat) : Bool := (List.range l).all fun k => decide (k + p < l → w.getD (i + k) 0 = w.getD (i + k + p) 0)
theorem isp_iff {w : List Nat} {i l p : Nat} : isp w i l p = true ↔ ∀ k, k + p < l → w.getD (i + k) 0 = w.getD (i + k + p) 0 := by
  unfold isp
  rw [List.all_eq_true]
  constructor
  · intro h k hk
    exact of_decide_eq_true (h k (List.mem_range.mpr (by omega))) hk
  · intro h k _
    exact decide_eq_true (h k)
def prx (w : List Nat) (i l : Nat) : Nat → Nat → Nat
  | 0, p => p
  | c + 1, p => if isp w i l p = true then p else prx w i l c (p + 1)
theorem prx_spec {w : List Nat} {i l : Nat} : ∀ c p, p ≤ prx w i l c p ∧ prx w i l c p ≤ p + c ∧ (∀ k, p ≤ k → k < prx w i l c p → isp w i l k = false) ∧ (prx w i l c p < p + c → isp w i l (prx w i l c p) = true)
  | 0, p => ⟨Nat.le_refl _, Nat.le_refl _, fun k a b => by rw [prx] at b; omega, fun h => by rw [prx] at h; omega⟩
  | c + 1, p => by
    rw [prx]
    split
    · next h => exact ⟨Nat.le_refl _, by omega, fun k b1 b2 => by omega, fun _ => h⟩
    · next h =>
      obtain ⟨a1, a2, a3, a4⟩ := prx_spec (w := w) (i := i) (l := l) c (p + 1)
      refine ⟨by omega, by omega, fun k b1 b2 => ?_, fun b => a4 (by omega)⟩
      by_cases ek : k = p
      · rw [ek]; cases hc : isp w i l p; rfl; exact absurd hc h
      · exact a3 k (by omega) b2
/-- the smallest period -/
def Px (w : List Nat) (i l : Nat) : Nat := prx w i l l 1
theorem isp_big {w : List Nat} {i l p : Nat} (h : l ≤ p) : isp w i l p = true := isp_iff.mpr (fun k hk => by omega)
theorem Px_spec {w : List Nat} {i l : Nat} (hl : 1 ≤ l) : 1 ≤ Px w i l ∧ Px w i l ≤ l ∧ isp w i l (Px w i l) = true ∧ ∀ k, 1 ≤ k → isp w i l k = true → Px w i l ≤ k := by
  obtain ⟨a1, a2, a3, a4⟩ := prx_spec (w := w) (i := i) (l := l) l 1
  have key : prx w i l l 1 ≤ l := by
    apply Classical.byContradiction
    intro h
    have := a3 l hl (by omega)
    rw [isp_big (Nat.le_refl _)] at this
    cases this
  refine ⟨a1, key, a4 (by omega), fun k h1 h2 => ?_⟩
  apply Classical.byContradiction
  intro h
  have := a3 k h1 (Nat.lt_of_not_le h)
  rw [h2] at this
  cases this
theorem LP_same {w : List Nat} {i : Nat} (hi : i ≤ w.length) {b : Nat × Nat × Nat} (hb : 0 < b.2.2) : bst (fun d => (Lx w i d, d)) i b (w.length - i) = bst (fun l => (l, Px w i l)) i b (w.length - i) := by
  refine bst_same hb (fun d h1 h2 => ?_) (fun l h1 h2 => ?_)
  · obtain ⟨a1, a2, a3, a4⟩ := enx_spec (w := w) (d := d) (w.length - (i + d)) (i + d)
    have hL : Lx w i d = enx w d (w.length - (i + d)) (i + d) - i := rfl
    refine ⟨by omega, by omega, ?_⟩
    refine (Px_spec (w := w) (i := i) (l := Lx w i d) (by omega)).2.2.2 d h1 (isp_iff.mpr (fun k hk => ?_))
    have := a3 (i + k + d) (by omega) (by omega)
    rw [this, Nat.add_sub_cancel]
  · obtain ⟨p1, p2, p3, -⟩ := Px_spec (w := w) (i := i) h1
    refine ⟨p1, p2, ?_⟩
    obtain ⟨a1, a2, a3, a4⟩ := enx_spec (w := w) (d := Px w i l) (w.length - (i + Px w i l)) (i + Px w i l)
    have hL : Lx w i (Px w i l) = enx w (Px w i l) (w.length - (i + Px w i l)) (i + Px w i l) - i := rfl
    apply Classical.byContradiction
    intro h
    apply a4 (by omega)
    have := isp_iff.mp p3 (enx w (Px w i l) (w.length - (i + Px w i l)) (i + Px w i l) - i - Px w i l) (by omega)
    rw [show i + (enx w (Px w i l) (w.length - (i + Px w i l)) (i + Px w i l) - i - Px w i l) + Px w i l = enx w (Px w i l) (w.length - (i + Px w i l)) (i + Px w i l) by omega, show i + (enx w (Px w i l) (w.length - (i + Px w i l)) (i + Px w i l) - i - Px w i l) = enx w (Px w i l) (w.length - (i + Px w i l)) (i + Px w i l) - Px w i l by omega] at this
    exact this.symm
/-- the strongest factor: start, length, period -/
def STA (w : List Nat) : Nat → Nat × Nat × Nat
  | 0 => (0, 1, 1)
  | i + 1 => bst (fun d => (Lx w i d, d)) i (STA w i) (w.length - i)
def STR (w : List Nat) : Nat × Nat × Nat := STA w w.length
def sb3 (b : Nat × Nat × Nat) : Prop := b.1 ≤ 24 ∧ b.2.1 ≤ 24 ∧ 0 < b.2.2 ∧ b.2.2 ≤ 24
theorem bst_b3 {w : List Nat} (hw : w.length ≤ 24) {i : Nat} {b : Nat × Nat × Nat} (hb : sb3 b) (hi : i ≤ w.length) : ∀ c, c ≤ w.length - i → sb3 (bst (fun d => (Lx w i d, d)) i b c)
  | 0, _ => hb
  | c + 1, h => by
    rw [bst]
    split
    · obtain ⟨a1, a2, a3, a4⟩ := enx_spec (w := w) (d := c + 1) (w.length - (i + (c + 1))) (i + (c + 1))
      have hL : Lx w i (c + 1) = enx w (c + 1) (w.length - (i + (c + 1))) (i + (c + 1)) - i := rfl
      refine ⟨?_, ?_, ?_, ?_⟩
      · show i ≤ 24
        omega
      · show Lx w i (c + 1) ≤ 24
        omega
      · show 0 < c + 1
        omega
      · show c + 1 ≤ 24
        omega
    · exact bst_b3 hw hb hi c (by omega)
theorem bst_b3p {w : List Nat} (hw : w.length ≤ 24) {i : Nat} {b : Nat × Nat × Nat} (hb : sb3 b) (hi : i ≤ w.length) : ∀ c, c ≤ w.length - i → sb3 (bst (fun l => (l, Px w i l)) i b c)
  | 0, _ => hb
  | c + 1, h => by
    rw [bst]
    split
    · obtain ⟨p1, p2, -, -⟩ := Px_spec (w := w) (i := i) (show 1 ≤ c + 1 by omega)
      refine ⟨?_, ?_, ?_, ?_⟩
      · show i ≤ 24
        omega
      · show c + 1 ≤ 24
        omega
      · show 0 < Px w i (c + 1)
        omega
      · show Px w i (c + 1) ≤ 24
        omega
    · exact bst_b3p hw hb hi c (by omega)
theorem STA_b3 {w : List Nat} (hw : w.length ≤ 24) : ∀ i, i ≤ w.length → sb3 (STA w i)
  | 0, _ => (by rw [STA]; unfold sb3; decide)
  | i + 1, h => bst_b3 hw (STA_b3 hw i (by omega)) (by omega) _ (Nat.le_refl _)
def o_strongestFactor (s : stt) (x : Int) : ans := if 0 ≤ x ∧ x ≤ 2 then (if gW s = [] then (.inr 2, s) else (.inl (if x = 0 then ((STR (gW s)).1 : Int) else if x = 1 then ((STR (gW s)).2.1 : Int) else ((STR (gW s)).2.2 : Int)), s)) else (.inr 1, s)
/-- answers that are doubles, floats -/
def o_greatestExponent (s : stt) : UInt64 ⊕ Nat := if gW s = [] then .inr 1 else .inl (FP.ddiv (FP.i2d (Int32.ofInt ((STR (gW s)).2.1 : Nat))) (FP.i2d (Int32.ofInt ((STR (gW s)).2.2 : Nat))))
def o_density (s : stt) (x : Int) : UInt32 ⊕ Nat := if 0 ≤ x ∧ x < gK s then (if gW s = [] then .inr 2 else .inl (FP.fdiv (FP.i2f (Int32.ofInt ((gW s).count x.toNat : Nat))) (FP.i2f (Int32.ofInt ((gW s).length : Nat))))) else .inr 1
/-- sum and weight -/
def dsu (w : List Nat) (f : UInt64) : Nat → UInt64 × UInt64
  | 0 => (UInt64.ofNat 0, UInt64.ofNat 4607182418800017408)
  | i + 1 => (FP.dadd (dsu w f i).1 (FP.dmul (FP.i2d (Int32.ofInt (w.getD i 0 : Nat))) (dsu w f i).2), FP.dmul (dsu w f i).2 f)
def o_discountedSum (s : stt) (f : UInt64) : UInt64 ⊕ Nat := if (Op.cmpValue (FP.dcmp f (UInt64.ofNat 13830554455654793216)) .l).toInt < 0 then .inr 1 else if (Op.cmpValue (FP.dcmp f (UInt64.ofNat 4607182418800017408)) .g).toInt ≤ 0 then .inl (dsu (gW s) f (gW s).length).1 else .inr 1
theorem dsu_B {w : List Nat} {f : UInt64} (hw : ∀ v ∈ w, v < 4) (h24 : w.length ≤ 24) (hf : fpB (-21) f) : ∀ i, i ≤ w.length → fpB (743 + 2 * (i : Int)) (dsu w f i).1 ∧ fpB (-52 + 33 * (i : Int)) (dsu w f i).2
  | 0, _ => ⟨fp_zero.mono (by decide), fp_one.mono (by decide)⟩
  | i + 1, h => by
    obtain ⟨a1, a2⟩ := dsu_B hw h24 hf i (by omega)
    have hp : fpB (743 + 2 * (i : Int)) (FP.dmul (FP.i2d (Int32.ofInt (w.getD i 0 : Nat))) (dsu w f i).2) := fp_dmul (fp_small _ (hw _ (gd_mem (by omega)))) a2 (by omega) (by omega) (by omega)
    refine ⟨?_, ?_⟩
    · exact fp_dadd a1 hp (by omega) (by omega) (by omega)
    · exact fp_dmul a2 hf (by omega) (by omega) (by omega)
theorem dsu_vf {w : List Nat} {f : UInt64} (hw : ∀ v ∈ w, v < 4) (h24 : w.length ≤ 24) (hf : fpB (-21) f) {i : Nat} (hi : i < w.length) : vf_n64 (FP.dmul (FP.i2d (Int32.ofInt (w.getD i 0 : Nat))) (dsu w f i).2) ∧ vf_n64 (dsu w f (i + 1)).1 ∧ vf_n64 (dsu w f (i + 1)).2 := by
  obtain ⟨a1, a2⟩ := dsu_B hw h24 hf i (by omega)
  obtain ⟨b1, b2⟩ := dsu_B hw h24 hf (i + 1) (by omega)
  exact ⟨(fp_dmul (k := 743 + 2 * (i : Int)) (fp_small _ (hw _ (gd_mem hi))) a2 (by omega) (by omega) (by omega)).vf, b1.vf, b2.vf⟩
def LOd (xc : List Nat) (o : UInt64 ⊕ Nat) (s : stt) (n : Nat) (kd : Nat → Nat) (M : Nat → Nat → Int) (Qr : Option pm_V → pm_Me → Prop) (Qx : Nat → pm_Me → Prop) : Prop := ∀ M', Lab M' s → pm_fr 0 97 M M' → match o with
  | .inl v => vf_n64 v → Qr (some (.inr (.inr (.inr (.inr v))))) (pm_m n kd M')
  | .inr c => Qx (xc.getD (c - 1) 9) (pm_m n kd M')
def ROd (o : UInt64 ⊕ Nat) (s : stt) (n : Nat) (kd : Nat → Nat) (M : Nat → Nat → Int) (Qr : Option pm_V → pm_Me → Prop) : Prop := ∀ M', Ref M' s → pm_fr 97 122 M M' → match o with
  | .inl v => vf_n64 v → M' 97 0 = 0 → Qr (some (.inr (.inr (.inr (.inr v))))) (pm_m n kd M')
  | .inr c => M' 97 0 = (c : Int) → Qr (some (.inr (.inr (.inr (.inr (UInt64.ofNat 0)))))) (pm_m n kd M')
def LOf (xc : List Nat) (o : UInt32 ⊕ Nat) (s : stt) (n : Nat) (kd : Nat → Nat) (M : Nat → Nat → Int) (Qr : Option pm_V → pm_Me → Prop) (Qx : Nat → pm_Me → Prop) : Prop := ∀ M', Lab M' s → pm_fr 0 97 M M' → match o with
  | .inl v => vf_n64 (FP.f2d v) → Qr (some (.inr (.inr (.inr (.inl v))))) (pm_m n kd M')
  | .inr c => Qx (xc.getD (c - 1) 9) (pm_m n kd M')
def ROf (o : UInt32 ⊕ Nat) (s : stt) (n : Nat) (kd : Nat → Nat) (M : Nat → Nat → Int) (Qr : Option pm_V → pm_Me → Prop) : Prop := ∀ M', Ref M' s → pm_fr 97 122 M M' → match o with
  | .inl v => vf_n64 (FP.f2d v) → M' 97 0 = 0 → Qr (some (.inr (.inr (.inr (.inl v))))) (pm_m n kd M')
  | .inr c => M' 97 0 = (c : Int) → Qr (some (.inr (.inr (.inr (.inl 0))))) (pm_m n kd M')
section STG
variable {d n : Nat} {kd : Nat → Nat} {M : Nat → Nat → Int} {Qr : Option pm_V → pm_Me → Prop} {Qx : Nat → pm_Me → Prop} {s : stt} {x y : Int}
def st3 (M : Nat → Nat → Int) (q j : Nat) (b : Nat × Nat × Nat) : Prop := M q j = (b.1 : Int) ∧ M q (j + 1) = (b.2.1 : Int) ∧ M q (j + 2) = (b.2.2 : Int)
theorem st3.put {q j : Nat} {a b c : Int} {r : Nat × Nat × Nat} (h1 : a = (r.1 : Int)) (h2 : b = (r.2.1 : Int)) (h3 : c = (r.2.2 : Int)) : st3 (pm_up (pm_up (pm_up M q j a) q (j + 1) b) q (j + 2) c) q j r :=
  ⟨(pm_up_ne (Or.inr (by omega))).trans ((pm_up_ne (Or.inr (by omega))).trans (pm_up_eq.trans h1)), (pm_up_ne (Or.inr (by omega))).trans (pm_up_eq.trans h2), pm_up_eq.trans h3⟩
theorem m24 {a b : Nat} (ha : a ≤ 24) (hb : b ≤ 24) : a * b ≤ 576 := Nat.le_trans (Nat.mul_le_mul ha hb) (by decide)
/-- Repetition.seek -/
theorem sp_34 {w : List Nat} (hd : 3 ≤ d) (hw : pm_row M 4 w) (h : ∀ M', st3 M' 82 0 (STR w) → pm_fr 82 83 M M' → Qr none (pm_m n kd M')) : pm_run d 34 [.inr (.inl (5, 82)), .inr (.inl (6, 4))] (pm_m n kd M) Qr Qx := by
  obtain ⟨d, rfl⟩ := pm_ex1 (show 1 ≤ d by omega)
  have h24 := hw.2.1
  refine tr_34 (by omega) (pm_lp (N := w.length) (G := fun i M1 => pm_wq d 34 Qr Qx (17, [some (.inr (.inl (5, 82))), some (.inr (.inl (6, 4))), some (.inl (i : Int)), none, none], [], pm_m n kd M1, 0, 0)) (I := fun i M1 => st3 M1 82 0 (STA w i) ∧ pm_fr 82 83 M M1) ?_ ?_ 0 _ (Nat.zero_le _) ⟨st3.put rfl rfl rfl, ((pm_fr.rf.up (by decide) (by decide)).up (by decide) (by decide)).up (by decide) (by decide)⟩)
  · intro M1 ⟨h1, ho⟩
    have hs := (hw.fr ho (by decide)).size
    exact tr_34_17 (by omega) ⟨fun _ => h M1 h1 ho, fun z => by omega⟩
  · intro i M1 hi ⟨h1, ho⟩ ih
    have hs := (hw.fr ho (by decide)).size
    refine tr_34_17 (by omega) ⟨fun z => by omega, fun _ => ?_⟩
    have key := pm_lp (N := w.length - i) (G := fun c M2 => pm_wq d 34 Qr Qx (27, [some (.inr (.inl (5, 82))), some (.inr (.inl (6, 4))), some (.inl (i : Int)), some (.inl ((c : Int) + 1)), none], [], pm_m n kd M2, 0, 0)) (I := fun c M2 => st3 M2 82 0 (bst (fun d => (Lx w i d, d)) i (STA w i) c) ∧ pm_fr 82 83 M M2) (fun M2 ⟨g1, ho2⟩ => by
        have hs2 := (hw.fr ho2 (by decide)).size
        exact tr_34_27 (by omega) ⟨⟨by omega, by omega⟩, fun _ => ⟨⟨by omega, by omega⟩, ih M2 ⟨g1, ho2⟩⟩, fun z => by omega⟩) (fun c M2 hc ⟨g1, ho2⟩ ih2 => by
        have hw2 := hw.fr ho2 (by decide)
        have hs2 := hw2.size
        have hb3 := bst_b3 h24 (STA_b3 h24 i (by omega)) (show i ≤ w.length by omega) c (by omega)
        obtain ⟨g11, g12, g13⟩ := g1
        have e1 : ((c : Int) + 1) = ((c + 1 : Nat) : Int) := by omega
        rw [e1]
        refine tr_34_27 (by omega) ⟨⟨by omega, by omega⟩, fun z => by omega, fun _ => ⟨⟨by omega, by omega⟩, ?_⟩⟩
        have e2 : ((i : Int) + ((c + 1 : Nat) : Int)) = ((i + (c + 1) : Nat) : Int) := by omega
        rw [e2]
        -- the end
        have endc : ∀ e : Nat, e - i = Lx w i (c + 1) → i ≤ e → e ≤ w.length → pm_r ((e : Int) - (i : Int)) ∧ pm_r (((e : Int) - (i : Int)) * (M2 82 2)) ∧ pm_r ((M2 82 1) * ((c + 1 : Nat) : Int)) ∧ ((((e : Int) - (i : Int)) * (M2 82 2) ≤ (M2 82 1) * ((c + 1 : Nat) : Int) → pm_r (((c + 1 : Nat) : Int) + 1) ∧ pm_wq d 34 Qr Qx (27, [some (.inr (.inl (5, 82))), some (.inr (.inl (6, 4))), some (.inl (i : Int)), some (.inl (((c + 1 : Nat) : Int) + 1)), none], [], pm_m n kd M2, 0, 0)) ∧ (¬ (((e : Int) - (i : Int)) * (M2 82 2) ≤ (M2 82 1) * ((c + 1 : Nat) : Int)) → pm_r ((e : Int) - (i : Int)) ∧ pm_r (((c + 1 : Nat) : Int) + 1) ∧ pm_wq d 34 Qr Qx (27, [some (.inr (.inl (5, 82))), some (.inr (.inl (6, 4))), some (.inl (i : Int)), some (.inl (((c + 1 : Nat) : Int) + 1)), none], [], pm_m n kd (pm_up (pm_up (pm_up M2 82 0 (i : Int)) 82 1 ((e : Int) - (i : Int))) 82 2 ((c + 1 : Nat) : Int)), 0, 0))) := by
          intro e he hie hen
          have eL : ((e : Int) - (i : Int)) = ((Lx w i (c + 1) : Nat) : Int) := by omega
          rw [eL, g12, g13]
          have m1 := m24 (show Lx w i (c + 1) ≤ 24 by omega) hb3.2.2.2
          have m2 := m24 hb3.2.1 (show c + 1 ≤ 24 by omega)
          have c1 : (((Lx w i (c + 1) : Nat) : Int) * ((bst (fun d => (Lx w i d, d)) i (STA w i) c).2.2 : Int)) = ((Lx w i (c + 1) * (bst (fun d => (Lx w i d, d)) i (STA w i) c).2.2 : Nat) : Int) := by rw [Int.natCast_mul]
          have c2 : (((bst (fun d => (Lx w i d, d)) i (STA w i) c).2.1 : Int) * ((c + 1 : Nat) : Int)) = (((bst (fun d => (Lx w i d, d)) i (STA w i) c).2.1 * (c + 1) : Nat) : Int) := by rw [Int.natCast_mul]
          rw [c1, c2]
          refine ⟨⟨by omega, by omega⟩, ⟨by omega, by omega⟩, ⟨by omega, by omega⟩, fun z => ⟨⟨by omega, by omega⟩, ih2 M2 ⟨?_, ho2⟩⟩, fun z => ⟨⟨by omega, by omega⟩, ⟨by omega, by omega⟩, ih2 _ ⟨?_, ((ho2.up (by decide) (by decide)).up (by decide) (by decide)).up (by decide) (by decide)⟩⟩⟩
          · rw [bst, if_neg (by show ¬ (_ * (c + 1) < Lx w i (c + 1) * _); omega)]
            exact ⟨g11, g12, g13⟩
          · rw [bst, if_pos (by show (_ * (c + 1) < Lx w i (c + 1) * _); omega)]
            exact st3.put rfl rfl rfl
        have wl : ∀ (k e : Nat), k + e = w.length → i + (c + 1) ≤ e → Lx w i (c + 1) = enx w (c + 1) k e - i → pm_wq d 34 Qr Qx (42, [some (.inr (.inl (5, 82))), some (.inr (.inl (6, 4))), some (.inl (i : Int)), some (.inl ((c + 1 : Nat) : Int)), some (.inl (e : Int))], [], pm_m n kd M2, 0, 0) := by
          intro k
          induction k with
          | zero =>
            intro e he h1 h2
            exact tr_34_42 (by omega) ⟨fun _ => endc e (by rw [h2]; rfl) (by omega) (by omega), fun z => by omega⟩
          | succ k ihk =>
            intro e he h1 h2
            rw [enx] at h2
            refine tr_34_42 (by omega) ⟨fun z => by omega, fun _ => ⟨⟨by omega, by omega, by omega⟩, ⟨by omega, by omega⟩, ⟨by omega, by omega, by omega⟩, ?_⟩⟩
            have e3 : ((e : Int) - ((c + 1 : Nat) : Int)).toNat = e - (c + 1) := by omega
            rw [Int.toNat_natCast, e3, hw2.at (by omega), hw2.at (by omega)]
            refine ⟨fun z => endc e ?_ (by omega) (by omega), fun z => ⟨⟨by omega, by omega⟩, ihk (e + 1) (by omega) (by omega) ?_⟩⟩
            · rw [if_neg (by omega)] at h2
              exact h2.symm
            · rw [if_pos (by omega)] at h2
              exact h2
        exact wl (w.length - (i + (c + 1))) (i + (c + 1)) (by omega) (Nat.le_refl _) rfl) 0 M1 (Nat.zero_le _) ⟨h1, ho⟩
    exact key
theorem nilw {w : List Nat} : w.length ≠ 0 → w ≠ [] := fun h z => h (by rw [z]; rfl)
theorem la_78 (hd : 5 ≤ d) (hL : Lab M s) (h : LO [0, 1] (o_strongestFactor s x) n kd M Qr Qx) : pm_run d 78 [.inr (.inl (8, 0)), .inl x] (pm_m n kd M) Qr Qx := by
  obtain ⟨d, rfl⟩ := pm_ex1 (show 1 ≤ d by omega)
  have hs := hL.w.size
  unfold o_strongestFactor at h
  refine tr_78 (by omega) ⟨fun z => ?_, fun z => ⟨fun z2 => ⟨fun z3 => ?_, fun z3 => ?_⟩, fun z2 => ?_⟩⟩
  · rw [if_neg (by omega)] at h
    exact h M hL pm_fr.rf
  · rw [if_pos (by omega), if_neg (ln0.mp (by omega))] at h
    refine sp_34 (by omega) hL.w (fun M1 ⟨g1, g2, g3⟩ ho => tr_78_37 (by omega) ?_)
    have hh := h M1 (hL.fr ho (by decide)) (ho.wd (by decide) (by decide))
    rw [g1, g2, g3]
    refine ⟨fun z4 => ⟨fun z5 => ?_, fun z5 => ?_⟩, fun z4 => ?_⟩
    · rw [if_neg z4, if_neg z5] at hh
      exact hh
    · rw [if_neg z4, if_pos (Classical.byContradiction z5)] at hh
      exact hh
    · rw [if_pos (Classical.byContradiction z4)] at hh
      exact hh
  · rw [if_pos (by omega), if_pos (List.length_eq_zero_iff.mp (by omega))] at h
    exact h M hL pm_fr.rf
  · rw [if_neg (by omega)] at h
    exact h M hL pm_fr.rf
theorem la_77 (hd : 5 ≤ d) (hL : Lab M s) (hW : wfs s) (h : LOd [1] (o_greatestExponent s) s n kd M Qr Qx) : pm_run d 77 [.inr (.inl (8, 0))] (pm_m n kd M) Qr Qx := by
  obtain ⟨d, rfl⟩ := pm_ex1 (show 1 ≤ d by omega)
  have hs := hL.w.size
  unfold o_greatestExponent at h
  refine tr_77 (by omega) ⟨fun z => ?_, fun z => ?_⟩
  · rw [if_neg (ln0.mp (by omega))] at h
    refine sp_34 (by omega) hL.w (fun M1 ⟨g1, g2, g3⟩ ho => tr_77_18 (by omega) ?_)
    have hb := STA_b3 (w := gW s) hL.w.2.1 (gW s).length (Nat.le_refl _)
    have hv := fp_quot (a := (STR (gW s)).2.1) (b := (STR (gW s)).2.2) (Nat.lt_of_le_of_lt hb.2.2.2 (by decide)) (by have := hb.2.2.1; unfold STR; omega)
    rw [g2, g3]
    exact ⟨hv, h M1 (hL.fr ho (by decide)) (ho.wd (by decide) (by decide)) hv⟩
  · rw [if_pos (List.length_eq_zero_iff.mp (by omega))] at h
    exact h M hL pm_fr.rf
theorem la_75 (hd : 3 ≤ d) (hL : Lab M s) (hW : wfs s) (h : LOf [0, 3] (o_density s x) s n kd M Qr Qx) : pm_run d 75 [.inr (.inl (8, 0)), .inl x] (pm_m n kd M) Qr Qx := by
  obtain ⟨d, rfl⟩ := pm_ex1 (show 1 ≤ d by omega)
  have hs := hL.w.size
  have hk := hL.k
  have h24 := hL.w.2.1
  unfold o_density at h
  refine tr_75 (by omega) ⟨fun z => ⟨fun z2 => ?_, fun z2 => ?_⟩, fun z => ?_⟩
  · rw [if_pos (by omega), if_neg (ln0.mp (by omega))] at h
    obtain ⟨l, rfl⟩ : ∃ k : Nat, x = (k : Int) := ⟨x.toNat, by omega⟩
    rw [Int.toNat_natCast] at h
    have hv := fp_dens (gW s).length (by omega) (by omega) ((gW s).count l) (Nat.lt_of_le_of_lt List.count_le_length (by omega))
    refine sp_50 (by omega) hL.w (tr_75_39 (by omega) ?_)
    rw [hs.1]
    exact ⟨hv.1, h M hL pm_fr.rf hv.2⟩
  · rw [if_pos (by omega), if_pos (List.length_eq_zero_iff.mp (by omega))] at h
    exact h M hL pm_fr.rf
  · rw [if_neg (by omega)] at h
    exact h M hL pm_fr.rf
theorem la_76 {f : UInt64} (hd : 3 ≤ d) (hL : Lab M s) (hW : wfs s) (hf : fpB (-21) f) (h : LOd [0] (o_discountedSum s f) s n kd M Qr Qx) : pm_run d 76 [.inr (.inl (8, 0)), .inr (.inr (.inr (.inr f)))] (pm_m n kd M) Qr Qx := by
  obtain ⟨d, rfl⟩ := pm_ex1 (show 1 ≤ d by omega)
  have hs := hL.w.size
  have h24 := hL.w.2.1
  have hK := hW.1.1.2
  have hw4 : ∀ v ∈ gW s, v < 4 := fun v hv => Nat.lt_of_lt_of_le (hW.1.2.2.1.2 v hv) hK
  unfold o_discountedSum at h
  refine tr_76 (by omega) ⟨fun z => ?_, fun z => ⟨fun z2 => ?_, fun z2 => ?_⟩⟩
  · rw [if_pos z] at h
    exact h M hL pm_fr.rf
  · rw [if_neg z, if_pos z2] at h
    refine pm_lp (α := Unit) (N := (gW s).length) (G := fun i _ => pm_wq d 76 Qr Qx (32, [some (.inr (.inl (8, 0))), some (.inr (.inr (.inr (.inr f)))), none, some (.inr (.inr (.inr (.inr (dsu (gW s) f i).1)))), none, some (.inr (.inr (.inr (.inr (dsu (gW s) f i).2)))), none, some (.inl (i : Int))], [], pm_m n kd M, 0, 0)) (I := fun _ _ => True) ?_ ?_ 0 () (Nat.zero_le _) trivial
    · intro _ _
      exact tr_76_32 (by omega) ⟨fun _ => h M hL pm_fr.rf (dsu_B hw4 h24 hf _ (Nat.le_refl _)).1.vf, fun z => by omega⟩
    · intro i _ hi _ ih
      obtain ⟨v1, v2, v3⟩ := dsu_vf hw4 h24 hf hi
      refine tr_76_32 (by omega) ⟨fun z => by omega, fun _ => ⟨⟨by omega, by omega, by omega⟩, ?_⟩⟩
      rw [Int.toNat_natCast, hL.w.at hi]
      exact ⟨v1, v2, v3, ⟨by omega, by omega⟩, ih () trivial⟩
  · rw [if_neg z, if_neg z2] at h
    exact h M hL pm_fr.rf
end STG

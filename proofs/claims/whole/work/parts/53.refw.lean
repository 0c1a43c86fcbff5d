/-! CALLS OF THE REFERENCE: counts of words, morphisms that are sought -/
/-- what a whole count changes -/
def px_cl (M M' : Nat → Nat → Int) : Prop := (∀ a, a ≠ 97 → a ≠ 111 → a ≠ 112 → a ≠ 113 → a ≠ 114 → a ≠ 118 → M' a = M a) ∧ ∀ j, j < 23 → M' 97 j = M 97 j
theorem px_cl.sc {M M' : Nat → Nat → Int} (h : px_cl M M') : px_sc M M' := ⟨fun a ha => h.1 a (by omega) (by omega) (by omega) (by omega) (by omega) (by omega), fun j _ h2 => h.2 j h2⟩
theorem FO_nil {p : List Nat} : FO p [] = none := rfl
theorem cnl_false {L : List (List Nat × Nat)} : cnl (fun _ => false) L = 0 := by
  unfold cnl
  exact List.countP_eq_zero.mpr (fun a _ => by simp)
theorem cw_sum {s : stt} {lg : Nat} : 0 + cnl (fun v => v.length == lg) (([], 0) :: (DF (gP s) (gK s) lg [] 0).1) = cw s lg := by
  have hn : nodes s lg [] = DF (gP s) (gK s) lg [] 0 := rfl
  unfold cw
  rw [hn, cnl_cons]
  by_cases e : lg = 0
  · rw [if_pos e, if_pos (leq_t (show ([] : List Nat).length = lg by rw [e]; rfl))]
    omega
  · rw [if_neg e, if_neg (show ¬ (([] : List Nat).length == lg) = true by rw [leq_f (show ([] : List Nat).length ≠ lg from fun w => e w.symm)]; decide)]
    omega
theorem csp_sum {s : stt} {im : Nat → List Nat} {lg : Nat} : 0 + cnl (spf true (gP s) im lg) (([], 0) :: (DF (gP s) (gK s) lg [] 0).1) = csp s im lg := by
  rw [cnl_cons, if_neg (show ¬ spf true (gP s) im lg [] = true by
    show ¬ (true && (([] : List Nat).length == lg && (FO (gP s) []).isSome)) = true
    rw [FO_nil, Option.isSome_none, Bool.and_false, Bool.and_false]
    decide), Nat.zero_add]
  rfl
section RFW
variable {n : Nat} {kd : Nat → Nat} {Qx : Nat → pm_Me → Prop} {s : stt} {x y : Int}
/-- begins, and all that it leaves as it was -/
theorem ra_183b {d : Nat} {M : Nat → Nat → Int} {Qr : Option pm_V → pm_Me → Prop} {im : Nat → List Nat} (hd : 2 ≤ d) (hB : RB M s im) (hP : wfp (gP s)) (h : ∀ M', px_sk M' (gP s) → (∀ j, 36 ≤ j → j < 41 → M' 97 j = 0) → (∀ a, a ≠ 97 → a ≠ 111 → M' a = M a) → (∀ j, j < 23 → M' 97 j = M 97 j) → Qr none (pm_m n kd M')) : pm_run d 183 [.inr (.inl (9, 97))] (pm_m n kd M) Qr Qx := by
  obtain ⟨d, rfl⟩ := pm_ex1 (show 1 ≤ d by omega)
  refine tr_183 ?_
  rw [hB.2.1]
  refine ra_140 (by omega) hP hB.2.2.1 (fun M1 hsk g1 => tr_183_13 (h _ (hsk.cg ?_ ?_) (fun j h1 h2 => ?_) (fun a a1 a2 => ?_) (fun j h1 => ?_)))
  · rw [pm_up_ne (by omega), pm_up_ne (by omega), pm_up_ne (by omega), pm_up_ne (by omega), pm_up_ne (by omega)]
  · rw [pm_up_row (by decide), pm_up_row (by decide), pm_up_row (by decide), pm_up_row (by decide), pm_up_row (by decide)]
  · rcases (show j = 36 ∨ j = 37 ∨ j = 38 ∨ j = 39 ∨ j = 40 by omega) with e | e | e | e | e <;> subst e
    · rw [pm_up_ne (by omega), pm_up_ne (by omega), pm_up_ne (by omega), pm_up_ne (by omega), pm_up_eq]
    · rw [pm_up_ne (by omega), pm_up_ne (by omega), pm_up_ne (by omega), pm_up_eq]
    · rw [pm_up_ne (by omega), pm_up_ne (by omega), pm_up_eq]
    · rw [pm_up_ne (by omega), pm_up_eq]
    · rw [pm_up_eq]
  · rw [pm_up_row a1, pm_up_row a1, pm_up_row a1, pm_up_row a1, pm_up_row a1, g1.1 a a1 a2]
  · rw [pm_up_ne (by omega), pm_up_ne (by omega), pm_up_ne (by omega), pm_up_ne (by omega), pm_up_ne (by omega), g1.2 j (by omega)]
/-- countAll -/
theorem ra_188 {d : Nat} {M : Nat → Nat → Int} {Qr : Option pm_V → pm_Me → Prop} {im : Nat → List Nat} {A : Bool} {lg : Nat} (hd : 50 ≤ d) (hB : RB M s im) (hW : wfs s) (hne : gP s ≠ []) (hlg : lg ≤ 24) (hA : A = true → lg ≤ 5) (h : ∀ M', M' 97 37 = bI (nodes s lg []).2.2 → M' 97 39 = (cw s lg : Int) → (A = true → M' 97 40 = (csp s im lg : Int)) → px_cl M M' → Qr none (pm_m n kd M')) : pm_run d 188 [.inr (.inl (9, 97)), .inl (lg : Int), .inl (bI A)] (pm_m n kd M) Qr Qx := by
  obtain ⟨d, rfl⟩ := pm_ex1 (show 1 ≤ d by omega)
  have hK : 2 ≤ gK s ∧ gK s ≤ 4 := hW.1.1
  have hP : wfp (gP s) := hW.1.2.1
  refine tr_188 (ra_183b (by omega) hB hP (fun M2 hsk2 hz2 ga2 gf2 => tr_188_4 ?_))
  have hz3 : ∀ j, 36 ≤ j → j < 41 → pm_up M2 97 25 0 97 j = 0 := fun j a b => (pm_up_ne (by omega)).trans (hz2 j a b)
  have g3 : px_cl M (pm_up M2 97 25 0) := ⟨fun a a1 a2 _ _ _ _ => (pm_up_row a1).trans (ga2 a a1 a2), fun j hj => (pm_up_ne (by omega)).trans (gf2 j hj)⟩
  have hB3 := hB.sc g3.sc
  refine ra_186 (p := gP s) (K := gK s) (lg := lg) (A := A) (im := im) hne hK.2 hlg hA lg d [] 0 0 0 _ _ (by omega) (by show 0 + lg = lg; omega) (hsk2.cg (pm_up_ne (by omega)) (pm_up_row (by decide))) tx_nil (fun v hv => by cases hv) (by decide) (hz3 36 (by decide) (by decide)) (hz3 37 (by decide) (by decide)) (hz3 39 (by decide) (by decide)) (hz3 40 (by decide) (by decide)) (by decide) (by decide) hB3.1 hB3.2.2.2 ?_
  intro M4 ht4 i36 i37 i39 i40 g4
  rw [cw_sum] at i39
  refine tr_188_15 (h M4 i37 i39 (fun hAt => ?_) ⟨fun a a1 a2 a3 a4 a5 a6 => (g4.1 a a1 a3 a4 a5 a6).trans (g3.1 a a1 a2 a3 a4 a5 a6), fun j hj => (g4.2 j (by omega) (by omega) (by omega) (by omega) (by omega) (by omega) (by omega)).trans (g3.2 j hj)⟩)
  rw [hAt, csp_sum] at i40
  exact i40
theorem ra_189 {d : Nat} {M : Nat → Nat → Int} {Qr : Option pm_V → pm_Me → Prop} (hd : 52 ≤ d) (hR : Ref M s) (hW : wfs s) (h : RO (o_countAvoiding s x) n kd M Qr) : pm_run d 189 [.inr (.inl (9, 97)), .inl x] (pm_m n kd M) Qr Qx := by
  obtain ⟨d, rfl⟩ := pm_ex1 (show 1 ≤ d by omega)
  have hnp := hR.np
  unfold o_countAvoiding at h
  refine tr_189 (by omega) ⟨fun z => ⟨fun z2 => ?_, fun z2 => ?_⟩, fun z => ?_⟩
  · have hne : gP s ≠ [] := ln0.mp (by omega)
    rw [if_pos (by omega), if_neg hne] at h
    obtain ⟨lg, rfl⟩ : ∃ k : Nat, x = (k : Int) := ⟨x.toNat, by omega⟩
    rw [Int.toNat_natCast] at h
    refine ra_188 (A := false) (by omega) (hR.rb hW) hW hne (by omega) (fun w => by cases w) (fun M2 i37 i39 _ g2 => tr_189_35 (by omega) ⟨fun w => ?_, fun w => ?_⟩)
    · rw [if_neg (fun w2 => by rw [w2] at i37; have i37 : M2 97 37 = 1 := i37; omega)] at h
      rw [i39]
      exact RO.ok h hR g2.sc
    · rw [if_pos (by cases hc : (nodes s lg []).2.2; rw [hc] at i37; exact absurd i37 w; rfl)] at h
      exact RO.bad h hR g2.sc
  · rw [if_pos (by omega), if_pos (List.length_eq_zero_iff.mp (by omega))] at h
    exact RO.bad h hR px_sc.rf
  · rw [if_neg (by omega)] at h
    exact RO.bad h hR px_sc.rf
theorem ra_200 {d : Nat} {M : Nat → Nat → Int} {Qr : Option pm_V → pm_Me → Prop} (hd : 52 ≤ d) (hR : Ref M s) (hW : wfs s) (h : RO (o_countSpoiled s x) n kd M Qr) : pm_run d 200 [.inr (.inl (9, 97)), .inl x] (pm_m n kd M) Qr Qx := by
  obtain ⟨d, rfl⟩ := pm_ex1 (show 1 ≤ d by omega)
  have hnp := hR.np
  unfold o_countSpoiled at h
  refine tr_200 (by omega) ⟨fun z => ⟨fun z2 => ?_, fun z2 => ?_⟩, fun z => ?_⟩
  · have hne : gP s ≠ [] := ln0.mp (by omega)
    rw [if_pos (by omega), if_neg hne] at h
    obtain ⟨lg, rfl⟩ : ∃ k : Nat, x = (k : Int) := ⟨x.toNat, by omega⟩
    rw [Int.toNat_natCast] at h
    refine ra_188 (A := true) (by omega) (hR.rb hW) hW hne (by omega) (fun _ => by omega) (fun M2 i37 _ i40 g2 => tr_200_34 (by omega) ⟨fun w => ?_, fun w => ?_⟩)
    · rw [if_neg (fun w2 => by rw [w2] at i37; have i37 : M2 97 37 = 1 := i37; omega)] at h
      rw [i40 rfl]
      exact RO.ok h hR g2.sc
    · rw [if_pos (by cases hc : (nodes s lg []).2.2; rw [hc] at i37; exact absurd i37 w; rfl)] at h
      exact RO.bad h hR g2.sc
  · rw [if_pos (by omega), if_pos (List.length_eq_zero_iff.mp (by omega))] at h
    exact RO.bad h hR px_sc.rf
  · rw [if_neg (by omega)] at h
    exact RO.bad h hR px_sc.rf
theorem ra_190 {d : Nat} {M : Nat → Nat → Int} {Qr : Option pm_V → pm_Me → Prop} (hd : 52 ≤ d) (hR : Ref M s) (hW : wfs s) (h : ROd (o_growth s x) s n kd M Qr) : pm_run d 190 [.inr (.inl (9, 97)), .inl x] (pm_m n kd M) Qr Qx := by
  obtain ⟨d, rfl⟩ := pm_ex1 (show 1 ≤ d by omega)
  have hnp := hR.np
  unfold o_growth at h
  have nz : ∀ (M1 : Nat → Nat → Int) (c : Int), c ≠ 0 → ¬ (pm_up M1 97 0 c 97 0 = 0) := fun M1 c hc w => hc (by rw [pm_up_eq] at w; exact w)
  refine tr_190 (by omega) ⟨fun z => ⟨fun z2 => ⟨fun _ => ?_, fun w => absurd pm_up_eq w⟩, fun z2 => ⟨fun w => absurd w (nz M 2 (by decide)), fun _ => ?_⟩⟩, fun z => ⟨fun w => absurd w (nz M 1 (by decide)), fun _ => ?_⟩⟩
  · have hne : gP s ≠ [] := ln0.mp (by omega)
    rw [if_pos (by omega), if_neg hne] at h
    obtain ⟨lg, rfl⟩ : ∃ k : Nat, x = (k : Int) := ⟨x.toNat, by omega⟩
    rw [Int.toNat_natCast] at h
    have g0 : px_sc M (pm_up M 97 0 0) := px_sc.rf.up (Or.inl ⟨rfl, Or.inl rfl⟩)
    have hB := (hR.rb hW).sc g0
    refine ra_188 (A := false) (by omega) hB hW hne (by omega) (fun w => by cases w) (fun M2 i37 i39 _ g2 => tr_190_45 (by omega) ⟨⟨by omega, by omega⟩, ?_⟩)
    have e : ((lg : Int) - 1) = ((lg - 1 : Nat) : Int) := by omega
    rw [e]
    refine ra_188 (A := false) (by omega) (hB.sc g2.sc) hW hne (by omega) (fun w => by cases w) (fun M3 k37 k39 _ g3 => tr_190_63 (by omega) ?_)
    have gg : px_sc M M3 := (g0.tr g2.sc).tr g3.sc
    have e39 : ∀ c : Int, pm_up M3 97 0 c 97 39 = (cw s (lg - 1) : Int) := fun c => (pm_up_ne (Or.inr (by decide))).trans k39
    rw [e39, e39, e39, i39, i37]
    refine ⟨fun w => ⟨fun w2 => absurd w2 (nz M3 3 (by decide)), fun _ => ?_⟩, fun w => ⟨fun w2 => ⟨fun w3 => ⟨fun _ => ?_, fun w4 => absurd pm_up_eq w4⟩, fun w3 => ⟨fun w4 => absurd w4 (nz M3 4 (by decide)), fun _ => ?_⟩⟩, fun w2 => ⟨fun w3 => absurd w3 (nz M3 3 (by decide)), fun _ => ?_⟩⟩⟩
    · have hg : (nodes s lg []).2.2 = true := by
        cases hc : (nodes s lg []).2.2 with
        | true => rfl
        | false => rw [hc] at w; exact absurd rfl w
      rw [if_pos (Or.inl hg)] at h
      exact ROd.bad h hR gg
    · have hg : ¬ (nodes s lg []).2.2 = true := fun w9 => by rw [w9] at w; exact w (by decide)
      have hg2 : ¬ (nodes s (lg - 1) []).2.2 = true := fun w9 => by rw [w9] at k37; have k37 : M3 97 37 = 1 := k37; omega
      rw [if_neg (fun w9 => w9.elim hg hg2), if_neg (by omega)] at h
      have hv := fp_quot (a := cw s lg) (b := cw s (lg - 1)) cw_lt (by omega)
      exact ⟨hv, ROd.ok h hR gg hv⟩
    · have hg : ¬ (nodes s lg []).2.2 = true := fun w9 => by rw [w9] at w; exact w (by decide)
      have hg2 : ¬ (nodes s (lg - 1) []).2.2 = true := fun w9 => by rw [w9] at k37; have k37 : M3 97 37 = 1 := k37; omega
      rw [if_neg (fun w9 => w9.elim hg hg2), if_pos (by omega)] at h
      exact ROd.bad h hR gg
    · have hg2 : (nodes s (lg - 1) []).2.2 = true := by
        cases hc : (nodes s (lg - 1) []).2.2 with
        | true => rfl
        | false => rw [hc] at k37; exact absurd k37 w2
      rw [if_pos (Or.inr hg2)] at h
      exact ROd.bad h hR gg
  · rw [if_pos (by omega), if_pos (List.length_eq_zero_iff.mp (by omega))] at h
    exact ROd.bad h hR px_sc.rf
  · rw [if_neg (by omega)] at h
    exact ROd.bad h hR px_sc.rf
/-- setImages -/
theorem ra_198 {d : Nat} {M : Nat → Nat → Int} {Qr : Option pm_V → pm_Me → Prop} {K m num : Nat} (hd : 1 ≤ d) (hK1 : 1 ≤ K) (hK : K ≤ 4) (hm : m ≤ 3) (h3 : M 97 3 = (K : Int)) (h : ∀ M', (∀ l, l < K → M' 100 l = (m : Int) ∧ ∀ i, i < m → M' 101 (4 * l + i) = ((num / K ^ (m * (K - 1 - l) + (m - 1 - i)) % K : Nat) : Int)) → (∀ l, K ≤ l → M' 100 l = M 100 l) → (∀ a, a ≠ 100 → a ≠ 101 → M' a = M a) → Qr none (pm_m n kd M')) : pm_run d 198 [.inr (.inl (9, 97)), .inl (num : Int), .inl (m : Int)] (pm_m n kd M) Qr Qx := by
  obtain ⟨d, rfl⟩ := pm_ex1 hd
  have outer : ∀ (c lf : Nat) (M1 : Nat → Nat → Int), c ≤ K → lf = num / K ^ (m * (K - c)) → (∀ l, c ≤ l → l < K → M1 100 l = (m : Int) ∧ ∀ i, i < m → M1 101 (4 * l + i) = ((num / K ^ (m * (K - 1 - l) + (m - 1 - i)) % K : Nat) : Int)) → (∀ l, K ≤ l → M1 100 l = M 100 l) → (∀ a, a ≠ 100 → a ≠ 101 → M1 a = M a) → pm_wq d 198 Qr Qx (10, [some (.inr (.inl (9, 97))), none, some (.inl (m : Int)), some (.inl (lf : Int)), some (.inl ((c : Int) - 1)), none], [], pm_m n kd M1, 0, 0) := by
    intro c
    induction c with
    | zero =>
      intro lf M1 hc hlf hl ho ha
      exact tr_198_10 ⟨fun _ => h M1 (fun l hl2 => hl l (Nat.zero_le _) hl2) ho ha, fun w => absurd (by omega) w⟩
    | succ c ih =>
      intro lf M1 hc hlf hl ho ha
      refine tr_198_10 ⟨fun w => absurd w (by omega), fun _ => ⟨⟨by omega, by omega⟩, ⟨by omega, by omega⟩, ?_⟩⟩
      have e1 : (((c + 1 : Nat) : Int) - 1).toNat = c := by omega
      rw [e1]
      have inner : ∀ (e lf : Nat) (M2 : Nat → Nat → Int), e ≤ m → lf = num / K ^ (m * (K - 1 - c) + (m - e)) → M2 100 c = (m : Int) → (∀ l, c + 1 ≤ l → l < K → M2 100 l = (m : Int) ∧ ∀ i, i < m → M2 101 (4 * l + i) = ((num / K ^ (m * (K - 1 - l) + (m - 1 - i)) % K : Nat) : Int)) → (∀ i, e ≤ i → i < m → M2 101 (4 * c + i) = ((num / K ^ (m * (K - 1 - c) + (m - 1 - i)) % K : Nat) : Int)) → (∀ l, K ≤ l → M2 100 l = M 100 l) → (∀ a, a ≠ 100 → a ≠ 101 → M2 a = M a) → pm_wq d 198 Qr Qx (28, [some (.inr (.inl (9, 97))), none, some (.inl (m : Int)), some (.inl (lf : Int)), some (.inl (((c + 1 : Nat) : Int) - 1)), some (.inl ((e : Int) - 1))], [], pm_m n kd M2, 0, 0) := by
        intro e
        induction e with
        | zero =>
          intro lf M2 he hlf h100 hl hdg ho ha
          refine tr_198_28 ⟨fun _ => ⟨⟨by omega, by omega⟩, ?_⟩, fun w => absurd (by omega) w⟩
          have e2 : (((c + 1 : Nat) : Int) - 1 + (-1)) = (c : Int) - 1 := by omega
          rw [e2]
          refine ih lf M2 (by omega) ?_ ?_ ho ha
          · have e3 : m * (K - c) = m * (K - 1 - c) + m := by rw [show K - c = (K - 1 - c) + 1 by omega, Nat.mul_succ]
            rw [hlf, Nat.sub_zero, e3]
          · intro l h1 h2
            by_cases e : l = c
            · rw [e]; exact ⟨h100, fun i hi => hdg i (Nat.zero_le _) hi⟩
            · exact hl l (by omega) h2
        | succ e ihe =>
          intro lf M2 he hlf h100 hl hdg ho ha
          have k3 : M2 97 3 = (K : Int) := by rw [ha 97 (by decide) (by decide)]; exact h3
          have e4 : (4 * (((c + 1 : Nat) : Int) - 1) + (((e + 1 : Nat) : Int) - 1)).toNat = 4 * c + e := by omega
          refine tr_198_28 ⟨fun w => absurd w (by omega), fun _ => ?_⟩
          rw [e4, pm_up_ne (Or.inl (by decide)), k3]
          refine ⟨⟨by omega, by omega⟩, ⟨by omega, by omega⟩, ⟨by omega, by omega⟩, ⟨by omega, by omega⟩, ⟨by omega, by omega⟩, ⟨by omega, by omega⟩, ?_⟩
          have e5 : (((e + 1 : Nat) : Int) - 1 + (-1)) = (e : Int) - 1 := by omega
          have e6 : ((lf : Int) / (K : Int)) = ((lf / K : Nat) : Int) := rfl
          have e7 : ((lf : Int) % (K : Int)) = ((lf % K : Nat) : Int) := rfl
          rw [e5, e6, e7]
          refine ihe (lf / K) _ (by omega) ?_ ((pm_up_ne (Or.inl (by decide))).trans h100) (fun l h1 h2 => ⟨(pm_up_ne (Or.inl (by decide))).trans (hl l h1 h2).1, fun i hi => (pm_up_ne (Or.inr (by omega))).trans ((hl l h1 h2).2 i hi)⟩) (fun i h1 h2 => ?_) (fun l hl2 => (pm_up_ne (Or.inl (by decide))).trans (ho l hl2)) (fun a a1 a2 => (pm_up_row a2).trans (ha a a1 a2))
          · rw [hlf, Nat.div_div_eq_div_mul, ← Nat.pow_succ, show m - e = (m - (e + 1)) + 1 by omega]
            rfl
          · by_cases ei : i = e
            · rw [ei, pm_up_eq, hlf, show m - (e + 1) = m - 1 - e by omega]
            · exact (pm_up_ne (Or.inr (by omega))).trans (hdg i (by omega) h2)
      refine inner m lf _ (Nat.le_refl _) (by rw [hlf, Nat.sub_self, show K - (c + 1) = K - 1 - c by omega]; rfl) pm_up_eq (fun l h1 h2 => ⟨(pm_up_ne (Or.inr (by omega))).trans (hl l h1 h2).1, fun i hi => (pm_up_ne (Or.inl (by decide))).trans ((hl l h1 h2).2 i hi)⟩) (fun i h1 h2 => by omega) (fun l hl2 => (pm_up_ne (Or.inr (by omega))).trans (ho l hl2)) (fun a a1 a2 => (pm_up_row a1).trans (ha a a1 a2))
  refine tr_198 ⟨⟨by omega, by omega⟩, ?_⟩
  rw [h3]
  exact outer K num M (Nat.le_refl _) (by rw [Nat.sub_self, Nat.mul_zero, Nat.pow_zero, Nat.div_one]) (fun l h1 h2 => by omega) (fun _ _ => rfl) (fun _ _ _ => rfl)
theorem gim_at {K m num l i : Nat} (hl : l < K) (hi : i < m) : (gim K m num l).getD i 0 = num / K ^ (m * (K - 1 - l) + (m - 1 - i)) % K := by
  unfold gim
  rw [if_pos hl, gd_map (by rw [List.length_range]; exact hi), gd_eq (by rw [List.length_range]; exact hi), List.getElem_range]
theorem ra_199 {d : Nat} {M : Nat → Nat → Int} {Qr : Option pm_V → pm_Me → Prop} (hd : 54 ≤ d) (hR : Ref M s) (hW : wfs s) (h : RO (o_findMorphism s x y) n kd M Qr) : pm_run d 199 [.inr (.inl (9, 97)), .inl x, .inl y] (pm_m n kd M) Qr Qx := by
  obtain ⟨d, rfl⟩ := pm_ex1 (show 1 ≤ d by omega)
  have hnp := hR.np
  have hK : 2 ≤ gK s ∧ gK s ≤ 4 := hW.1.1
  unfold o_findMorphism at h
  refine tr_199 (by omega) ⟨fun z => ⟨fun z2 => ⟨fun z3 => ?_, fun z3 => ?_⟩, fun z2 => ?_⟩, fun z => ?_⟩
  · have hne : gP s ≠ [] := ln0.mp (by omega)
    rw [if_pos ⟨z, z2⟩, if_neg hne] at h
    obtain ⟨m, rfl⟩ : ∃ k : Nat, x = (k : Int) := ⟨x.toNat, by omega⟩
    obtain ⟨lg, rfl⟩ : ∃ k : Nat, y = (k : Int) := ⟨y.toNat, by omega⟩
    rw [Int.toNat_natCast, Int.toNat_natCast] at h
    have hns := nodes_small (s := s) (lg := lg) hK.2 (by omega)
    have hbig := pw_big (gK s) (by omega) hK.1 m (by omega)
    have hKm : gK s * m ≤ 12 := Nat.mul_le_mul hK.2 (show m ≤ 3 by omega)
    generalize hall : gK s ^ (gK s * m) = all at h hbig
    generalize hF : ffm s m lg (min all 100) 0 = F at h
    -- what the loop over the numbers keeps
    have loop : ∀ (c num : Nat) (M2 : Nat → Nat → Int), c + num = min all 100 → ffm s m lg c num = F → (∀ a, a < 97 ∨ (98 ≤ a ∧ a < 100) ∨ (102 ≤ a ∧ a < 110) ∨ 122 ≤ a → M2 a = M a) → (∀ j, 0 < j → j < 23 → M2 97 j = M 97 j) → (∀ l, l < 4 → M2 120 l = M 100 l) → (∀ k, k < 16 → M2 121 k = M 101 k) → (∀ l, gK s ≤ l → l < 4 → M2 100 l = 0) → pm_wq d 199 Qr Qx (89, [some (.inr (.inl (9, 97))), some (.inl (m : Int)), some (.inl (lg : Int)), some (.inl (all : Int)), some (.inl (num : Int))], [], pm_m n kd M2, 0, 0) := by
      intro c
      induction c with
      | zero =>
        intro num M2 hc hf ha hj h120 h121 h100
        have hf : none = F := hf
        rw [← hf] at h
        have h : RO (if 100 < all then (.inr 3, s) else (.inr 4, s)) n kd M Qr := h
        have back : pm_run d 197 [.inr (.inl (9, 97)), .inr (.inl (1004, 120)), .inr (.inl (1016, 121)), .inr (.inl (1004, 100)), .inr (.inl (1016, 101))] (pm_m n kd M2) (fun rv m' => pm_wq d 199 Qr Qx (157, [some (.inr (.inl (9, 97))), some (.inl (m : Int)), some (.inl (lg : Int)), some (.inl (all : Int)), some (.inl (num : Int))], pm_lst rv ++ [], m', 0, 0)) Qx := by
          refine ra_197 (by omega) (by decide) (by decide) (by decide) (by decide) (fun M3 r1 r2 r3 => ?_)
          have ga : ∀ a, a < 97 ∨ (98 ≤ a ∧ a < 100) ∨ (102 ≤ a ∧ a < 110) ∨ 122 ≤ a → M3 a = M a := fun a h1 => (r3 a (by omega) (by omega)).trans (ha a h1)
          have gj : ∀ j, 0 < j → j < 23 → M3 97 j = M 97 j := fun j h1 h2 => by rw [r3 97 (by decide) (by decide)]; exact hj j h1 h2
          have hR3 : Ref M3 s := Ref.si (im := gI s) hR ⟨fun a h1 => ga a (by omega), fun j h1 h2 => gj j (by omega) h2⟩ (fun j h1 h2 => gj j h1 (by omega)) (fun a h1 h2 => ga a (by omega)) (fun l hl => by
            obtain ⟨i1, i2⟩ := hR.i l hl
            have i4 : (gI s l).length ≤ 4 := hW.1.2.2.2.1 l
            refine ⟨by rw [r1 l hl, h120 l hl]; exact i1, fun j hj2 => ?_⟩
            rw [r2 (4 * l + j) (by omega), h121 (4 * l + j) (by omega)]
            exact i2 j hj2)
          have fin : ∀ c : Int, Ref (pm_up M3 97 0 c) s ∧ pm_fr 97 122 M (pm_up M3 97 0 c) := fun c => ⟨hR3.sc (px_sc.rf.up (Or.inl ⟨rfl, Or.inl rfl⟩)), fun a h1 => (pm_up_row (by omega)).trans (ga a (by omega))⟩
          refine tr_199_157 (by omega) ⟨fun w => ?_, fun w => ?_⟩
          · rw [if_neg (by omega)] at h
            exact h _ (fin 4).1 (fin 4).2 pm_up_eq
          · rw [if_pos (by omega)] at h
            exact h _ (fin 3).1 (fin 3).2 pm_up_eq
        exact tr_199_89 (by omega) ⟨fun _ => back, fun w => ⟨fun _ => back, fun w2 => by omega⟩⟩
      | succ c ih =>
        intro num M2 hc hf ha hj h120 h121 h100
        rw [ffm] at hf
        refine tr_199_89 (by omega) ⟨fun w => by omega, fun _ => ⟨fun w => by omega, fun _ => ?_⟩⟩
        refine ra_198 (K := gK s) (by omega) (by omega) hK.2 (by omega) ((hj 3 (by decide) (by decide)).trans hR.k) (fun M3 hd3 ho3 ha3 => tr_199_109 (by omega) ?_)
        have him : ∀ l, l < 4 → M3 100 l = ((gim (gK s) m num l).length : Int) ∧ px_ar M3 101 (4 * l) (gim (gK s) m num l) := fun l hl => by
          rw [gim_len]
          by_cases hlK : l < gK s
          · rw [if_pos hlK]
            refine ⟨(hd3 l hlK).1, fun j hj2 => ?_⟩
            rw [gim_len, if_pos hlK] at hj2
            rw [(hd3 l hlK).2 j hj2, gim_at hlK hj2]
          · rw [if_neg hlK]
            refine ⟨(ho3 l (by omega)).trans (h100 l (by omega) hl), fun j hj2 => ?_⟩
            rw [gim_len, if_neg hlK] at hj2
            omega
        have hil : ∀ l, (gim (gK s) m num l).length ≤ 4 := fun l => by rw [gim_len]; split <;> omega
        have hB3 : RB M3 s (gim (gK s) m num) := ⟨by rw [ha3 97 (by decide) (by decide), hj 3 (by decide) (by decide)]; exact hR.k, by rw [ha3 97 (by decide) (by decide), hj 1 (by decide) (by decide)]; exact hR.np, fun j hj2 => by rw [ha3 98 (by decide) (by decide), ha 98 (by decide)]; exact hR.p j hj2, him, hil⟩
        refine ra_188 (A := true) (by omega) hB3 hW hne (by omega) (fun _ => by omega) (fun M4 _ _ i40 g4 => tr_199_115 (by omega) ?_)
        have ga : ∀ a, a < 97 ∨ (98 ≤ a ∧ a < 100) ∨ (102 ≤ a ∧ a < 110) ∨ 122 ≤ a → M4 a = M a := fun a h1 => (g4.1 a (by omega) (by omega) (by omega) (by omega) (by omega) (by omega)).trans ((ha3 a (by omega) (by omega)).trans (ha a h1))
        have gj : ∀ j, 0 < j → j < 23 → M4 97 j = M 97 j := fun j h1 h2 => by rw [g4.2 j h2, ha3 97 (by decide) (by decide)]; exact hj j h1 h2
        have e100 : M4 100 = M3 100 := g4.1 100 (by decide) (by decide) (by decide) (by decide) (by decide) (by decide)
        have e101 : M4 101 = M3 101 := g4.1 101 (by decide) (by decide) (by decide) (by decide) (by decide) (by decide)
        rw [i40 rfl]
        have e1 : ((num : Int) + 1) = ((num + 1 : Nat) : Int) := by omega
        refine ⟨fun w => ⟨⟨by omega, by omega⟩, ?_⟩, fun w => ⟨⟨by omega, by omega⟩, ?_⟩⟩
        · rw [if_neg (by omega)] at hf
          rw [e1]
          refine ih (num + 1) M4 (by omega) hf ga gj (fun l hl => ?_) (fun k hk => ?_) (fun l h1 h2 => ?_)
          · rw [g4.1 120 (by decide) (by decide) (by decide) (by decide) (by decide) (by decide), ha3 120 (by decide) (by decide)]; exact h120 l hl
          · rw [g4.1 121 (by decide) (by decide) (by decide) (by decide) (by decide) (by decide), ha3 121 (by decide) (by decide)]; exact h121 k hk
          · rw [e100, ho3 l h1]; exact h100 l h1 h2
        · rw [if_pos (by omega)] at hf
          rw [← hf] at h
          have h : RO (.inl ((num : Int) + 1), sI s (gim (gK s) m num)) n kd M Qr := h
          have hR4 : Ref M4 (sI s (gim (gK s) m num)) := Ref.si hR ⟨fun a h1 => ga a (by omega), fun j h1 h2 => gj j (by omega) h2⟩ (fun j h1 h2 => gj j h1 (by omega)) (fun a h1 h2 => ga a (by omega)) (fun l hl => ⟨by rw [e100]; exact (him l hl).1, (him l hl).2.cg e101⟩)
          exact h _ (hR4.sc (px_sc.rf.up (Or.inl ⟨rfl, Or.inl rfl⟩))) (fun a h1 => (pm_up_row (by omega)).trans (ga a (by omega))) pm_up_eq
    -- the number of all morphisms
    have pow : ∀ c k : Nat, c + k = gK s * m → pm_wq d 199 Qr Qx (42, [some (.inr (.inl (9, 97))), some (.inl (m : Int)), some (.inl (lg : Int)), some (.inl ((gK s ^ k : Nat) : Int)), some (.inl (k : Int))], [], pm_m n kd M, 0, 0) := by
      intro c
      have e2 : ((gK s : Int) * (m : Int)) = ((gK s * m : Nat) : Int) := rfl
      induction c with
      | zero =>
        intro k hk
        refine tr_199_42 (by omega) ?_
        rw [hR.k, e2]
        refine ⟨⟨by omega, by omega⟩, fun _ => ?_, fun w => by omega⟩
        refine ra_197 (by omega) (by decide) (by decide) (by decide) (by decide) (fun M1 r1 r2 r3 => tr_199_86 (by omega) ?_)
        have hk : k = gK s * m := by omega
        rw [hk, hall]
        refine loop (min all 100) 0 M1 (by omega) hF (fun a h1 => r3 a (by omega) (by omega)) (fun j h1 h2 => by rw [r3 97 (by decide) (by decide)]) r1 r2 (fun l h1 h2 => ?_)
        rw [r3 100 (by decide) (by decide), (hR.i l h2).1]
        have : gI s l = [] := hW.1.2.2.2.2.2 l h1
        rw [this]
        rfl
      | succ c ihc =>
        intro k hk
        refine tr_199_42 (by omega) ?_
        rw [hR.k, e2]
        have hp1 : gK s ^ (k + 1) ≤ all := by rw [← hall]; exact Nat.pow_le_pow_right (by omega) (by omega)
        have e3 : ((gK s ^ k : Nat) : Int) * (gK s : Int) = ((gK s ^ (k + 1) : Nat) : Int) := by rw [Nat.pow_succ]; rfl
        rw [e3]
        have e1 : ((k : Int) + 1) = ((k + 1 : Nat) : Int) := by omega
        refine ⟨⟨by omega, by omega⟩, fun w => by omega, fun _ => ⟨⟨by omega, by omega⟩, ⟨by omega, by omega⟩, ?_⟩⟩
        rw [e1]
        exact ihc (k + 1) (by omega)
    have h0 := pow (gK s * m) 0 (by omega)
    rw [Nat.pow_zero] at h0
    exact h0
  · rw [if_pos ⟨z, z2⟩, if_pos (List.length_eq_zero_iff.mp (by omega))] at h
    exact RO.bad h hR px_sc.rf
  · rw [if_neg (fun w => z2 w.2)] at h
    exact RO.bad h hR px_sc.rf
  · rw [if_neg (fun w => z w.1)] at h
    exact RO.bad h hR px_sc.rf
end RFW

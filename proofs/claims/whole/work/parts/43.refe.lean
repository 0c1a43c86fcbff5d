/-! CALLS OF THE REFERENCE: reductions -/
theorem TT.cg {p : List Nat} {M M' : Nat → Nat → Int} {j : Nat} (h : TT p M j) (e1 : M' 116 j = M 116 j) (e2 : M' 117 j = M 117 j) : TT p M' j := ⟨e1.trans h.1, fun c hc => e2.trans (h.2 c hc)⟩
theorem fw_le {p : List Nat} {k : Nat} (hk : k < 32) : -1 ≤ fw (RD p k).1 ∧ fw (RD p k).1 ≤ 32 := by
  cases hc : (RD p k).1 with
  | none => exact ⟨by decide, by decide⟩
  | some c =>
    have hle := RD_le _ _ hc
    show -1 ≤ (c : Int) ∧ (c : Int) ≤ 32
    omega
section RFE
variable {d n : Nat} {kd : Nat → Nat} {M : Nat → Nat → Int} {Qr : Option pm_V → pm_Me → Prop} {Qx : Nat → pm_Me → Prop} {s : stt} {x y : Int}
/-- tellReductions -/
theorem ra_177 (hd : 4 ≤ d) (hR : Ref M s) (hW : wfs s) (h : ∀ M', (∀ j, j < 32 → sb j (pm_mem (gP s)) = true → TT (gP s) M' j) → px_rd M M' → Qr none (pm_m n kd M')) : pm_run d 177 [.inr (.inl (9, 97))] (pm_m n kd M) Qr Qx := by
  obtain ⟨d, rfl⟩ := pm_ex1 (show 1 ≤ d by omega)
  have h5 : ∀ v ∈ gP s, v < 5 := hW.1.2.1.2
  have h15 : (gP s).length ≤ 15 := hW.1.2.1.1
  have hm := pm_mem_lt' h5
  refine tr_177 (ra_133 (by omega) hR hW (tr_177_4 ?_))
  have loop : ∀ (g : Nat) (M1 : Nat → Nat → Int), g ≤ 32 → (∀ j, g ≤ j → j < 32 → sb j (pm_mem (gP s)) = true → TT (gP s) M1 j) → px_rd M M1 → pm_wq d 177 Qr Qx (8, [some (.inr (.inl (9, 97))), some (.inl (pm_mem (gP s) : Int)), some (.inl ((g : Int) - 1)), none, none], [], pm_m n kd M1, 0, 0) := by
    intro g
    induction g with
    | zero =>
      intro M1 _ ht ho
      exact tr_177_8 ⟨fun _ => h M1 (fun j hj => ht j (Nat.zero_le _) hj) ho, fun z => by omega⟩
    | succ g ih =>
      intro M1 hg ht ho
      have e : (((g + 1 : Nat) : Int) - 1) = (g : Int) := by omega
      have e2 : ((g : Int) + (-1)) = (g : Int) - 1 := by omega
      have hs32 := sb_32 g (by omega) _ hm
      rw [e]
      refine tr_177_8 ⟨fun z => by omega, fun _ => ⟨fun z => ⟨⟨by omega, by omega⟩, fun z2 => ⟨⟨by omega, by omega⟩, ?_⟩, fun z2 => ⟨fun z3 => absurd z3 z, fun _ => ?_⟩⟩, fun z => ⟨⟨by omega, by omega⟩, fun z2 => ?_, fun z2 => ⟨fun _ => ⟨⟨by omega, by omega⟩, ?_⟩, fun z3 => absurd (Classical.byContradiction z) z3⟩⟩⟩⟩
      · rw [e2, Int.toNat_natCast]
        refine ih _ (by omega) (fun j h1 h2 h3 => ?_) (ho.up (Or.inl rfl))
        by_cases ej : j = g
        · rw [ej, hs32.mp z2] at h3
          cases h3
        · exact (ht j (by omega) h2 h3).cg (pm_up_ne (Or.inr ej)) (pm_up_ne (Or.inl (by decide)))
      · have hs : sb g (pm_mem (gP s)) = true := by
          cases hc : sb g (pm_mem (gP s)) with
          | true => rfl
          | false => exact absurd (hs32.mpr hc) z2
        have hle := sb_le hs
        obtain ⟨hka, hkg⟩ := sq_cmp _ hm g (by omega) hs
        generalize hk : pm_mem (gP s) - g = k at hka hkg
        have hk0 : 0 < k := by omega
        have hk32 : k < 32 := by omega
        rw [Int.toNat_natCast]
        have ho1 : px_rd M (pm_up M1 116 g (-1)) := ho.up (Or.inl rfl)
        have hR1 := hR.sc ho1.sc
        refine ra_168 (w := g) (p := gP s) (by omega) (by omega) h5 h15 hR1.np hR1.p (fun M2 hgi ho2 => tr_177_46 ?_)
        rw [kg_kf h5 (by omega) hs, hk] at hgi
        have hq5 := kf_lt (k := k) h5
        have key := pm_lp (N := 31) (G := fun i M3 => pm_wq d 177 Qr Qx (48, [some (.inr (.inl (9, 97))), some (.inl (pm_mem (gP s) : Int)), some (.inl (g : Int)), some (.inl ((i : Int) + 1)), none], [], pm_m n kd M3, 0, 0)) (I := fun i M3 => M3 116 g = fw (rdL (gP s) k (RD (gP s)) i).1 ∧ (∀ c, (rdL (gP s) k (RD (gP s)) i).1 = some (c + 1) → M3 117 g = ((rdL (gP s) k (RD (gP s)) i).2 : Int)) ∧ (∀ j, j ≠ g → M3 116 j = M1 116 j ∧ M3 117 j = M1 117 j) ∧ M3 115 = M2 115 ∧ px_rd M M3 ∧ (∀ c, (rdL (gP s) k (RD (gP s)) i).1 = some c → c ≤ 32)) (fun M3 ⟨k1, k2, k3, k4, k5, _⟩ => by
            refine tr_177_48 ⟨fun _ => ⟨⟨by omega, by omega⟩, ?_⟩, fun z => absurd (by decide) z⟩
            rw [e2]
            refine ih M3 (by omega) (fun j h1 h2 h3 => ?_) k5
            by_cases ej : j = g
            · rw [ej]
              unfold TT
              rw [hk, RD_pos hk0]
              exact ⟨k1, k2⟩
            · exact (ht j (by omega) h2 h3).cg (k3 j ej).1 (k3 j ej).2) (fun i M3 hi ⟨k1, k2, k3, k4, k5, k6⟩ ih2 => by
            have e3 : ((i : Int) + 1) = ((i + 1 : Nat) : Int) := by omega
            have same : rdS (gP s) k (RD (gP s)) (rdL (gP s) k (RD (gP s)) i) (i + 1) = rdL (gP s) k (RD (gP s)) i → pm_wq d 177 Qr Qx (48, [some (.inr (.inl (9, 97))), some (.inl (pm_mem (gP s) : Int)), some (.inl (g : Int)), some (.inl (((i + 1 : Nat) : Int) + 1)), none], [], pm_m n kd M3, 0, 0) := fun hh => ih2 M3 (by rw [rdL_succ, hh]; exact ⟨k1, k2, k3, k4, k5, k6⟩)
            have hdis := sb_dis _ hm k hk32 hka (i + 1) (by omega)
            rw [hkg] at hdis
            have notS : ¬ sb (i + 1) k = true → rdS (gP s) k (RD (gP s)) (rdL (gP s) k (RD (gP s)) i) (i + 1) = rdL (gP s) k (RD (gP s)) i := fun hh => by
              unfold rdS
              exact if_neg (fun w => hh w.1)
            rw [e3]
            have ha32 := and_32 (i + 1) (by omega) g (by omega)
            have hs2 := sb_32 (i + 1) (by omega) _ hm
            refine tr_177_48 ⟨fun z => by omega, fun _ => ⟨fun z => ⟨fun _ => ⟨⟨by omega, by omega⟩, same (notS (fun w => ?_))⟩, fun w => absurd rfl w⟩, fun z => ⟨fun z2 => ⟨fun _ => ⟨⟨by omega, by omega⟩, same (notS (fun w => ?_))⟩, fun w => absurd rfl w⟩, fun z2 => ?_⟩⟩⟩
            · rw [ha32, (hdis.mp w).1] at z
              exact z rfl
            · have := hs2.mp z2
              rw [(hdis.mp w).2] at this
              cases this
            · have w1 : (i + 1) &&& g = 0 := by
                have := Classical.byContradiction z
                rw [ha32] at this
                omega
              have w2 : sb (i + 1) (pm_mem (gP s)) = true := by
                cases hc : sb (i + 1) (pm_mem (gP s)) with
                | true => rfl
                | false => exact absurd (hs2.mpr hc) z2
              have hsk : sb (i + 1) k = true := hdis.mpr ⟨w1, w2⟩
              have hsle := sb_le hsk
              refine ra_170 (q := kf k (gP s)) (by omega) (by omega) hq5 (by rw [k4]; exact hgi) ?_
              obtain ⟨q1, q2⟩ := sb_sub hk32 (show i + 1 < 32 by omega) hsk hm hka
              rw [hkg] at q2
              obtain ⟨q3, q4⟩ := sq_cmp _ hm (k - (i + 1)) (by omega) q1
              have hor : pm_or (g : Int) ((i + 1 : Nat) : Int) = ((pm_mem (gP s) - (k - (i + 1)) : Nat) : Int) := by rw [or_32 g (by omega) (i + 1) (by omega), q2]
              refine tr_177_73 ⟨fun z => ⟨fun _ => ⟨⟨by omega, by omega⟩, same ?_⟩, fun w => absurd rfl w⟩, fun z => ?_⟩
              · have hf : frB (kf k (gP s)) (i + 1) = false := by cases hc : frB (kf k (gP s)) (i + 1); rfl; rw [hc] at z; exact absurd z (by decide)
                unfold rdS
                exact if_neg (fun w => by rw [hf] at w; exact absurd w.2 (by decide))
              · have hf : frB (kf k (gP s)) (i + 1) = true := by cases hc : frB (kf k (gP s)) (i + 1); rw [hc] at z; exact absurd rfl z; rfl
                have htab := (ht (pm_mem (gP s) - (k - (i + 1))) (by omega) (by omega) q3).1
                rw [q4, ← (k3 _ (by omega)).1] at htab
                have hb := fw_le (p := gP s) (show k - (i + 1) < 32 by omega)
                rw [hor, Int.toNat_natCast, Int.toNat_natCast, htab, k1]
                cases hc : (RD (gP s) (k - (i + 1))).1 with
                | none =>
                  refine ⟨⟨by omega, by omega⟩, fun _ => ⟨⟨by omega, by omega⟩, same ?_⟩, fun w => absurd rfl w⟩
                  unfold rdS
                  rw [if_pos ⟨hsk, hf⟩, hc]
                | some c =>
                  rw [hc] at hb
                  have hb : -1 ≤ (c : Int) ∧ (c : Int) ≤ 32 := hb
                  have hcle := RD_le _ _ hc
                  have hnew : rdS (gP s) k (RD (gP s)) (rdL (gP s) k (RD (gP s)) i) (i + 1) = (some (c + 1), i + 1) → pm_wq d 177 Qr Qx (48, [some (.inr (.inl (9, 97))), some (.inl (pm_mem (gP s) : Int)), some (.inl (g : Int)), some (.inl (((i + 1 : Nat) : Int) + 1)), none], [], pm_m n kd (pm_up (pm_up M3 116 g (fw (some c) + 1)) 117 g ((i + 1 : Nat) : Int)), 0, 0) := fun hval => by
                    refine ih2 _ ?_
                    rw [rdL_succ, hval]
                    refine ⟨?_, fun c' _ => pm_up_eq, fun j hj => ?_, ?_, (k5.up (Or.inl rfl)).up (Or.inr rfl), fun c' hc' => ?_⟩
                    · rw [pm_up_ne (Or.inl (by decide)), pm_up_eq]; rfl
                    · rw [pm_up_ne (Or.inl (by decide)), pm_up_ne (Or.inr hj), pm_up_ne (Or.inr hj), pm_up_ne (Or.inl (by decide))]
                      exact k3 j hj
                    · rw [pm_up_row (by decide), pm_up_row (by decide)]; exact k4
                    · have hc' : some (c + 1) = some c' := hc'
                      cases hc'
                      omega
                  refine ⟨⟨by omega, by omega⟩, fun z3 => ?_, fun z3 => ⟨⟨by omega, by omega⟩, fun z4 => ⟨⟨?_, ?_⟩, ⟨by omega, by omega⟩, ⟨by omega, by omega⟩, ⟨by omega, by omega⟩, hnew ?_⟩, fun z4 => ⟨⟨?_, ?_⟩, ⟨by omega, by omega⟩, fun z5 => ⟨⟨by omega, by omega⟩, same ?_⟩, fun z5 => ⟨⟨?_, ?_⟩, ⟨by omega, by omega⟩, ⟨by omega, by omega⟩, ⟨by omega, by omega⟩, hnew ?_⟩⟩⟩⟩
                  · have z3 : (c : Int) = -1 := z3
                    omega
                  · show -2147483648 ≤ (c : Int) + 1
                    omega
                  · show (c : Int) + 1 ≤ 2147483647
                    omega
                  · unfold rdS
                    rw [if_pos ⟨hsk, hf⟩, hc]
                    cases ha2 : (rdL (gP s) k (RD (gP s)) i).1 with
                    | none => rfl
                    | some m =>
                      rw [ha2] at z4
                      have z4 : (m : Int) = -1 := z4
                      omega
                  · show -2147483648 ≤ (c : Int) + 1
                    omega
                  · show (c : Int) + 1 ≤ 2147483647
                    omega
                  · unfold rdS
                    rw [if_pos ⟨hsk, hf⟩, hc]
                    cases ha2 : (rdL (gP s) k (RD (gP s)) i).1 with
                    | none => rw [ha2] at z4; exact absurd rfl z4
                    | some m =>
                      rw [ha2] at z5
                      have z5 : (m : Int) ≤ (c : Int) + 1 := z5
                      exact if_neg (by omega)
                  · show -2147483648 ≤ (c : Int) + 1
                    omega
                  · show (c : Int) + 1 ≤ 2147483647
                    omega
                  · unfold rdS
                    rw [if_pos ⟨hsk, hf⟩, hc]
                    cases ha2 : (rdL (gP s) k (RD (gP s)) i).1 with
                    | none => rfl
                    | some m =>
                      rw [ha2] at z5
                      have z5 : ¬ ((m : Int) ≤ (c : Int) + 1) := z5
                      exact if_pos (by omega)) 0 M2 (Nat.zero_le _) ⟨(ho2.at (by decide)).trans pm_up_eq, fun c hc => (by cases hc), fun j hj => ⟨(ho2.at (by decide)).trans (pm_up_ne (Or.inr hj)), (ho2.at (by decide)).trans (pm_up_ne (Or.inl (by decide)))⟩, rfl, ho1.tr (fun a b1 b2 b3 => ho2 a b1), fun c hc => (by cases hc)⟩
        exact key
      · have hga : (g : Int) = (pm_mem (gP s) : Int) := Classical.byContradiction z
        have hga : g = pm_mem (gP s) := by omega
        have := hs32.mp z2
        rw [hga, sb_refl] at this
        cases this
      · have hga : (g : Int) = (pm_mem (gP s) : Int) := Classical.byContradiction z
        have hga : g = pm_mem (gP s) := by omega
        rw [e2, Int.toNat_natCast]
        refine ih _ (by omega) (fun j h1 h2 h3 => ?_) (ho.up (Or.inl rfl))
        by_cases ej : j = g
        · rw [ej]
          unfold TT
          rw [hga, Nat.sub_self, RD_zero]
          exact ⟨pm_up_eq, fun c hc => by cases hc⟩
        · exact (ht j (by omega) h2 h3).cg (pm_up_ne (Or.inr ej)) (pm_up_ne (Or.inl (by decide)))
  exact loop 32 M (Nat.le_refl _) (fun j h1 h2 => by omega) (fun _ _ _ _ => rfl)
theorem ra_178 (hd : 5 ≤ d) (hR : Ref M s) (hW : wfs s) (h : RO (o_isUnavoidable s) n kd M Qr) : pm_run d 178 [.inr (.inl (9, 97))] (pm_m n kd M) Qr Qx := by
  obtain ⟨d, rfl⟩ := pm_ex1 (show 1 ≤ d by omega)
  unfold o_isUnavoidable at h
  refine tr_178 (by omega) (ra_177 (by omega) hR hW (fun M1 ht ho => ?_))
  have h0 := (ht 0 (by decide) (by unfold sb; rw [Nat.zero_and]; rfl)).1
  rw [Nat.sub_zero] at h0
  have hok := RO.ok h hR ho.sc
  refine tr_178_4 (by omega) ?_
  rw [h0]
  cases hc : (RD (gP s) (pm_mem (gP s))).1 with
  | none => rw [hc] at hok; exact ⟨fun _ => hok, fun z => absurd rfl z⟩
  | some c => rw [hc] at hok; exact ⟨fun z => by have z : (c : Int) = -1 := z; omega, fun _ => hok⟩
theorem ra_179 (hd : 5 ≤ d) (hR : Ref M s) (hW : wfs s) (h : RO (o_reductionLength s) n kd M Qr) : pm_run d 179 [.inr (.inl (9, 97))] (pm_m n kd M) Qr Qx := by
  obtain ⟨d, rfl⟩ := pm_ex1 (show 1 ≤ d by omega)
  unfold o_reductionLength at h
  refine tr_179 (by omega) (ra_177 (by omega) hR hW (fun M1 ht ho => ?_))
  have h0 := (ht 0 (by decide) (by unfold sb; rw [Nat.zero_and]; rfl)).1
  rw [Nat.sub_zero] at h0
  refine tr_179_4 (by omega) ?_
  rw [h0]
  cases hc : (RD (gP s) (pm_mem (gP s))).1 with
  | none => rw [hc] at h; exact ⟨fun z => absurd rfl z, fun _ => RO.bad h hR ho.sc⟩
  | some c => rw [hc] at h; exact ⟨fun _ => RO.ok h hR ho.sc, fun z => absurd (fun w => by have w : (c : Int) = -1 := w; omega) z⟩
theorem ra_180 (hd : 5 ≤ d) (hR : Ref M s) (hW : wfs s) (h : RO (o_reductionSet s x) n kd M Qr) : pm_run d 180 [.inr (.inl (9, 97)), .inl x] (pm_m n kd M) Qr Qx := by
  obtain ⟨d, rfl⟩ := pm_ex1 (show 1 ≤ d by omega)
  have h5 : ∀ v ∈ gP s, v < 5 := hW.1.2.1.2
  have hm := pm_mem_lt' h5
  unfold o_reductionSet at h
  refine tr_180 (by omega) (ra_177 (by omega) hR hW (fun M1 ht ho => ?_))
  have h0 := (ht 0 (by decide) (by unfold sb; rw [Nat.zero_and]; rfl)).1
  rw [Nat.sub_zero] at h0
  refine tr_180_4 (by omega) ?_
  rw [h0]
  cases hc : (RD (gP s) (pm_mem (gP s))).1 with
  | none => rw [hc] at h; exact ⟨fun z => absurd rfl z, fun _ => RO.bad h hR ho.sc⟩
  | some c =>
    rw [hc] at h
    have hcle := RD_le _ _ hc
    have h : RO (if 0 ≤ x ∧ x < c then (.inl (rp (gP s) (pm_mem (gP s)) x.toNat : Nat), s) else (.inr 2, s)) n kd M Qr := h
    have hfw : fw (some c) = (c : Int) := rfl
    rw [hfw]
    refine ⟨fun _ => ⟨⟨by omega, by omega⟩, fun z => ?_, fun z => ?_⟩, fun z => by omega⟩
    · rw [if_pos (by omega)] at h
      obtain ⟨i0, rfl⟩ : ∃ k : Nat, x = (k : Int) := ⟨x.toNat, by omega⟩
      rw [Int.toNat_natCast] at h
      have key : ∀ (e i k : Nat), e + i = i0 → sb k (pm_mem (gP s)) = true → (RD (gP s) k).1 = some (c - i) → rp (gP s) (pm_mem (gP s)) i0 = rp (gP s) k e → pm_wq d 180 Qr Qx (46, [some (.inr (.inl (9, 97))), some (.inl (i0 : Int)), some (.inl ((pm_mem (gP s) - k : Nat) : Int)), some (.inl (i : Int))], [], pm_m n kd M1, 0, 0) := by
        intro e
        induction e with
        | zero =>
          intro i k he hs hk hr
          have hkle := sb_le hs
          obtain ⟨q3, q4⟩ := sq_cmp _ hm k (by omega) hs
          obtain ⟨ci, hci⟩ : ∃ ci, c - i = ci + 1 := ⟨c - i - 1, by omega⟩
          have htab := (ht (pm_mem (gP s) - k) (by omega) q3).2
          rw [q4, hk, hci] at htab
          have htab := htab ci rfl
          refine tr_180_46 (by omega) ⟨fun _ => ⟨⟨by omega, by omega⟩, ?_⟩, fun z => by omega⟩
          rw [Int.toNat_natCast, htab]
          rw [hr, rp] at h
          exact RO.ok h hR ho.sc
        | succ e ih =>
          intro i k he hs hk hr
          have hkle := sb_le hs
          obtain ⟨q3, q4⟩ := sq_cmp _ hm k (by omega) hs
          obtain ⟨ci, hci⟩ : ∃ ci, c - i = ci + 1 := ⟨c - i - 1, by omega⟩
          have htab := (ht (pm_mem (gP s) - k) (by omega) q3).2
          rw [q4, hk, hci] at htab
          have htab := htab ci rfl
          obtain ⟨b1, b2, b3, b4, b5⟩ := RD_some (p := gP s) (k := k) (c := ci) (by rw [hk, hci])
          refine tr_180_46 (by omega) ⟨fun z => by omega, fun _ => ⟨⟨by omega, by omega⟩, ⟨by omega, by omega⟩, ?_⟩⟩
          rw [rp] at hr
          rw [Int.toNat_natCast, htab, or_32 _ (by omega) _ b4, (sb_sub (show k < 32 by omega) b4 b2 hm hs).2]
          exact ih (i + 1) (k - (RD (gP s) k).2) (by omega) (sb_sub (show k < 32 by omega) b4 b2 hm hs).1 (by rw [b5]; congr 1; omega) hr
      have := key i0 0 (pm_mem (gP s)) (by omega) (sb_refl _) hc rfl
      rw [Nat.sub_self] at this
      exact this
    · rw [if_neg (by omega)] at h
      exact RO.bad h hR ho.sc
end RFE

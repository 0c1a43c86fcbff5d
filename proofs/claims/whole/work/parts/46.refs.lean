/-! CALLS OF THE REFERENCE: strongest factor, density, sum -/
def px_st (M M' : Nat → Nat → Int) : Prop := (∀ a, a ≠ 97 → M' a = M a) ∧ ∀ j, j < 30 ∨ 33 ≤ j → M' 97 j = M 97 j
theorem px_st.rf {M : Nat → Nat → Int} : px_st M M := ⟨fun _ _ => rfl, fun _ _ => rfl⟩
theorem px_st.up {M M1 : Nat → Nat → Int} {j : Nat} {x : Int} (h : px_st M M1) (hj : 30 ≤ j ∧ j < 33) : px_st M (pm_up M1 97 j x) := ⟨fun a ha => (pm_up_row ha).trans (h.1 a ha), fun i hi => (pm_up_ne (Or.inr (by omega))).trans (h.2 i hi)⟩
theorem px_st.sc {M M' : Nat → Nat → Int} (h : px_st M M') : px_sc M M' := ⟨fun a ha => h.1 a (by omega), fun j h1 h2 => h.2 j (by omega)⟩
section RFS
variable {d n : Nat} {kd : Nat → Nat} {M : Nat → Nat → Int} {Qr : Option pm_V → pm_Me → Prop} {Qx : Nat → pm_Me → Prop} {s : stt} {x y : Int}
theorem ROd.bad {c : Nat} {M1 : Nat → Nat → Int} (h : ROd (.inr c) s n kd M Qr) (hR : Ref M s) (g : px_sc M M1) : Qr (some (.inr (.inr (.inr (.inr (UInt64.ofNat 0)))))) (pm_m n kd (pm_up M1 97 0 (c : Int))) :=
  have g2 : px_sc M (pm_up M1 97 0 (c : Int)) := g.up (by omega)
  h _ (hR.sc g2) g2.fr pm_up_eq
theorem ROd.ok {v : UInt64} {M1 : Nat → Nat → Int} (h : ROd (.inl v) s n kd M Qr) (hR : Ref M s) (g : px_sc M M1) (hv : vf_n64 v) : Qr (some (.inr (.inr (.inr (.inr v))))) (pm_m n kd (pm_up M1 97 0 0)) :=
  have g2 : px_sc M (pm_up M1 97 0 0) := g.up (by omega)
  h _ (hR.sc g2) g2.fr hv pm_up_eq
theorem ROf.bad {c : Nat} {M1 : Nat → Nat → Int} (h : ROf (.inr c) s n kd M Qr) (hR : Ref M s) (g : px_sc M M1) : Qr (some (.inr (.inr (.inr (.inl 0))))) (pm_m n kd (pm_up M1 97 0 (c : Int))) :=
  have g2 : px_sc M (pm_up M1 97 0 (c : Int)) := g.up (by omega)
  h _ (hR.sc g2) g2.fr pm_up_eq
theorem ROf.ok {v : UInt32} {M1 : Nat → Nat → Int} (h : ROf (.inl v) s n kd M Qr) (hR : Ref M s) (g : px_sc M M1) (hv : vf_n64 (FP.f2d v)) : Qr (some (.inr (.inr (.inr (.inl v))))) (pm_m n kd (pm_up M1 97 0 0)) :=
  have g2 : px_sc M (pm_up M1 97 0 0) := g.up (by omega)
  h _ (hR.sc g2) g2.fr hv pm_up_eq
/-- period -/
theorem ra_158 {w : List Nat} {i l : Nat} (hd : 1 ≤ d) (hl : 1 ≤ l) (hil : i + l ≤ w.length) (h24 : w.length ≤ 24) (hw : ∀ j, j < w.length → M 99 j = ((w.getD j 0 : Nat) : Int)) (h : Qr (some (.inl (Px w i l : Int))) (pm_m n kd M)) : pm_run d 158 [.inr (.inl (9, 97)), .inl (i : Int), .inl (l : Int)] (pm_m n kd M) Qr Qx := by
  obtain ⟨d, rfl⟩ := pm_ex1 hd
  refine tr_158 ?_
  have key : ∀ (c p : Nat), c + p = l + 1 → 1 ≤ p → Px w i l = prx w i l c p → pm_wq d 158 Qr Qx (5, [some (.inr (.inl (9, 97))), some (.inl (i : Int)), some (.inl (l : Int)), some (.inl (p : Int)), some (.inl 0), none], [], pm_m n kd M, 0, 0) := by
    intro c
    induction c with
    | zero =>
      intro p hc hp he
      have := (Px_spec (w := w) (i := i) hl).2.1
      rw [he, prx] at this
      omega
    | succ c ih =>
      intro p hc hp he
      rw [prx] at he
      refine tr_158_5 ⟨fun z => absurd rfl z, fun _ => ?_⟩
      have inner := pm_lp (N := l - p) (G := fun j (v : Int) => pm_wq d 158 Qr Qx (16, [some (.inr (.inl (9, 97))), some (.inl (i : Int)), some (.inl (l : Int)), some (.inl (p : Int)), some (.inl v), some (.inl ((i : Int) + (j : Int)))], [], pm_m n kd M, 0, 0)) (I := fun j v => (v = 0 ∨ v = 1) ∧ (v = 1 ↔ ∀ k, k < j → w.getD (i + k) 0 = w.getD (i + k + p) 0)) (fun v ⟨k1, k2⟩ => by
          have hisp : v = 1 ↔ isp w i l p = true := by
            rw [k2, isp_iff]
            exact ⟨fun hh k hk => hh k (by omega), fun hh k hk => hh k (by omega)⟩
          refine tr_158_16 ⟨⟨by omega, by omega⟩, ⟨by omega, by omega⟩, fun _ => ⟨fun z => ⟨⟨by omega, by omega⟩, ?_⟩, fun z => ⟨⟨by omega, by omega⟩, ?_⟩⟩, fun z => by omega⟩
          · rw [z]
            rw [if_neg (fun w => by have := hisp.mpr w; omega)] at he
            have e : ((p : Int) + 1) = ((p + 1 : Nat) : Int) := by omega
            rw [e]
            exact ih (p + 1) (by omega) (by omega) he
          · rw [if_pos (hisp.mp (by omega))] at he
            refine tr_158_5 ⟨fun _ => ?_, fun z2 => absurd z z2⟩
            rw [Int.add_zero, ← he]
            exact h) (fun j v hj ⟨k1, k2⟩ ih2 => by
          have e1 : ((i : Int) + (j : Int) + 1) = (i : Int) + ((j + 1 : Nat) : Int) := by omega
          refine tr_158_16 ⟨⟨by omega, by omega⟩, ⟨by omega, by omega⟩, fun z => by omega, fun _ => ⟨fun z => ⟨⟨by omega, by omega⟩, ?_⟩, fun z => ⟨⟨by omega, by omega⟩, ⟨by omega, by omega⟩, ⟨by omega, by omega⟩, ?_⟩⟩⟩
          · rw [e1]
            refine ih2 0 ⟨Or.inl rfl, ⟨fun w => absurd w (by decide), fun hh => ?_⟩⟩
            have := k2.mpr (fun k hk => hh k (by omega))
            omega
          · have e2 : ((i : Int) + (j : Int)).toNat = i + j := by omega
            have e3 : ((i : Int) + (j : Int) + (p : Int)).toNat = i + j + p := by omega
            rw [e2, e3, hw _ (by omega), hw _ (by omega), e1]
            have hall := k2.mp (by omega)
            refine ⟨fun z2 => ⟨⟨by omega, by omega⟩, ih2 0 ⟨Or.inl rfl, ⟨fun w => absurd w (by decide), fun hh => ?_⟩⟩⟩, fun z2 => ⟨⟨by omega, by omega⟩, ih2 1 ⟨Or.inr rfl, ⟨fun _ k hk => ?_, fun _ => rfl⟩⟩⟩⟩
            · have := hh j (by omega)
              omega
            · by_cases ek : k = j
              · rw [ek]; omega
              · exact hall k (by omega)) 0 1 (Nat.zero_le _) ⟨Or.inr rfl, ⟨fun _ k hk => absurd hk (Nat.not_lt_zero k), fun _ => rfl⟩⟩
      have e : ((i : Int) + ((0 : Nat) : Int)) = (i : Int) := by omega
      rw [e] at inner
      exact inner
  exact key l 1 (by omega) (Nat.le_refl _) rfl
/-- tellStrongest -/
theorem ra_159 (hd : 2 ≤ d) (hR : Ref M s) (hW : wfs s) (h : ∀ M', st3 M' 97 30 (STR (gW s)) → px_st M M' → Qr none (pm_m n kd M')) : pm_run d 159 [.inr (.inl (9, 97))] (pm_m n kd M) Qr Qx := by
  obtain ⟨d, rfl⟩ := pm_ex1 (show 1 ≤ d by omega)
  have h24 : (gW s).length ≤ 24 := hW.1.2.2.1.1
  refine tr_159 (pm_lp (N := (gW s).length) (G := fun i M1 => pm_wq d 159 Qr Qx (17, [some (.inr (.inl (9, 97))), some (.inl (i : Int)), none, none], [], pm_m n kd M1, 0, 0)) (I := fun i M1 => st3 M1 97 30 (STA (gW s) i) ∧ px_st M M1) ?_ ?_ 0 _ (Nat.zero_le _) ⟨st3.put rfl rfl rfl, ((px_st.rf.up (by decide)).up (by decide)).up (by decide)⟩)
  · intro M1 ⟨h1, ho⟩
    have hn := (hR.sc ho.sc).nw
    exact tr_159_17 ⟨fun _ => h M1 h1 ho, fun z => by omega⟩
  · intro i M1 hi ⟨h1, ho⟩ ih
    have hn := (hR.sc ho.sc).nw
    have hb0 := STA_b3 h24 i (Nat.le_of_lt hi)
    refine tr_159_17 ⟨fun z => by omega, fun _ => ?_⟩
    have key := pm_lp (N := (gW s).length - i) (G := fun c M2 => pm_wq d 159 Qr Qx (27, [some (.inr (.inl (9, 97))), some (.inl (i : Int)), some (.inl ((c : Int) + 1)), none], [], pm_m n kd M2, 0, 0)) (I := fun c M2 => st3 M2 97 30 (bst (fun l => (l, Px (gW s) i l)) i (STA (gW s) i) c) ∧ px_st M M2) (fun M2 ⟨g1, ho2⟩ => by
        have hn2 := (hR.sc ho2.sc).nw
        refine tr_159_27 ⟨⟨by omega, by omega⟩, fun _ => ⟨⟨by omega, by omega⟩, ih M2 ⟨?_, ho2⟩⟩, fun z => by omega⟩
        rw [STA, LP_same (Nat.le_of_lt hi) hb0.2.2.1]
        exact g1) (fun c M2 hc ⟨g1, ho2⟩ ih2 => by
        have hR2 := hR.sc ho2.sc
        have hn2 := hR2.nw
        have hb3 := bst_b3p h24 hb0 (Nat.le_of_lt hi) c (Nat.le_of_lt hc)
        obtain ⟨g11, g12, g13⟩ := g1
        have e1 : ((c : Int) + 1) = ((c + 1 : Nat) : Int) := by omega
        rw [e1]
        refine tr_159_27 ⟨⟨by omega, by omega⟩, fun z => by omega, fun _ => ?_⟩
        refine ra_158 (by omega) (by omega) (by omega) h24 hR2.w (tr_159_43 ?_)
        have hP := Px_spec (w := gW s) (i := i) (show 1 ≤ c + 1 by omega)
        have g12 : M2 97 31 = _ := g12
        have g13 : M2 97 32 = _ := g13
        rw [g12, g13]
        have m1 := m24 (show c + 1 ≤ 24 by omega) hb3.2.2.2
        have m2 := m24 hb3.2.1 (show Px (gW s) i (c + 1) ≤ 24 by omega)
        have c1 : (((c + 1 : Nat) : Int) * ((bst (fun l => (l, Px (gW s) i l)) i (STA (gW s) i) c).2.2 : Int)) = (((c + 1) * (bst (fun l => (l, Px (gW s) i l)) i (STA (gW s) i) c).2.2 : Nat) : Int) := by rw [Int.natCast_mul]
        have c2 : (((bst (fun l => (l, Px (gW s) i l)) i (STA (gW s) i) c).2.1 : Int) * (Px (gW s) i (c + 1) : Int)) = (((bst (fun l => (l, Px (gW s) i l)) i (STA (gW s) i) c).2.1 * Px (gW s) i (c + 1) : Nat) : Int) := by rw [Int.natCast_mul]
        rw [c1, c2]
        refine ⟨⟨by omega, by omega⟩, ⟨by omega, by omega⟩, fun z => ⟨⟨by omega, by omega⟩, ih2 M2 ⟨?_, ho2⟩⟩, fun z => ⟨⟨by omega, by omega⟩, ih2 _ ⟨?_, ((ho2.up (by decide)).up (by decide)).up (by decide)⟩⟩⟩
        · rw [bst, if_neg (by show ¬ (_ * Px (gW s) i (c + 1) < (c + 1) * _); omega)]
          exact ⟨g11, g12, g13⟩
        · rw [bst, if_pos (by show (_ * Px (gW s) i (c + 1) < (c + 1) * _); omega)]
          exact st3.put rfl rfl rfl) 0 M1 (Nat.zero_le _) ⟨h1, ho⟩
    exact key
theorem ra_161 (hd : 3 ≤ d) (hR : Ref M s) (hW : wfs s) (h : RO (o_strongestFactor s x) n kd M Qr) : pm_run d 161 [.inr (.inl (9, 97)), .inl x] (pm_m n kd M) Qr Qx := by
  obtain ⟨d, rfl⟩ := pm_ex1 (show 1 ≤ d by omega)
  have hn := hR.nw
  unfold o_strongestFactor at h
  refine tr_161 (by omega) ⟨fun z => ⟨fun z3 => ?_, fun z3 => ?_⟩, fun z => ?_⟩
  · rw [if_pos z, if_neg (ln0.mp (by omega))] at h
    refine ra_159 (by omega) hR hW (fun M1 ⟨g1, g2, g3⟩ ho => tr_161_32 (by omega) ?_)
    have hh := RO.ok h hR ho.sc
    have g2 : M1 97 31 = _ := g2
    have g3 : M1 97 32 = _ := g3
    rw [g1, g2, g3]
    refine ⟨fun z4 => ⟨fun z5 => ?_, fun z5 => ?_⟩, fun z4 => ?_⟩
    · rw [if_neg z4, if_neg z5] at hh
      exact hh
    · rw [if_neg z4, if_pos (Classical.byContradiction z5)] at hh
      exact hh
    · rw [if_pos (Classical.byContradiction z4)] at hh
      exact hh
  · rw [if_pos z, if_pos (List.length_eq_zero_iff.mp (by omega))] at h
    exact RO.bad h hR px_sc.rf
  · rw [if_neg z] at h
    exact RO.bad h hR px_sc.rf
theorem ra_160 (hd : 3 ≤ d) (hR : Ref M s) (hW : wfs s) (h : ROd (o_greatestExponent s) s n kd M Qr) : pm_run d 160 [.inr (.inl (9, 97))] (pm_m n kd M) Qr Qx := by
  obtain ⟨d, rfl⟩ := pm_ex1 (show 1 ≤ d by omega)
  have hn := hR.nw
  have h24 : (gW s).length ≤ 24 := hW.1.2.2.1.1
  unfold o_greatestExponent at h
  refine tr_160 ⟨fun z => ?_, fun z => ?_⟩
  · rw [if_neg (ln0.mp (by omega))] at h
    refine ra_159 (by omega) hR hW (fun M1 ⟨g1, g2, g3⟩ ho => tr_160_18 ?_)
    have hb := STA_b3 h24 (gW s).length (Nat.le_refl _)
    have hv := fp_quot (a := (STR (gW s)).2.1) (b := (STR (gW s)).2.2) (Nat.lt_of_le_of_lt hb.2.2.2 (by decide)) (by have := hb.2.2.1; unfold STR; omega)
    have g2 : M1 97 31 = _ := g2
    have g3 : M1 97 32 = _ := g3
    rw [pm_up_ne (Or.inr (by decide)), pm_up_ne (Or.inr (by decide)), g2, g3]
    exact ⟨hv, ROd.ok h hR ho.sc hv⟩
  · rw [if_pos (List.length_eq_zero_iff.mp (by omega))] at h
    exact ROd.bad h hR px_sc.rf
theorem ra_156 (hd : 3 ≤ d) (hR : Ref M s) (hW : wfs s) (h : ROf (o_density s x) s n kd M Qr) : pm_run d 156 [.inr (.inl (9, 97)), .inl x] (pm_m n kd M) Qr Qx := by
  obtain ⟨d, rfl⟩ := pm_ex1 (show 1 ≤ d by omega)
  have hn := hR.nw
  have hk := hR.k
  have hK : 2 ≤ gK s ∧ gK s ≤ 4 := hW.1.1
  have h24 : (gW s).length ≤ 24 := hW.1.2.2.1.1
  unfold o_density at h
  refine tr_156 (by omega) ⟨⟨by omega, by omega⟩, fun z => ⟨fun z2 => ?_, fun z2 => ?_⟩, fun z => ?_⟩
  · rw [if_pos (by omega), if_neg (ln0.mp (by omega))] at h
    obtain ⟨l, rfl⟩ : ∃ k : Nat, x = (k : Int) := ⟨x.toNat, by omega⟩
    rw [Int.toNat_natCast] at h
    have hv := fp_dens (gW s).length (by omega) (by omega) ((gW s).count l) (Nat.lt_of_le_of_lt List.count_le_length (by omega))
    refine pm_lp (α := Nat) (N := (gW s).length) (G := fun i c => pm_wq d 156 Qr Qx (33, [some (.inr (.inl (9, 97))), some (.inl (l : Int)), some (.inl (c : Int)), some (.inl (i : Int))], [], pm_m n kd M, 0, 0)) (I := fun i c => c = ((gW s).take i).count l) ?_ ?_ 0 0 (Nat.zero_le _) rfl
    · intro c hc
      rw [List.take_length] at hc
      refine tr_156_33 (by omega) ⟨fun _ => ?_, fun z => by omega⟩
      rw [pm_up_ne (Or.inr (by decide)), hn, hc]
      exact ⟨hv.1, ROf.ok h hR px_sc.rf hv.2⟩
    · intro i c hi hc ih
      have hcl : c ≤ i := by rw [hc]; exact Nat.le_trans List.count_le_length (by rw [List.length_take]; omega)
      refine tr_156_33 (by omega) ⟨fun z => by omega, fun _ => ⟨⟨by omega, by omega⟩, fun z => ⟨⟨by omega, by omega⟩, ⟨by omega, by omega⟩, ?_⟩, fun z => ⟨⟨by omega, by omega⟩, ⟨by omega, by omega⟩, ?_⟩⟩⟩
      · rw [Int.toNat_natCast, hR.w i hi] at z
        rw [Int.add_zero]
        refine ih c ?_
        rw [tk_succ hi, List.count_append, List.count_singleton, if_neg (by rw [beq_iff_eq]; omega), Nat.add_zero]
        exact hc
      · rw [Int.toNat_natCast, hR.w i hi] at z
        refine ih (c + 1) ?_
        rw [tk_succ hi, List.count_append, List.count_singleton, if_pos (by rw [beq_iff_eq]; omega), hc]
  · rw [if_pos (by omega), if_pos (List.length_eq_zero_iff.mp (by omega))] at h
    exact ROf.bad h hR px_sc.rf
  · rw [if_neg (by omega)] at h
    exact ROf.bad h hR px_sc.rf
theorem ra_157 {f : UInt64} (hd : 1 ≤ d) (hR : Ref M s) (hW : wfs s) (hf : fpB (-21) f) (h : ROd (o_discountedSum s f) s n kd M Qr) : pm_run d 157 [.inr (.inl (9, 97)), .inr (.inr (.inr (.inr f)))] (pm_m n kd M) Qr Qx := by
  obtain ⟨d, rfl⟩ := pm_ex1 (show 1 ≤ d by omega)
  have hn := hR.nw
  have h24 : (gW s).length ≤ 24 := hW.1.2.2.1.1
  have hK := hW.1.1.2
  have hw4 : ∀ v ∈ gW s, v < 4 := fun v hv => Nat.lt_of_lt_of_le (hW.1.2.2.1.2 v hv) hK
  unfold o_discountedSum at h
  refine tr_157 ⟨fun z => ?_, fun z => ⟨fun z2 => ?_, fun z2 => ?_⟩⟩
  · rw [if_pos z] at h
    exact ROd.bad h hR px_sc.rf
  · rw [if_neg z, if_pos z2] at h
    refine pm_lp (α := Unit) (N := (gW s).length) (G := fun i _ => pm_wq d 157 Qr Qx (29, [some (.inr (.inl (9, 97))), some (.inr (.inr (.inr (.inr f)))), none, some (.inr (.inr (.inr (.inr (dsu (gW s) f i).1)))), none, some (.inr (.inr (.inr (.inr (dsu (gW s) f i).2)))), none, some (.inl (i : Int))], [], pm_m n kd M, 0, 0)) (I := fun _ _ => True) ?_ ?_ 0 () (Nat.zero_le _) trivial
    · intro _ _
      exact tr_157_29 ⟨fun _ => ROd.ok h hR px_sc.rf (dsu_B hw4 h24 hf _ (Nat.le_refl _)).1.vf, fun z => by omega⟩
    · intro i _ hi _ ih
      obtain ⟨v1, v2, v3⟩ := dsu_vf hw4 h24 hf hi
      refine tr_157_29 ⟨fun z => by omega, fun _ => ⟨⟨by omega, by omega⟩, ?_⟩⟩
      rw [Int.toNat_natCast, hR.w i hi]
      exact ⟨v1, v2, v3, ⟨by omega, by omega⟩, ih () trivial⟩
  · rw [if_neg z, if_neg z2] at h
    exact ROd.bad h hR px_sc.rf
end RFS

/-! CALLS OF THE CLASS: searches -/
def fnd (x : Nat) (L : List (List Nat × Nat)) : Option (List Nat × Nat) := L.find? (fun q => q.1.length == x)
def mxl (L : List (List Nat × Nat)) : Nat := L.foldr (fun q m => max q.1.length m) 0
def cnl (f : List Nat → Bool) (L : List (List Nat × Nat)) : Nat := L.countP (fun q => f q.1)
theorem fnd_eq {x : Nat} {v : List Nat} {t : Nat} {L : List (List Nat × Nat)} (h : v.length = x) : fnd x ((v, t) :: L) = some (v, t) := by
  unfold fnd
  rw [List.find?_cons_of_pos (by simpa using h)]
theorem fnd_ne {x : Nat} {v : List Nat} {t : Nat} {L : List (List Nat × Nat)} (h : v.length ≠ x) : fnd x ((v, t) :: L) = fnd x L := by
  unfold fnd
  rw [List.find?_cons_of_neg (by simpa using h)]
theorem cnl_cons {f : List Nat → Bool} {v : List Nat} {t : Nat} {L : List (List Nat × Nat)} : cnl f ((v, t) :: L) = cnl f L + if f v = true then 1 else 0 := by
  unfold cnl
  rw [List.countP_cons]
theorem cnl_le {f : List Nat → Bool} {L : List (List Nat × Nat)} : cnl f L ≤ L.length := List.countP_le_length
noncomputable abbrev nodes (s : stt) (lg : Nat) (w : List Nat) : EV := DF (gP s) (gK s) (lg - w.length) w 0
noncomputable def o_extend (s : stt) (x : Int) : ans := if (gW s).length ≤ x ∧ x ≤ 24 then (if gP s = [] then (.inr 2, s) else if (FO (gP s) (gW s)).isSome = true then (.inr 3, s) else match fnd x.toNat ((gW s, 0) :: (nodes s x.toNat (gW s)).1) with | some q => (.inl (q.2 : Nat), sW s q.1) | none => if (nodes s x.toNat (gW s)).2.2 = true then (.inr 4, s) else (.inr 3, s)) else (.inr 1, s)
noncomputable def o_longestAvoiding (s : stt) (x : Int) : ans := if 1 ≤ x ∧ x ≤ 20 then (if gP s = [] then (.inr 2, s) else match fnd x.toNat (nodes s x.toNat []).1 with | some _ => (.inl x, s) | none => if (nodes s x.toNat []).2.2 = true then (.inr 3, s) else (.inl (mxl (nodes s x.toNat []).1 : Nat), s)) else (.inr 1, s)
/-- how many words of a length avoid; whether it was given up -/
noncomputable def cw (s : stt) (lg : Nat) : Nat := (if lg = 0 then 1 else 0) + cnl (fun v => v.length == lg) (nodes s lg []).1
noncomputable def o_countAvoiding (s : stt) (x : Int) : ans := if 0 ≤ x ∧ x ≤ 10 then (if gP s = [] then (.inr 2, s) else if (nodes s x.toNat []).2.2 = true then (.inr 3, s) else (.inl (cw s x.toNat : Nat), s)) else (.inr 1, s)
noncomputable def o_growth (s : stt) (x : Int) : UInt64 ⊕ Nat := if 1 ≤ x ∧ x ≤ 10 then (if gP s = [] then .inr 2 else if (nodes s x.toNat []).2.2 = true ∨ (nodes s (x.toNat - 1) []).2.2 = true then .inr 3 else if cw s (x.toNat - 1) = 0 then .inr 4 else .inl (FP.ddiv (FP.i2d (Int32.ofInt (cw s x.toNat : Nat))) (FP.i2d (Int32.ofInt (cw s (x.toNat - 1) : Nat))))) else .inr 1
/-- words of a length that a morphism spoils -/
noncomputable def csp (s : stt) (im : Nat → List Nat) (lg : Nat) : Nat := cnl (fun v => v.length == lg && (FO (gP s) (pm_ap im v)).isSome) (nodes s lg []).1
noncomputable def o_countSpoiled (s : stt) (x : Int) : ans := if 0 ≤ x ∧ x ≤ 5 then (if gP s = [] then (.inr 2, s) else if (nodes s x.toNat []).2.2 = true then (.inr 3, s) else (.inl (csp s (gI s) x.toNat : Nat), s)) else (.inr 1, s)
theorem cw_lt {s : stt} {lg : Nat} : cw s lg < 2000 := by
  unfold cw
  have h1 := cnl_le (f := fun v => v.length == lg) (L := (nodes s lg []).1)
  have h2 := DF_ok (p := gP s) (K := gK s) (lg - ([] : List Nat).length) [] 0 (by decide)
  obtain ⟨a, b⟩ := h2
  have h1 : cnl (fun v => v.length == lg) (nodes s lg []).1 ≤ (nodes s lg []).1.length := h1
  have a : (nodes s lg []).1.length + 0 ≤ (nodes s lg []).2.1 := a
  have b : (nodes s lg []).2.1 ≤ 1500 := b
  split <;> omega
section LBS
variable {d n : Nat} {kd : Nat → Nat} {M : Nat → Nat → Int} {Qr : Option pm_V → pm_Me → Prop} {Qx : Nat → pm_Me → Prop} {s : stt} {x y : Int}
theorem RS_len {p : List Nat} {K Lg m : Nat} {w : List Nat} {l tr : Nat} {L : List (List Nat × Nat)} {r : Nat × Bool} (ht : tr ≤ 1500) (h : RS p K Lg m w l tr = (L, r)) : L.length ≤ 1500 := by
  have lp : ∀ w l tr, tr ≤ 1500 → evok tr (lpD p K (Lg - w.length) w l tr) := by
    intro w l tr ht
    cases Lg - w.length with
    | zero => exact ⟨by show 0 + tr ≤ tr; omega, ht⟩
    | succ D => exact lpc_ok (fun w t ht => DF_ok D w t ht) _ w l tr ht
  have key : ∀ m w l tr, tr ≤ 1500 → evok tr (RS p K Lg m w l tr) := by
    intro m
    induction m with
    | zero => intro w l tr ht; exact lp w l tr ht
    | succ m ih => intro w l tr ht; exact evb_ok (lp w l tr ht) (fun t ht => ih _ _ t ht)
  obtain ⟨a, b⟩ := key m w l tr ht
  rw [h] at a b
  have a : L.length + tr ≤ r.1 := a
  have b : r.1 ≤ 1500 := b
  omega
theorem la_92 (hd : 26 ≤ d) (hL : Lab M s) (hW : wfs s) (h : LO [0, 1, 5, 4] (o_extend s x) n kd M Qr Qx) : pm_run d 92 [.inr (.inl (8, 0)), .inl x] (pm_m n kd M) Qr Qx := by
  obtain ⟨d, rfl⟩ := pm_ex1 (show 1 ≤ d by omega)
  have hsw := hL.w.size
  have hsp := hL.p.size
  have hK : 2 ≤ gK s ∧ gK s ≤ 4 := hW.1.1
  have hP : wfp (gP s) := hW.1.2.1
  have hWw : wfw (gK s) (gW s) := hW.1.2.2.1
  unfold o_extend at h
  refine tr_92 (by omega) ⟨fun z => ?_, fun z => ⟨fun z2 => ⟨fun z3 => ?_, fun z3 => ?_⟩, fun z2 => ?_⟩⟩
  · rw [if_neg (by omega)] at h
    exact h M hL pm_fr.rf
  · have hne : gP s ≠ [] := ln0.mp (by omega)
    rw [if_pos (by omega), if_neg hne] at h
    obtain ⟨lg, rfl⟩ : ∃ k : Nat, x = (k : Int) := ⟨x.toNat, by omega⟩
    rw [Int.toNat_natCast] at h
    refine la_117 (by omega) hL.p hL.w hne hP (by decide) (by decide) (fun M1 ho1 => tr_92_53 (by omega) ⟨fun zr => ?_, fun zr => ?_⟩)
    · have hfo : ¬ (FO (gP s) (gW s)).isSome = true := fun w => by rw [w] at zr; exact absurd zr (by decide)
      rw [if_neg hfo] at h
      have hL1 := hL.fr ho1 (by decide)
      rw [hL1.k]
      refine sp_53 (w := gW s) (K := gK s) (by omega) hL1.p hP.2 hL1.w (by decide) (fun M2 hS ho2 => tr_92_95 (by omega) ?_)
      have hRS0 : RS (gP s) (gK s) lg 0 (gW s) 0 0 = nodes s lg (gW s) := by rw [RS, lpD_zero]
      generalize hN : nodes s lg (gW s) = N at h hRS0
      obtain ⟨L0, r0⟩ := N
      generalize hF : fnd lg ((gW s, 0) :: L0) = F at h
      have hofr : pm_fr 53 78 M M2 := (ho1.wd (by decide) (by decide)).tr (ho2.wd (by decide) (by decide))
      have loop : ∀ (c found : Nat) (v : List Nat) (t : Nat) (L : List (List Nat × Nat)) (M3 : Nat → Nat → Int), L.length = c → found + c ≤ 1500 → SI M3 (gP s) v (gW s).length (gK s) t → (gW s).length ≤ v.length → v.length ≤ lg → (∀ u ∈ v, u < gK s) → t ≤ 1500 → RS (gP s) (gK s) lg (v.length - (gW s).length) v 0 t = (L, r0) → fnd lg ((v, t) :: L) = F → pm_fr 53 78 M M3 → pm_wq d 92 Qr Qx (99, [some (.inr (.inl (8, 0))), some (.inl (lg : Int)), some (.inl 1), some (.inl (found : Int))], [], pm_m n kd M3, 1, 6) := by
        intro c
        induction c with
        | zero =>
          intro found v t L M3 hc hf hS3 hbv hvl hvK ht hR hfn ho3
          have hs3 := hS3.2.2.1.size
          have h6 := hS3.2.2.2.2.2.2
          have hLn : L = [] := List.length_eq_zero_iff.mp hc
          refine tr_92_99 (by omega) ⟨fun w => by omega, fun _ => ⟨fun w => absurd w (by decide), fun _ => ⟨fun w => ⟨fun _ => ⟨fun _ => ?_, fun w2 => absurd w w2⟩, fun w2 => absurd h6 w2⟩, fun w => ?_⟩⟩⟩
          · rw [fnd_eq (by omega)] at hfn
            rw [← hfn] at h
            refine sq_42 (by omega) hS3.2.2.1 (by decide) (by decide) (fun M4 hr ho4 => tr_92_202 (by omega) ?_)
            rw [ho4.at (by decide), hS3.2.2.2.2.2.1]
            exact h M4 ((hL.fr ho3 (by decide)).sw ho4 hr) ((ho3.wd (by decide) (by decide)).tr (ho4.wd (by decide) (by decide)))
          · refine sp_55 (m := v.length - (gW s).length) (by omega) hne hP.1 hS3 (by omega) (by omega) hvl hK.2 hvK ht ?_ ?_
            · intro M4 v' t' L' r hR2 _ _ _ _ _ _ _
              rw [hR, hLn] at hR2
              cases hR2
            · intro M4 t' g hR2 h6' h5' ⟨v2, hv2, hv2l⟩ ho4
              rw [hR, hLn] at hR2
              have hr0 : r0 = (t', g) := (Prod.mk.inj hR2).2
              rw [fnd_ne (by omega), hLn] at hfn
              have hfn : none = F := hfn
              rw [← hfn] at h
              have h : LO [0, 1, 5, 4] (if r0.2 = true then (.inr 4, s) else (.inr 3, s)) n kd M Qr Qx := h
              have hv2s := hv2.size
              have hfin := (hL.fr ho3 (by decide)).fr ho4 (by decide)
              have hofin : pm_fr 0 97 M M4 := (ho3.wd (by decide) (by decide)).tr (ho4.wd (by decide) (by decide))
              rw [hr0] at h
              have endf : ((M4 63 6 = 0 → (((lg : Int) ≤ M4 76 1 → pm_run d 42 [.inr (.inl (6, 4)), .inr (.inl (6, 76))] (pm_m n kd M4) (fun rv m' => pm_wq d 92 Qr Qx (202, [some (.inr (.inl (8, 0))), some (.inl (lg : Int)), some (.inl 0), some (.inl ((found : Int) + 1))], pm_lst rv ++ [], m', 1, 6)) (fun _ _ => False)) ∧ (¬ ((lg : Int) ≤ M4 76 1) → Qx 5 (pm_m n kd M4)))) ∧ (¬ (M4 63 6 = 0) → Qx 4 (pm_m n kd M4))) := by
                refine ⟨fun z6 => ⟨fun w2 => by omega, fun _ => ?_⟩, fun z6 => ?_⟩
                · have hg : g = false := by cases g; rfl; rw [h6'] at z6; exact absurd z6 (by decide)
                  rw [hg, if_neg Bool.false_ne_true] at h
                  exact h M4 hfin hofin
                · have hg : g = true := by cases g; rw [h6'] at z6; exact absurd rfl z6; rfl
                  rw [hg, if_pos rfl] at h
                  exact h M4 hfin hofin
              exact tr_92_132 (by omega) ⟨⟨by omega, by omega⟩, tr_92_99 (by omega) ⟨fun _ => endf, fun _ => ⟨fun _ => endf, fun w2 => absurd rfl w2⟩⟩⟩
        | succ c ih =>
          intro found v t L M3 hc hf hS3 hbv hvl hvK ht hR hfn ho3
          have hs3 := hS3.2.2.1.size
          have h6 := hS3.2.2.2.2.2.2
          refine tr_92_99 (by omega) ⟨fun w => by omega, fun _ => ⟨fun w => absurd w (by decide), fun _ => ⟨fun w => ⟨fun _ => ⟨fun _ => ?_, fun w2 => absurd w w2⟩, fun w2 => absurd h6 w2⟩, fun w => ?_⟩⟩⟩
          · rw [fnd_eq (by omega)] at hfn
            rw [← hfn] at h
            refine sq_42 (by omega) hS3.2.2.1 (by decide) (by decide) (fun M4 hr ho4 => tr_92_202 (by omega) ?_)
            rw [ho4.at (by decide), hS3.2.2.2.2.2.1]
            exact h M4 ((hL.fr ho3 (by decide)).sw ho4 hr) ((ho3.wd (by decide) (by decide)).tr (ho4.wd (by decide) (by decide)))
          · rw [fnd_ne (by omega)] at hfn
            refine sp_55 (m := v.length - (gW s).length) (by omega) hne hP.1 hS3 (by omega) (by omega) hvl hK.2 hvK ht ?_ ?_
            · intro M4 v' t' L' r hR2 hS4 hb4 hl4 hK4 ht4 hR4 ho4
              rw [hR] at hR2
              cases hR2
              have e : ((found : Int) + 1) = ((found + 1 : Nat) : Int) := by omega
              refine tr_92_132 (by omega) ⟨⟨by omega, by omega⟩, ?_⟩
              rw [e]
              exact ih (found + 1) v' t' L' M4 (by rw [List.length_cons] at hc; omega) (by omega) hS4 hb4 hl4 hK4 ht4 hR4 hfn (ho3.tr (ho4.wd (by decide) (by decide)))
            · intro M4 t' g hR2 _ _ _ _
              rw [hR] at hR2
              have := (Prod.mk.inj hR2).1
              rw [this] at hc
              cases hc
      refine loop L0.length 0 (gW s) 0 L0 M2 rfl ?_ hS (Nat.le_refl _) (by omega) hWw.2 (by decide) ?_ hF hofr
      · have := RS_len (tr := 0) (by decide) hRS0
        omega
      · rw [Nat.sub_self]; exact hRS0
    · have hfo : (FO (gP s) (gW s)).isSome = true := by
        cases hc : (FO (gP s) (gW s)).isSome with
        | true => rfl
        | false => rw [hc] at zr; exact absurd rfl zr
      rw [if_pos hfo] at h
      exact h M1 (hL.fr ho1 (by decide)) (ho1.wd (by decide) (by decide))
  · rw [if_pos (by omega), if_pos (List.length_eq_zero_iff.mp (by omega))] at h
    exact h M hL pm_fr.rf
  · rw [if_neg (by omega)] at h
    exact h M hL pm_fr.rf
/-- beginWithNothing -/
theorem la_118 (hd : 8 ≤ d) (hL : Lab M s) (hW : wfs s) (h : ∀ M', SI M' (gP s) [] 0 (gK s) 0 → pm_fr 63 95 M M' → (∀ a, 78 ≤ a → a < 93 → M' a = M a) → Qr none (pm_m n kd M')) : pm_run d 118 [.inr (.inl (8, 0))] (pm_m n kd M) Qr Qx := by
  obtain ⟨d, rfl⟩ := pm_ex1 (show 1 ≤ d by omega)
  have ho : pm_fr 93 94 M (pm_up M 93 1 0) := pm_fr.rf.up (by decide) (by decide)
  have hL1 := hL.fr ho (by decide)
  refine tr_118 (by omega) ?_
  rw [hL1.k]
  exact sp_53 (w := []) (by omega) hL1.p hW.1.2.1.2 pm_row.clear (by decide) (fun M1 hS ho1 => tr_118_32 (by omega) (h M1 hS ((ho.wd (by decide) (by decide)).tr (ho1.wd (by decide) (by decide))) (fun a h1 h2 => by rw [ho1 a (by omega), ho a (by omega)])))
theorem nodes0 {lg : Nat} : RS (gP s) (gK s) lg 0 [] 0 0 = nodes s lg [] := by rw [RS, lpD_zero]
theorem la_93 (hd : 26 ≤ d) (hL : Lab M s) (hW : wfs s) (h : LO [0, 1, 4] (o_longestAvoiding s x) n kd M Qr Qx) : pm_run d 93 [.inr (.inl (8, 0)), .inl x] (pm_m n kd M) Qr Qx := by
  obtain ⟨d, rfl⟩ := pm_ex1 (show 1 ≤ d by omega)
  have hsp := hL.p.size
  have hK : 2 ≤ gK s ∧ gK s ≤ 4 := hW.1.1
  have hP : wfp (gP s) := hW.1.2.1
  unfold o_longestAvoiding at h
  refine tr_93 (by omega) ⟨fun z => ?_, fun z => ⟨fun z2 => ⟨fun z3 => ?_, fun z3 => ?_⟩, fun z2 => ?_⟩⟩
  · rw [if_neg (by omega)] at h
    exact h M hL pm_fr.rf
  · have hne : gP s ≠ [] := ln0.mp (by omega)
    rw [if_pos (by omega), if_neg hne] at h
    obtain ⟨lg, rfl⟩ : ∃ k : Nat, x = (k : Int) := ⟨x.toNat, by omega⟩
    rw [Int.toNat_natCast] at h
    refine la_118 (by omega) hL hW (fun M2 hS ho2 _ => tr_93_30 (by omega) ?_)
    have hRS0 := nodes0 (s := s) (lg := lg)
    generalize hN : nodes s lg [] = N at h hRS0
    obtain ⟨L0, r0⟩ := N
    generalize hF : fnd lg L0 = F at h
    generalize hX : mxl L0 = X at h
    have loop : ∀ (c found : Nat) (v : List Nat) (t lx : Nat) (L : List (List Nat × Nat)) (M3 : Nat → Nat → Int), L.length = c → found + c ≤ 1500 → SI M3 (gP s) v 0 (gK s) t → v.length ≤ lg → (∀ u ∈ v, u < gK s) → t ≤ 1500 → RS (gP s) (gK s) lg v.length v 0 t = (L, r0) → lx < lg → F = fnd lg L → X = max lx (mxl L) → pm_fr 63 95 M M3 → pm_wq d 93 Qr Qx (34, [some (.inr (.inl (8, 0))), some (.inl (lg : Int)), some (.inl (lx : Int)), some (.inl (found : Int))], [], pm_m n kd M3, 1, 6) := by
      intro c
      induction c with
      | zero =>
        intro found v t lx L M3 hc hf hS3 hvl hvK ht hR hlx hfn hmx ho3
        have hLn : L = [] := List.length_eq_zero_iff.mp hc
        refine tr_93_34 (by omega) ⟨fun w => by omega, fun _ => ⟨fun w => by omega, fun _ => ?_⟩⟩
        refine sp_55 (m := v.length) (by omega) hne hP.1 hS3 (by omega) (by omega) hvl hK.2 hvK ht ?_ ?_
        · intro M4 v' t' L' r hR2 _ _ _ _ _ _ _
          rw [hR, hLn] at hR2
          cases hR2
        · intro M4 t' g hR2 h6' h5' _ ho4
          rw [hR, hLn] at hR2
          have hr0 : r0 = (t', g) := (Prod.mk.inj hR2).2
          rw [hLn] at hfn hmx
          have hfn : F = none := hfn
          have hmx : X = max lx 0 := hmx
          rw [hfn] at h
          have h : LO [0, 1, 4] (if r0.2 = true then (.inr 3, s) else (.inl (X : Int), s)) n kd M Qr Qx := h
          have hfin := (hL.fr ho3 (by decide)).fr ho4 (by decide)
          have hofin : pm_fr 0 97 M M4 := (ho3.wd (by decide) (by decide)).tr (ho4.wd (by decide) (by decide))
          rw [hr0] at h
          refine tr_93_54 (by omega) ⟨fun _ => ⟨fun z6 => ?_, fun z6 => ?_⟩, fun w => absurd rfl w⟩
          · have hg : g = false := by cases g; rfl; rw [h6'] at z6; exact absurd z6 (by decide)
            rw [hg, if_neg Bool.false_ne_true] at h
            rw [show lx = X by omega]
            exact h M4 hfin hofin
          · have hg : g = true := by cases g; rw [h6'] at z6; exact absurd rfl z6; rfl
            rw [hg, if_pos rfl] at h
            exact h M4 hfin hofin
      | succ c ih =>
        intro found v t lx L M3 hc hf hS3 hvl hvK ht hR hlx hfn hmx ho3
        refine tr_93_34 (by omega) ⟨fun w => by omega, fun _ => ⟨fun w => by omega, fun _ => ?_⟩⟩
        refine sp_55 (m := v.length) (by omega) hne hP.1 hS3 (by omega) (by omega) hvl hK.2 hvK ht ?_ ?_
        · intro M4 v' t' L' r hR2 hS4 hb4 hl4 hK4 ht4 hR4 ho4
          rw [hR] at hR2
          cases hR2
          have hs4 := hS4.2.2.1.size
          have e : ((found : Int) + 1) = ((found + 1 : Nat) : Int) := by omega
          have hmx : X = max lx (max v'.length (mxl L')) := hmx
          refine tr_93_54 (by omega) ⟨fun w => absurd w (by decide), fun _ => ⟨⟨by omega, by omega⟩, ?_⟩⟩
          have e2 : max (lx : Int) (M4 76 1) = ((max lx v'.length : Nat) : Int) := by rw [hs4.1]; omega
          rw [e, e2]
          have ho5 : pm_fr 63 95 M M4 := ho3.tr (ho4.wd (by decide) (by decide))
          by_cases hv : v'.length = lg
          · rw [fnd_eq hv] at hfn
            rw [hfn] at h
            have h6 := hS4.2.2.2.2.2.2
            have e3 : ((max lx v'.length : Nat) : Int) = (lg : Int) := by omega
            rw [e3]
            have hh := h M4 (hL.fr ho5 (by decide)) (ho5.wd (by decide) (by decide))
            exact tr_93_34 (by omega) ⟨fun w => ⟨fun _ => hh, fun w2 => absurd h6 w2⟩, fun _ => ⟨fun _ => ⟨fun _ => hh, fun w2 => absurd h6 w2⟩, fun w => by omega⟩⟩
          · rw [fnd_ne hv] at hfn
            exact ih (found + 1) v' t' (max lx v'.length) L' M4 (by rw [List.length_cons] at hc; omega) (by omega) hS4 hl4 hK4 ht4 hR4 (by omega) hfn (by omega) ho5
        · intro M4 t' g hR2 _ _ _ _
          rw [hR] at hR2
          have := (Prod.mk.inj hR2).1
          rw [this] at hc
          cases hc
    refine loop L0.length 0 [] 0 0 L0 M2 rfl ?_ hS (Nat.zero_le _) (fun u hu => by cases hu) (by decide) hRS0 (by omega) hF.symm (by omega) ho2
    have := RS_len (tr := 0) (by decide) hRS0
    omega
  · rw [if_pos (by omega), if_pos (List.length_eq_zero_iff.mp (by omega))] at h
    exact h M hL pm_fr.rf
  · rw [if_neg (by omega)] at h
    exact h M hL pm_fr.rf
/-- countWords -/
theorem la_119 {lg : Nat} (hd : 26 ≤ d) (hL : Lab M s) (hW : wfs s) (hne : gP s ≠ []) (hlg : lg ≤ 24) (h : ∀ M', pm_fr 63 95 M M' → Qr (some (.inl (if (nodes s lg []).2.2 = true then -1 else (cw s lg : Int)))) (pm_m n kd M')) : pm_run d 119 [.inr (.inl (8, 0)), .inl (lg : Int)] (pm_m n kd M) Qr Qx := by
  obtain ⟨d, rfl⟩ := pm_ex1 (show 1 ≤ d by omega)
  have hK : 2 ≤ gK s ∧ gK s ≤ 4 := hW.1.1
  have hP : wfp (gP s) := hW.1.2.1
  refine tr_119 (la_118 (by omega) hL hW (fun M2 hS ho2 _ => tr_119_4 ?_))
  have hRS0 := nodes0 (s := s) (lg := lg)
  unfold cw at h
  generalize hN : nodes s lg [] = N at h hRS0
  obtain ⟨L0, r0⟩ := N
  generalize hX : (if lg = 0 then 1 else 0) + cnl (fun v => v.length == lg) L0 = X at h
  have hL0 := RS_len (tr := 0) (by decide) hRS0
  have loop : ∀ (c found : Nat) (v : List Nat) (t cx : Nat) (L : List (List Nat × Nat)) (M3 : Nat → Nat → Int), L.length = c → found + c ≤ 1500 → cx ≤ found + 1 → SI M3 (gP s) v 0 (gK s) t → v.length ≤ lg → (∀ u ∈ v, u < gK s) → t ≤ 1500 → RS (gP s) (gK s) lg v.length v 0 t = (L, r0) → X = cx + cnl (fun v => v.length == lg) L → pm_fr 63 95 M M3 → pm_wq d 119 Qr Qx (16, [some (.inr (.inl (8, 0))), some (.inl (lg : Int)), some (.inl (cx : Int)), some (.inl (found : Int))], [], pm_m n kd M3, 0, 0) := by
    intro c
    induction c with
    | zero =>
      intro found v t cx L M3 hc hf hcx hS3 hvl hvK ht hR hx ho3
      have hLn : L = [] := List.length_eq_zero_iff.mp hc
      refine tr_119_16 ⟨fun w => by omega, fun _ => ?_⟩
      refine sp_55 (m := v.length) (by omega) hne hP.1 hS3 (by omega) hlg hvl hK.2 hvK ht ?_ ?_
      · intro M4 v' t' L' r hR2 _ _ _ _ _ _ _
        rw [hR, hLn] at hR2
        cases hR2
      · intro M4 t' g hR2 h6' h5' _ ho4
        rw [hR, hLn] at hR2
        have hr0 : r0 = (t', g) := (Prod.mk.inj hR2).2
        rw [hLn] at hx
        have hx : X = cx + 0 := hx
        have hh := h M4 (ho3.tr (ho4.wd (by decide) (by decide)))
        have hh : Qr (some (.inl (if r0.2 = true then -1 else (X : Int)))) (pm_m n kd M4) := hh
        rw [hr0] at hh
        refine tr_119_31 ⟨fun _ => ⟨fun z6 => ?_, fun z6 => ?_⟩, fun w => absurd rfl w⟩
        · have hg : g = false := by cases g; rfl; rw [h6'] at z6; exact absurd z6 (by decide)
          rw [hg, if_neg Bool.false_ne_true] at hh
          rw [show cx = X by omega]
          exact hh
        · have hg : g = true := by cases g; rw [h6'] at z6; exact absurd rfl z6; rfl
          rw [hg, if_pos rfl] at hh
          exact hh
    | succ c ih =>
      intro found v t cx L M3 hc hf hcx hS3 hvl hvK ht hR hx ho3
      refine tr_119_16 ⟨fun w => by omega, fun _ => ?_⟩
      refine sp_55 (m := v.length) (by omega) hne hP.1 hS3 (by omega) hlg hvl hK.2 hvK ht ?_ ?_
      · intro M4 v' t' L' r hR2 hS4 hb4 hl4 hK4 ht4 hR4 ho4
        rw [hR] at hR2
        cases hR2
        have hs4 := hS4.2.2.1.size
        have e : ((found : Int) + 1) = ((found + 1 : Nat) : Int) := by omega
        have ho5 : pm_fr 63 95 M M4 := ho3.tr (ho4.wd (by decide) (by decide))
        rw [cnl_cons] at hx
        rw [List.length_cons] at hc
        refine tr_119_31 ⟨fun w => absurd w (by decide), fun _ => ⟨fun z7 => ⟨⟨by omega, by omega⟩, ?_⟩, fun z7 => ⟨⟨by omega, by omega⟩, ⟨by omega, by omega⟩, ?_⟩⟩⟩
        · rw [if_neg (by rw [beq_iff_eq]; omega)] at hx
          rw [e]
          exact ih (found + 1) v' t' cx L' M4 (by omega) (by omega) (by omega) hS4 hl4 hK4 ht4 hR4 (by omega) ho5
        · rw [if_pos (by rw [beq_iff_eq]; omega)] at hx
          have e2 : ((cx : Int) + 1) = ((cx + 1 : Nat) : Int) := by omega
          rw [e, e2]
          exact ih (found + 1) v' t' (cx + 1) L' M4 (by omega) (by omega) (by omega) hS4 hl4 hK4 ht4 hR4 (by omega) ho5
      · intro M4 t' g hR2 _ _ _ _
        rw [hR] at hR2
        have := (Prod.mk.inj hR2).1
        rw [this] at hc
        cases hc
  refine ⟨fun w => ?_, fun w => ?_⟩
  · exact loop L0.length 0 [] 0 0 L0 M2 rfl (by omega) (by omega) hS (Nat.zero_le _) (fun u hu => by cases hu) (by decide) hRS0 (by rw [← hX, if_neg (by omega)]) ho2
  · exact loop L0.length 0 [] 0 1 L0 M2 rfl (by omega) (by omega) hS (Nat.zero_le _) (fun u hu => by cases hu) (by decide) hRS0 (by rw [← hX, if_pos (by omega)]) ho2
theorem la_94 (hd : 28 ≤ d) (hL : Lab M s) (hW : wfs s) (h : LO [0, 1, 4] (o_countAvoiding s x) n kd M Qr Qx) : pm_run d 94 [.inr (.inl (8, 0)), .inl x] (pm_m n kd M) Qr Qx := by
  obtain ⟨d, rfl⟩ := pm_ex1 (show 1 ≤ d by omega)
  have hsp := hL.p.size
  unfold o_countAvoiding at h
  refine tr_94 (by omega) ⟨fun z => ?_, fun z => ⟨fun z2 => ⟨fun z3 => ?_, fun z3 => ?_⟩, fun z2 => ?_⟩⟩
  · rw [if_neg (by omega)] at h
    exact h M hL pm_fr.rf
  · have hne : gP s ≠ [] := ln0.mp (by omega)
    rw [if_pos (by omega), if_neg hne] at h
    obtain ⟨lg, rfl⟩ : ∃ k : Nat, x = (k : Int) := ⟨x.toNat, by omega⟩
    rw [Int.toNat_natCast] at h
    refine la_119 (by omega) hL hW hne (by omega) (fun M1 ho => tr_94_30 (by omega) ?_)
    by_cases hg : (nodes s lg []).2.2 = true
    · rw [if_pos hg] at h ⊢
      exact ⟨fun w => absurd rfl w, fun _ => ⟨fun w => absurd w (by decide), fun _ => h M1 (hL.fr ho (by decide)) (ho.wd (by decide) (by decide))⟩⟩
    · rw [if_neg hg] at h ⊢
      exact ⟨fun _ => ⟨fun _ => h M1 (hL.fr ho (by decide)) (ho.wd (by decide) (by decide)), fun w => absurd rfl w⟩, fun w => by omega⟩
  · rw [if_pos (by omega), if_pos (List.length_eq_zero_iff.mp (by omega))] at h
    exact h M hL pm_fr.rf
  · rw [if_neg (by omega)] at h
    exact h M hL pm_fr.rf
theorem la_95 (hd : 28 ≤ d) (hL : Lab M s) (hW : wfs s) (h : LOd [0, 1, 4, 3] (o_growth s x) s n kd M Qr Qx) : pm_run d 95 [.inr (.inl (8, 0)), .inl x] (pm_m n kd M) Qr Qx := by
  obtain ⟨d, rfl⟩ := pm_ex1 (show 1 ≤ d by omega)
  have hsp := hL.p.size
  unfold o_growth at h
  refine tr_95 (by omega) ⟨fun z => ?_, fun z => ⟨fun z2 => ⟨fun z3 => ?_, fun z3 => ?_⟩, fun z2 => ?_⟩⟩
  · rw [if_neg (by omega)] at h
    exact h M hL pm_fr.rf
  · have hne : gP s ≠ [] := ln0.mp (by omega)
    rw [if_pos (by omega), if_neg hne] at h
    obtain ⟨lg, rfl⟩ : ∃ k : Nat, x = (k : Int) := ⟨x.toNat, by omega⟩
    rw [Int.toNat_natCast] at h
    refine la_119 (by omega) hL hW hne (by omega) (fun M1 ho => tr_95_31 (by omega) ⟨⟨by omega, by omega⟩, ?_⟩)
    have e : ((lg : Int) - 1) = ((lg - 1 : Nat) : Int) := by omega
    rw [e]
    have hL1 := hL.fr ho (by decide)
    refine la_119 (by omega) hL1 hW hne (by omega) (fun M2 ho2 => tr_95_39 (by omega) ?_)
    have hL2 := hL1.fr ho2 (by decide)
    have hofr : pm_fr 0 97 M M2 := (ho.wd (by decide) (by decide)).tr (ho2.wd (by decide) (by decide))
    by_cases hg : (nodes s lg []).2.2 = true
    · rw [if_pos (Or.inl hg)] at h
      rw [if_pos hg]
      exact ⟨fun _ => ⟨fun w => absurd w (by decide), fun _ => h M2 hL2 hofr⟩, fun w => absurd rfl w⟩
    · rw [if_neg hg]
      by_cases hg2 : (nodes s (lg - 1) []).2.2 = true
      · rw [if_pos (Or.inr hg2)] at h
        rw [if_pos hg2]
        exact ⟨fun w => by omega, fun _ => ⟨fun w => absurd rfl w, fun _ => ⟨fun w => absurd w (by decide), fun _ => h M2 hL2 hofr⟩⟩⟩
      · rw [if_neg (fun w => w.elim hg hg2)] at h
        rw [if_neg hg2]
        refine ⟨fun w => by omega, fun _ => ⟨fun _ => ⟨fun _ => ⟨fun w => ?_, fun w => ?_⟩, fun w => absurd rfl w⟩, fun w => by omega⟩⟩
        · rw [if_neg (by omega)] at h
          have hv := fp_quot (a := cw s lg) (b := cw s (lg - 1)) cw_lt (by omega)
          exact ⟨hv, h M2 hL2 hofr hv⟩
        · rw [if_pos (by omega)] at h
          exact h M2 hL2 hofr
  · rw [if_pos (by omega), if_pos (List.length_eq_zero_iff.mp (by omega))] at h
    exact h M hL pm_fr.rf
  · rw [if_neg (by omega)] at h
    exact h M hL pm_fr.rf
end LBS

/-! CALLS OF THE REFERENCE: searches and counts -/
def RB (M : Nat → Nat → Int) (s : stt) (im : Nat → List Nat) : Prop := M 97 3 = (gK s : Int) ∧ M 97 1 = ((gP s).length : Int) ∧ (∀ j, j < (gP s).length → M 98 j = (((gP s).getD j 0 : Nat) : Int)) ∧ px_im M im
theorem RB.sc {M M' : Nat → Nat → Int} {s : stt} {im : Nat → List Nat} (h : RB M s im) (g : px_sc M M') : RB M' s im := ⟨(g.2 3 (by decide) (by decide)).trans h.1, (g.2 1 (by decide) (by decide)).trans h.2.1, fun j hj => by rw [g.1 98 (by decide)]; exact h.2.2.1 j hj, h.2.2.2.sc g⟩
theorem Ref.rb {M : Nat → Nat → Int} {s : stt} (h : Ref M s) (hW : wfs s) : RB M s (gI s) := ⟨h.k, h.np, h.p, h.im hW⟩
def px_sp (M M' : Nat → Nat → Int) : Prop := (∀ a, a ≠ 97 → a ≠ 112 → a ≠ 113 → a ≠ 114 → a ≠ 118 → M' a = M a) ∧ ∀ j, j ≠ 25 → j ≠ 29 → M' 97 j = M 97 j
def px_ct (M M' : Nat → Nat → Int) : Prop := (∀ a, a ≠ 97 → a ≠ 112 → a ≠ 113 → a ≠ 114 → a ≠ 118 → M' a = M a) ∧ ∀ j, j ≠ 25 → j ≠ 29 → j ≠ 36 → j ≠ 37 → j ≠ 38 → j ≠ 39 → j ≠ 40 → M' 97 j = M 97 j
theorem px_ct.rf {M : Nat → Nat → Int} : px_ct M M := ⟨fun _ _ _ _ _ _ => rfl, fun _ _ _ _ _ _ _ _ => rfl⟩
theorem px_ct.tr {M M1 M2 : Nat → Nat → Int} (h1 : px_ct M M1) (h2 : px_ct M1 M2) : px_ct M M2 := ⟨fun a x y z w v => (h2.1 a x y z w v).trans (h1.1 a x y z w v), fun j b1 b2 b3 b4 b5 b6 b7 => (h2.2 j b1 b2 b3 b4 b5 b6 b7).trans (h1.2 j b1 b2 b3 b4 b5 b6 b7)⟩
theorem px_ct.up {M M1 : Nat → Nat → Int} {j : Nat} {x : Int} (h : px_ct M M1) (hj : j = 25 ∨ j = 39 ∨ j = 40) : px_ct M (pm_up M1 97 j x) := ⟨fun a b1 b2 b3 b4 b5 => (pm_up_row b1).trans (h.1 a b1 b2 b3 b4 b5), fun i b1 b2 b3 b4 b5 b6 b7 => (pm_up_ne (by omega)).trans (h.2 i b1 b2 b3 b4 b5 b6 b7)⟩
theorem px_tr.ct {M M' : Nat → Nat → Int} (h : px_tr M M') : px_ct M M' := ⟨fun a b1 b2 b3 b4 _ => h.1 a b1 b2 b3 b4, fun j b1 b2 b3 b4 b5 _ _ => h.2 j b1 b2 b3 b4 b5⟩
theorem px_sp.ct {M M' : Nat → Nat → Int} (h : px_sp M M') : px_ct M M' := ⟨fun a b1 b2 b3 b4 b5 => h.1 a b1 b2 b3 b4 b5, fun j b1 b2 _ _ _ _ _ => h.2 j b1 b2⟩
theorem px_ct.sc {M M' : Nat → Nat → Int} (h : px_ct M M') : px_sc M M' := ⟨fun a ha => h.1 a (by omega) (by omega) (by omega) (by omega) (by omega), fun j h1 h2 => h.2 j (by omega) (by omega) (by omega) (by omega) (by omega) (by omega) (by omega)⟩
theorem px_sk.ct {M M' : Nat → Nat → Int} {p : List Nat} (h : px_sk M p) (g : px_ct M M') : px_sk M' p := h.cg (g.2 23 (by decide) (by decide) (by decide) (by decide) (by decide) (by decide) (by decide)) (g.1 111 (by decide) (by decide) (by decide) (by decide) (by decide))
theorem cnl_app {f : List Nat → Bool} {A B : List (List Nat × Nat)} : cnl f (A ++ B) = cnl f A + cnl f B := by
  unfold cnl
  exact List.countP_append
theorem px_tx.add {M : Nat → Nat → Int} {t : List Nat} {l : Nat} {x : Int} (h : px_tx M t) (h24 : t.length < 24) (hx : x = (l : Int)) : px_tx (pm_up (pm_up M 112 t.length x) 97 25 ((t.length : Int) + 1)) (t ++ [l]) := by
  obtain ⟨h1, h2, h3⟩ := h
  have hlen : (t ++ [l]).length = t.length + 1 := by rw [List.length_append, List.length_singleton]
  refine ⟨by rw [pm_up_eq, hlen]; rfl, by omega, fun j hj => ?_⟩
  rw [gd_snoc hj, pm_up_ne (Or.inl (by decide))]
  split
  · next e => rw [e, pm_up_eq]; exact hx
  · next e => rw [pm_up_ne (Or.inr e)]; exact h3 j (by omega)
section RFY
variable {n : Nat} {kd : Nat → Nat} {Qx : Nat → pm_Me → Prop} {s : stt} {x y : Int}
/-- begins -/
theorem ra_183 {d : Nat} {M : Nat → Nat → Int} {Qr : Option pm_V → pm_Me → Prop} {im : Nat → List Nat} (hd : 2 ≤ d) (hB : RB M s im) (hP : wfp (gP s)) (h : ∀ M', px_sk M' (gP s) → (∀ j, 36 ≤ j → j < 41 → M' 97 j = 0) → px_sc M M' → Qr none (pm_m n kd M')) : pm_run d 183 [.inr (.inl (9, 97))] (pm_m n kd M) Qr Qx := by
  obtain ⟨d, rfl⟩ := pm_ex1 (show 1 ≤ d by omega)
  refine tr_183 ?_
  rw [hB.2.1]
  refine ra_140 (by omega) hP hB.2.2.1 (fun M1 hsk g1 => tr_183_13 (h _ (hsk.cg ?_ ?_) (fun j h1 h2 => ?_) ?_))
  · rw [pm_up_ne (by omega), pm_up_ne (by omega), pm_up_ne (by omega), pm_up_ne (by omega), pm_up_ne (by omega)]
  · rw [pm_up_row (by decide), pm_up_row (by decide), pm_up_row (by decide), pm_up_row (by decide), pm_up_row (by decide)]
  · rcases (show j = 36 ∨ j = 37 ∨ j = 38 ∨ j = 39 ∨ j = 40 by omega) with e | e | e | e | e <;> subst e
    · rw [pm_up_ne (by omega), pm_up_ne (by omega), pm_up_ne (by omega), pm_up_ne (by omega), pm_up_eq]
    · rw [pm_up_ne (by omega), pm_up_ne (by omega), pm_up_ne (by omega), pm_up_eq]
    · rw [pm_up_ne (by omega), pm_up_ne (by omega), pm_up_eq]
    · rw [pm_up_ne (by omega), pm_up_eq]
    · rw [pm_up_eq]
  · exact (((((g1.sc (by decide) (by decide)).up (by decide)).up (by decide)).up (by decide)).up (by decide)).up (by decide)
theorem fnd_len {lg : Nat} {L : List (List Nat × Nat)} {q : List Nat × Nat} (h : fnd lg L = some q) : q.1.length = lg := by
  have := List.find?_some h
  simpa using this
theorem ra_184 {d : Nat} {M : Nat → Nat → Int} {Qr : Option pm_V → pm_Me → Prop} (hd : 50 ≤ d) (hR : Ref M s) (hW : wfs s) (h : RO (o_extend s x) n kd M Qr) : pm_run d 184 [.inr (.inl (9, 97)), .inl x] (pm_m n kd M) Qr Qx := by
  obtain ⟨d, rfl⟩ := pm_ex1 (show 1 ≤ d by omega)
  have hnw := hR.nw
  have hnp := hR.np
  have hK : 2 ≤ gK s ∧ gK s ≤ 4 := hW.1.1
  have hP : wfp (gP s) := hW.1.2.1
  have hw24 : (gW s).length ≤ 24 := hW.1.2.2.1.1
  unfold o_extend at h
  refine tr_184 (by omega) ⟨fun z => ⟨fun z2 => ?_, fun z2 => ?_⟩, fun z => ?_⟩
  · have hne : gP s ≠ [] := ln0.mp (by omega)
    rw [if_pos (by omega), if_neg hne] at h
    obtain ⟨lg, rfl⟩ : ∃ k : Nat, x = (k : Int) := ⟨x.toNat, by omega⟩
    rw [Int.toNat_natCast] at h
    refine ra_162 (by omega) hR hW (fun M1 _ _ g1 => tr_184_36 (by omega) ⟨fun zr => ?_, fun zr => ?_⟩)
    · have hfo : ¬ (FO (gP s) (gW s)).isSome = true := fun w => by rw [w] at zr; exact zr rfl
      rw [if_neg hfo] at h
      refine ra_183 (by omega) ((hR.rb hW).sc g1) hP (fun M2 hsk2 hz2 g2 => tr_184_49 (by omega) ?_)
      have gg2 := g1.tr g2
      refine ra_144 (by omega) (hR.sc gg2) hW (fun M3 htx3 f3 => tr_184_53 (by omega) ?_)
      have g3 := gg2.tr (f3.sc (by decide) (by decide))
      have hz3 : ∀ j, 36 ≤ j → j < 41 → M3 97 j = 0 := fun j a b => (f3.2 j (by omega)).trans (hz2 j a b)
      refine ra_182 hne hK.2 (by omega) (lg - (gW s).length) d (gW s) 0 0 M3 _ (by omega) (by omega) (hsk2.f1 f3 (by decide) (by decide)) htx3 (by decide) (hz3 36 (by decide) (by decide)) (hz3 37 (by decide) (by decide)) (hz3 38 (by decide) (by decide)) (by omega) ((hR.sc g3).k) ?_ ?_
      · intro M4 v t' hf ht4 i36 i37 i38 g4
        have hf : fnd lg ((gW s, 0) :: (nodes s lg (gW s)).1) = some (v, t') := hf
        rw [hf] at h
        have h : RO (.inl (t' : Int), sW s v) n kd M Qr := h
        have hvl : v.length = lg := fnd_len hf
        have gg4 := g3.tr g4.sc
        have v24 := ht4.2.1
        refine tr_184_58 (by omega) ⟨fun _ => ⟨fun _ => ?_, fun w => absurd (by decide) w⟩, fun w => absurd i37 w⟩
        refine pm_lp (N := lg) (G := fun i M5 => pm_wq d 184 Qr Qx (89, [some (.inr (.inl (9, 97))), some (.inl (lg : Int)), none, some (.inl (i : Int))], [], pm_m n kd M5, 0, 0)) (I := fun i M5 => (∀ j, j < i → M5 99 j = ((v.getD j 0 : Nat) : Int)) ∧ M5 97 4 = (lg : Int) ∧ px_f1 4 99 M4 M5) ?_ ?_ 0 _ (Nat.zero_le _) ⟨fun j hj => absurd hj (Nat.not_lt_zero j), pm_up_eq, px_f1.up0 (by decide)⟩
        · intro M5 ⟨hj, h4, ho⟩
          refine tr_184_89 (by omega) ⟨fun _ => ?_, fun z => by omega⟩
          rw [ho.2 36 (by decide), i36]
          refine RO.sw h hR (gg4.dc.tr ⟨fun a ha => ho.1 a (by omega) (by omega), fun j j1 j2 => ho.2 j (by omega)⟩) ((ho.2 3 (by decide)).trans (gg4.2 3 (by decide) (by decide))) ((ho.2 1 (by decide)).trans (gg4.2 1 (by decide) (by decide))) (fun a a1 a2 a3 => (ho.1 a (by omega) a3).trans (gg4.1 a (by omega))) (by rw [h4, hvl]) (fun j hj2 => hj j (by omega))
        · intro i M5 hi ⟨hj, h4, ho⟩ ih
          refine tr_184_89 (by omega) ⟨fun z => by omega, fun _ => ⟨⟨by omega, by omega⟩, ⟨by omega, by omega⟩, ⟨by omega, by omega⟩, ih _ ⟨fun j hj2 => ?_, (pm_up_ne (by omega)).trans h4, ho.up (by decide)⟩⟩⟩
          rw [Int.toNat_natCast, ho.1 112 (by decide) (by decide)]
          by_cases e : j = i
          · rw [e, pm_up_eq]; exact ht4.2.2 i (by omega)
          · rw [pm_up_ne (Or.inr e)]; exact hj j (by omega)
      · intro M4 hf ht4 i36 i37 i38 g4
        have hf : fnd lg ((gW s, 0) :: (nodes s lg (gW s)).1) = none := hf
        have i37 : M4 97 37 = bI (nodes s lg (gW s)).2.2 := i37
        rw [hf] at h
        have h : RO (if (nodes s lg (gW s)).2.2 = true then (.inr 4, s) else (.inr 3, s)) n kd M Qr := h
        have gg4 := g3.tr g4.sc
        refine tr_184_58 (by omega) ⟨fun w => ⟨fun w2 => absurd rfl w2, fun _ => ?_⟩, fun w => ?_⟩
        · rw [if_neg (fun w2 => by rw [w2] at i37; have i37 : M4 97 37 = 1 := i37; omega)] at h
          exact RO.bad h hR gg4
        · rw [if_pos (by cases hc : (nodes s lg (gW s)).2.2; rw [hc] at i37; exact absurd i37 w; rfl)] at h
          exact RO.bad h hR gg4
    · have hfo : (FO (gP s) (gW s)).isSome = true := by
        cases hc : (FO (gP s) (gW s)).isSome with
        | true => rfl
        | false => rw [hc] at zr; exact absurd (by decide) zr
      rw [if_pos hfo] at h
      exact RO.bad h hR g1
  · rw [if_pos (by omega), if_pos (List.length_eq_zero_iff.mp (by omega))] at h
    exact RO.bad h hR px_sc.rf
  · rw [if_neg (by omega)] at h
    exact RO.bad h hR px_sc.rf
theorem tx_nil {M : Nat → Nat → Int} : px_tx (pm_up M 97 25 0) [] := ⟨pm_up_eq, by decide, fun j hj => absurd hj (Nat.not_lt_zero j)⟩
theorem ra_185 {d : Nat} {M : Nat → Nat → Int} {Qr : Option pm_V → pm_Me → Prop} (hd : 50 ≤ d) (hR : Ref M s) (hW : wfs s) (h : RO (o_longestAvoiding s x) n kd M Qr) : pm_run d 185 [.inr (.inl (9, 97)), .inl x] (pm_m n kd M) Qr Qx := by
  obtain ⟨d, rfl⟩ := pm_ex1 (show 1 ≤ d by omega)
  have hnp := hR.np
  have hK : 2 ≤ gK s ∧ gK s ≤ 4 := hW.1.1
  have hP : wfp (gP s) := hW.1.2.1
  unfold o_longestAvoiding at h
  refine tr_185 (by omega) ⟨fun z => ⟨fun z2 => ?_, fun z2 => ?_⟩, fun z => ?_⟩
  · have hne : gP s ≠ [] := ln0.mp (by omega)
    rw [if_pos (by omega), if_neg hne] at h
    obtain ⟨lg, rfl⟩ : ∃ k : Nat, x = (k : Int) := ⟨x.toNat, by omega⟩
    rw [Int.toNat_natCast] at h
    refine ra_183 (by omega) (hR.rb hW) hP (fun M2 hsk2 hz2 g2 => tr_185_33 (by omega) ?_)
    have g3 : px_sc M (pm_up M2 97 25 0) := g2.up (by decide)
    have hz3 : ∀ j, 36 ≤ j → j < 41 → pm_up M2 97 25 0 97 j = 0 := fun j a b => (pm_up_ne (by omega)).trans (hz2 j a b)
    refine ra_182 hne hK.2 (by omega) lg d [] 0 0 _ _ (by omega) (by show 0 + lg = lg; omega) (hsk2.cg (pm_up_ne (by omega)) (pm_up_row (by decide))) tx_nil (by decide) (hz3 36 (by decide) (by decide)) (hz3 37 (by decide) (by decide)) (hz3 38 (by decide) (by decide)) (by omega) ((hR.sc g3).k) ?_ ?_
    · intro M4 v t' hf ht4 i36 i37 i38 g4
      rw [fnd_ne (by show 0 ≠ lg; omega)] at hf
      have hf : fnd lg (nodes s lg []).1 = some (v, t') := hf
      rw [hf] at h
      refine tr_185_43 (by omega) ⟨fun _ => ?_, fun w => absurd i37 w⟩
      rw [i38]
      exact RO.ok h hR (g3.tr g4.sc)
    · intro M4 hf ht4 i36 i37 i38 g4
      rw [fnd_ne (by show 0 ≠ lg; omega)] at hf
      have hf : fnd lg (nodes s lg []).1 = none := hf
      have i37 : M4 97 37 = bI (nodes s lg []).2.2 := i37
      have i38 : M4 97 38 = ((max 0 (max 0 (mxl (nodes s lg []).1)) : Nat) : Int) := i38
      rw [hf] at h
      have h : RO (if (nodes s lg []).2.2 = true then (.inr 3, s) else (.inl (mxl (nodes s lg []).1 : Int), s)) n kd M Qr := h
      refine tr_185_43 (by omega) ⟨fun w => ?_, fun w => ?_⟩
      · rw [if_neg (fun w2 => by rw [w2] at i37; have i37 : M4 97 37 = 1 := i37; omega)] at h
        have : M4 97 38 = (mxl (nodes s lg []).1 : Int) := by rw [i38]; omega
        rw [this]
        exact RO.ok h hR (g3.tr g4.sc)
      · rw [if_pos (by cases hc : (nodes s lg []).2.2; rw [hc] at i37; exact absurd i37 w; rfl)] at h
        exact RO.bad h hR (g3.tr g4.sc)
  · rw [if_pos (by omega), if_pos (List.length_eq_zero_iff.mp (by omega))] at h
    exact RO.bad h hR px_sc.rf
  · rw [if_neg (by omega)] at h
    exact RO.bad h hR px_sc.rf
/-- isSpoiled -/
theorem ra_187 {d : Nat} {M : Nat → Nat → Int} {Qr : Option pm_V → pm_Me → Prop} {p t : List Nat} {im : Nat → List Nat} (hd : 21 ≤ d) (hm : px_sk M p) (ht : px_tx M t) (h5 : t.length ≤ 5) (h4 : ∀ v ∈ t, v < 4) (hi : px_im M im) (h : ∀ M', px_tx M' t → px_sp M M' → Qr (some (.inl (bI (FO p (pm_ap im t)).isSome))) (pm_m n kd M')) : pm_run d 187 [.inr (.inl (9, 97))] (pm_m n kd M) Qr Qx := by
  obtain ⟨d, rfl⟩ := pm_ex1 (show 1 ≤ d by omega)
  refine tr_187 ?_
  rw [ht.1]
  refine pm_lp (N := t.length) (G := fun i M1 => pm_wq d 187 Qr Qx (7, [some (.inr (.inl (9, 97))), some (.inl (t.length : Int)), some (.inl (i : Int)), none], [], pm_m n kd M1, 0, 0)) (I := fun i M1 => (∀ j, j < i → M1 118 j = ((t.getD j 0 : Nat) : Int)) ∧ px_ao 118 M M1) ?_ ?_ 0 M (Nat.zero_le _) ⟨fun j hj => absurd hj (Nat.not_lt_zero j), px_ao.rf⟩
  · intro M1 ⟨hk, ho1⟩
    refine tr_187_7 ⟨fun _ => ?_, fun z => by omega⟩
    have hi1 : ∀ M2, px_f1 25 112 M1 M2 → ∀ l, l < 4 → M2 100 l = ((im l).length : Int) ∧ px_ar M2 101 (4 * l) (im l) := fun M2 g l hl => ⟨by rw [g.1 100 (by decide) (by decide), ho1 100 (by decide)]; exact (hi.1 l hl).1, (hi.1 l hl).2.cg ((g.1 101 (by decide) (by decide)).trans (ho1 101 (by decide)))⟩
    refine pm_lp (N := t.length) (G := fun i M2 => pm_wq d 187 Qr Qx (37, [some (.inr (.inl (9, 97))), some (.inl (t.length : Int)), some (.inl (i : Int)), none], [], pm_m n kd M2, 0, 0)) (I := fun i M2 => px_tx M2 (pm_ap im (t.take i)) ∧ px_f1 25 112 M1 M2) ?_ ?_ 0 _ (Nat.zero_le _) ⟨tx_nil, px_f1.up0 (by decide)⟩
    · intro M2 ⟨ht2, f2⟩
      rw [List.take_length] at ht2
      refine tr_187_37 ⟨fun _ => ?_, fun z => by omega⟩
      have hm2 : px_sk M2 p := (hm.cg (ho1.at (by decide)) (ho1 111 (by decide))).f1 f2 (by decide) (by decide)
      refine ra_143 (by omega) hm2 ht2 (fun M3 _ g3 => tr_187_110 ?_)
      have rest : ∀ b : Int, b = bI (FO p (pm_ap im t)).isSome → pm_wq d 187 Qr Qx (127, [some (.inr (.inl (9, 97))), some (.inl (t.length : Int)), some (.inl b), some (.inl 0)], [], pm_m n kd (pm_up M3 97 25 (t.length : Int)), 0, 0) := by
        intro b hb
        have k118 : ∀ M4 : Nat → Nat → Int, (∀ a, a ≠ 97 → a ≠ 112 → M4 a = M3 a) → ∀ j, j < t.length → M4 118 j = ((t.getD j 0 : Nat) : Int) := fun M4 hh j hj => by
          rw [hh 118 (by decide) (by decide), g3.1 118 (by decide) (by decide) (by decide), f2.1 118 (by decide) (by decide)]
          exact hk j hj
        refine pm_lp (N := t.length) (G := fun i M4 => pm_wq d 187 Qr Qx (127, [some (.inr (.inl (9, 97))), some (.inl (t.length : Int)), some (.inl b), some (.inl (i : Int))], [], pm_m n kd M4, 0, 0)) (I := fun i M4 => (∀ j, j < i → M4 112 j = ((t.getD j 0 : Nat) : Int)) ∧ M4 97 25 = (t.length : Int) ∧ px_f1 25 112 M3 M4) ?_ ?_ 0 _ (Nat.zero_le _) ⟨fun j hj => absurd hj (Nat.not_lt_zero j), pm_up_eq, px_f1.up0 (by decide)⟩
        · intro M4 ⟨hj, h25, f4⟩
          refine tr_187_127 ⟨fun _ => ⟨by rw [hb]; exact bI_or _, ?_⟩, fun z => by omega⟩
          rw [hb]
          refine h M4 ⟨h25, ht.2.1, hj⟩ ⟨fun a b1 b2 b3 b4 b5 => ?_, fun j b1 b2 => ?_⟩
          · rw [f4.1 a b1 b2, g3.1 a b1 b3 b4, f2.1 a b1 b2, ho1 a b5]
          · rw [f4.2 j b1, g3.2 j b2, f2.2 j b1, ho1.at (by decide)]
        · intro i M4 hi4 ⟨hj, h25, f4⟩ ih
          refine tr_187_127 ⟨fun z => by omega, fun _ => ⟨⟨by omega, by omega⟩, ⟨by omega, by omega⟩, ⟨by omega, by omega⟩, ih _ ⟨fun j hj2 => ?_, (pm_up_ne (by omega)).trans h25, f4.up (by decide)⟩⟩⟩
          rw [Int.toNat_natCast, k118 M4 f4.1 i hi4]
          by_cases e : j = i
          · rw [e, pm_up_eq]
          · rw [pm_up_ne (Or.inr e)]; exact hj j (by omega)
      refine ⟨fun w => rest 0 ?_, fun w => rest 1 ?_⟩
      · rw [fo_b.mp w]; rfl
      · cases hc : (FO p (pm_ap im t)).isSome with
        | true => rfl
        | false => exact absurd (fo_b.mpr hc) w
    · intro i M2 hi2 ⟨ht2, f2⟩ ih
      have hv := h4 _ (gd_mem hi2)
      have hl4 := hi.2 (t.getD i 0)
      have hb := ap_le hi.2 (t.take i)
      rw [tk_len (by omega)] at hb
      refine tr_187_37 ⟨fun z => by omega, fun _ => ?_⟩
      have k118 : ∀ M4, px_f1 25 112 M1 M4 → M4 118 i = ((t.getD i 0 : Nat) : Int) := fun M4 g => by rw [g.1 118 (by decide) (by decide)]; exact hk i hi2
      refine pm_lp (N := (im (t.getD i 0)).length) (G := fun j M3 => pm_wq d 187 Qr Qx (44, [some (.inr (.inl (9, 97))), some (.inl (t.length : Int)), some (.inl (i : Int)), some (.inl (j : Int))], [], pm_m n kd M3, 0, 0)) (I := fun j M3 => px_tx M3 (pm_ap im (t.take i) ++ (im (t.getD i 0)).take j) ∧ px_f1 25 112 M1 M3) ?_ ?_ 0 _ (Nat.zero_le _) ⟨by rw [List.take_zero, List.append_nil]; exact ht2, f2⟩
      · intro M3 ⟨ht3, f3⟩
        refine tr_187_44 ⟨⟨by omega, by omega⟩, ?_⟩
        rw [Int.toNat_natCast, k118 M3 f3, Int.toNat_natCast, (hi1 M3 f3 _ hv).1]
        refine ⟨⟨by omega, by omega⟩, fun _ => ⟨⟨by omega, by omega⟩, ih M3 ⟨?_, f3⟩⟩, fun z => by omega⟩
        rw [tk_succ hi2, pm_ap_snoc]
        rw [List.take_length] at ht3
        exact ht3
      · intro j M3 hj ⟨ht3, f3⟩ ih2
        have e0 : (4 * ((t.getD i 0 : Nat) : Int) + (j : Int)).toNat = 4 * t.getD i 0 + j := by omega
        have hlen : (pm_ap im (t.take i) ++ (im (t.getD i 0)).take j).length = (pm_ap im (t.take i)).length + j := by rw [List.length_append, tk_len (by omega)]
        have h25 := ht3.1
        refine tr_187_44 ⟨⟨by omega, by omega⟩, ?_⟩
        rw [Int.toNat_natCast, k118 M3 f3, Int.toNat_natCast, (hi1 M3 f3 _ hv).1, e0, (hi1 M3 f3 _ hv).2 j hj, h25, Int.toNat_natCast]
        rw [pm_up_ne (Or.inl (by decide)), h25]
        refine ⟨⟨by omega, by omega⟩, fun z => by omega, fun _ => ⟨⟨by omega, by omega⟩, ⟨by omega, by omega⟩, ⟨by omega, by omega⟩, ⟨by omega, by omega⟩, ⟨by omega, by omega⟩, ⟨by omega, by omega⟩, ⟨by omega, by omega⟩, ih2 _ ⟨?_, ?_⟩⟩⟩
        · rw [tk_succ hj, ← List.append_assoc]
          exact ht3.add (by omega) rfl
        · exact ⟨fun a a1 a2 => (pm_up_row a1).trans ((pm_up_row a2).trans (f3.1 a a1 a2)), fun i hi9 => (pm_up_ne (Or.inr hi9)).trans ((pm_up_ne (Or.inl (by decide))).trans (f3.2 i hi9))⟩
  · intro i M1 hi2 ⟨hk, ho1⟩ ih
    refine tr_187_7 ⟨fun z => by omega, fun _ => ⟨⟨by omega, by omega⟩, ⟨by omega, by omega⟩, ⟨by omega, by omega⟩, ih _ ⟨fun j hj => ?_, ho1.up⟩⟩⟩
    rw [Int.toNat_natCast]
    by_cases e : j = i
    · rw [e, pm_up_eq, ho1.at (by decide)]; exact ht.2.2 i hi2
    · rw [pm_up_ne (Or.inr e)]; exact hk j (by omega)
end RFY

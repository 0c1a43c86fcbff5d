/-! CALLS OF THE REFERENCE: counts -/
def spf (A : Bool) (p : List Nat) (im : Nat → List Nat) (lg : Nat) : List Nat → Bool := fun v => A && (v.length == lg && (FO p (pm_ap im v)).isSome)
theorem px_im.ct {M M' : Nat → Nat → Int} {im : Nat → List Nat} (h : px_im M im) (g : px_ct M M') : px_im M' im := h.sc g.sc
theorem cnl_one {f : List Nat → Bool} {t : List Nat} {tr : Nat} : cnl f [(t, tr)] = if f t = true then 1 else 0 := by
  rw [cnl_cons]
  exact Nat.zero_add _
theorem leq_t {a b : Nat} (h : a = b) : (a == b) = true := by simpa using h
theorem leq_f {a b : Nat} (h : a ≠ b) : (a == b) = false := by simpa using h
section RFZ
variable {n : Nat} {kd : Nat → Nat} {Qx : Nat → pm_Me → Prop} {s : stt} {x y : Int}
/-- counts -/
theorem ra_186 {p : List Nat} {K lg : Nat} {A : Bool} {im : Nat → List Nat} (hp : p ≠ []) (hK : K ≤ 4) (hlg : lg ≤ 24) (hA : A = true → lg ≤ 5) : ∀ (D d : Nat) (t : List Nat) (tr ws sp : Nat) (M : Nat → Nat → Int) (Qr : Option pm_V → pm_Me → Prop), D + 24 ≤ d → t.length + D = lg → px_sk M p → px_tx M t → (∀ v ∈ t, v < K) → tr ≤ 1500 → M 97 36 = (tr : Int) → M 97 37 = 0 → M 97 39 = (ws : Int) → M 97 40 = (sp : Int) → ws ≤ tr → sp ≤ tr → M 97 3 = (K : Int) → px_im M im →
    (∀ M', px_tx M' t → M' 97 36 = ((DF p K D t tr).2.1 : Int) → M' 97 37 = bI (DF p K D t tr).2.2 → M' 97 39 = ((ws + cnl (fun v => v.length == lg) ((t, tr) :: (DF p K D t tr).1) : Nat) : Int) → M' 97 40 = ((sp + cnl (spf A p im lg) ((t, tr) :: (DF p K D t tr).1) : Nat) : Int) → px_ct M M' → Qr none (pm_m n kd M')) →
    pm_run d 186 [.inr (.inl (9, 97)), .inl (lg : Int), .inl (bI A)] (pm_m n kd M) Qr Qx := by
  intro D
  induction D with
  | zero =>
    intro d t tr ws sp M Qr hd hD hm ht htK htr h36 h37 h39 h40 hws hsp h3 hi h
    obtain ⟨d, rfl⟩ := pm_ex1 (show 1 ≤ d by omega)
    have h25 := ht.1
    have hl : (t.length == lg) = true := leq_t (by omega)
    have e1 : cnl (fun v => v.length == lg) ((t, tr) :: (DF p K 0 t tr).1) = 1 := by
      show cnl (fun v => v.length == lg) [(t, tr)] = 1
      rw [cnl_one]
      exact if_pos hl
    have e2 : cnl (spf A p im lg) ((t, tr) :: (DF p K 0 t tr).1) = if (A && (FO p (pm_ap im t)).isSome) = true then 1 else 0 := by
      show cnl (spf A p im lg) [(t, tr)] = _
      rw [cnl_one]
      unfold spf
      rw [hl, Bool.true_and]
    rw [e1, e2] at h
    generalize hM1 : pm_up M 97 39 (M 97 39 + 1) = M1
    have f36 : M1 97 36 = (tr : Int) := by rw [← hM1, pm_up_ne (Or.inr (by decide))]; exact h36
    have f37 : M1 97 37 = 0 := by rw [← hM1, pm_up_ne (Or.inr (by decide))]; exact h37
    have f39 : M1 97 39 = (ws : Int) + 1 := by rw [← hM1, pm_up_eq, h39]
    have f40 : M1 97 40 = (sp : Int) := by rw [← hM1, pm_up_ne (Or.inr (by decide))]; exact h40
    have ht1 : px_tx M1 t := by rw [← hM1]; exact ht.cg (pm_up_ne (Or.inr (by decide))) (pm_up_row (by decide))
    have g1 : px_ct M M1 := by rw [← hM1]; exact px_ct.rf.up (Or.inr (Or.inl rfl))
    have fin : ∀ (M2 : Nat → Nat → Int) (y : Int), px_tx M2 t → px_sp M1 M2 → y = ((sp + (if (A && (FO p (pm_ap im t)).isSome) = true then 1 else 0) : Nat) : Int) → Qr none (pm_m n kd (pm_up M2 97 40 y)) := by
      intro M2 y ht2 g2 hy
      refine h _ (ht2.cg (pm_up_ne (Or.inr (by decide))) (pm_up_row (by decide))) ?_ ?_ ?_ ?_ ((g1.tr g2.ct).up (Or.inr (Or.inr rfl)))
      · rw [pm_up_ne (Or.inr (by decide)), g2.2 36 (by decide) (by decide)]; exact f36
      · rw [pm_up_ne (Or.inr (by decide)), g2.2 37 (by decide) (by decide)]; exact f37
      · rw [pm_up_ne (Or.inr (by decide)), g2.2 39 (by decide) (by decide), f39]; omega
      · rw [pm_up_eq]; exact hy
    refine tr_186 ⟨fun w => by omega, fun _ => ⟨⟨by omega, by omega⟩, ?_⟩⟩
    rw [hM1]
    refine ⟨fun w0 => ?_, fun w1 => ?_⟩
    · rw [f40]
      refine ⟨⟨by omega, by omega⟩, fin M1 _ ht1 ⟨fun _ _ _ _ _ _ => rfl, fun _ _ _ => rfl⟩ ?_⟩
      cases A with
      | true => exact absurd w0 (by decide)
      | false => rw [Bool.false_and]; show (sp : Int) + 0 = ((sp + 0 : Nat) : Int); omega
    · have hAt : A = true := by
        cases A with
        | true => rfl
        | false => exact absurd rfl w1
      have h5 := hA hAt
      refine ra_187 (p := p) (t := t) (im := im) (by omega) (hm.ct g1) ht1 (by omega) (fun v hv => Nat.lt_of_lt_of_le (htK v hv) hK) (hi.ct g1) (fun M2 ht2 g2 => ?_)
      rw [f40]
      refine tr_186_31 ⟨fun r0 => ⟨⟨by omega, by omega⟩, fin M2 _ ht2 g2 ?_⟩, fun r1 => ⟨⟨by omega, by omega⟩, fin M2 _ ht2 g2 ?_⟩⟩
      · rw [hAt, Bool.true_and]
        cases hc : (FO p (pm_ap im t)).isSome with
        | true => rw [hc] at r0; exact absurd r0 (by decide)
        | false => show (sp : Int) + 0 = ((sp + 0 : Nat) : Int); omega
      · rw [hAt, Bool.true_and]
        cases hc : (FO p (pm_ap im t)).isSome with
        | false => rw [hc] at r1; exact absurd rfl r1
        | true => show (sp : Int) + 1 = ((sp + 1 : Nat) : Int); omega
  | succ D ih =>
    intro d t tr ws sp M Qr hd hD hm ht htK htr h36 h37 h39 h40 hws hsp h3 hi h
    obtain ⟨d, rfl⟩ := pm_ex1 (show 1 ≤ d by omega)
    have h25 := ht.1
    have hl : (t.length == lg) = false := leq_f (by omega)
    have hc1 : cnl (fun v => v.length == lg) ((t, tr) :: (DF p K (D + 1) t tr).1) = cnl (fun v => v.length == lg) (lpc p (DF p K D) K t 0 tr).1 := by
      rw [cnl_cons, if_neg (show ¬ (t.length == lg) = true by rw [hl]; decide)]
      rfl
    have hc2 : cnl (spf A p im lg) ((t, tr) :: (DF p K (D + 1) t tr).1) = cnl (spf A p im lg) (lpc p (DF p K D) K t 0 tr).1 := by
      rw [cnl_cons, if_neg (show ¬ spf A p im lg t = true by unfold spf; rw [hl, Bool.false_and, Bool.and_false]; decide)]
      rfl
    have hDF : DF p K (D + 1) t tr = lpc p (DF p K D) K t 0 tr := rfl
    rw [hc1, hc2, hDF] at h
    generalize hE : lpc p (DF p K D) K t 0 tr = E0 at h
    generalize hf1 : (fun v : List Nat => v.length == lg) = f1 at h ih
    generalize hf2 : spf A p im lg = f2 at h ih
    have loop : ∀ (c l tr2 ws2 sp2 : Nat) (M2 : Nat → Nat → Int), c + l = K → px_tx M2 t → tr2 ≤ 1500 → M2 97 36 = (tr2 : Int) → M2 97 37 = 0 → M2 97 39 = (ws2 : Int) → M2 97 40 = (sp2 : Int) → ws2 ≤ tr2 → sp2 ≤ tr2 → px_ct M M2 → ws + cnl f1 E0.1 = ws2 + cnl f1 (lpc p (DF p K D) c t l tr2).1 → E0.2 = (lpc p (DF p K D) c t l tr2).2 → sp + cnl f2 E0.1 = sp2 + cnl f2 (lpc p (DF p K D) c t l tr2).1 → pm_wq d 186 Qr Qx (46, [some (.inr (.inl (9, 97))), some (.inl (lg : Int)), some (.inl (bI A)), some (.inl (l : Int))], [], pm_m n kd M2, 0, 0) := by
      intro c
      induction c with
      | zero =>
        intro l tr2 ws2 sp2 M2 hc ht2 htr2 k36 k37 k39 k40 hws2 hsp2 g2 q1 q2 q3
        have k3 : M2 97 3 = (K : Int) := (g2.2 3 (by decide) (by decide) (by decide) (by decide) (by decide) (by decide) (by decide)).trans h3
        have q1 : ws + cnl f1 E0.1 = ws2 := q1
        have q2 : E0.2 = (tr2, false) := q2
        have q3 : sp + cnl f2 E0.1 = sp2 := q3
        exact tr_186_46 ⟨fun _ => h M2 ht2 (by rw [q2]; exact k36) (by rw [q2]; exact k37) (by rw [q1]; exact k39) (by rw [q3]; exact k40) g2, fun w => by omega⟩
      | succ c ihc =>
        intro l tr2 ws2 sp2 M2 hc ht2 htr2 k36 k37 k39 k40 hws2 hsp2 g2 q1 q2 q3
        have k3 : ∀ M3, px_ct M M3 → M3 97 3 = (K : Int) := fun M3 g3 => (g3.2 3 (by decide) (by decide) (by decide) (by decide) (by decide) (by decide) (by decide)).trans h3
        have k32 := k3 M2 g2
        rw [lpc] at q1 q2 q3
        have el : ((l : Int) + 1) = ((l + 1 : Nat) : Int) := by omega
        refine tr_186_46 ⟨fun w => by omega, fun _ => ⟨fun w => absurd k37 w, fun _ => ?_⟩⟩
        refine ra_181 (tr := tr2) (by omega) hp (hm.ct g2) ht2 (by omega) k36 htr2 k37 ?_ ?_ ?_
        · intro M3 hup j37 j36 ht3 g3 j38
          rw [if_pos (by omega)] at q1 q2 q3
          have q1 : ws + cnl f1 E0.1 = ws2 := q1
          have q2 : E0.2 = (tr2, true) := q2
          have q3 : sp + cnl f2 E0.1 = sp2 := q3
          have j39 : M3 97 39 = (ws2 : Int) := (g3.2 39 (by decide) (by decide) (by decide) (by decide) (by decide)).trans k39
          have j40 : M3 97 40 = (sp2 : Int) := (g3.2 40 (by decide) (by decide) (by decide) (by decide) (by decide)).trans k40
          have fin : Qr none (pm_m n kd M3) := h M3 ht3 (by rw [q2]; exact j36) (by rw [q2]; exact j37) (by rw [q1]; exact j39) (by rw [q3]; exact j40) (g2.tr g3.ct)
          exact tr_186_66 ⟨fun _ => ⟨⟨by omega, by omega⟩, tr_186_46 ⟨fun _ => fin, fun _ => ⟨fun _ => fin, fun w => absurd (show M3 97 37 ≠ 0 by omega) w⟩⟩⟩, fun w => absurd rfl w⟩
        · intro M3 htl hgood j37 j36 ht3 g3 j38
          rw [if_neg (by omega), if_pos hgood] at q1 q2 q3
          have gg := g2.tr g3.ct
          have j39 : M3 97 39 = (ws2 : Int) := (g3.2 39 (by decide) (by decide) (by decide) (by decide) (by decide)).trans k39
          have j40 : M3 97 40 = (sp2 : Int) := (g3.2 40 (by decide) (by decide) (by decide) (by decide) (by decide)).trans k40
          refine tr_186_66 ⟨fun w => absurd w (by decide), fun _ => ?_⟩
          have hlen : (t ++ [l]).length = t.length + 1 := by rw [List.length_append, List.length_singleton]
          have htK2 : ∀ v ∈ t ++ [l], v < K := fun v hv => by
            rcases List.mem_append.mp hv with e | e
            · exact htK v e
            · rw [List.mem_singleton.mp e]; omega
          refine ih d (t ++ [l]) (tr2 + 1) ws2 sp2 M3 _ (by omega) (by omega) (hm.ct gg) ht3 htK2 (by omega) j36 j37 j39 j40 (by omega) (by omega) (k3 M3 gg) (hi.ct gg) ?_
          intro M4 ht4 i36 i37 i39 i40 g4
          have hok := DF_ok (p := p) (K := K) D (t ++ [l]) (tr2 + 1) (by omega)
          have i25 := ht4.1
          rw [hlen] at i25
          have g5 : px_ct M (pm_up M4 97 25 (M4 97 25 - 1)) := (gg.tr g4).up (Or.inl rfl)
          have ht5 : px_tx (pm_up M4 97 25 (M4 97 25 - 1)) t := ht4.pop (by omega)
          have b1 := cnl_le (f := f1) (L := (t ++ [l], tr2 + 1) :: (DF p K D (t ++ [l]) (tr2 + 1)).1)
          have b2 := cnl_le (f := f2) (L := (t ++ [l], tr2 + 1) :: (DF p K D (t ++ [l]) (tr2 + 1)).1)
          rw [List.length_cons] at b1 b2
          have u36 := (pm_up_ne (M := M4) (q := 97) (j := 25) (a := 97) (b := 36) (x := M4 97 25 - 1) (Or.inr (by decide))).trans i36
          have u37 := (pm_up_ne (M := M4) (q := 97) (j := 25) (a := 97) (b := 37) (x := M4 97 25 - 1) (Or.inr (by decide))).trans i37
          have u39 := (pm_up_ne (M := M4) (q := 97) (j := 25) (a := 97) (b := 39) (x := M4 97 25 - 1) (Or.inr (by decide))).trans i39
          have u40 := (pm_up_ne (M := M4) (q := 97) (j := 25) (a := 97) (b := 40) (x := M4 97 25 - 1) (Or.inr (by decide))).trans i40
          refine tr_186_75 ⟨⟨by omega, by omega⟩, ⟨by omega, by omega⟩, ?_⟩
          generalize hDD : DF p K D (t ++ [l]) (tr2 + 1) = DD at *
          obtain ⟨DL, Dt, Dg⟩ := DD
          have hok1 : DL.length + (tr2 + 1) ≤ Dt := hok.1
          have hok2 : Dt ≤ 1500 := hok.2
          have b1 : cnl f1 ((t ++ [l], tr2 + 1) :: DL) ≤ DL.length + 1 := b1
          have b2 : cnl f2 ((t ++ [l], tr2 + 1) :: DL) ≤ DL.length + 1 := b2
          cases Dg with
          | true =>
            have q1 : ws + cnl f1 E0.1 = ws2 + cnl f1 ((t ++ [l], tr2 + 1) :: DL) := q1
            have q2 : E0.2 = (Dt, true) := q2
            have q3 : sp + cnl f2 E0.1 = sp2 + cnl f2 ((t ++ [l], tr2 + 1) :: DL) := q3
            have fin : Qr none (pm_m n kd (pm_up M4 97 25 (M4 97 25 - 1))) := h _ ht5 (by rw [q2]; exact u36) (by rw [q2]; exact u37) (by rw [q1]; exact u39) (by rw [q3]; exact u40) g5
            have u37 : pm_up M4 97 25 (M4 97 25 - 1) 97 37 = 1 := u37
            exact tr_186_46 ⟨fun _ => fin, fun _ => ⟨fun _ => fin, fun w => absurd (show pm_up M4 97 25 (M4 97 25 - 1) 97 37 ≠ 0 by omega) w⟩⟩
          | false =>
            have q1 : ws + cnl f1 E0.1 = ws2 + cnl f1 (((t ++ [l], tr2 + 1) :: DL) ++ (lpc p (DF p K D) c t (l + 1) Dt).1) := q1
            have q2 : E0.2 = (lpc p (DF p K D) c t (l + 1) Dt).2 := q2
            have q3 : sp + cnl f2 E0.1 = sp2 + cnl f2 (((t ++ [l], tr2 + 1) :: DL) ++ (lpc p (DF p K D) c t (l + 1) Dt).1) := q3
            rw [cnl_app] at q1 q3
            rw [el]
            exact ihc (l + 1) Dt (ws2 + cnl f1 ((t ++ [l], tr2 + 1) :: DL)) (sp2 + cnl f2 ((t ++ [l], tr2 + 1) :: DL)) _ (by omega) ht5 hok2 u36 u37 u39 u40 (by omega) (by omega) g5 (by omega) q2 (by omega)
        · intro M3 htl hbad j37 j36 ht3 g3 j38
          rw [if_neg (by omega), if_neg hbad] at q1 q2 q3
          have j39 : M3 97 39 = (ws2 : Int) := (g3.2 39 (by decide) (by decide) (by decide) (by decide) (by decide)).trans k39
          have j40 : M3 97 40 = (sp2 : Int) := (g3.2 40 (by decide) (by decide) (by decide) (by decide) (by decide)).trans k40
          refine tr_186_66 ⟨fun _ => ⟨⟨by omega, by omega⟩, ?_⟩, fun w => absurd rfl w⟩
          rw [el]
          exact ihc (l + 1) (tr2 + 1) ws2 sp2 M3 (by omega) ht3 (by omega) j36 j37 j39 j40 (by omega) (by omega) (g2.tr g3.ct) q1 q2 q3
    refine tr_186 ⟨fun _ => loop K 0 tr ws sp M (by omega) ht htr h36 h37 h39 h40 hws hsp px_ct.rf (by rw [hE]) (by rw [hE]) (by rw [hE]), fun w => absurd (show M 97 25 ≠ (lg : Int) by omega) w⟩
end RFZ

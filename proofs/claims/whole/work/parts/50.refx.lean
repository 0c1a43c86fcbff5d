/-! CALLS OF THE REFERENCE: searches -/
/-- what a trial changes -/
def px_tr (M M' : Nat → Nat → Int) : Prop := (∀ a, a ≠ 97 → a ≠ 112 → a ≠ 113 → a ≠ 114 → M' a = M a) ∧ ∀ j, j ≠ 25 → j ≠ 29 → j ≠ 36 → j ≠ 37 → j ≠ 38 → M' 97 j = M 97 j
theorem px_tr.rf {M : Nat → Nat → Int} : px_tr M M := ⟨fun _ _ _ _ _ => rfl, fun _ _ _ _ _ _ => rfl⟩
theorem px_tr.tr {M M1 M2 : Nat → Nat → Int} (h1 : px_tr M M1) (h2 : px_tr M1 M2) : px_tr M M2 := ⟨fun a x y z w => (h2.1 a x y z w).trans (h1.1 a x y z w), fun j x y z w v => (h2.2 j x y z w v).trans (h1.2 j x y z w v)⟩
theorem px_tr.up {M M1 : Nat → Nat → Int} {q j : Nat} {x : Int} (h : px_tr M M1) (hq : (q = 97 ∧ (j = 25 ∨ j = 36 ∨ j = 37 ∨ j = 38)) ∨ q = 112) : px_tr M (pm_up M1 q j x) := ⟨fun a b1 b2 b3 b4 => (pm_up_row (by omega)).trans (h.1 a b1 b2 b3 b4), fun i b1 b2 b3 b4 b5 => (pm_up_ne (by omega)).trans (h.2 i b1 b2 b3 b4 b5)⟩
theorem px_tr.gf {M M1 M2 : Nat → Nat → Int} (h : px_tr M M1) (g : px_gf M1 M2) : px_tr M M2 := ⟨fun a b1 b2 b3 b4 => (g.1 a b1 b3 b4).trans (h.1 a b1 b2 b3 b4), fun i b1 b2 b3 b4 b5 => (g.2 i b2).trans (h.2 i b1 b2 b3 b4 b5)⟩
theorem px_tr.sc {M M' : Nat → Nat → Int} (h : px_tr M M') : px_sc M M' := ⟨fun a ha => h.1 a (by omega) (by omega) (by omega) (by omega), fun j h1 h2 => h.2 j (by omega) (by omega) (by omega) (by omega) (by omega)⟩
theorem px_sk.tr {M M' : Nat → Nat → Int} {p : List Nat} (h : px_sk M p) (g : px_tr M M') : px_sk M' p := h.cg (g.2 23 (by decide) (by decide) (by decide) (by decide) (by decide)) (g.1 111 (by decide) (by decide) (by decide) (by decide))
theorem px_tx.pop {M : Nat → Nat → Int} {t : List Nat} {l : Nat} {x : Int} (h : px_tx M (t ++ [l])) (hx : x = (t.length : Int)) : px_tx (pm_up M 97 25 x) t := by
  obtain ⟨h1, h2, h3⟩ := h
  rw [List.length_append, List.length_singleton] at h2 h3
  exact ⟨pm_up_eq.trans hx, by omega, fun j hj => by rw [pm_up_ne (Or.inl (by decide)), h3 j (by omega), gd_app hj]⟩
theorem fnd_app {x : Nat} {A B : List (List Nat × Nat)} (h : fnd x A = none) : fnd x (A ++ B) = fnd x B := by
  unfold fnd at h ⊢
  rw [List.find?_append, h]
  rfl
theorem fnd_app' {x : Nat} {A B : List (List Nat × Nat)} {q : List Nat × Nat} (h : fnd x A = some q) : fnd x (A ++ B) = some q := by
  unfold fnd at h ⊢
  rw [List.find?_append, h]
  rfl
theorem mxl_app : ∀ {A B : List (List Nat × Nat)}, mxl (A ++ B) = max (mxl A) (mxl B)
  | [], B => by show mxl B = max 0 (mxl B); omega
  | q :: A, B => by
    show max q.1.length (mxl (A ++ B)) = max (max q.1.length (mxl A)) (mxl B)
    rw [mxl_app]
    omega
theorem mxl_cons {q : List Nat × Nat} {A : List (List Nat × Nat)} : mxl (q :: A) = max q.1.length (mxl A) := rfl
section RFX
variable {n : Nat} {kd : Nat → Nat} {Qx : Nat → pm_Me → Prop} {s : stt} {x y : Int}
/-- tries -/
theorem ra_181 {d : Nat} {M : Nat → Nat → Int} {Qr : Option pm_V → pm_Me → Prop} {p t : List Nat} {l tr : Nat} (hd : 21 ≤ d) (hp : p ≠ []) (hm : px_sk M p) (ht : px_tx M t) (h24 : t.length < 24) (htr : M 97 36 = (tr : Int)) (htr2 : tr ≤ 1500) (hg : M 97 37 = 0)
    (hup : ∀ M', tr = 1500 → M' 97 37 = 1 → M' 97 36 = (tr : Int) → px_tx M' t → px_tr M M' → M' 97 38 = M 97 38 → Qr (some (.inl 0)) (pm_m n kd M'))
    (hy : ∀ M', tr < 1500 → sfB p (t ++ [l]) = true → M' 97 37 = 0 → M' 97 36 = ((tr + 1 : Nat) : Int) → px_tx M' (t ++ [l]) → px_tr M M' → M' 97 38 = M 97 38 → Qr (some (.inl 1)) (pm_m n kd M'))
    (hn : ∀ M', tr < 1500 → ¬ sfB p (t ++ [l]) = true → M' 97 37 = 0 → M' 97 36 = ((tr + 1 : Nat) : Int) → px_tx M' t → px_tr M M' → M' 97 38 = M 97 38 → Qr (some (.inl 0)) (pm_m n kd M')) : pm_run d 181 [.inr (.inl (9, 97)), .inl (l : Int)] (pm_m n kd M) Qr Qx := by
  obtain ⟨d, rfl⟩ := pm_ex1 (show 1 ≤ d by omega)
  have h15 := hm.2.1
  have e1 : (pm_up M 97 36 (M 97 36 + 1)) 97 25 = (t.length : Int) := (pm_up_ne (Or.inr (by decide))).trans ht.1
  have e2 : ∀ q, (pm_up (pm_up M 97 36 (M 97 36 + 1)) 112 q (l : Int)) 97 25 = (t.length : Int) := fun q => (pm_up_ne (Or.inl (by decide))).trans e1
  refine tr_181 ⟨fun z => ?_, fun z => ?_⟩
  · rw [e1, Int.toNat_natCast, e2, pm_up_eq]
    refine ⟨⟨by omega, by omega⟩, ⟨by omega, by omega⟩, ⟨by omega, by omega⟩, ?_⟩
    generalize hM3 : pm_up (pm_up (pm_up M 97 36 (M 97 36 + 1)) 112 t.length (l : Int)) 97 25 ((t.length : Int) + 1) = M3
    have f25 : M3 97 25 = (t.length : Int) + 1 := by rw [← hM3, pm_up_eq]
    have f36 : M3 97 36 = ((tr + 1 : Nat) : Int) := by rw [← hM3, pm_up_ne (Or.inr (by decide)), pm_up_ne (Or.inl (by decide)), pm_up_eq, htr]; rfl
    have f37 : M3 97 37 = 0 := by rw [← hM3, pm_up_ne (Or.inr (by decide)), pm_up_ne (Or.inl (by decide)), pm_up_ne (Or.inr (by decide))]; exact hg
    have f38 : M3 97 38 = M 97 38 := by rw [← hM3, pm_up_ne (Or.inr (by decide)), pm_up_ne (Or.inl (by decide)), pm_up_ne (Or.inr (by decide))]
    have g3 : px_tr M M3 := by rw [← hM3]; exact ((px_tr.rf.up (by decide)).up (Or.inr rfl)).up (by decide)
    have hlen : (t ++ [l]).length = t.length + 1 := by rw [List.length_append, List.length_singleton]
    have ht3 : px_tx M3 (t ++ [l]) := by
      refine ⟨by rw [f25, hlen]; rfl, by omega, fun j hj => ?_⟩
      rw [gd_snoc hj, ← hM3, pm_up_ne (Or.inl (by decide))]
      split
      · next e => rw [e, pm_up_eq]
      · next e =>
        rw [pm_up_ne (Or.inr e), pm_up_ne (Or.inl (by decide))]
        exact ht.2.2 j (by omega)
    have hm3 := hm.tr g3
    have e4 : ((t.length : Int) + 1) = (if true = true then ((t ++ [l]).length : Int) else -1) := by rw [if_pos rfl, hlen]; rfl
    rw [e4]
    have hse := suf_end (p := p) (w := t ++ [l]) hp (by omega)
    refine sp_143 (en := true) (by omega) hm3 ht3 ?_ ?_
    · intro M4 s0 E' r' _ hs hh _ g4
      have hbad : ¬ sfB p (t ++ [l]) = true := by
        rw [sfB_iff, ← hse]
        intro hall
        rw [hall s0 hs] at hh
        cases hh
      have f25' : M4 97 25 = (t.length : Int) + 1 := (g4.2 25 (by decide)).trans f25
      refine tr_181_55 ⟨fun _ => ⟨⟨by omega, by omega⟩, ?_⟩, fun w => by omega⟩
      refine hn _ (by omega) hbad ?_ ?_ ((ht3.gf g4).pop (by omega)) ((g3.gf g4).up (by decide)) ?_
      · rw [pm_up_ne (Or.inr (by decide)), g4.2 37 (by decide)]; exact f37
      · rw [pm_up_ne (Or.inr (by decide)), g4.2 36 (by decide)]; exact f36
      · rw [pm_up_ne (Or.inr (by decide)), g4.2 38 (by decide)]; exact f38
    · intro M4 hall g4
      have hgood : sfB p (t ++ [l]) = true := by rw [sfB_iff, ← hse]; exact hall
      have f25' : M4 97 25 = (t.length : Int) + 1 := (g4.2 25 (by decide)).trans f25
      refine tr_181_55 ⟨fun w => absurd rfl w, fun _ => ⟨⟨by omega, by omega⟩, ?_⟩⟩
      have ht4 := ht3.gf g4
      refine hy _ (by omega) hgood ?_ ?_ ⟨by rw [pm_up_eq, f25', hlen]; omega, ht4.2.1, fun j hj => by rw [pm_up_ne (Or.inl (by decide))]; exact ht4.2.2 j hj⟩ ((g3.gf g4).up (by decide)) ?_
      · rw [pm_up_ne (Or.inr (by decide)), g4.2 37 (by decide)]; exact f37
      · rw [pm_up_ne (Or.inr (by decide)), g4.2 36 (by decide)]; exact f36
      · rw [pm_up_ne (Or.inr (by decide)), g4.2 38 (by decide)]; exact f38
  · exact hup _ (by omega) pm_up_eq ((pm_up_ne (Or.inr (by decide))).trans htr) ⟨(pm_up_ne (Or.inr (by decide))).trans ht.1, ht.2.1, fun j hj => (pm_up_ne (Or.inl (by decide))).trans (ht.2.2 j hj)⟩ (px_tr.rf.up (by decide)) (pm_up_ne (Or.inr (by decide)))
/-- extends0 -/
theorem ra_182 {p : List Nat} {K lg : Nat} (hp : p ≠ []) (hK : K ≤ 4) (hlg : lg ≤ 24) : ∀ (D d : Nat) (t : List Nat) (tr lx : Nat) (M : Nat → Nat → Int) (Qr : Option pm_V → pm_Me → Prop), D + 23 ≤ d → t.length + D = lg → px_sk M p → px_tx M t → tr ≤ 1500 → M 97 36 = (tr : Int) → M 97 37 = 0 → M 97 38 = (lx : Int) → lx ≤ lg → M 97 3 = (K : Int) →
    (∀ M' v t', fnd lg ((t, tr) :: (DF p K D t tr).1) = some (v, t') → px_tx M' v → M' 97 36 = (t' : Int) → M' 97 37 = 0 → M' 97 38 = (lg : Int) → px_tr M M' → Qr (some (.inl 1)) (pm_m n kd M')) →
    (∀ M', fnd lg ((t, tr) :: (DF p K D t tr).1) = none → px_tx M' t → M' 97 36 = ((DF p K D t tr).2.1 : Int) → M' 97 37 = bI (DF p K D t tr).2.2 → M' 97 38 = ((max lx (mxl ((t, tr) :: (DF p K D t tr).1)) : Nat) : Int) → px_tr M M' → Qr (some (.inl 0)) (pm_m n kd M')) →
    pm_run d 182 [.inr (.inl (9, 97)), .inl (lg : Int)] (pm_m n kd M) Qr Qx := by
  intro D
  induction D with
  | zero =>
    intro d t tr lx M Qr hd hD hm ht htr h36 h37 h38 hlx h3 hy hn
    obtain ⟨d, rfl⟩ := pm_ex1 (show 1 ≤ d by omega)
    have key : ∀ y : Int, y = ((max lx t.length : Nat) : Int) → Qr (some (.inl 1)) (pm_m n kd (pm_up M 97 38 y)) := fun y hy2 => hy _ t tr (fnd_eq (by omega)) ⟨(pm_up_ne (Or.inr (by decide))).trans ht.1, ht.2.1, fun j hj => (pm_up_ne (Or.inl (by decide))).trans (ht.2.2 j hj)⟩ ((pm_up_ne (Or.inr (by decide))).trans h36) ((pm_up_ne (Or.inr (by decide))).trans h37) (by rw [pm_up_eq, hy2]; omega) (px_tr.rf.up (by decide))
    have e25 : ∀ y : Int, pm_up M 97 38 y 97 25 = (t.length : Int) := fun y => (pm_up_ne (Or.inr (by decide))).trans ht.1
    have h25 := ht.1
    refine tr_182 ⟨fun z => ?_, fun z => ?_⟩
    · rw [e25]
      exact ⟨fun w => by omega, fun _ => key _ (by omega)⟩
    · rw [e25]
      exact ⟨fun w => by omega, fun _ => key _ (by omega)⟩
  | succ D ih =>
    intro d t tr lx M Qr hd hD hm ht htr h36 h37 h38 hlx h3 hy hn
    obtain ⟨d, rfl⟩ := pm_ex1 (show 1 ≤ d by omega)
    have h25 := ht.1
    have e25 : ∀ y : Int, pm_up M 97 38 y 97 25 = (t.length : Int) := fun y => (pm_up_ne (Or.inr (by decide))).trans ht.1
    rw [fnd_ne (by omega)] at hy hn
    rw [mxl_cons] at hn
    have hDF : DF p K (D + 1) t tr = lpc p (DF p K D) K t 0 tr := rfl
    rw [hDF] at hy hn
    generalize hE : lpc p (DF p K D) K t 0 tr = E0 at hy hn
    have loop : ∀ (c l tr2 lx2 : Nat) (M2 : Nat → Nat → Int), c + l = K → px_tx M2 t → tr2 ≤ 1500 → M2 97 36 = (tr2 : Int) → M2 97 37 = 0 → M2 97 38 = (lx2 : Int) → lx2 ≤ lg → px_tr M M2 → fnd lg E0.1 = fnd lg (lpc p (DF p K D) c t l tr2).1 → E0.2 = (lpc p (DF p K D) c t l tr2).2 → max lx (max t.length (mxl E0.1)) = max lx2 (mxl (lpc p (DF p K D) c t l tr2).1) → pm_wq d 182 Qr Qx (38, [some (.inr (.inl (9, 97))), some (.inl (lg : Int)), some (.inl (l : Int))], [], pm_m n kd M2, 0, 0) := by
      intro c
      induction c with
      | zero =>
        intro l tr2 lx2 M2 hc ht2 htr2 k36 k37 k38 hlx2 g2 q1 q2 q3
        have k3 : M2 97 3 = (K : Int) := (g2.2 3 (by decide) (by decide) (by decide) (by decide) (by decide)).trans h3
        have q1 : fnd lg E0.1 = none := q1
        have q2 : E0.2 = (tr2, false) := q2
        have q3 : max lx (max t.length (mxl E0.1)) = max lx2 0 := q3
        refine tr_182_38 ⟨fun _ => hn M2 q1 ht2 (by rw [q2]; exact k36) (by rw [q2]; exact k37) ?_ g2, fun w => by omega⟩
        show M2 97 38 = ((max lx (max t.length (mxl E0.1)) : Nat) : Int)
        rw [q3, k38]
        omega
      | succ c ihc =>
        intro l tr2 lx2 M2 hc ht2 htr2 k36 k37 k38 hlx2 g2 q1 q2 q3
        have k3 : ∀ M3, px_tr M M3 → M3 97 3 = (K : Int) := fun M3 g3 => (g3.2 3 (by decide) (by decide) (by decide) (by decide) (by decide)).trans h3
        have k32 := k3 M2 g2
        rw [lpc] at q1 q2 q3
        have el : ((l : Int) + 1) = ((l + 1 : Nat) : Int) := by omega
        refine tr_182_38 ⟨fun w => by omega, fun _ => ⟨fun w => absurd k37 w, fun _ => ?_⟩⟩
        refine ra_181 (tr := tr2) (by omega) hp (hm.tr g2) ht2 (by omega) k36 htr2 k37 ?_ ?_ ?_
        · intro M3 hup j37 j36 ht3 g3 j38
          rw [if_pos (by omega)] at q1 q2 q3
          have q1 : fnd lg E0.1 = none := q1
          have q2 : E0.2 = (tr2, true) := q2
          have q3 : max lx (max t.length (mxl E0.1)) = max lx2 0 := q3
          have gg := g2.tr g3
          have fin : Qr (some (.inl 0)) (pm_m n kd M3) := by
            refine hn M3 q1 ht3 (by rw [q2]; exact j36) (by rw [q2]; exact j37) ?_ gg
            show M3 97 38 = ((max lx (max t.length (mxl E0.1)) : Nat) : Int)
            rw [q3, j38, k38]
            omega
          exact tr_182_58 ⟨fun _ => ⟨⟨by omega, by omega⟩, tr_182_38 ⟨fun _ => fin, fun _ => ⟨fun _ => fin, fun w => absurd (show M3 97 37 ≠ 0 by omega) w⟩⟩⟩, fun w => absurd rfl w⟩
        · intro M3 htl hgood j37 j36 ht3 g3 j38
          rw [if_neg (by omega), if_pos hgood] at q1 q2 q3
          have gg := g2.tr g3
          refine tr_182_58 ⟨fun w => absurd w (by decide), fun _ => ?_⟩
          have hlen : (t ++ [l]).length = t.length + 1 := by rw [List.length_append, List.length_singleton]
          refine ih d (t ++ [l]) (tr2 + 1) lx2 M3 _ (by omega) (by omega) (hm.tr gg) ht3 (by omega) j36 j37 (j38.trans k38) hlx2 (k3 M3 gg) ?_ ?_
          · intro M4 v t' hf ht4 i36 i37 i38 g4
            refine tr_182_66 ⟨fun w => absurd w (by decide), fun _ => hy M4 v t' ?_ ht4 i36 i37 i38 (gg.tr g4)⟩
            rw [q1]
            show fnd lg ((t ++ [l], tr2 + 1) :: (evb (DF p K D (t ++ [l]) (tr2 + 1)) _).1) = _
            unfold evb
            split
            · exact hf
            · exact fnd_app' (A := (t ++ [l], tr2 + 1) :: (DF p K D (t ++ [l]) (tr2 + 1)).1) hf
          · intro M4 hf ht4 i36 i37 i38 g4
            have hok := DF_ok (p := p) (K := K) D (t ++ [l]) (tr2 + 1) (by omega)
            have i25 := ht4.1
            rw [hlen] at i25
            have g5 : px_tr M (pm_up M4 97 25 (M4 97 25 - 1)) := (gg.tr g4).up (by decide)
            have ht5 : px_tx (pm_up M4 97 25 (M4 97 25 - 1)) t := ht4.pop (by omega)
            have u36 : pm_up M4 97 25 (M4 97 25 - 1) 97 36 = ((DF p K D (t ++ [l]) (tr2 + 1)).2.1 : Int) := (pm_up_ne (Or.inr (by decide))).trans i36
            have u37 : pm_up M4 97 25 (M4 97 25 - 1) 97 37 = bI (DF p K D (t ++ [l]) (tr2 + 1)).2.2 := (pm_up_ne (Or.inr (by decide))).trans i37
            have u38 : pm_up M4 97 25 (M4 97 25 - 1) 97 38 = ((max lx2 (mxl ((t ++ [l], tr2 + 1) :: (DF p K D (t ++ [l]) (tr2 + 1)).1)) : Nat) : Int) := (pm_up_ne (Or.inr (by decide))).trans i38
            refine tr_182_66 ⟨fun _ => ⟨⟨by omega, by omega⟩, ⟨by omega, by omega⟩, ?_⟩, fun w => absurd rfl w⟩
            generalize hDD : DF p K D (t ++ [l]) (tr2 + 1) = DD at *
            obtain ⟨DL, Dt, Dg⟩ := DD
            cases Dg with
            | true =>
              have q1 : fnd lg E0.1 = fnd lg ((t ++ [l], tr2 + 1) :: DL) := q1
              have q2 : E0.2 = (Dt, true) := q2
              have q3 : max lx (max t.length (mxl E0.1)) = max lx2 (mxl ((t ++ [l], tr2 + 1) :: DL)) := q3
              have fin : Qr (some (.inl 0)) (pm_m n kd (pm_up M4 97 25 (M4 97 25 - 1))) := by
                refine hn _ (q1.trans hf) ht5 (by rw [q2]; exact u36) (by rw [q2]; exact u37) ?_ g5
                show _ = ((max lx (max t.length (mxl E0.1)) : Nat) : Int)
                rw [q3]
                exact u38
              have u37 : pm_up M4 97 25 (M4 97 25 - 1) 97 37 = 1 := u37
              exact tr_182_38 ⟨fun _ => fin, fun _ => ⟨fun _ => fin, fun w => absurd (show pm_up M4 97 25 (M4 97 25 - 1) 97 37 ≠ 0 by omega) w⟩⟩
            | false =>
              have hf : fnd lg ((t ++ [l], tr2 + 1) :: DL) = none := hf
              have q1 : fnd lg E0.1 = fnd lg (((t ++ [l], tr2 + 1) :: DL) ++ (lpc p (DF p K D) c t (l + 1) Dt).1) := q1
              have q2 : E0.2 = (lpc p (DF p K D) c t (l + 1) Dt).2 := q2
              have q3 : max lx (max t.length (mxl E0.1)) = max lx2 (mxl (((t ++ [l], tr2 + 1) :: DL) ++ (lpc p (DF p K D) c t (l + 1) Dt).1)) := q3
              rw [fnd_app hf] at q1
              rw [mxl_app] at q3
              have hDt : Dt ≤ 1500 := hok.2
              have hmx : mxl ((t ++ [l], tr2 + 1) :: DL) ≤ max lx (max t.length (mxl E0.1)) := by rw [q3]; omega
              rw [el]
              -- what was found is not too long
              by_cases hbig : max lx2 (mxl ((t ++ [l], tr2 + 1) :: DL)) ≤ lg
              · exact ihc (l + 1) Dt (max lx2 (mxl ((t ++ [l], tr2 + 1) :: DL))) _ (by omega) ht5 hDt u36 u37 u38 hbig g5 q1 q2 (by rw [q3]; omega)
              · exfalso
                -- lengths
                have hle : ∀ (D : Nat) (t : List Nat) (tr : Nat), t.length + D ≤ lg → mxl (DF p K D t tr).1 ≤ lg := by
                  intro D
                  induction D with
                  | zero => intro t tr _; exact Nat.zero_le _
                  | succ D ihD =>
                    intro t tr hh
                    show mxl (lpc p (DF p K D) K t 0 tr).1 ≤ lg
                    have : ∀ c l tr, mxl (lpc p (DF p K D) c t l tr).1 ≤ lg := by
                      intro c
                      induction c with
                      | zero => intro l tr; exact Nat.zero_le _
                      | succ c ihc2 =>
                        intro l tr
                        rw [lpc]
                        split
                        · exact Nat.zero_le _
                        · split
                          · show mxl ((t ++ [l], tr + 1) :: (evb (DF p K D (t ++ [l]) (tr + 1)) _).1) ≤ lg
                            have h1 := ihD (t ++ [l]) (tr + 1) (by rw [List.length_append, List.length_singleton]; omega)
                            have h2 : (t ++ [l]).length ≤ lg := by rw [List.length_append, List.length_singleton]; omega
                            rw [mxl_cons]
                            unfold evb
                            split
                            · exact Nat.max_le.mpr ⟨h2, h1⟩
                            · refine Nat.max_le.mpr ⟨h2, ?_⟩
                              rw [mxl_app]
                              exact Nat.max_le.mpr ⟨h1, ihc2 _ _⟩
                          · exact ihc2 _ _
                    exact this K 0 tr
                have h1 := hle D (t ++ [l]) (tr2 + 1) (by omega)
                rw [hDD] at h1
                have h1 : mxl DL ≤ lg := h1
                rw [mxl_cons] at hbig
                have : (t ++ [l]).length ≤ lg := by omega
                have hb2 : ¬ (max lx2 (max (t ++ [l]).length (mxl DL)) ≤ lg) := hbig
                omega
        · intro M3 htl hbad j37 j36 ht3 g3 j38
          rw [if_neg (by omega), if_neg hbad] at q1 q2 q3
          refine tr_182_58 ⟨fun _ => ⟨⟨by omega, by omega⟩, ?_⟩, fun w => absurd rfl w⟩
          rw [el]
          exact ihc (l + 1) (tr2 + 1) lx2 M3 (by omega) ht3 (by omega) j36 j37 (j38.trans k38) hlx2 (g2.tr g3) q1 q2 q3
    have start : ∀ y : Int, y = ((max lx t.length : Nat) : Int) → pm_wq d 182 Qr Qx (38, [some (.inr (.inl (9, 97))), some (.inl (lg : Int)), some (.inl 0)], [], pm_m n kd (pm_up M 97 38 y), 0, 0) := fun y hy2 => by
      refine loop K 0 tr (max lx t.length) _ (by omega) ⟨(pm_up_ne (Or.inr (by decide))).trans ht.1, ht.2.1, fun j hj => (pm_up_ne (Or.inl (by decide))).trans (ht.2.2 j hj)⟩ htr ((pm_up_ne (Or.inr (by decide))).trans h36) ((pm_up_ne (Or.inr (by decide))).trans h37) (by rw [pm_up_eq]; exact hy2) (by omega) (px_tr.rf.up (by decide)) (by rw [hE]) (by rw [hE]) (by rw [hE]; omega)
    refine tr_182 ⟨fun z => ?_, fun z => ?_⟩
    · rw [e25]
      exact ⟨fun _ => start _ (by omega), fun w => absurd (show (t.length : Int) ≠ (lg : Int) by omega) w⟩
    · rw [e25]
      exact ⟨fun _ => start _ (by omega), fun w => absurd (show (t.length : Int) ≠ (lg : Int) by omega) w⟩
end RFX

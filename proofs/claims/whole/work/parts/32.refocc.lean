/-! THE REFERENCE LOOKS FOR OCCURRENCES -/
def px_tx (M : Nat → Nat → Int) (t : List Nat) : Prop := M 97 25 = (t.length : Int) ∧ t.length ≤ 24 ∧ ∀ j, j < t.length → M 112 j = ((t.getD j 0 : Nat) : Int)
def px_sk (M : Nat → Nat → Int) (p : List Nat) : Prop := M 97 23 = (p.length : Int) ∧ p.length ≤ 15 ∧ (∀ v ∈ p, v < 5) ∧ ∀ j, j < p.length → M 111 j = ((p.getD j 0 : Nat) : Int)
/-- nothing changed but the images and the count -/
def px_gf (M M' : Nat → Nat → Int) : Prop := (∀ a, a ≠ 97 → a ≠ 113 → a ≠ 114 → M' a = M a) ∧ ∀ j, j ≠ 29 → M' 97 j = M 97 j
theorem px_gf.rf {M : Nat → Nat → Int} : px_gf M M := ⟨fun _ _ _ _ => rfl, fun _ _ => rfl⟩
theorem px_gf.tr {M M1 M2 : Nat → Nat → Int} (h1 : px_gf M M1) (h2 : px_gf M1 M2) : px_gf M M2 := ⟨fun a x y z => (h2.1 a x y z).trans (h1.1 a x y z), fun j hj => (h2.2 j hj).trans (h1.2 j hj)⟩
theorem px_gf.up {M M1 : Nat → Nat → Int} {q j : Nat} {x : Int} (h : px_gf M M1) (hq : (q = 97 ∧ j = 29) ∨ q = 113 ∨ q = 114) : px_gf M (pm_up M1 q j x) := by
  refine ⟨fun a x y z => (pm_up_row (by omega)).trans (h.1 a x y z), fun i hi => (pm_up_ne (by omega)).trans (h.2 i hi)⟩
theorem px_tx.gf {M M' : Nat → Nat → Int} {t : List Nat} (h : px_tx M t) (g : px_gf M M') : px_tx M' t := ⟨(g.2 25 (by decide)).trans h.1, h.2.1, fun j hj => by rw [g.1 112 (by decide) (by decide) (by decide)]; exact h.2.2 j hj⟩
theorem px_sk.gf {M M' : Nat → Nat → Int} {t : List Nat} (h : px_sk M t) (g : px_gf M M') : px_sk M' t := ⟨(g.2 23 (by decide)).trans h.1, h.2.1, h.2.2.1, fun j hj => by rw [g.1 111 (by decide) (by decide) (by decide)]; exact h.2.2.2 j hj⟩
def okB (en : Bool) (r : List Nat) : Bool := !en || r.isEmpty
def mtF (en : Bool) (q : List Nat) (E : Nat → List Nat) (r : List Nat) : List ((Nat → List Nat) × List Nat) := (mtL l24 q E r).filter (fun z => okB en z.2)
theorem fm_filter {α : Type} {g : Nat → List α} {f : α → Bool} : ∀ {c i : Nat}, (fm g i c).filter f = fm (fun j => (g j).filter f) i c
  | 0, _ => rfl
  | c + 1, i => by rw [fm, fm, List.filter_append, fm_filter]
theorem mtF_open {en : Bool} {v : Nat} {q : List Nat} {E : Nat → List Nat} {r : List Nat} (hE : E v = []) (hr : r.length ≤ 24) : mtF en (v :: q) E r = fm (fun m => mtF en q (ud E v (r.take m)) (r.drop m)) 1 r.length := by
  unfold mtF
  rw [mtL, if_pos hE, fm_filter, show min (l24 v) r.length = r.length from Nat.min_eq_right hr]
theorem mtF_known {en : Bool} {v : Nat} {q : List Nat} {E : Nat → List Nat} {r : List Nat} (hE : E v ≠ []) : mtF en (v :: q) E r = if (E v).isPrefixOf r = true then mtF en q E (r.drop (E v).length) else [] := by
  unfold mtF
  rw [mtL, if_neg hE]
  split <;> rfl
theorem mtF_need {en : Bool} {q : List Nat} {E : Nat → List Nat} {r : List Nat} (h : r.length < nd E q) : mtF en q E r = [] := by
  unfold mtF
  have : mtL l24 q E r = [] := by
    apply Classical.byContradiction
    intro hne
    have := mtL_need hne
    omega
  rw [this]
  rfl
theorem nd_ge (E : Nat → List Nat) : ∀ q : List Nat, q.length ≤ nd E q
  | [] => Nat.le_refl _
  | v :: q => by
    have := nd_ge E q
    rw [nd, List.length_cons]
    omega
theorem mtF_len {en : Bool} {q : List Nat} {E : Nat → List Nat} {r : List Nat} (h : ∀ v ∈ q, v < 5) (hr : r.length ≤ 24) : (mtF en q E r).length ≤ 7962624 := Nat.le_trans (List.length_filter_le _ _) (cnt_le5 h hr)
section RFO
variable {n : Nat} {kd : Nat → Nat} {Qx : Nat → pm_Me → Prop}
/-- standsAgain -/
theorem sp_142 {d v b : Nat} {M : Nat → Nat → Int} {Qr : Option pm_V → pm_Me → Prop} {t : List Nat} {x : List Nat} (hd : 1 ≤ d) (ht : px_tx M t) (hv : v < 5) (he : pm_e1 M 105 t x v b) (hx : x ≠ []) (hb : b ≤ t.length) (h : Qr (some (.inl (if x.isPrefixOf (t.drop b) = true then 1 else 0))) (pm_m n kd M)) : pm_run d 142 [.inr (.inl (9, 97)), .inl (v : Int), .inl (b : Int)] (pm_m n kd M) Qr Qx := by
  obtain ⟨d, rfl⟩ := pm_ex1 hd
  obtain ⟨st, h1, h2, h3⟩ := he.2 hx
  have h9 : M 114 v = (x.length : Int) := he.1
  have h1 : M 113 v = (st : Int) := h1
  obtain ⟨t1, t2, t3⟩ := ht
  refine tr_142 ⟨⟨by omega, by omega⟩, ?_⟩
  rw [Int.toNat_natCast, h9, t1]
  refine ⟨⟨by omega, by omega⟩, fun z => ?_, fun z => ?_⟩
  · have hp : ¬ x.isPrefixOf (t.drop b) = true := by
      intro hp
      have := (List.isPrefixOf_iff_prefix.mp hp).length_le
      rw [List.length_drop] at this
      omega
    rw [if_neg hp] at h
    exact tr_142_24 ⟨fun _ => ⟨Or.inl rfl, h⟩, fun z => absurd rfl z⟩
  · refine pm_lp (α := Unit) (N := x.length) (G := fun i _ => pm_wq d 142 Qr Qx (24, [some (.inr (.inl (9, 97))), some (.inl (v : Int)), some (.inl (b : Int)), some (.inl 1), some (.inl (i : Int))], [], pm_m n kd M, 0, 0)) (I := fun i _ => ∀ j, j < i → x.getD j 0 = t.getD (b + j) 0) ?_ ?_ 0 () (Nat.zero_le _) (fun j hj => absurd hj (Nat.not_lt_zero j))
    · intro _ hj
      refine tr_142_24 ⟨fun z => absurd z (by decide), fun _ => ⟨⟨by omega, by omega⟩, fun _ => ⟨Or.inr rfl, ?_⟩, fun z => ?_⟩⟩
      · have hp : x.isPrefixOf (t.drop b) = true := by
          rw [List.isPrefixOf_iff_prefix, List.prefix_iff_eq_take]
          refine gd_ext (by rw [List.length_take, List.length_drop]; omega) (fun j hj2 => ?_)
          rw [gd_take hj2, gd_drop]
          exact hj j hj2
        rw [if_pos hp] at h
        exact h
      · rw [Int.toNat_natCast] at z; omega
    · intro i _ hi hj ih
      have e1 : x.getD i 0 = t.getD (st + i) 0 := by
        conv => lhs; rw [← h3]
        rw [gd_take hi, gd_drop]
      refine tr_142_24 ⟨fun z => absurd z (by decide), fun _ => ⟨⟨by omega, by omega⟩, ?_⟩⟩
      rw [Int.toNat_natCast, h9, h1]
      have e2 : ((st : Int) + (i : Int)).toNat = st + i := by omega
      have e3 : ((b : Int) + (i : Int)).toNat = b + i := by omega
      rw [e2, e3, t3 _ (by omega), t3 _ (by omega)]
      refine ⟨fun z => by omega, fun _ => ⟨⟨by omega, by omega⟩, ⟨by omega, by omega⟩, ⟨by omega, by omega⟩, ⟨by omega, by omega⟩, ⟨by omega, by omega⟩, fun z => ⟨⟨by omega, by omega⟩, ?_⟩, fun z => ⟨⟨by omega, by omega⟩, ih () (fun j hj2 => ?_)⟩⟩⟩
      · have hp : ¬ x.isPrefixOf (t.drop b) = true := by
          intro hp
          have hq := List.prefix_iff_eq_take.mp (List.isPrefixOf_iff_prefix.mp hp)
          apply z
          rw [← e1]
          have : x.getD i 0 = t.getD (b + i) 0 := by
            conv => lhs; rw [hq]
            rw [gd_take hi, gd_drop]
          rw [this]
        rw [if_neg hp] at h
        exact tr_142_24 ⟨fun _ => ⟨Or.inl rfl, h⟩, fun z => absurd rfl z⟩
      · by_cases e : j = i
        · rw [e, e1]; omega
        · exact hj j (by omega)
set_option maxHeartbeats 1000000 in
/-- goesOn -/
theorem sp_141 {p t : List Nat} {en : Bool} {on : Int} (hon : on = 0 ∨ on = 1) : ∀ (q : List Nat) (d a b : Nat) (E : Nat → List Nat) (M : Nat → Nat → Int) (Qr : Option pm_V → pm_Me → Prop), p.drop a = q → a ≤ p.length → q.length + 3 ≤ d → px_sk M p → px_tx M t → pm_en M 105 t E b → b ≤ t.length → (on = 1 → M 97 29 = 0) → 0 ≤ M 97 29 → M 97 29 + ((mtF en q E (t.drop b)).length : Int) ≤ 2000000000 →
    (∀ M' E' r', on = 1 → (mtF en q E (t.drop b)).head? = some (E', r') → pm_en M' 105 t E' t.length → px_gf M M' → Qr (some (.inl 1)) (pm_m n kd M')) →
    (∀ M', (on = 1 → mtF en q E (t.drop b) = []) → M' 97 29 = M 97 29 + ((mtF en q E (t.drop b)).length : Int) → pm_rs M M' 105 E → px_gf M M' → Qr (some (.inl 0)) (pm_m n kd M')) →
    pm_run d 141 [.inr (.inl (9, 97)), .inl (a : Int), .inl (b : Int), .inl on, .inl (if en = true then (t.length : Int) else -1)] (pm_m n kd M) Qr Qx
  | [], d, a, b, E, M, Qr, hq, ha, hd, hm, ht, he, hb, h0, hc0, hcb, hy, hn => by
    obtain ⟨d, rfl⟩ := pm_ex1 (Nat.le_trans (by simp) hd)
    have hps := hm.1
    have hpl : p.length = a := by
      have := congrArg List.length hq
      rw [List.length_drop, List.length_nil] at this
      omega
    have hL : mtF en [] E (t.drop b) = if okB en (t.drop b) = true then [(E, t.drop b)] else [] := by
      unfold mtF
      rw [mtL, List.filter_cons, List.filter_nil]
    -- one occurrence
    have one : okB en (t.drop b) = true → (pm_r ((M 97 29) + 1) ∧ ((on = 0 → Qr (some (.inl 0)) (pm_m n kd (pm_up M 97 29 ((M 97 29) + 1)))) ∧ (¬ (on = 0) → (((pm_up M 97 29 ((M 97 29) + 1)) 97 29 ≤ 0 → Qr (some (.inl 0)) (pm_m n kd (pm_up M 97 29 ((M 97 29) + 1)))) ∧ (¬ ((pm_up M 97 29 ((M 97 29) + 1)) 97 29 ≤ 0) → Qr (some (.inl 1)) (pm_m n kd (pm_up M 97 29 ((M 97 29) + 1)))))))) := by
      intro hok
      rw [if_pos hok] at hL
      rw [hL] at hy hn hcb
      have hcb : M 97 29 + 1 ≤ 2000000000 := hcb
      have g : px_gf M (pm_up M 97 29 ((M 97 29) + 1)) := px_gf.rf.up (by omega)
      have he2 : pm_en (pm_up M 97 29 ((M 97 29) + 1)) 105 t E b := fun v hv => (he v hv).up (Or.inr ⟨by omega, by omega⟩)
      refine ⟨⟨by omega, by omega⟩, fun z => ?_, fun z => ⟨fun z2 => ?_, fun z2 => ?_⟩⟩
      · exact hn _ (fun w => by omega) pm_up_eq (fun u hu => ⟨(he2 u hu).1, fun _ => pm_up_ne (Or.inl (by decide))⟩) g
      · rw [pm_up_eq] at z2; omega
      · exact hy _ E (t.drop b) (by omega) rfl (he2.mono hb) g
    have none' : okB en (t.drop b) = false → (pm_r ((M 97 29) + 0) ∧ ((on = 0 → Qr (some (.inl 0)) (pm_m n kd (pm_up M 97 29 ((M 97 29) + 0)))) ∧ (¬ (on = 0) → (((pm_up M 97 29 ((M 97 29) + 0)) 97 29 ≤ 0 → Qr (some (.inl 0)) (pm_m n kd (pm_up M 97 29 ((M 97 29) + 0)))) ∧ (¬ ((pm_up M 97 29 ((M 97 29) + 0)) 97 29 ≤ 0) → Qr (some (.inl 1)) (pm_m n kd (pm_up M 97 29 ((M 97 29) + 0)))))))) := by
      intro hok
      rw [if_neg (by rw [hok]; decide)] at hL
      rw [hL] at hy hn hcb
      have hcb : M 97 29 + 0 ≤ 2000000000 := hcb
      have g : px_gf M (pm_up M 97 29 ((M 97 29) + 0)) := px_gf.rf.up (by omega)
      have he2 : pm_en (pm_up M 97 29 ((M 97 29) + 0)) 105 t E b := fun v hv => (he v hv).up (Or.inr ⟨by omega, by omega⟩)
      have out := hn (pm_up M 97 29 ((M 97 29) + 0)) (fun _ => rfl) pm_up_eq (fun u hu => ⟨(he2 u hu).1, fun _ => pm_up_ne (Or.inl (by decide))⟩) g
      refine ⟨⟨by omega, by omega⟩, fun z => out, fun z => ⟨fun z2 => out, fun z2 => ?_⟩⟩
      rw [pm_up_eq] at z2
      have := h0 (by omega)
      omega
    refine tr_141 ⟨fun z => by omega, fun _ => ?_⟩
    cases en with
    | false =>
      exact ⟨fun _ => one rfl, fun z => absurd rfl z⟩
    | true =>
      have hiff : okB true (t.drop b) = true ↔ b = t.length := by
        unfold okB
        rw [Bool.not_true, Bool.false_or, List.isEmpty_iff_length_eq_zero, List.length_drop]
        omega
      refine ⟨fun z => ?_, fun _ => ⟨fun z => ?_, fun z => ?_⟩⟩
      · have z : (t.length : Int) = -1 := z
        omega
      · have z : (b : Int) ≠ (t.length : Int) := z
        refine none' ?_
        cases hk : okB true (t.drop b)
        · rfl
        · have := hiff.mp hk; omega
      · have z : ¬ ((b : Int) ≠ (t.length : Int)) := z
        exact one (hiff.mpr (by omega))
  | v :: q, d, a, b, E, M, Qr, hq, ha, hd, hm, ht, he, hb, h0, hc0, hcb, hy, hn => by
    obtain ⟨d, rfl⟩ := pm_ex1 (Nat.le_trans (by simp) hd)
    rw [List.length_cons] at hd
    have hps := hm.1
    have hts := ht.1
    have h24 := ht.2.1
    have h15 := hm.2.1
    have halt : a < p.length := by
      have := congrArg List.length hq
      rw [List.length_drop, List.length_cons] at this
      omega
    have hv : p.getD a 0 = v := by
      have := dr_cons halt
      rw [hq] at this
      exact (List.cons.inj this).1.symm
    have hq' : p.drop (a + 1) = q := by
      have := dr_cons halt
      rw [hq] at this
      exact (List.cons.inj this).2.symm
    have hql : q.length = p.length - (a + 1) := by rw [← hq', List.length_drop]
    have hv5 : v < 5 := hm.2.2.1 v (by rw [← hv]; exact gd_mem halt)
    have hev := he v hv5
    have h9 : M 114 v = ((E v).length : Int) := hev.1
    have hrl : (t.drop b).length = t.length - b := List.length_drop
    refine tr_141 ⟨fun _ => ⟨⟨by omega, by omega⟩, ?_⟩, fun z => by omega⟩
    rw [Int.toNat_natCast, hm.2.2.2 a halt, hv, Int.toNat_natCast, h9]
    refine ⟨⟨by omega, by omega⟩, fun z => ?_, fun z => ?_⟩
    · have hE : E v = [] := List.length_eq_zero_iff.mp (by omega)
      rw [mtF_open hE (by rw [hrl]; omega), hrl] at hy hn hcb
      have loop : ∀ (c i : Nat) (M1 : Nat → Nat → Int) (P : List ((Nat → List Nat) × List Nat)), c + i = t.length - b + 1 → 1 ≤ i → (∀ u, u < 5 → u ≠ v → M1 114 u = ((E u).length : Int) ∧ (E u ≠ [] → M1 113 u = M 113 u)) → px_gf M M1 → M1 97 29 = M 97 29 + (P.length : Int) → (on = 1 → P = []) →
          fm (fun m => mtF en q (ud E v ((t.drop b).take m)) ((t.drop b).drop m)) 1 (t.length - b) = P ++ fm (fun m => mtF en q (ud E v ((t.drop b).take m)) ((t.drop b).drop m)) i (t.length - b + 1 - i) →
          pm_wq d 141 Qr Qx (110, [some (.inr (.inl (9, 97))), some (.inl (a : Int)), some (.inl (b : Int)), some (.inl on), some (.inl (if en = true then (t.length : Int) else -1)), some (.inl (v : Int)), some (.inl (i : Int))], [], pm_m n kd M1, 0, 0) := by
        intro c
        induction c with
        | zero =>
          intro i M1 P hci hi he1 hg hP hP1 hfm
          have hs1 := (hm.gf hg).1
          have ht1 := (ht.gf hg).1
          rw [show t.length - b + 1 - i = 0 by omega, fm, List.append_nil] at hfm
          rw [hfm] at hn
          refine tr_141_110 ?_
          rw [hs1, ht1]
          refine ⟨⟨by omega, by omega⟩, ⟨by omega, by omega⟩, ⟨by omega, by omega⟩, ⟨by omega, by omega⟩, fun _ => ⟨⟨by omega, by omega⟩, ?_⟩, fun z => by omega⟩
          rw [Int.toNat_natCast]
          refine hn _ hP1 ((pm_up_ne (Or.inl (by decide))).trans hP) (fun u hu => ?_) (hg.up (by omega))
          by_cases e : u = v
          · subst e; rw [hE]; exact ⟨pm_up_eq, fun z => absurd rfl z⟩
          · exact ⟨(pm_up_ne (Or.inr e)).trans (he1 u hu e).1, fun hx => (pm_up_ne (Or.inr e)).trans ((he1 u hu e).2 hx)⟩
        | succ c ih =>
          intro i M1 P hci hi he1 hg hP hP1 hfm
          have hs1 := (hm.gf hg).1
          have ht1 := (ht.gf hg).1
          refine tr_141_110 ?_
          rw [hs1, ht1]
          refine ⟨⟨by omega, by omega⟩, ⟨by omega, by omega⟩, ⟨by omega, by omega⟩, ⟨by omega, by omega⟩, fun z => ⟨⟨by omega, by omega⟩, ?_⟩, fun z => ⟨⟨by omega, by omega⟩, ⟨by omega, by omega⟩, ⟨by omega, by omega⟩, ⟨by omega, by omega⟩, ?_⟩⟩
          · rw [Int.toNat_natCast]
            rw [fm_nil (g := fun m => mtF en q (ud E v ((t.drop b).take m)) ((t.drop b).drop m)) (c := t.length - b + 1 - i) (i := i) (fun j h1 h2 => mtF_need (by
              have := nd_ge (ud E v ((t.drop b).take j)) q
              rw [List.length_drop, hrl]
              omega)), List.append_nil] at hfm
            rw [hfm] at hn
            refine hn _ hP1 ((pm_up_ne (Or.inl (by decide))).trans hP) (fun u hu => ?_) (hg.up (by omega))
            by_cases e : u = v
            · subst e; rw [hE]; exact ⟨pm_up_eq, fun z => absurd rfl z⟩
            · exact ⟨(pm_up_ne (Or.inr e)).trans (he1 u hu e).1, fun hx => (pm_up_ne (Or.inr e)).trans ((he1 u hu e).2 hx)⟩
          · rw [Int.toNat_natCast]
            have hlt : ((t.drop b).take i).length = i := by rw [List.length_take, hrl]; omega
            have hxne : (t.drop b).take i ≠ [] := fun z => by rw [z, List.length_nil] at hlt; omega
            have hdd : (t.drop b).drop i = t.drop (b + i) := by rw [List.drop_drop]
            rw [show t.length - b + 1 - i = (t.length - b + 1 - (i + 1)) + 1 by omega, fm, hdd] at hfm
            have ea : ((a : Int) + 1) = ((a + 1 : Nat) : Int) := by omega
            have eb : ((b : Int) + (i : Int)) = ((b + i : Nat) : Int) := by omega
            have g2 : px_gf M1 (pm_up (pm_up M1 113 v (b : Int)) 114 v (i : Int)) := (px_gf.rf.up (by omega)).up (by omega)
            have e29 : pm_up (pm_up M1 113 v (b : Int)) 114 v (i : Int) 97 29 = M1 97 29 := (pm_up_ne (Or.inl (by decide))).trans (pm_up_ne (Or.inl (by decide)))
            have hlen : M 97 29 + (P.length : Int) + ((mtF en q (ud E v ((t.drop b).take i)) (t.drop (b + i))).length : Int) ≤ 2000000000 := by
              rw [hfm, List.length_append, List.length_append] at hcb
              omega
            rw [ea, eb]
            refine sp_141 hon q d (a + 1) (b + i) (ud E v ((t.drop b).take i)) _ _ hq' (by omega) (by omega) ((hm.gf hg).gf g2) ((ht.gf hg).gf g2) ?_ (by omega) ?_ ?_ ?_ ?_ ?_
            · intro u hu
              by_cases e : u = v
              · subst e
                rw [ud_eq]
                refine ⟨by rw [hlt]; exact pm_up_eq, fun _ => ⟨b, ?_, ?_, ?_⟩⟩
                · exact (pm_up_ne (Or.inl (by decide))).trans pm_up_eq
                · rw [hlt]; omega
                · rw [hlt]
              · rw [ud_ne e]
                refine ⟨(pm_up_ne (Or.inr e)).trans ((pm_up_ne (Or.inr e)).trans (he1 u hu e).1), fun hx => ?_⟩
                obtain ⟨st, a1, a2, a3⟩ := (he u hu).2 hx
                exact ⟨st, (pm_up_ne (Or.inr e)).trans ((pm_up_ne (Or.inr e)).trans (((he1 u hu e).2 hx).trans a1)), by omega, a3⟩
            · intro w
              rw [e29, hP, hP1 w, h0 w]
              rfl
            · rw [e29, hP]; omega
            · rw [e29, hP]; exact hlen
            · intro M2 E' r' w hh he2 g3
              refine tr_141_161 ⟨fun z => absurd z (by decide), fun _ => hy M2 E' r' w ?_ he2 (hg.tr (g2.tr g3))⟩
              rw [hfm, hP1 w, List.nil_append, List.head?_append, hh]
              rfl
            · intro M2 hnil hc2 he2 g3
              have e9 := he2 v hv5
              refine tr_141_161 ⟨fun _ => ⟨⟨by omega, by omega⟩, ih (i + 1) M2 (P ++ mtF en q (ud E v ((t.drop b).take i)) (t.drop (b + i))) (by omega) (by omega) ?_ (hg.tr (g2.tr g3)) ?_ ?_ ?_⟩, fun z => absurd rfl z⟩
              · intro u hu e
                have h8 := he2 u hu
                rw [ud_ne e] at h8
                exact ⟨h8.1, fun hx => (h8.2 hx).trans ((pm_up_ne (Or.inr e)).trans ((pm_up_ne (Or.inr e)).trans ((he1 u hu e).2 hx)))⟩
              · rw [hc2, e29, hP, List.length_append]; omega
              · intro w; rw [hP1 w, hnil w]; rfl
              · rw [hfm, List.append_assoc]
      exact loop (t.length - b) 1 M [] (by omega) (Nat.le_refl _) (fun u hu _ => ⟨(he u hu).1, fun _ => rfl⟩) px_gf.rf (by simp) (fun _ => rfl) (by rw [Nat.add_sub_cancel]; rfl)
    · have hE : E v ≠ [] := fun z2 => z (by rw [z2]; simp)
      refine sp_142 (by omega) ht hv5 hev hE hb ?_
      have hL := @mtF_known en v q E (t.drop b) hE
      by_cases hp : (E v).isPrefixOf (t.drop b) = true
      · rw [if_pos hp] at hL ⊢
        rw [hL, List.drop_drop] at hy hn hcb
        have hl := (List.isPrefixOf_iff_prefix.mp hp).length_le
        rw [List.length_drop] at hl
        have hpos : 0 < (E v).length := List.length_pos_iff.mpr hE
        refine tr_141_76 ⟨fun z => absurd z (by decide), fun _ => ⟨⟨by omega, by omega⟩, ⟨by omega, by omega⟩, ?_⟩⟩
        rw [Int.toNat_natCast, h9]
        have ea : ((a : Int) + 1) = ((a + 1 : Nat) : Int) := by omega
        have eb : ((b : Int) + ((E v).length : Int)) = ((b + (E v).length : Nat) : Int) := by omega
        rw [ea, eb]
        refine ⟨⟨by omega, by omega⟩, sp_141 hon q d (a + 1) (b + (E v).length) E M _ hq' (by omega) (by omega) hm ht (he.mono (by omega)) (by omega) h0 hc0 hcb ?_ ?_⟩
        · intro M2 E' r' w hh he2 g2
          exact tr_141_98 ⟨fun z => absurd z (by decide), fun _ => hy M2 E' r' w hh he2 g2⟩
        · intro M2 hnil hc2 he2 g2
          exact tr_141_98 ⟨fun _ => hn M2 hnil hc2 he2 g2, fun z => absurd rfl z⟩
      · rw [if_neg hp] at hL ⊢
        rw [hL] at hn
        exact tr_141_76 ⟨fun _ => hn M (fun _ => rfl) (by simp) (fun u hu => ⟨(he u hu).1, fun _ => rfl⟩) px_gf.rf, fun z => absurd rfl z⟩
def occF (en : Bool) (p t : List Nat) (s : Nat) : List ((Nat → List Nat) × List Nat) := mtF en p e0 (t.drop s)
/-- first -/
theorem sp_143 {d : Nat} {M : Nat → Nat → Int} {Qr : Option pm_V → pm_Me → Prop} {p t : List Nat} {en : Bool} (hd : p.length + 4 ≤ d) (hm : px_sk M p) (ht : px_tx M t)
    (hy : ∀ M' s E' r', (∀ s', s' < s → occF en p t s' = []) → s < t.length → (occF en p t s).head? = some (E', r') → pm_en M' 105 t E' t.length → px_gf M M' → Qr (some (.inl (s : Int))) (pm_m n kd M'))
    (hn : ∀ M', (∀ s, s < t.length → occF en p t s = []) → px_gf M M' → Qr (some (.inl (-1))) (pm_m n kd M')) : pm_run d 143 [.inr (.inl (9, 97)), .inl (if en = true then (t.length : Int) else -1)] (pm_m n kd M) Qr Qx := by
  obtain ⟨d, rfl⟩ := pm_ex1 (show 1 ≤ d by omega)
  have h24 := ht.2.1
  refine tr_143 (pm_lp (N := t.length) (G := fun i M1 => pm_wq d 143 Qr Qx (7, [some (.inr (.inl (9, 97))), some (.inl (if en = true then (t.length : Int) else -1)), some (.inl (i : Int)), none], [], pm_m n kd M1, 0, 0)) (I := fun i M1 => (∀ s', s' < i → occF en p t s' = []) ∧ M1 97 29 = 0 ∧ px_gf M M1) ?_ ?_ 0 _ (Nat.zero_le _) ⟨fun s' h => absurd h (Nat.not_lt_zero s'), pm_up_eq, px_gf.rf.up (by omega)⟩)
  · intro M1 ⟨hbe, h29, g⟩
    have ht1 := (ht.gf g).1
    exact tr_143_7 ⟨fun _ => hn M1 hbe g, fun z => by omega⟩
  · intro i M1 hi ⟨hbe, h29, g⟩ ih
    have ht1 := (ht.gf g).1
    refine tr_143_7 ⟨fun z => by omega, fun _ => ?_⟩
    refine pm_lp (N := 5) (G := fun j M2 => pm_wq d 143 Qr Qx (17, [some (.inr (.inl (9, 97))), some (.inl (if en = true then (t.length : Int) else -1)), some (.inl (i : Int)), some (.inl (j : Int))], [], pm_m n kd M2, 0, 0)) (I := fun j M2 => (∀ v, v < j → M2 114 v = 0) ∧ M2 97 29 = 0 ∧ px_gf M M2) ?_ ?_ 0 M1 (Nat.zero_le _) ⟨fun v h => absurd h (Nat.not_lt_zero v), h29, g⟩
    · intro M2 ⟨h0, h29', g2⟩
      refine tr_143_17 ⟨fun _ => ?_, fun z => by omega⟩
      have hlen := @mtF_len en p e0 (t.drop i) hm.2.2.1 (by rw [List.length_drop]; omega)
      refine sp_141 (p := p) (t := t) (en := en) (on := 1) (Or.inr rfl) p d 0 i e0 M2 _ rfl (Nat.zero_le _) (by omega) (hm.gf g2) (ht.gf g2) (fun v hv => ⟨h0 v hv, fun z => absurd rfl z⟩) (by omega) (fun _ => h29') (by rw [h29']; exact Int.le_refl _) (by rw [h29']; omega) ?_ ?_
      · intro M3 E' r' _ hh he g3
        exact tr_143_43 ⟨fun z => absurd z (by decide), fun _ => hy M3 i E' r' hbe hi hh he (g2.tr g3)⟩
      · intro M3 hnil hc3 he g3
        refine tr_143_43 ⟨fun _ => ⟨⟨by omega, by omega⟩, ih M3 ⟨fun s' hs => ?_, ?_, g2.tr g3⟩⟩, fun z => absurd rfl z⟩
        · by_cases e : s' = i
          · rw [e]; exact hnil rfl
          · exact hbe s' (by omega)
        · rw [hc3, hnil rfl, h29']; rfl
    · intro j M2 hj ⟨h0, h29', g2⟩ ih2
      refine tr_143_17 ⟨fun z => by omega, fun _ => ⟨⟨by omega, by omega⟩, ⟨by omega, by omega⟩, ih2 _ ⟨fun v hv => ?_, (pm_up_ne (Or.inl (by decide))).trans h29', g2.up (by omega)⟩⟩⟩
      rw [Int.toNat_natCast]
      by_cases e : v = j
      · subst e; exact pm_up_eq
      · rw [pm_up_ne (Or.inr e)]; exact h0 v (by omega)
end RFO

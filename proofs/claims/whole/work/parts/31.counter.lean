/-! The matcher counts -/
theorem sgl_split {p : List Nat} : ∀ q : List Nat, (∀ x ∈ q.take (sgl p q), p.count x = 1) ∧ (sgl p q < q.length → p.count (q.getD (sgl p q) 0) ≠ 1)
  | [] => ⟨fun x hx => (by cases hx), fun h => absurd h (by simp)⟩
  | v :: q => by
    rw [sgl]
    split
    · next h =>
      obtain ⟨a, b⟩ := sgl_split (p := p) q
      refine ⟨fun x hx => ?_, fun hl => ?_⟩
      · rw [List.take_succ_cons] at hx
        rcases List.mem_cons.mp hx with e | e
        · rw [e]; exact h
        · exact a x e
      · rw [List.length_cons] at hl
        exact b (by omega)
    · next h => exact ⟨fun x hx => (by cases hx), fun _ => h⟩
section CNT
variable {n : Nat} {kd : Nat → Nat} {Qx : Nat → pm_Me → Prop}
/-- choose -/
theorem sp_13 {d m τ : Nat} {M : Nat → Nat → Int} {Qr : Option pm_V → pm_Me → Prop} (hd : 1 ≤ d) (hm : m + τ ≤ 25) (h : Qr (some (.inl (ch (m + τ) τ : Int))) (pm_m n kd M)) : pm_run d 13 [.inl ((m + τ : Nat) : Int), .inl (τ : Int)] (pm_m n kd M) Qr Qx := by
  obtain ⟨d, rfl⟩ := pm_ex1 hd
  have e0 : ((ch (m + 0) 0 : Nat) : Int) = 1 := by rw [ch_0]; rfl
  have key := (pm_lp (α := Unit) (N := τ) (G := fun i _ => pm_wq d 13 Qr Qx (4, [some (.inl ((m + τ : Nat) : Int)), some (.inl (τ : Int)), some (.inl (ch (m + i) i : Int)), some (.inl ((i : Int) + 1))], [], pm_m n kd M, 0, 0)) (I := fun _ _ => True) (fun _ _ => tr_13_4 ⟨fun _ => h, fun z => by omega⟩) (fun i _ hi _ ih => ?_) 0 () (Nat.zero_le _) trivial)
  · rw [e0] at key
    exact tr_13 key
  · have hi : i < τ := hi
    have hc := ch_le (m + i) i
    have hc2 : 2 ^ (m + i) ≤ 2 ^ 24 := Nat.pow_le_pow_right (by decide) (by omega)
    have e1 : (((m + τ : Nat) : Int) - (τ : Int)) + ((i : Int) + 1) = ((m + i + 1 : Nat) : Int) := by omega
    have e2 := ch_abs (m + i) i
    have e3 : (ch (m + i) i : Int) * ((m + i + 1 : Nat) : Int) = ((i : Int) + 1) * (ch (m + (i + 1)) (i + 1) : Int) := by
      have : ((i + 1 : Nat) : Int) * ((ch (m + i + 1) (i + 1) : Nat) : Int) = ((m + i + 1 : Nat) : Int) * ((ch (m + i) i : Nat) : Int) := by
        rw [← Int.natCast_mul, ← Int.natCast_mul, e2]
      rw [Int.mul_comm, ← this]
      rfl
    have hb : ch (m + i) i * (m + i + 1) ≤ 16777216 * 25 := Nat.mul_le_mul (Nat.le_trans hc hc2) (by omega)
    have hb2 : (ch (m + i) i : Int) * ((m + i + 1 : Nat) : Int) ≤ 419430400 := by
      rw [← Int.natCast_mul]; omega
    have hb3 : 0 ≤ (ch (m + i) i : Int) * ((m + i + 1 : Nat) : Int) := Int.mul_nonneg (by omega) (by omega)
    refine tr_13_4 ⟨fun z => by omega, fun _ => ⟨⟨by omega, by omega⟩, ?_⟩⟩
    rw [e1]
    refine ⟨⟨by omega, by omega⟩, ⟨by omega, by omega⟩, ⟨by omega, by omega⟩, ⟨by omega, by omega⟩, ?_⟩
    rw [e3, Int.mul_ediv_cancel_left _ (by omega)]
    exact ih () trivial
theorem cntV {x : Nat} {l r : List Nat} (h : (l ++ r).count x = 1) (hx : x ∈ l) : x ∉ r := by
  intro hr
  rw [List.count_append] at h
  have := List.count_pos_iff.mpr hx
  have := List.count_pos_iff.mpr hr
  omega
theorem nodup_of {p : List Nat} : ∀ {l : List Nat}, (∀ x ∈ l, l.count x ≤ 1) → l.Nodup
  | [], _ => List.nodup_nil
  | a :: l, h => by
    rw [List.nodup_cons]
    constructor
    · intro hm
      have := h a List.mem_cons_self
      rw [List.count_cons_self] at this
      have := List.count_pos_iff.mpr hm
      omega
    · refine nodup_of (p := p) (fun x hx => ?_)
      have := h x (List.mem_cons_of_mem _ hx)
      exact Nat.le_trans List.count_le_count_cons this
set_option maxHeartbeats 1000000 in
/-- countFrom, with countRun -/
theorem sp_11 {k : Nat} {p t : List Nat} : ∀ (N : Nat) (q : List Nat) (d a b sl : Nat) (E : Nat → List Nat) (M : Nat → Nat → Int) (Qr : Option pm_V → pm_Me → Prop), q.length ≤ N → p.drop a = q → a ≤ p.length → 2 * N + 4 ≤ d → pm_mp M k p → pm_row M (k + 3) t → pm_en M k t E b → b ≤ t.length → (∀ v, v ∈ p.take a → E v = [] → p.count v = 1) → (∀ v, v ∉ p.take a → E v = []) → (∀ v, p.count v = 1 → E v = []) → b + nd E q + sl = t.length →
    (∀ M', pm_rs M M' k E → pm_fr (k + 8) (k + 10) M M' → Qr (some (.inl ((mtL l24 q E (t.drop b)).length : Int))) (pm_m n kd M')) →
    pm_run d 11 [.inr (.inl (1, k)), .inl (a : Int), .inl (b : Int), .inl (sl : Int)] (pm_m n kd M) Qr Qx := by
  intro N
  induction N with
  | zero =>
    intro q d a b sl E M Qr hN hq ha hd hm ht he hb hf hg hg1 hs h
    obtain ⟨d, rfl⟩ := pm_ex1 (show 1 ≤ d by omega)
    have hq0 : q = [] := List.length_eq_zero_iff.mp (by omega)
    subst hq0
    have hps := hm.1.size
    have : p.length ≤ a := by
      have := congrArg List.length hq
      rw [List.length_drop, List.length_nil] at this
      omega
    exact tr_11 (by omega) ⟨fun z => by omega, fun _ => h M (fun u hu => ⟨(he u hu).1, fun _ => rfl⟩) pm_fr.rf⟩
  | succ N ihN =>
    intro q d a b sl E M Qr hN hq ha hd hm ht he hb hf hg hg1 hs h
    obtain ⟨d, rfl⟩ := pm_ex1 (show 1 ≤ d by omega)
    have hps := hm.1.size
    have hts := ht.size
    have hrl : (t.drop b).length = t.length - b := List.length_drop
    have hpl : p.take a ++ q = p := by rw [← hq, List.take_append_drop]
    cases q with
    | nil =>
      have : p.length ≤ a := by
        have := congrArg List.length hq
        rw [List.length_drop, List.length_nil] at this
        omega
      exact tr_11 (by omega) ⟨fun z => by omega, fun _ => h M (fun u hu => ⟨(he u hu).1, fun _ => rfl⟩) pm_fr.rf⟩
    | cons v q =>
      rw [List.length_cons] at hN
      have halt : a < p.length := by
        have := congrArg List.length hq
        rw [List.length_drop, List.length_cons] at this
        omega
      have hv : p.getD a 0 = v := by
        have := dr_cons halt
        rw [hq] at this
        exact (List.cons.inj this).1.symm
      have hq' : p.drop (a + 1) = q := by
        have := dr_cons halt
        rw [hq] at this
        exact (List.cons.inj this).2.symm
      have hql : q.length = p.length - (a + 1) := by rw [← hq', List.length_drop]
      have hv5 : v < 5 := hm.2.1 v (by rw [← hv]; exact gd_mem halt)
      have hq5 : ∀ u ∈ q, u < 5 := fun u hu => hm.2.1 u (by rw [← hpl]; exact List.mem_append_right _ (List.mem_cons_of_mem _ hu))
      have hev := he v hv5
      have h9 := hev.1
      have h6 := hm.2.2.2.2 a halt
      rw [hq] at h6
      have hbnd := @cnt_le5 (v :: q) E (t.drop b) (fun u hu => by rcases List.mem_cons.mp hu with e | e; rw [e]; exact hv5; exact hq5 u e) (by rw [hrl]; omega)
      refine tr_11 (by omega) ⟨fun _ => ⟨⟨by omega, by omega⟩, ?_⟩, fun z => by omega⟩
      rw [Int.toNat_natCast, h6]
      refine ⟨fun z => ?_, fun z => ?_⟩
      · -- not one that stands once
        have hc1 : p.count v ≠ 1 := by
          intro w
          rw [sgl, if_pos w] at z
          omega
        rw [hm.1.at halt, hv, Int.toNat_natCast, h9]
        refine ⟨⟨by omega, by omega, by omega, by omega, by omega⟩, ⟨by omega, by omega⟩, fun z2 => ⟨⟨by omega, by omega⟩, ?_⟩, fun z2 => ?_⟩
        · have hE : E v = [] := List.length_eq_zero_iff.mp (by omega)
          have hvn : v ∉ p.take a := fun w => hc1 (hf v w hE)
          have hL : (mtL l24 (v :: q) E (t.drop b)).length = sm (fun m => (mtL l24 q (ud E v ((t.drop b).take m)) ((t.drop b).drop m)).length) 1 (t.length - b) := by
            rw [mtL, if_pos hE, fm_len, hrl, show min (l24 v) (t.length - b) = t.length - b from Nat.min_eq_right (show t.length - b ≤ 24 by omega)]
          have hnd : nd E (v :: q) = 1 + nd E q := by rw [nd, hE]; rfl
          have htm : M (k + 5) v = ((q.count v + 1 : Nat) : Int) := by
            rw [hm.2.2.1 v hv5]
            have e2 : p.count v = q.count v + 1 := by
              conv => lhs; rw [← hpl]
              rw [List.count_append, List.count_eq_zero_of_not_mem hvn, List.count_cons_self]; omega
            rw [e2]
          rw [hnd] at hs
          have hcnt : q.count v ≤ 24 := by
            have : q.count v ≤ q.length := List.count_le_length
            omega
          rw [hL] at h hbnd
          have hleft : ∀ j : Nat, 1 ≤ j → j ≤ t.length - b → ((t.length - b : Nat) : Int) - (j : Int) - (nd (ud E v ((t.drop b).take j)) q : Int) = (sl : Int) - ((j : Int) - 1) * ((q.count v + 1 : Nat) : Int) := by
            intro j hj1 hj2
            have hlt : ((t.drop b).take j).length = j := by rw [List.length_take, hrl]; omega
            rw [nd_ud hE (by omega), hlt]
            have : ((q.count v * (j - 1) : Nat) : Int) = ((j : Int) - 1) * (q.count v : Int) := by
              rw [Int.natCast_mul, Int.mul_comm]
              congr 1
              omega
            rw [Int.natCast_add, this, Int.natCast_add, Int.mul_add]
            simp only [Int.natCast_one, Int.mul_one]
            omega
          have loop : ∀ (c i : Nat) (lf : Int) (M1 : Nat → Nat → Int) (x : Nat), c + i = 25 → 1 ≤ i → i ≤ t.length - b + 1 → lf + ((i : Int) - 1) * ((q.count v + 1 : Nat) : Int) = (sl : Int) → pm_mp M1 k p → pm_row M1 (k + 3) t → (∀ u, u < 5 → u ≠ v → M1 (k + 9) u = ((E u).length : Int) ∧ (E u ≠ [] → M1 (k + 8) u = M (k + 8) u)) → M1 (k + 8) v = (b : Int) → M1 (k + 5) v = ((q.count v + 1 : Nat) : Int) → pm_fr (k + 8) (k + 10) M M1 →
              x = sm (fun m => (mtL l24 q (ud E v ((t.drop b).take m)) ((t.drop b).drop m)).length) 1 (i - 1) →
              pm_wq d 11 Qr Qx (96, [some (.inr (.inl (1, k))), some (.inl (a : Int)), some (.inl (b : Int)), none, some (.inl (v : Int)), some (.inl (x : Int)), some (.inl lf), some (.inl (i : Int))], [], pm_m n kd M1, 0, 0) := by
            intro c
            induction c with
            | zero =>
              intro i lf M1 x hci hi hib hlf hm1 ht1 he1 hst htm1 ho hx
              refine tr_11_96 (by omega) ⟨fun _ => ⟨⟨by omega, by omega⟩, ?_⟩, fun z => by omega⟩
              rw [Int.toNat_natCast]
              have e : i - 1 = t.length - b := by omega
              rw [e] at hx
              rw [hx]
              refine h _ (fun u hu => ?_) (ho.up (by omega) (by omega))
              by_cases e : u = v
              · subst e; rw [hE]; exact ⟨pm_up_eq, fun z => absurd rfl z⟩
              · exact ⟨(pm_up_ne (Or.inr e)).trans (he1 u hu e).1, fun hx => (pm_up_ne (Or.inr e)).trans ((he1 u hu e).2 hx)⟩
            | succ c ih =>
              intro i lf M1 x hci hi hib hlf hm1 ht1 he1 hst htm1 ho hx
              refine tr_11_96 (by omega) ⟨fun z => by omega, fun _ => ⟨fun z => ⟨⟨by omega, by omega⟩, ?_⟩, fun z => ?_⟩⟩
              · rw [Int.toNat_natCast]
                have e : sm (fun m => (mtL l24 q (ud E v ((t.drop b).take m)) ((t.drop b).drop m)).length) 1 (t.length - b) = x := by
                  rw [hx, show t.length - b = (i - 1) + (t.length - b - (i - 1)) by omega, sm_app, sm_zero (i := 1 + (i - 1)), Nat.add_zero]
                  · intro j hj1 hj2
                    apply Classical.byContradiction
                    intro hne
                    have hne2 : mtL l24 q (ud E v ((t.drop b).take j)) ((t.drop b).drop j) ≠ [] := fun w => hne (by show (mtL l24 q (ud E v ((t.drop b).take j)) ((t.drop b).drop j)).length = 0; rw [w]; rfl)
                    have h4 := mtL_need hne2
                    rw [List.length_drop, hrl] at h4
                    have h5 := hleft j (by omega) (by omega)
                    have h6 : ((i : Int) - 1) * ((q.count v + 1 : Nat) : Int) ≤ ((j : Int) - 1) * ((q.count v + 1 : Nat) : Int) := Int.mul_le_mul_of_nonneg_right (by omega) (by omega)
                    omega
                rw [e] at h
                refine h _ (fun u hu => ?_) (ho.up (by omega) (by omega))
                by_cases e : u = v
                · subst e; rw [hE]; exact ⟨pm_up_eq, fun z => absurd rfl z⟩
                · exact ⟨(pm_up_ne (Or.inr e)).trans (he1 u hu e).1, fun hx => (pm_up_ne (Or.inr e)).trans ((he1 u hu e).2 hx)⟩
              · have h6 : 0 ≤ ((i : Int) - 1) * (q.count v : Int) := Int.mul_nonneg (by omega) (by omega)
                have h7 : ((i : Int) - 1) * ((q.count v + 1 : Nat) : Int) = ((i : Int) - 1) * (q.count v : Int) + ((i : Int) - 1) := by
                  rw [Int.natCast_add, Int.mul_add]; simp
                have hib2 : i ≤ t.length - b := by omega
                have h5 := hleft i hi hib2
                have hlt : ((t.drop b).take i).length = i := by rw [List.length_take, hrl]; omega
                refine ⟨⟨by omega, by omega⟩, ⟨by omega, by omega⟩, ⟨by omega, by omega⟩, ?_⟩
                rw [Int.toNat_natCast]
                have ea : ((a : Int) + 1) = ((a + 1 : Nat) : Int) := by omega
                have eb : ((b : Int) + (i : Int)) = ((b + i : Nat) : Int) := by omega
                obtain ⟨lf', hlf'⟩ : ∃ lf' : Nat, lf = (lf' : Int) := ⟨lf.toNat, by omega⟩
                subst hlf'
                rw [ea, eb]
                have hdd : (t.drop b).drop i = t.drop (b + i) := by rw [List.drop_drop]
                have ho2 : pm_fr (k + 8) (k + 10) M1 (pm_up M1 (k + 9) v (i : Int)) := pm_fr.rf.up (by omega) (by omega)
                have hxne : (t.drop b).take i ≠ [] := fun z => by rw [z, List.length_nil] at hlt; omega
                refine ihN q d (a + 1) (b + i) lf' (ud E v ((t.drop b).take i)) _ _ (by omega) hq' (by omega) (by omega) (hm1.fr ho2 (by omega)) (ht1.fr ho2 (by omega)) ?_ (by omega) ?_ ?_ ?_ ?_ ?_
                · intro u hu
                  by_cases e : u = v
                  · subst e
                    rw [ud_eq]
                    refine ⟨by rw [pm_up_eq, hlt], fun _ => ⟨b, ?_, ?_, ?_⟩⟩
                    · rw [pm_up_ne (Or.inl (by omega))]; exact hst
                    · rw [hlt]; omega
                    · rw [hlt]
                  · rw [ud_ne e]
                    refine ⟨(pm_up_ne (Or.inr e)).trans (he1 u hu e).1, fun hx => ?_⟩
                    obtain ⟨st, a1, a2, a3⟩ := (he u hu).2 hx
                    exact ⟨st, (pm_up_ne (Or.inr e)).trans (((he1 u hu e).2 hx).trans a1), by omega, a3⟩
                · intro u hu hu2
                  by_cases e : u = v
                  · subst e
                    rw [ud_eq] at hu2
                    exact absurd hu2 hxne
                  · rw [ud_ne e] at hu2
                    rw [tk_succ halt, List.mem_append, hv] at hu
                    rcases hu with hu | hu
                    · exact hf u hu hu2
                    · exact absurd (List.mem_singleton.mp hu) e
                · intro u hu
                  rw [tk_succ halt, List.mem_append, hv] at hu
                  have e : u ≠ v := fun w => hu (Or.inr (by rw [w]; exact List.mem_cons_self))
                  rw [ud_ne e]
                  exact hg u (fun w => hu (Or.inl w))
                · intro u hu
                  have e : u ≠ v := fun w => hc1 (by rw [← w]; exact hu)
                  rw [ud_ne e]
                  exact hg1 u hu
                · omega
                · intro M2 he2 ho3
                  have htm2 : M2 (k + 5) v = ((q.count v + 1 : Nat) : Int) := by
                    rw [ho3.at (by omega), pm_up_ne (Or.inl (by omega))]; exact htm1
                  have e9 := (he2 v hv5)
                  rw [ud_eq] at e9
                  have hxs : x + (mtL l24 q (ud E v ((t.drop b).take i)) (t.drop (b + i))).length = sm (fun m => (mtL l24 q (ud E v ((t.drop b).take m)) ((t.drop b).drop m)).length) 1 (i + 1 - 1) := by
                    rw [show i + 1 - 1 = (i - 1) + 1 by omega, sm_snoc, ← hx, show 1 + (i - 1) = i by omega, hdd]
                  have hle : x + (mtL l24 q (ud E v ((t.drop b).take i)) (t.drop (b + i))).length ≤ 7962624 := by
                    rw [hxs]
                    refine Nat.le_trans ?_ hbnd
                    rw [show t.length - b = (i + 1 - 1) + (t.length - b - (i + 1 - 1)) by omega, sm_app]
                    exact Nat.le_add_right _ _
                  refine tr_11_132 (by omega) ⟨⟨by omega, by omega⟩, ⟨by omega, by omega⟩, ?_⟩
                  rw [Int.toNat_natCast, htm2, ← Int.natCast_add]
                  refine ⟨⟨by omega, by omega⟩, ⟨by omega, by omega⟩, ih (i + 1) _ M2 _ (by omega) (by omega) (by omega) ?_ ((hm1.fr ho2 (by omega)).fr ho3 (by omega)) ((ht1.fr ho2 (by omega)).fr ho3 (by omega)) ?_ ?_ htm2 (ho.tr (ho2.tr ho3)) hxs⟩
                  · have : ((i + 1 : Nat) : Int) - 1 = ((i : Int) - 1) + 1 := by omega
                    rw [this, Int.add_mul]
                    omega
                  · intro u hu e
                    have h8 := he2 u hu
                    rw [ud_ne e] at h8
                    exact ⟨h8.1, fun hx => (h8.2 hx).trans ((pm_up_ne (Or.inr e)).trans ((he1 u hu e).2 hx))⟩
                  · rw [e9.2 hxne, pm_up_ne (Or.inl (by omega))]; exact hst
          have ho0 : pm_fr (k + 8) (k + 10) M (pm_up M (k + 8) v (b : Int)) := pm_fr.rf.up (by omega) (by omega)
          exact loop 24 1 (sl : Int) _ 0 (by omega) (Nat.le_refl _) (by omega) (by simp) (hm.fr ho0 (by omega)) (ht.fr ho0 (by omega)) (fun u hu e => ⟨(pm_up_ne (Or.inl (by omega))).trans (he u hu).1, fun _ => pm_up_ne (Or.inr e)⟩) pm_up_eq (by rw [pm_up_ne (Or.inl (by omega))]; exact htm) ho0 rfl
        · have hE : E v ≠ [] := fun z3 => z2 (by rw [z3]; simp)
          refine sp_14 (by omega) (hm.mt ht) hv5 hev hE hb ?_
          have hnd : nd E (v :: q) = (E v).length + nd E q := by
            rw [nd]
            have : 0 < (E v).length := List.length_pos_iff.mpr hE
            omega
          have hL : mtL l24 (v :: q) E (t.drop b) = if (E v).isPrefixOf (t.drop b) = true then mtL l24 q E ((t.drop b).drop (E v).length) else [] := by rw [mtL, if_neg hE]
          by_cases hp : (E v).isPrefixOf (t.drop b) = true
          · rw [if_pos hp] at hL ⊢
            rw [hL, List.drop_drop] at h
            have hl := (List.isPrefixOf_iff_prefix.mp hp).length_le
            rw [List.length_drop] at hl
            have hpos : 0 < (E v).length := List.length_pos_iff.mpr hE
            refine tr_11_54 (by omega) ⟨fun z => absurd z (by decide), fun _ => ⟨⟨by omega, by omega⟩, ⟨by omega, by omega⟩, ?_⟩⟩
            rw [Int.toNat_natCast, h9]
            have ea : ((a : Int) + 1) = ((a + 1 : Nat) : Int) := by omega
            have eb : ((b : Int) + ((E v).length : Int)) = ((b + (E v).length : Nat) : Int) := by omega
            rw [ea, eb]
            refine ⟨⟨by omega, by omega⟩, ihN q d (a + 1) (b + (E v).length) sl E M _ (by omega) hq' (by omega) (by omega) hm ht (he.mono (by omega)) (by omega) ?_ ?_ hg1 (by omega) ?_⟩
            · intro u hu hu2
              rw [tk_succ halt, List.mem_append, hv] at hu
              rcases hu with hu | hu
              · exact hf u hu hu2
              · rw [List.mem_singleton] at hu; rw [hu] at hu2; exact absurd hu2 hE
            · intro u hu
              exact hg u (fun w => hu (by rw [tk_succ halt]; exact List.mem_append_left _ w))
            · intro M2 he2 ho2
              exact tr_11_74 (by omega) (h M2 he2 ho2)
          · rw [if_neg hp] at hL ⊢
            rw [hL] at h
            exact tr_11_54 (by omega) ⟨fun _ => h M (fun u hu => ⟨(he u hu).1, fun _ => rfl⟩) pm_fr.rf, fun z => absurd rfl z⟩
      · -- a run of variables that stand once
        obtain ⟨d, rfl⟩ := pm_ex1 (show 1 ≤ d by omega)
        have hsl := @sgl_le p (v :: q)
        obtain ⟨hs1, hs2⟩ := @sgl_split p (v :: q)
        generalize hρ : sgl p (v :: q) = ρ at h6 z hsl hs1 hs2 ⊢
        rw [List.length_cons] at hsl hs2
        have hpos : 0 < ρ := by omega
        have hqs : (v :: q).take ρ ++ (v :: q).drop ρ = v :: q := List.take_append_drop _ _
        have hrunl : ((v :: q).take ρ).length = ρ := tk_len (by rw [List.length_cons]; exact hsl)
        have hrunE : ∀ x ∈ (v :: q).take ρ, E x = [] := fun x hx => hg1 x (hs1 x hx)
        have hrun2 : ∀ x ∈ (v :: q).take ρ, x ∉ (v :: q).drop ρ := fun x hx => by
          have hc := hs1 x hx
          rw [← hpl, ← hqs, ← List.append_assoc] at hc
          exact cntV hc (List.mem_append_right _ hx)
        have hnod : ((v :: q).take ρ).Nodup := nodup_of (p := p) (fun x hx => by
          have hc := hs1 x hx
          rw [← hpl, ← hqs, List.count_append, List.count_append] at hc
          omega)
        have hdr : p.drop (a + ρ) = (v :: q).drop ρ := by rw [← hq, List.drop_drop]
        have hnd1 : ∀ l : List Nat, (∀ x ∈ l, E x = []) → nd E l = l.length := by
          intro l
          induction l with
          | nil => intro _; rfl
          | cons x l ih =>
            intro hl
            rw [nd, hl x List.mem_cons_self, ih (fun y hy => hl y (List.mem_cons_of_mem _ hy)), List.length_cons]
            show max 1 0 + _ = _
            omega
        have hndapp : ∀ l l2 : List Nat, nd E (l ++ l2) = nd E l + nd E l2 := by
          intro l l2
          induction l with
          | nil => rw [List.nil_append, nd, Nat.zero_add]
          | cons x l ih => rw [List.cons_append, nd, nd, ih]; omega
        have hnds : nd E (v :: q) = ρ + nd E ((v :: q).drop ρ) := by
          conv => lhs; rw [← hqs]
          rw [hndapp, hnd1 _ hrunE, hrunl]
        rw [hnds] at hs
        refine tr_12 ?_
        rw [Int.toNat_natCast, h6]
        refine ⟨⟨by omega, by omega⟩, ⟨by omega, by omega⟩, fun z3 => ?_, fun z3 => ⟨⟨by omega, by omega⟩, ?_⟩⟩
        · -- something stands behind the run
          have hcnt := cnt_run (q2 := (v :: q).drop ρ) (E := E) (t.drop b) ((v :: q).take ρ) (fun x hx => ⟨hrunE x hx, hrun2 x hx⟩) hnod (by rw [hrl]; omega)
          rw [hqs, hrunl, hrl] at hcnt
          have hd2 : ∀ j, (t.drop b).drop (ρ + j) = t.drop (b + ρ + j) := fun j => by rw [List.drop_drop, Nat.add_assoc]
          have hcut : (mtL l24 (v :: q) E (t.drop b)).length = sm (fun j => Wt ρ j * (mtL l24 ((v :: q).drop ρ) E (t.drop (b + ρ + j))).length) 0 (sl + 1) := by
            have hndp : 0 < nd E ((v :: q).drop ρ) ∨ t.length - b + 1 - ρ = sl + 1 := by
              by_cases h0 : nd E ((v :: q).drop ρ) = 0
              · right; omega
              · left; omega
            rw [hcnt, show t.length - b + 1 - ρ = (sl + 1) + (t.length - b + 1 - ρ - (sl + 1)) by omega, sm_app, sm_zero (i := 0 + (sl + 1))]
            · rw [Nat.add_zero]
              exact sm_congr (fun j _ _ => by rw [hd2])
            · intro j h1 h2
              have : mtL l24 ((v :: q).drop ρ) E ((t.drop b).drop (ρ + j)) = [] := by
                apply Classical.byContradiction
                intro hne
                have h4 := mtL_need hne
                rw [List.length_drop, hrl] at h4
                omega
              rw [this, List.length_nil, Nat.mul_zero]
          rw [hcut] at h hbnd
          have loop : ∀ (c i : Nat) (M1 : Nat → Nat → Int) (x : Nat), c + i = sl + 1 → pm_rs M M1 k E → pm_fr (k + 8) (k + 10) M M1 → x = sm (fun j => Wt ρ j * (mtL l24 ((v :: q).drop ρ) E (t.drop (b + ρ + j))).length) 0 i →
              pm_wq d 12 (fun rv m' => pm_wq (d + 1) 11 Qr Qx (29, [some (.inr (.inl (1, k))), some (.inl (a : Int)), some (.inl (b : Int)), some (.inl (sl : Int)), none, none, none, none], pm_lst rv ++ [], m', 0, 0)) Qx (38, [some (.inr (.inl (1, k))), some (.inl (a : Int)), some (.inl (b : Int)), some (.inl (sl : Int)), some (.inl (ρ : Int)), some (.inl (x : Int)), some (.inl (i : Int)), none], [], pm_m n kd M1, 0, 0) := by
            intro c
            induction c with
            | zero =>
              intro i M1 x hc hrs ho hx
              refine tr_12_38 ⟨fun _ => ?_, fun z => by omega⟩
              rw [show i = sl + 1 by omega] at hx
              rw [hx]
              exact tr_11_29 (by omega) (h M1 hrs ho)
            | succ c ih =>
              intro i M1 x hc hrs ho hx
              refine tr_12_38 ⟨fun z => by omega, fun _ => ⟨⟨by omega, by omega⟩, ⟨by omega, by omega⟩, ⟨by omega, by omega⟩, ⟨by omega, by omega⟩, ?_⟩⟩
              have ea : ((a : Int) + (ρ : Int)) = ((a + ρ : Nat) : Int) := by omega
              have eb : (((b : Int) + (ρ : Int)) + (i : Int)) = ((b + ρ + i : Nat) : Int) := by omega
              have es : ((sl : Int) - (i : Int)) = ((sl - i : Nat) : Int) := by omega
              rw [ea, eb, es]
              have hxs : x + Wt ρ i * (mtL l24 ((v :: q).drop ρ) E (t.drop (b + ρ + i))).length = sm (fun j => Wt ρ j * (mtL l24 ((v :: q).drop ρ) E (t.drop (b + ρ + j))).length) 0 (i + 1) := by
                rw [sm_snoc, ← hx, Nat.zero_add]
              have hle : x + Wt ρ i * (mtL l24 ((v :: q).drop ρ) E (t.drop (b + ρ + i))).length ≤ 7962624 := by
                rw [hxs]
                refine Nat.le_trans ?_ hbnd
                rw [show sl + 1 = (i + 1) + (sl + 1 - (i + 1)) by omega, sm_app (c := i + 1) (e := sl + 1 - (i + 1))]
                exact Nat.le_add_right _ _
              refine ihN ((v :: q).drop ρ) d (a + ρ) (b + ρ + i) (sl - i) E M1 _ (by rw [List.length_drop, List.length_cons]; omega) hdr (by omega) (by omega) (hm.fr ho (by omega)) (ht.fr ho (by omega)) ((hrs.en he).mono (by omega)) (by omega) ?_ ?_ hg1 (by omega) ?_
              · intro u hu hu2
                rw [List.take_add, List.mem_append, hq] at hu
                rcases hu with hu | hu
                · exact hf u hu hu2
                · exact hs1 u hu
              · intro u hu
                rw [List.take_add, List.mem_append] at hu
                exact hg u (fun w => hu (Or.inl w))
              · intro M2 he2 ho2
                have hrs2 : pm_rs M M2 k E := fun u hu => ⟨(he2 u hu).1, fun hx => ((he2 u hu).2 hx).trans ((hrs u hu).2 hx)⟩
                refine tr_12_63 ⟨fun z4 => ?_, fun z4 => ?_⟩
                · have ec : (((ρ : Int) - 1) + (i : Int)) = ((i + (ρ - 1) : Nat) : Int) := by omega
                  have ed : ((ρ : Int) - 1) = ((ρ - 1 : Nat) : Int) := by omega
                  refine ⟨⟨by omega, by omega⟩, ⟨by omega, by omega⟩, ⟨by omega, by omega⟩, ?_⟩
                  rw [ec, ed]
                  refine sp_13 (by omega) (by omega) ?_
                  have ew : ch (i + (ρ - 1)) (ρ - 1) = Wt ρ i := by
                    have := Wt_ch (ρ - 1) i
                    rw [show ρ - 1 + 1 = ρ by omega] at this
                    rw [this, Nat.add_comm]
                  rw [ew]
                  have em : ((mtL l24 ((v :: q).drop ρ) E (t.drop (b + ρ + i))).length : Int) * (Wt ρ i : Int) = ((Wt ρ i * (mtL l24 ((v :: q).drop ρ) E (t.drop (b + ρ + i))).length : Nat) : Int) := by
                    rw [Int.natCast_mul, Int.mul_comm]
                  refine tr_12_92 ?_
                  rw [em, ← Int.natCast_add]
                  exact ⟨⟨by omega, by omega⟩, ⟨by omega, by omega⟩, ⟨by omega, by omega⟩, ih (i + 1) M2 _ (by omega) hrs2 (ho.tr ho2) hxs⟩
                · have h0 : (mtL l24 ((v :: q).drop ρ) E (t.drop (b + ρ + i))).length = 0 := by omega
                  rw [h0, Nat.mul_zero, Nat.add_zero] at hxs
                  refine ⟨⟨by omega, by omega⟩, ⟨by omega, by omega⟩, ?_⟩
                  rw [Int.add_zero]
                  exact ih (i + 1) M2 x (by omega) hrs2 (ho.tr ho2) hxs
          exact loop (sl + 1) 0 M 0 (by omega) (fun u hu => ⟨(he u hu).1, fun _ => rfl⟩) pm_fr.rf rfl
        · -- nothing stands behind the run
          have hrn : (v :: q).take ρ = v :: q := List.take_of_length_le (by rw [List.length_cons]; omega)
          have hd0 : (v :: q).drop ρ = [] := List.drop_eq_nil_of_le (by rw [List.length_cons]; omega)
          rw [hrn] at hrunE hnod hrunl
          have hcnt := cnt_last (E := E) (t.drop b) (v :: q) hrunE hnod (by rw [hrl]; omega)
          rw [hrunl, hrl] at hcnt
          rw [hd0, nd] at hs
          rw [← Int.natCast_add]
          refine sp_13 (by omega) (by omega) ?_
          refine tr_12_31 (tr_11_29 (by omega) ?_)
          have := h M (fun u hu => ⟨(he u hu).1, fun _ => rfl⟩) pm_fr.rf
          rw [hcnt, show t.length - b = sl + ρ by omega] at this
          exact this
/-- how often a pattern stands in a text -/
def occN (p t : List Nat) : Nat := sm (fun s => (occ p t s).length) 0 t.length
theorem sp_8 {d k : Nat} {M : Nat → Nat → Int} {Qr : Option pm_V → pm_Me → Prop} {p t : List Nat} (hd : 2 * p.length + 6 ≤ d) (hm : pm_mp M k p) (ht : pm_row M (k + 3) t) (hp : p ≠ []) (h : ∀ M', pm_fr (k + 8) (k + 10) M M' → Qr (some (.inl (occN p t : Int))) (pm_m n kd M')) : pm_run d 8 [.inr (.inl (1, k))] (pm_m n kd M) Qr Qx := by
  obtain ⟨d, rfl⟩ := pm_ex1 (show 1 ≤ d by omega)
  have hpl : 0 < p.length := List.length_pos_iff.mpr hp
  refine tr_8 (sp_9 (by omega) (fun M1 hl ho => ?_))
  have ho' : pm_fr (k + 8) (k + 10) M M1 := ho.wd (by omega) (Nat.le_refl _)
  have hts := ht.size
  have hps := hm.1.size
  have h24 := ht.2.1
  refine tr_8_4 ?_
  have loop : ∀ (c i : Nat) (M2 : Nat → Nat → Int) (x : Nat), c + i = t.length + 1 → (∀ v, v < 5 → M2 (k + 9) v = 0) → pm_fr (k + 8) (k + 10) M M2 → x = sm (fun s => (occ p t s).length) 0 i →
      pm_wq d 8 Qr Qx (8, [some (.inr (.inl (1, k))), some (.inl (x : Int)), some (.inl (i : Int))], [], pm_m n kd M2, 0, 0) := by
    intro c
    induction c with
    | zero =>
      intro i M2 x hc h9 ho2 hx
      have hts2 := (ht.fr ho2 (by omega)).size
      have hps2 := (hm.fr ho2 (by omega)).1.size
      refine tr_8_8 ⟨⟨by omega, by omega⟩, fun _ => ?_, fun z => by omega⟩
      have e : x = occN p t := by
        rw [hx, show i = t.length + 1 by omega, sm_snoc, Nat.zero_add, occ_need (by omega) hp]
        rfl
      rw [e]
      exact h M2 ho2
    | succ c ih =>
      intro i M2 x hc h9 ho2 hx
      have hts2 := (ht.fr ho2 (by omega)).size
      have hps2 := (hm.fr ho2 (by omega)).1.size
      have hbx : x ≤ i * 7962624 := by
        rw [hx]
        exact sm_le (fun j _ _ => cnt_le5 hm.2.1 (by rw [List.length_drop]; omega))
      have hb1 : (occ p t i).length ≤ 7962624 := cnt_le5 hm.2.1 (by rw [List.length_drop]; omega)
      refine tr_8_8 ?_
      rw [hts2.1, hps2.1]
      refine ⟨⟨by omega, by omega⟩, fun z => ?_, fun z => ⟨⟨by omega, by omega⟩, ⟨by omega, by omega⟩, ?_⟩⟩
      · have e : x = occN p t := by
          rw [hx, occN]
          rw [show t.length = i + (t.length - i) by omega, sm_app, sm_zero (i := 0 + i)]
          · rfl
          · intro j h1 h2
            rw [occ_need (by omega) hp]
            rfl
        rw [e]
        exact h M2 ho2
      · have es : ((t.length : Int) - (i : Int)) - (p.length : Int) = ((t.length - i - p.length : Nat) : Int) := by omega
        rw [es]
        refine sp_11 p.length p d 0 i _ e0 M2 _ (Nat.le_refl _) rfl (Nat.zero_le _) (by omega) (hm.fr ho2 (by omega)) (ht.fr ho2 (by omega)) (fun v hv => ⟨h9 v hv, fun z => absurd rfl z⟩) (by omega) (fun v hv => by rw [List.take_zero] at hv; cases hv) (fun v _ => rfl) (fun v _ => rfl) (by rw [nd_e0]; omega) ?_
        intro M3 hrs ho3
        refine tr_8_51 ?_
        show pm_r ((x : Int) + ((occ p t i).length : Int)) ∧ _ ∧ _
        rw [← Int.natCast_add]
        refine ⟨⟨by omega, by omega⟩, ⟨by omega, by omega⟩, ih (i + 1) M3 _ (by omega) (fun v hv => (hrs v hv).1) (ho2.tr ho3) ?_⟩
        rw [sm_snoc, ← hx, Nat.zero_add]
        rfl
  exact loop (t.length + 1) 0 M1 0 (by omega) hl ho' rfl
end CNT

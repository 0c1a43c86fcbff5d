/-! THE MATCHER: its pattern, its text, its first occurrence -/
def sgl (p : List Nat) : List Nat → Nat
  | [] => 0
  | v :: q => if p.count v = 1 then sgl p q + 1 else 0
theorem sgl_le {p : List Nat} : ∀ q : List Nat, sgl p q ≤ q.length
  | [] => Nat.le_refl _
  | v :: q => by
    rw [sgl]
    split
    · exact Nat.succ_le_succ (sgl_le q)
    · exact Nat.zero_le _
def pm_mp (M : Nat → Nat → Int) (k : Nat) (p : List Nat) : Prop := pm_row M (k + 1) p ∧ (∀ v ∈ p, v < 5) ∧ (∀ v, v < 5 → M (k + 5) v = (p.count v : Int)) ∧ (∀ v, v < 5 → M (k + 7) v = (lm p v : Int)) ∧ ∀ j, j < p.length → M (k + 6) j = (sgl p (p.drop j) : Int)
theorem pm_mp.fr {M M' : Nat → Nat → Int} {k lo hi : Nat} {p : List Nat} (h : pm_mp M k p) (ho : pm_fr lo hi M M') (h1 : k + 8 ≤ lo ∨ hi ≤ k + 1 ∨ (k + 3 ≤ lo ∧ hi ≤ k + 5)) : pm_mp M' k p := by
  obtain ⟨a, b, c, e, f⟩ := h
  exact ⟨a.fr ho (by omega), b, fun v hv => by rw [ho.at (by omega)]; exact c v hv, fun v hv => by rw [ho.at (by omega)]; exact e v hv, fun v hv => by rw [ho.at (by omega)]; exact f v hv⟩
theorem lm_le {p : List Nat} {v : Nat} : lm p v ≤ 24 := by
  unfold lm
  split <;> omega
theorem pm_mp.mt {M : Nat → Nat → Int} {k : Nat} {p t : List Nat} (h : pm_mp M k p) (ht : pm_row M (k + 3) t) : pm_mt M k p t (lm p) := ⟨h.1, ht, h.2.1, h.2.2.1, fun v hv => ⟨h.2.2.2.1 v hv, lm_le⟩⟩
theorem fol_snoc {v x y : Nat} : ∀ xs : List Nat, fol v (xs ++ [x] ++ [y]) = fol v (xs ++ [x]) ++ (if x = v then [y] else [])
  | [] => by simp [fol]
  | [a] => by simp [fol]
  | a :: b :: q => by
    have := @fol_snoc v x y (b :: q)
    simp only [List.cons_append] at this ⊢
    rw [fol, fol, this, List.append_assoc]
def lmA (p : List Nat) (a v : Nat) : Nat := if (fol v (p.take (a + 1))).all (fun x => p.count x == 1) = true then 1 else 24
theorem lmA_step {p : List Nat} {a v : Nat} (h : a + 1 < p.length) : lmA p (a + 1) v = if p.count (p.getD (a + 1) 0) = 1 then lmA p a v else if v = p.getD a 0 then 24 else lmA p a v := by
  have e1 : p.take (a + 1 + 1) = p.take a ++ [p.getD a 0] ++ [p.getD (a + 1) 0] := by rw [tk_succ h, tk_succ (by omega)]
  have e2 : p.take (a + 1) = p.take a ++ [p.getD a 0] := tk_succ (by omega)
  unfold lmA
  rw [e1, fol_snoc, ← e2, List.all_append]
  by_cases hc : p.count (p.getD (a + 1) 0) = 1
  · rw [if_pos hc]
    have : ((if p.getD a 0 = v then [p.getD (a + 1) 0] else []).all fun x => p.count x == 1) = true := by
      split
      · rw [List.all_cons, List.all_nil, Bool.and_true, beq_iff_eq]; exact hc
      · rfl
    rw [this, Bool.and_true]
  · rw [if_neg hc]
    by_cases hv : v = p.getD a 0
    · rw [if_pos hv, if_pos hv.symm, List.all_cons, List.all_nil, Bool.and_true]
      rw [if_neg]
      intro z
      rw [Bool.and_eq_true, beq_iff_eq] at z
      exact hc z.2
    · have e3 : (if p.getD a 0 = v then [p.getD (a + 1) 0] else []) = [] := if_neg (fun z => hv z.symm)
      rw [if_neg hv, e3, List.all_nil, Bool.and_true]
section MTD
variable {d n : Nat} {kd : Nat → Nat} {M : Nat → Nat → Int} {Qr : Option pm_V → pm_Me → Prop} {Qx : Nat → pm_Me → Prop}
/-- limitLengths -/
theorem sp_4 {k : Nat} {p : List Nat} (hd : 3 ≤ d) (hp : pm_row M (k + 1) p) (h5 : ∀ v ∈ p, v < 5) (h6 : ∀ j, j < p.length → M (k + 6) j = (sgl p (p.drop j) : Int)) (h : ∀ M', (∀ v, v < 5 → M' (k + 7) v = (lm p v : Int)) → pm_fr (k + 7) (k + 8) M M' → Qr none (pm_m n kd M')) : pm_run d 4 [.inr (.inl (1, k))] (pm_m n kd M) Qr Qx := by
  obtain ⟨d, rfl⟩ := pm_ex1 (Nat.le_trans (by decide) hd)
  refine tr_4 (by omega) (pm_lp (N := 5) (G := fun i M1 => pm_wq d 4 Qr Qx (2, [some (.inr (.inl (1, k))), some (.inl (i : Int))], [], pm_m n kd M1, 0, 0)) (I := fun i M1 => (∀ v, v < i → M1 (k + 7) v = 1) ∧ pm_fr (k + 7) (k + 8) M M1) ?_ ?_ 0 M (Nat.zero_le _) ⟨fun v hv => absurd hv (Nat.not_lt_zero v), pm_fr.rf⟩)
  · intro M1 ⟨hr, ho⟩
    refine tr_4_2 (by omega) ⟨fun _ => ?_, fun z => by omega⟩
    have loop : ∀ (c a : Nat) (M2 : Nat → Nat → Int), c + a = p.length → (∀ v, v < 5 → M2 (k + 7) v = (lmA p a v : Int)) → pm_fr (k + 7) (k + 8) M M2 → pm_wq d 4 Qr Qx (22, [some (.inr (.inl (1, k))), some (.inl (a : Int))], [], pm_m n kd M2, 0, 0) := by
      intro c
      induction c with
      | zero =>
        intro a M2 hc hl ho2
        have hs := (hp.fr ho2 (by omega)).size
        refine tr_4_22 (by omega) ⟨⟨by omega, by omega⟩, fun _ => h M2 (fun v hv => ?_) ho2, fun z => by omega⟩
        rw [hl v hv, lmA, List.take_of_length_le (by omega)]
        rfl
      | succ c ih =>
        intro a M2 hc hl ho2
        have hp2 := hp.fr ho2 (by omega)
        have hs := hp2.size
        have e1 : ((a : Int) + 1).toNat = a + 1 := by omega
        refine tr_4_22 (by omega) ⟨⟨by omega, by omega⟩, fun z => h M2 (fun v hv => ?_) ho2, fun z => ⟨⟨by omega, by omega⟩, ⟨by omega, by omega⟩, ?_⟩⟩
        · rw [hl v hv, lmA, List.take_of_length_le (by omega)]
          rfl
        · have ha : a + 1 < p.length := by omega
          rw [e1, ho2.at (by omega), h6 (a + 1) ha, dr_cons ha, sgl]
          refine ⟨fun z2 => ⟨⟨by omega, by omega⟩, ?_⟩, fun z2 => ?_⟩
          · refine ih (a + 1) M2 (by omega) (fun v hv => ?_) ho2
            have hc1 : p.count (p.getD (a + 1) 0) = 1 := by
              apply Classical.byContradiction
              intro w
              rw [if_neg w] at z2
              exact z2 rfl
            rw [lmA_step ha, if_pos hc1]
            exact hl v hv
          · have hc1 : ¬ p.count (p.getD (a + 1) 0) = 1 := by
              intro w
              rw [if_pos w] at z2
              omega
            have hv5 := h5 _ (gd_mem (show a < p.length by omega))
            rw [Int.toNat_natCast, hp2.at (by omega), Int.toNat_natCast]
            refine ⟨⟨by omega, by omega, by omega, by omega, by omega⟩, ⟨by omega, by omega⟩, ⟨by omega, by omega⟩, ih (a + 1) _ (by omega) (fun v hv => ?_) (ho2.up (by omega) (by omega))⟩
            rw [lmA_step ha, if_neg hc1]
            by_cases e : v = p.getD a 0
            · rw [if_pos e, e, pm_up_eq]; rfl
            · rw [if_neg e, pm_up_ne (Or.inr e)]; exact hl v hv
    refine loop p.length 0 M1 (by omega) (fun v hv => ?_) ho
    have : fol v (p.take (0 + 1)) = [] := by
      cases p with
      | nil => rfl
      | cons a q => rfl
    rw [hr v hv, lmA, this]
    rfl
  · intro i M1 hi ⟨hr, ho⟩ ih
    refine tr_4_2 (by omega) ⟨fun z => by omega, fun _ => ⟨⟨by omega, by omega⟩, ⟨by omega, by omega⟩, ih _ ⟨fun v hv => ?_, ho.up (by omega) (by omega)⟩⟩⟩
    rw [Int.toNat_natCast]
    by_cases e : v = i
    · subst e; exact pm_up_eq
    · rw [pm_up_ne (Or.inr e)]; exact hr v (by omega)
/-- setPattern -/
theorem sp_3 {k q : Nat} {p : List Nat} (hd : 4 ≤ d) (hq : pm_row M q p) (h5 : ∀ v ∈ p, v < 5) (h1 : q + 1 < k + 1 ∨ k + 8 ≤ q) (h : ∀ M', pm_mp M' k p → pm_fr (k + 1) (k + 8) M M' → Qr none (pm_m n kd M')) : pm_run d 3 [.inr (.inl (1, k)), .inr (.inl (6, q))] (pm_m n kd M) Qr Qx := by
  obtain ⟨d, rfl⟩ := pm_ex1 (Nat.le_trans (by decide) hd)
  refine tr_3 (by omega) ?_
  refine sq_42 (by omega) hq (by omega) (by omega) (fun M1 hr1 ho1 => ?_)
  refine tr_3_8 (by omega) (pm_lp (N := 5) (G := fun i M2 => pm_wq d 3 Qr Qx (10, [some (.inr (.inl (1, k))), none, some (.inl (i : Int)), none], [], pm_m n kd M2, 0, 0)) (I := fun i M2 => (∀ v, v < i → M2 (k + 5) v = (p.count v : Int)) ∧ pm_fr (k + 5) (k + 6) M1 M2) ?_ ?_ 0 M1 (Nat.zero_le _) ⟨fun v hv => absurd hv (Nat.not_lt_zero v), pm_fr.rf⟩)
  · intro M2 ⟨hc, ho2⟩
    have hp2 := hr1.fr ho2 (by omega)
    have hs2 := hp2.size
    refine tr_3_10 (by omega) ⟨fun _ => ⟨⟨by omega, by omega⟩, ?_⟩, fun z => by omega⟩
    have loop : ∀ (j : Nat) (M3 : Nat → Nat → Int), j ≤ p.length → (∀ i, j ≤ i → i < p.length → M3 (k + 6) i = (sgl p (p.drop i) : Int)) → pm_fr (k + 6) (k + 7) M2 M3 → pm_wq d 3 Qr Qx (47, [some (.inr (.inl (1, k))), none, some (.inl (sgl p (p.drop j) : Int)), some (.inl ((j : Int) - 1))], [], pm_m n kd M3, 0, 0) := by
      intro j
      induction j with
      | zero =>
        intro M3 hj hsg ho3
        refine tr_3_47 (by omega) ⟨fun _ => ?_, fun z => by omega⟩
        refine sp_4 (p := p) (by omega) (hp2.fr ho3 (by omega)) h5 (fun i hi => hsg i (Nat.zero_le _) hi) (fun M4 hl4 ho4 => tr_3_90 (by omega) (h M4 ⟨(hp2.fr ho3 (by omega)).fr ho4 (by omega), h5, fun v hv => ?_, hl4, fun i hi => ?_⟩ ?_))
        · rw [ho4.at (by omega), ho3.at (by omega)]; exact hc v hv
        · rw [ho4.at (by omega)]; exact hsg i (Nat.zero_le _) hi
        · exact (((ho1.wd (by omega) (by omega)).tr (ho2.wd (by omega) (by omega))).tr (ho3.wd (by omega) (by omega))).tr (ho4.wd (by omega) (by omega))
      | succ j ih =>
        intro M3 hj hsg ho3
        have hp3 := hp2.fr ho3 (by omega)
        have hs3 := hp3.size
        have e : ((j + 1 : Nat) : Int) - 1 = (j : Int) := by omega
        have hv5 := h5 _ (gd_mem (show j < p.length by omega))
        have hsl := @sgl_le p (p.drop (j + 1))
        rw [List.length_drop] at hsl
        have hco : M3 (k + 5) (p.getD j 0) = (p.count (p.getD j 0) : Int) := by rw [ho3.at (by omega)]; exact hc _ hv5
        rw [e]
        refine tr_3_47 (by omega) ⟨fun z => by omega, fun _ => ?_⟩
        rw [Int.toNat_natCast, hp3.at (by omega), Int.toNat_natCast, hco]
        have hset : ∀ y : Int, y = (sgl p (p.drop j) : Int) → ∀ i, j ≤ i → i < p.length → pm_up M3 (k + 6) j y (k + 6) i = (sgl p (p.drop i) : Int) := by
          intro y hy i hi1 hi2
          by_cases e : i = j
          · subst e; rw [pm_up_eq]; exact hy
          · rw [pm_up_ne (Or.inr e)]; exact hsg i (by omega) hi2
        have hdj : sgl p (p.drop j) = if p.count (p.getD j 0) = 1 then sgl p (p.drop (j + 1)) + 1 else 0 := by rw [dr_cons (show j < p.length by omega), sgl]
        refine ⟨⟨by omega, by omega, by omega, by omega, by omega⟩, ⟨by omega, by omega⟩, fun z => ⟨⟨by omega, by omega⟩, ⟨by omega, by omega⟩, ?_⟩, fun z => ⟨⟨by omega, by omega⟩, ⟨by omega, by omega⟩, ⟨by omega, by omega⟩, ?_⟩⟩
        · rw [if_neg (by omega)] at hdj
          have := ih (pm_up M3 (k + 6) j 0) (by omega) (hset 0 (by rw [hdj]; rfl)) (ho3.up (by omega) (by omega))
          rw [hdj] at this
          exact this
        · rw [if_pos (by omega)] at hdj
          have := ih (pm_up M3 (k + 6) j ((sgl p (p.drop (j + 1)) : Int) + 1)) (by omega) (hset _ (by rw [hdj]; rfl)) (ho3.up (by omega) (by omega))
          rw [hdj] at this
          exact this
    rw [hs2.1]
    have := loop p.length M2 (Nat.le_refl _) (fun i h1 h2 => by omega) pm_fr.rf
    rw [List.drop_length] at this
    exact this
  · intro i M2 hi ⟨hc, ho2⟩ ih
    have hp2 := hr1.fr ho2 (by omega)
    refine tr_3_10 (by omega) ⟨fun z => by omega, fun _ => ?_⟩
    refine sp_50 (by omega) hp2 ?_
    refine tr_3_28 (by omega) ⟨⟨by omega, by omega⟩, ⟨by omega, by omega⟩, ih _ ⟨fun v hv => ?_, ho2.up (by omega) (by omega)⟩⟩
    rw [Int.toNat_natCast]
    by_cases e : v = i
    · subst e; exact pm_up_eq
    · rw [pm_up_ne (Or.inr e)]; exact hc v (by omega)
/-- setText -/
theorem sp_5 {k q : Nat} {t : List Nat} (hd : 2 ≤ d) (hq : pm_row M q t) (h1 : q ≠ k + 3) (h2 : q ≠ k + 4) (h : ∀ M', pm_row M' (k + 3) t → pm_fr (k + 3) (k + 5) M M' → Qr none (pm_m n kd M')) : pm_run d 5 [.inr (.inl (1, k)), .inr (.inl (6, q))] (pm_m n kd M) Qr Qx := by
  obtain ⟨d, rfl⟩ := pm_ex1 (Nat.le_trans (by decide) hd)
  exact tr_5 (sq_42 (by omega) hq h1 h2 (fun M1 hr1 ho1 => tr_5_8 (h M1 hr1 ho1)))
/-- forgetLengths -/
theorem sp_9 {k : Nat} (hd : 1 ≤ d) (h : ∀ M', (∀ v, v < 5 → M' (k + 9) v = 0) → pm_fr (k + 9) (k + 10) M M' → Qr none (pm_m n kd M')) : pm_run d 9 [.inr (.inl (1, k))] (pm_m n kd M) Qr Qx := by
  obtain ⟨d, rfl⟩ := pm_ex1 hd
  refine tr_9 (pm_lp (N := 5) (G := fun i M1 => pm_wq d 9 Qr Qx (2, [some (.inr (.inl (1, k))), some (.inl (i : Int))], [], pm_m n kd M1, 0, 0)) (I := fun i M1 => (∀ v, v < i → M1 (k + 9) v = 0) ∧ pm_fr (k + 9) (k + 10) M M1) ?_ ?_ 0 M (Nat.zero_le _) ⟨fun v hv => absurd hv (Nat.not_lt_zero v), pm_fr.rf⟩)
  · intro M1 ⟨hr, ho⟩
    exact tr_9_2 ⟨fun _ => h M1 hr ho, fun z => by omega⟩
  · intro i M1 hi ⟨hr, ho⟩ ih
    refine tr_9_2 ⟨fun z => by omega, fun _ => ⟨⟨by omega, by omega⟩, ⟨by omega, by omega⟩, ih _ ⟨fun v hv => ?_, ho.up (by omega) (by omega)⟩⟩⟩
    rw [Int.toNat_natCast]
    by_cases e : v = i
    · subst e; exact pm_up_eq
    · rw [pm_up_ne (Or.inr e)]; exact hr v (by omega)
/-- standsAt -/
theorem sp_7 {k s : Nat} {p t : List Nat} (hd : p.length + 5 ≤ d) (hm : pm_mp M k p) (ht : pm_row M (k + 3) t) (hp : p ≠ []) (hs : s ≤ t.length)
    (hy : ∀ M' E' r', (occ p t s).head? = some (E', r') → pm_en M' k t E' t.length → pm_fr (k + 8) (k + 10) M M' → Qr (some (.inl 1)) (pm_m n kd M'))
    (hn : ∀ M', occ p t s = [] → pm_fr (k + 8) (k + 10) M M' → Qr (some (.inl 0)) (pm_m n kd M')) : pm_run d 7 [.inr (.inl (1, k)), .inl (s : Int)] (pm_m n kd M) Qr Qx := by
  obtain ⟨d, rfl⟩ := pm_ex1 (show 1 ≤ d by omega)
  refine tr_7 (sp_9 (by omega) (fun M1 hl ho => ?_))
  have ho' : pm_fr (k + 8) (k + 10) M M1 := ho.wd (by omega) (Nat.le_refl _)
  have hm1 := hm.fr ho' (by omega)
  have ht1 := ht.fr ho' (by omega)
  have hts := ht1.size
  have hps := hm1.1.size
  refine tr_7_4 ?_
  rw [hts.1, hps.1]
  refine ⟨⟨by omega, by omega⟩, ⟨by omega, by omega⟩, fun z => hn M1 (occ_need (by omega) hp) ho', fun z => ?_⟩
  obtain ⟨sl, hsl⟩ : ∃ sl : Nat, ((t.length : Int) - (s : Int)) - (p.length : Int) = (sl : Int) := ⟨t.length - s - p.length, by omega⟩
  rw [hsl]
  refine sp_10 p d 0 s sl e0 M1 _ rfl (Nat.zero_le _) (by omega) (hm1.mt ht1) (fun v hv => ⟨hl v hv, fun z => absurd rfl z⟩) hs (fun v _ => by rw [List.take_zero]; exact List.not_mem_nil) (by rw [nd_e0]; omega) ?_ ?_
  · intro M2 E' r' hh he ho2
    exact tr_7_33 ⟨fun z => absurd z (by decide), fun _ => hy M2 E' r' (by rw [← occ_head ht.2.1]; exact hh) he (ho'.tr ho2)⟩
  · intro M2 hnil he ho2
    exact tr_7_33 ⟨fun _ => hn M2 (occ_nil ht.2.1 hnil) (ho'.tr ho2), fun z => absurd rfl z⟩
/-- firstStart -/
theorem sp_6 {k : Nat} {p t : List Nat} (hd : p.length + 6 ≤ d) (hm : pm_mp M k p) (ht : pm_row M (k + 3) t) (hp : p ≠ [])
    (hy : ∀ M' s E' r', (∀ s', s' < s → occ p t s' = []) → s ≤ t.length → (occ p t s).head? = some (E', r') → pm_en M' k t E' t.length → pm_fr (k + 8) (k + 10) M M' → Qr (some (.inl (s : Int))) (pm_m n kd M'))
    (hn : ∀ M', (∀ s, occ p t s = []) → pm_fr (k + 8) (k + 10) M M' → Qr (some (.inl (-1))) (pm_m n kd M')) : pm_run d 6 [.inr (.inl (1, k))] (pm_m n kd M) Qr Qx := by
  obtain ⟨d, rfl⟩ := pm_ex1 (show 1 ≤ d by omega)
  have hpl : 0 < p.length := List.length_pos_iff.mpr hp
  have hts := ht.size
  have hps := hm.1.size
  have loop : ∀ (c i : Nat) (last : Int) (M1 : Nat → Nat → Int), (c : Int) + i = last + 1 → last ≤ 24 → i ≤ t.length + 1 → ((∀ s, (last + 1).toNat ≤ s → occ p t s = []) ∨ (last = 0 ∧ (occ p t 0 = [] → ∀ s, occ p t s = []))) → (∀ s', s' < i → occ p t s' = []) → last ≤ t.length → pm_fr (k + 8) (k + 10) M M1 → pm_wq d 6 Qr Qx (31, [some (.inr (.inl (1, k))), some (.inl last), some (.inl (i : Int))], [], pm_m n kd M1, 0, 0) := by
    intro c
    induction c with
    | zero =>
      intro i last M1 hc hl24 hi hlast hbe hlt ho
      refine tr_6_31 ⟨fun _ => hn M1 (fun s => ?_) ho, fun z => by omega⟩
      rcases hlast with hl | ⟨hl, hz⟩
      · by_cases hs : s < i
        · exact hbe s hs
        · exact hl s (by omega)
      · exact hz (hbe 0 (by omega)) s
    | succ c ih =>
      intro i last M1 hc hl24 hi hlast hbe hlt ho
      refine tr_6_31 ⟨fun z => by omega, fun _ => ?_⟩
      refine sp_7 (by omega) (hm.fr ho (by omega)) (ht.fr ho (by omega)) hp (by omega) ?_ ?_
      · intro M2 E' r' hh he ho2
        exact tr_6_41 ⟨fun z => absurd z (by decide), fun _ => hy M2 i E' r' hbe (by omega) hh he (ho.tr ho2)⟩
      · intro M2 hnil ho2
        refine tr_6_41 ⟨fun _ => ⟨⟨by omega, by omega⟩, ih (i + 1) last M2 (by omega) hl24 (by omega) hlast (fun s' hs => ?_) hlt (ho.tr ho2)⟩, fun z => absurd rfl z⟩
        by_cases e : s' = i
        · rw [e]; exact hnil
        · exact hbe s' (by omega)
  have h6 := hm.2.2.2.2 0 hpl
  rw [List.drop_zero] at h6
  refine tr_6 ⟨fun z => ?_, fun z => ?_⟩
  · rw [hts.1, hps.1]
    refine ⟨⟨by omega, by omega⟩, ?_⟩
    by_cases hle : p.length ≤ t.length
    · exact loop (t.length - p.length + 1) 0 _ M (by omega) (by omega) (by omega) (Or.inl (fun s hs => occ_need (by omega) hp)) (fun s' hs => absurd hs (Nat.not_lt_zero s')) (by omega) pm_fr.rf
    · exact tr_6_31 ⟨fun _ => hn M (fun s => occ_need (by omega) hp) pm_fr.rf, fun z => by omega⟩
  · refine loop 1 0 0 M (by omega) (by omega) (by omega) (Or.inr ⟨rfl, fun h0 s => ?_⟩) (fun s' hs => absurd hs (Nat.not_lt_zero s')) (by omega) pm_fr.rf
    cases p with
    | nil => exact absurd rfl hp
    | cons v q =>
      rw [sgl] at h6
      have hc : (v :: q).count v = 1 := by
        apply Classical.byContradiction
        intro w
        rw [if_neg w] at h6
        exact z (by rw [h6]; exact Int.le_refl _)
      have hv : v ∉ q := by
        rw [List.count_cons_self] at hc
        intro w
        have := List.count_pos_iff.mpr w
        omega
      apply Classical.byContradiction
      intro hne
      exact occ_zero ht.2.1 hv hne h0
end MTD

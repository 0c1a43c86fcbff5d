/-! OCCURRENCES: all ways in which a pattern stands at the start of a text, in the order in which they are tried; an open image is [] -/
def ud (E : Nat → List Nat) (v : Nat) (x : List Nat) : Nat → List Nat := fun u => if u = v then x else E u
theorem ud_eq {E : Nat → List Nat} {v : Nat} {x : List Nat} : ud E v x v = x := if_pos rfl
theorem ud_ne {E : Nat → List Nat} {v u : Nat} {x : List Nat} (h : u ≠ v) : ud E v x u = E u := if_neg h
/-- g i ++ g (i + 1) ++ ..: c of them -/
def fm {α : Type} (g : Nat → List α) : Nat → Nat → List α
  | _, 0 => []
  | i, c + 1 => g i ++ fm g (i + 1) c
theorem fm_nil {α : Type} {g : Nat → List α} : ∀ {c i : Nat}, (∀ j, i ≤ j → j < i + c → g j = []) → fm g i c = []
  | 0, _, _ => rfl
  | c + 1, i, h => by
    rw [fm, h i (Nat.le_refl _) (by omega), List.nil_append]
    exact fm_nil (fun j h1 h2 => h j (by omega) (by omega))
theorem fm_mem {α : Type} {g : Nat → List α} {a : α} : ∀ {c i : Nat}, a ∈ fm g i c → ∃ j, i ≤ j ∧ j < i + c ∧ a ∈ g j
  | 0, _, h => by cases h
  | c + 1, i, h => by
    rw [fm] at h
    rcases List.mem_append.mp h with h | h
    · exact ⟨i, Nat.le_refl _, by omega, h⟩
    · obtain ⟨j, h1, h2, h3⟩ := fm_mem h
      exact ⟨j, by omega, by omega, h3⟩
theorem fm_in {α : Type} {g : Nat → List α} {a : α} {j : Nat} : ∀ {c i : Nat}, i ≤ j → j < i + c → a ∈ g j → a ∈ fm g i c
  | 0, _, h1, h2, _ => by omega
  | c + 1, i, h1, h2, h => by
    rw [fm]
    by_cases e : i = j
    · subst e; exact List.mem_append_left _ h
    · exact List.mem_append_right _ (fm_in (by omega) (by omega) h)
def mtL (lim : Nat → Nat) : List Nat → (Nat → List Nat) → List Nat → List ((Nat → List Nat) × List Nat)
  | [], E, r => [(E, r)]
  | v :: p, E, r => if E v = [] then fm (fun m => mtL lim p (ud E v (r.take m)) (r.drop m)) 1 (min (lim v) r.length) else if (E v).isPrefixOf r = true then mtL lim p E (r.drop (E v).length) else []
/-- what a pattern needs at least -/
def nd (E : Nat → List Nat) : List Nat → Nat
  | [] => 0
  | v :: p => max 1 (E v).length + nd E p
theorem nd_ud {E : Nat → List Nat} {v : Nat} {x : List Nat} (he : E v = []) (hx : 1 ≤ x.length) : ∀ p : List Nat, nd (ud E v x) p = nd E p + p.count v * (x.length - 1)
  | [] => by simp [nd]
  | u :: p => by
    rw [nd, nd, nd_ud he hx p, List.count_cons]
    by_cases h : u = v
    · subst h
      rw [ud_eq, he, if_pos (by simp), Nat.add_mul]
      simp only [List.length_nil]
      omega
    · rw [ud_ne h, if_neg (by simpa using h), Nat.add_zero]
      omega
theorem mtL_need {lim : Nat → Nat} : ∀ {p : List Nat} {E : Nat → List Nat} {r : List Nat}, mtL lim p E r ≠ [] → nd E p ≤ r.length
  | [], _, _, _ => Nat.zero_le _
  | v :: p, E, r, h => by
    rw [mtL] at h
    rw [nd]
    split at h
    · next he =>
      obtain ⟨a, ha⟩ := List.exists_mem_of_ne_nil _ h
      obtain ⟨j, h1, h2, h3⟩ := fm_mem ha
      have h4 := mtL_need (List.ne_nil_of_mem h3)
      have hl : (r.take j).length = j := by rw [List.length_take]; omega
      rw [nd_ud he (by omega), List.length_drop] at h4
      rw [he]
      simp only [List.length_nil]
      have : min (lim v) r.length ≤ r.length := Nat.min_le_right _ _
      have : nd E p ≤ nd E p + List.count v p * ((List.take j r).length - 1) := Nat.le_add_right _ _
      omega
    · next he =>
      split at h
      · next hp =>
        have h4 := mtL_need h
        have h5 := (List.isPrefixOf_iff_prefix.mp hp).length_le
        rw [List.length_drop] at h4
        have : 0 < (E v).length := List.length_pos_iff.mpr he
        omega
      · exact absurd rfl h
/-- the matcher at k: what it looks for, and where -/
def pm_mt (M : Nat → Nat → Int) (k : Nat) (p t : List Nat) (lim : Nat → Nat) : Prop := pm_row M (k + 1) p ∧ pm_row M (k + 3) t ∧ (∀ v ∈ p, v < 5) ∧ (∀ v, v < 5 → M (k + 5) v = (p.count v : Int)) ∧ ∀ v, v < 5 → M (k + 7) v = (lim v : Int) ∧ lim v ≤ 24
theorem pm_mt.fr {M M' : Nat → Nat → Int} {k lo hi : Nat} {p t : List Nat} {lim : Nat → Nat} (h : pm_mt M k p t lim) (ho : pm_fr lo hi M M') (h1 : k + 8 ≤ lo ∨ hi ≤ k + 1) : pm_mt M' k p t lim := by
  obtain ⟨a, b, c, e, f⟩ := h
  exact ⟨a.fr ho (by omega), b.fr ho (by omega), c, fun v hv => by rw [ho.at (by omega)]; exact e v hv, fun v hv => by rw [ho.at (by omega)]; exact f v hv⟩
/-- the images so far, up to a place of the text -/
def pm_e1 (M : Nat → Nat → Int) (k : Nat) (t : List Nat) (x : List Nat) (v b : Nat) : Prop := M (k + 9) v = (x.length : Int) ∧ (x ≠ [] → ∃ st : Nat, M (k + 8) v = (st : Int) ∧ st + x.length ≤ b ∧ (t.drop st).take x.length = x)
def pm_en (M : Nat → Nat → Int) (k : Nat) (t : List Nat) (E : Nat → List Nat) (b : Nat) : Prop := ∀ v, v < 5 → pm_e1 M k t (E v) v b
theorem pm_en.mono {M : Nat → Nat → Int} {k b b' : Nat} {t : List Nat} {E : Nat → List Nat} (h : pm_en M k t E b) (hb : b ≤ b') : pm_en M k t E b' := fun v hv => ⟨(h v hv).1, fun hx => by
  obtain ⟨st, h1, h2, h3⟩ := (h v hv).2 hx
  exact ⟨st, h1, by omega, h3⟩⟩
theorem pm_e1.up {M : Nat → Nat → Int} {k b q j v : Nat} {t x : List Nat} {y : Int} (h : pm_e1 M k t x v b) (hj : v ≠ j ∨ (q ≠ k + 8 ∧ q ≠ k + 9)) : pm_e1 (pm_up M q j y) k t x v b := by
  have e9 : pm_up M q j y (k + 9) v = M (k + 9) v := pm_up_ne (by rcases hj with h | h; exact Or.inr h; exact Or.inl (fun z => h.2 z.symm))
  have e8 : pm_up M q j y (k + 8) v = M (k + 8) v := pm_up_ne (by rcases hj with h | h; exact Or.inr h; exact Or.inl (fun z => h.1 z.symm))
  unfold pm_e1
  rw [e9, e8]
  exact h
/-- the images are again as they were -/
def pm_rs (M M' : Nat → Nat → Int) (k : Nat) (E : Nat → List Nat) : Prop := ∀ u, u < 5 → M' (k + 9) u = ((E u).length : Int) ∧ (E u ≠ [] → M' (k + 8) u = M (k + 8) u)
theorem pm_rs.en {M M' : Nat → Nat → Int} {k b : Nat} {t : List Nat} {E : Nat → List Nat} (h : pm_rs M M' k E) (he : pm_en M k t E b) : pm_en M' k t E b := fun v hv => ⟨(h v hv).1, fun hx => by rw [(h v hv).2 hx]; exact (he v hv).2 hx⟩
section MTC
variable {n : Nat} {kd : Nat → Nat} {Qx : Nat → pm_Me → Prop}
/-- repeats -/
theorem sp_14 {d k v b : Nat} {M : Nat → Nat → Int} {Qr : Option pm_V → pm_Me → Prop} {p t : List Nat} {lim : Nat → Nat} {x : List Nat} (hd : 1 ≤ d) (hm : pm_mt M k p t lim) (hv : v < 5) (he : pm_e1 M k t x v b) (hx : x ≠ []) (hb : b ≤ t.length) (h : Qr (some (.inl (if x.isPrefixOf (t.drop b) = true then 1 else 0))) (pm_m n kd M)) : pm_run d 14 [.inr (.inl (1, k)), .inl (v : Int), .inl (b : Int)] (pm_m n kd M) Qr Qx := by
  obtain ⟨d, rfl⟩ := pm_ex1 hd
  obtain ⟨st, h1, h2, h3⟩ := he.2 hx
  have h9 := he.1
  have ht := hm.2.1
  have hs := ht.size
  refine tr_14 ⟨⟨by omega, by omega⟩, ⟨by omega, by omega⟩, ?_⟩
  rw [Int.toNat_natCast, h1, h9]
  refine ⟨fun z => by omega, fun _ => ⟨fun z => by omega, fun _ => ⟨⟨by omega, by omega⟩, fun z => ?_, fun z => ?_⟩⟩⟩
  · have hlen : b + x.length ≤ t.length := by omega
    refine pm_lp (α := Unit) (N := x.length) (G := fun i _ => pm_wq d 14 Qr Qx (43, [some (.inr (.inl (1, k))), none, some (.inl (b : Int)), some (.inl (st : Int)), some (.inl (x.length : Int)), some (.inl (i : Int))], [], pm_m n kd M, 0, 0)) (I := fun i _ => ∀ j, j < i → x.getD j 0 = t.getD (b + j) 0) ?_ ?_ 0 () (Nat.zero_le _) (fun j hj => absurd hj (Nat.not_lt_zero j))
    · intro _ hj
      refine tr_14_43 ⟨fun _ => ?_, fun z => by omega⟩
      have hp : x.isPrefixOf (t.drop b) = true := by
        rw [List.isPrefixOf_iff_prefix, List.prefix_iff_eq_take]
        refine gd_ext (by rw [List.length_take, List.length_drop]; omega) (fun j hj2 => ?_)
        rw [gd_take hj2, gd_drop]
        exact hj j hj2
      rw [if_pos hp] at h
      exact h
    · intro i _ hi hj ih
      have e1 : x.getD i 0 = t.getD (st + i) 0 := by
        conv => lhs; rw [← h3]
        rw [gd_take hi, gd_drop]
      refine tr_14_43 ⟨fun z => by omega, fun _ => ⟨⟨by omega, by omega⟩, ⟨by omega, by omega⟩, ⟨by omega, by omega⟩, ⟨by omega, by omega⟩, ?_⟩⟩
      have e2 : ((st : Int) + (i : Int)).toNat = st + i := by omega
      have e3 : ((b : Int) + (i : Int)).toNat = b + i := by omega
      rw [e2, e3, ht.at (by omega), ht.at (by omega)]
      refine ⟨fun z => ⟨⟨by omega, by omega⟩, ih () (fun j hj2 => ?_)⟩, fun z => ?_⟩
      · by_cases e : j = i
        · rw [e, e1]; omega
        · exact hj j (by omega)
      · have hp : ¬ x.isPrefixOf (t.drop b) = true := by
          intro hp
          have hq := List.prefix_iff_eq_take.mp (List.isPrefixOf_iff_prefix.mp hp)
          apply z
          rw [← e1]
          have : x.getD i 0 = t.getD (b + i) 0 := by
            conv => lhs; rw [hq]
            rw [gd_take hi, gd_drop]
          rw [this]
        rw [if_neg hp] at h
        exact h
  · have hp : ¬ x.isPrefixOf (t.drop b) = true := by
      intro hp
      have := (List.isPrefixOf_iff_prefix.mp hp).length_le
      rw [List.length_drop] at this
      omega
    rw [if_neg hp] at h
    exact h
/-- fits -/
theorem sp_10 {k : Nat} {p t : List Nat} {lim : Nat → Nat} : ∀ (q : List Nat) (d a b sl : Nat) (E : Nat → List Nat) (M : Nat → Nat → Int) (Qr : Option pm_V → pm_Me → Prop), p.drop a = q → a ≤ p.length → q.length + 3 ≤ d → pm_mt M k p t lim → pm_en M k t E b → b ≤ t.length → (∀ v, E v = [] → v ∉ p.take a) → b + nd E q + sl = t.length →
    (∀ M' E' r', (mtL lim q E (t.drop b)).head? = some (E', r') → pm_en M' k t E' t.length → pm_fr (k + 8) (k + 10) M M' → Qr (some (.inl 1)) (pm_m n kd M')) →
    (∀ M', mtL lim q E (t.drop b) = [] → pm_rs M M' k E → pm_fr (k + 8) (k + 10) M M' → Qr (some (.inl 0)) (pm_m n kd M')) →
    pm_run d 10 [.inr (.inl (1, k)), .inl (a : Int), .inl (b : Int), .inl (sl : Int)] (pm_m n kd M) Qr Qx
  | [], d, a, b, sl, E, M, Qr, hq, ha, hd, hm, he, hb, hf, hs, hy, hn => by
    obtain ⟨d, rfl⟩ := pm_ex1 (Nat.le_trans (by simp) hd)
    have hps := hm.1.size
    have : p.length ≤ a := by
      have := congrArg List.length hq
      rw [List.length_drop, List.length_nil] at this
      omega
    exact tr_10 (by simp at hd; omega) ⟨fun z => by omega, fun _ => hy M E (t.drop b) rfl (he.mono hb) pm_fr.rf⟩
  | v :: q, d, a, b, sl, E, M, Qr, hq, ha, hd, hm, he, hb, hf, hs, hy, hn => by
    obtain ⟨d, rfl⟩ := pm_ex1 (Nat.le_trans (by simp) hd)
    rw [List.length_cons] at hd
    have hps := hm.1.size
    have hts := hm.2.1.size
    have halt : a < p.length := by
      have := congrArg List.length hq
      rw [List.length_drop, List.length_cons] at this
      omega
    have hv : p.getD a 0 = v := by
      have := dr_cons halt
      rw [hq] at this
      exact (List.cons.inj this).1.symm
    have hq' : p.drop (a + 1) = q := by
      have := dr_cons halt
      rw [hq] at this
      exact (List.cons.inj this).2.symm
    have hv5 : v < 5 := hm.2.2.1 v (by rw [← hv]; exact gd_mem halt)
    have hev := he v hv5
    have h9 := hev.1
    refine tr_10 (by omega) ⟨fun _ => ?_, fun z => by omega⟩
    rw [Int.toNat_natCast, hm.1.at halt, hv, Int.toNat_natCast, h9]
    refine ⟨⟨by omega, by omega, by omega, by omega, by omega⟩, ⟨by omega, by omega⟩, fun z => ⟨⟨by omega, by omega⟩, ?_⟩, fun z => ?_⟩
    · -- the length is open
      have hE : E v = [] := List.length_eq_zero_iff.mp (by omega)
      have hL : mtL lim (v :: q) E (t.drop b) = fm (fun m => mtL lim q (ud E v ((t.drop b).take m)) ((t.drop b).drop m)) 1 (min (lim v) (t.drop b).length) := by rw [mtL, if_pos hE]
      have hrl : (t.drop b).length = t.length - b := List.length_drop
      have hnd : nd E (v :: q) = 1 + nd E q := by rw [nd, hE]; rfl
      have htm : M (k + 5) v = ((q.count v + 1 : Nat) : Int) := by
        rw [hm.2.2.2.1 v hv5]
        have e : p = p.take a ++ v :: q := by rw [← hq, List.take_append_drop]
        have e2 : p.count v = q.count v + 1 := by
          conv => lhs; rw [e]
          rw [List.count_append, List.count_eq_zero_of_not_mem (hf v hE), List.count_cons_self]; omega
        rw [e2]
      have hlm := hm.2.2.2.2 v hv5
      rw [hL] at hy hn
      rw [hrl] at hy hn
      -- the loop over the lengths
      have loop : ∀ (c i : Nat) (lf : Int) (M1 : Nat → Nat → Int), c + i = 25 → 1 ≤ i → lf + ((i : Int) - 1) * ((q.count v + 1 : Nat) : Int) = (sl : Int) → pm_mt M1 k p t lim → (∀ u, u < 5 → u ≠ v → M1 (k + 9) u = ((E u).length : Int) ∧ (E u ≠ [] → M1 (k + 8) u = M (k + 8) u)) → M1 (k + 8) v = (b : Int) → M1 (k + 5) v = ((q.count v + 1 : Nat) : Int) → pm_fr (k + 8) (k + 10) M M1 →
          (fm (fun m => mtL lim q (ud E v ((t.drop b).take m)) ((t.drop b).drop m)) 1 (min (lim v) (t.length - b)) = fm (fun m => mtL lim q (ud E v ((t.drop b).take m)) ((t.drop b).drop m)) i (min (lim v) (t.length - b) + 1 - i)) →
          pm_wq d 10 Qr Qx (80, [some (.inr (.inl (1, k))), some (.inl (a : Int)), some (.inl (b : Int)), none, some (.inl (v : Int)), some (.inl lf), some (.inl (i : Int))], [], pm_m n kd M1, 0, 0) := by
        intro c
        induction c with
        | zero =>
          intro i lf M1 hci hi hlf hm1 he1 hst htm1 ho hfm
          have hl1 := hm1.2.2.2.2 v hv5
          refine tr_10_80 (by omega) ⟨⟨by omega, by omega⟩, fun _ => ⟨⟨by omega, by omega⟩, ?_⟩, fun z => by rw [Int.toNat_natCast, hl1.1] at z; omega⟩
          rw [Int.toNat_natCast]
          refine hn _ ?_ ?_ (ho.up (by omega) (by omega))
          · rw [hfm, show min (lim v) (t.length - b) + 1 - i = 0 by omega]; rfl
          · intro u hu
            by_cases e : u = v
            · subst e; rw [hE]; exact ⟨pm_up_eq, fun z => absurd rfl z⟩
            · exact ⟨(pm_up_ne (Or.inr e)).trans (he1 u hu e).1, fun hx => (pm_up_ne (Or.inr e)).trans ((he1 u hu e).2 hx)⟩
        | succ c ih =>
          intro i lf M1 hci hi hlf hm1 he1 hst htm1 ho hfm
          have hl1 := hm1.2.2.2.2 v hv5
          have out : ∀ M2, M2 = pm_up M1 (k + 9) v 0 → fm (fun m => mtL lim q (ud E v ((t.drop b).take m)) ((t.drop b).drop m)) i (min (lim v) (t.length - b) + 1 - i) = [] → Qr (some (.inl 0)) (pm_m n kd M2) := by
            intro M2 hM2 hfe
            subst hM2
            refine hn _ (hfm.trans hfe) ?_ (ho.up (by omega) (by omega))
            intro u hu
            by_cases e : u = v
            · subst e; rw [hE]; exact ⟨pm_up_eq, fun z => absurd rfl z⟩
            · exact ⟨(pm_up_ne (Or.inr e)).trans (he1 u hu e).1, fun hx => (pm_up_ne (Or.inr e)).trans ((he1 u hu e).2 hx)⟩
          -- what is left at a length
          have hleft : ∀ j : Nat, 1 ≤ j → j ≤ t.length - b → ((t.length - b : Nat) : Int) - (j : Int) - (nd (ud E v ((t.drop b).take j)) q : Int) = (sl : Int) - ((j : Int) - 1) * ((q.count v + 1 : Nat) : Int) := by
            intro j hj1 hj2
            have hlt : ((t.drop b).take j).length = j := by rw [List.length_take, hrl]; omega
            rw [nd_ud hE (by omega), hlt]
            have : ((q.count v * (j - 1) : Nat) : Int) = ((j : Int) - 1) * (q.count v : Int) := by
              rw [Int.natCast_mul, Int.mul_comm]
              congr 1
              omega
            rw [Int.natCast_add, this, Int.natCast_add, Int.mul_add]
            rw [hnd] at hs
            simp only [Int.natCast_one, Int.mul_one]
            omega
          refine tr_10_80 (by omega) ⟨⟨by omega, by omega⟩, fun z => ⟨⟨by omega, by omega⟩, ?_⟩, fun z => ⟨fun z2 => ⟨⟨by omega, by omega⟩, ?_⟩, fun z2 => ?_⟩⟩
          · rw [Int.toNat_natCast, hl1.1] at z
            rw [Int.toNat_natCast]
            refine out _ rfl ?_
            rw [show min (lim v) (t.length - b) + 1 - i = 0 by omega]; rfl
          · rw [Int.toNat_natCast]
            refine out _ rfl (fm_nil (fun j hj1 hj2 => ?_))
            apply Classical.byContradiction
            intro hne
            have h4 := mtL_need hne
            rw [List.length_drop, hrl] at h4
            have h5 := hleft j (by omega) (by omega)
            have h6 : ((i : Int) - 1) * ((q.count v + 1 : Nat) : Int) ≤ ((j : Int) - 1) * ((q.count v + 1 : Nat) : Int) := Int.mul_le_mul_of_nonneg_right (by omega) (by omega)
            omega
          · have h6 : 0 ≤ ((i : Int) - 1) * (q.count v : Int) := Int.mul_nonneg (by omega) (by omega)
            have h7 : ((i : Int) - 1) * ((q.count v + 1 : Nat) : Int) = ((i : Int) - 1) * (q.count v : Int) + ((i : Int) - 1) := by
              rw [Int.natCast_add, Int.mul_add]; simp
            rw [hnd] at hs
            have hib : i ≤ t.length - b := by omega
            have h5 := hleft i hi hib
            have hlt : ((t.drop b).take i).length = i := by rw [List.length_take, hrl]; omega
            rw [Int.toNat_natCast, hl1.1] at z
            have hcnt : q.count v ≤ 24 := by
              have : q.count v ≤ q.length := List.count_le_length
              have : q.length = p.length - (a + 1) := by rw [← hq', List.length_drop]
              omega
            refine ⟨⟨by omega, by omega⟩, ⟨by omega, by omega⟩, ⟨by omega, by omega⟩, ?_⟩
            rw [Int.toNat_natCast]
            have ea : ((a : Int) + 1) = ((a + 1 : Nat) : Int) := by omega
            have eb : ((b : Int) + (i : Int)) = ((b + i : Nat) : Int) := by omega
            obtain ⟨lf', hlf'⟩ : ∃ lf' : Nat, lf = (lf' : Int) := ⟨lf.toNat, by omega⟩
            subst hlf'
            rw [ea, eb]
            have hdd : (t.drop b).drop i = t.drop (b + i) := by rw [List.drop_drop]
            have hfmi : min (lim v) (t.length - b) + 1 - i = (min (lim v) (t.length - b) + 1 - (i + 1)) + 1 := by omega
            rw [hfmi] at hfm
            have hfm2 : fm (fun m => mtL lim q (ud E v ((t.drop b).take m)) ((t.drop b).drop m)) 1 (min (lim v) (t.length - b)) = mtL lim q (ud E v ((t.drop b).take i)) (t.drop (b + i)) ++ fm (fun m => mtL lim q (ud E v ((t.drop b).take m)) ((t.drop b).drop m)) (i + 1) (min (lim v) (t.length - b) + 1 - (i + 1)) := by
              rw [hfm, fm, hdd]
            have ho2 : pm_fr (k + 8) (k + 10) M1 (pm_up M1 (k + 9) v (i : Int)) := pm_fr.rf.up (by omega) (by omega)
            refine sp_10 q d (a + 1) (b + i) lf' (ud E v ((t.drop b).take i)) _ _ hq' (by omega) (by omega) (hm1.fr ho2 (by omega)) ?_ (by omega) ?_ ?_ ?_ ?_
            · intro u hu
              by_cases e : u = v
              · subst e
                rw [ud_eq]
                refine ⟨by rw [pm_up_eq, hlt], fun _ => ⟨b, ?_, ?_, ?_⟩⟩
                · rw [pm_up_ne (Or.inl (by omega))]; exact hst
                · rw [hlt]; omega
                · rw [hlt]
              · rw [ud_ne e]
                refine ⟨(pm_up_ne (Or.inr e)).trans (he1 u hu e).1, fun hx => ?_⟩
                obtain ⟨st, a1, a2, a3⟩ := (he u hu).2 hx
                exact ⟨st, (pm_up_ne (Or.inr e)).trans (((he1 u hu e).2 hx).trans a1), by omega, a3⟩
            · intro u hu
              by_cases e : u = v
              · subst e
                rw [ud_eq] at hu
                rw [hu, List.length_nil] at hlt
                omega
              · rw [ud_ne e] at hu
                rw [tk_succ halt, List.mem_append, hv]
                rintro (h | h)
                · exact hf u hu h
                · exact e (List.mem_singleton.mp h)
            · omega
            · intro M2 E' r' hh he2 ho3
              refine tr_10_119 (by omega) ⟨fun z => absurd z (by decide), fun _ => ?_⟩
              refine hy M2 E' r' ?_ he2 (ho.tr (ho2.tr ho3))
              rw [hfm2, List.head?_append, hh]
              rfl
            · intro M2 hnil he2 ho3
              have hm2 : pm_mt M2 k p t lim := (hm1.fr ho2 (by omega)).fr ho3 (by omega)
              have htm2 : M2 (k + 5) v = ((q.count v + 1 : Nat) : Int) := by
                rw [ho3.at (by omega), pm_up_ne (Or.inl (by omega))]; exact htm1
              refine tr_10_119 (by omega) ⟨fun _ => ⟨⟨by omega, by omega⟩, ?_⟩, fun z => absurd rfl z⟩
              rw [Int.toNat_natCast, htm2]
              have e9 := (he2 v hv5)
              rw [ud_eq] at e9
              have hxne : (t.drop b).take i ≠ [] := fun z => by rw [z, List.length_nil] at hlt; omega
              refine ⟨⟨by omega, by omega⟩, ⟨by omega, by omega⟩, ih (i + 1) _ M2 (by omega) (by omega) ?_ hm2 ?_ ?_ htm2 (ho.tr (ho2.tr ho3)) ?_⟩
              · have : ((i + 1 : Nat) : Int) - 1 = ((i : Int) - 1) + 1 := by omega
                rw [this, Int.add_mul]
                omega
              · intro u hu e
                have h8 := he2 u hu
                rw [ud_ne e] at h8
                exact ⟨h8.1, fun hx => (h8.2 hx).trans ((pm_up_ne (Or.inr e)).trans ((he1 u hu e).2 hx))⟩
              · rw [e9.2 hxne, pm_up_ne (Or.inl (by omega))]; exact hst
              · rw [hfm2, hnil, List.nil_append]
      have ho0 : pm_fr (k + 8) (k + 10) M (pm_up M (k + 8) v (b : Int)) := pm_fr.rf.up (by omega) (by omega)
      refine loop 24 1 (sl : Int) _ (by omega) (Nat.le_refl _) (by simp) (hm.fr ho0 (by omega)) (fun u hu e => ⟨(pm_up_ne (Or.inl (by omega))).trans (he u hu).1, fun _ => pm_up_ne (Or.inr e)⟩) pm_up_eq (by rw [pm_up_ne (Or.inl (by omega))]; exact htm) ho0 (by rw [Nat.add_sub_cancel])
    · -- the image is known
      have hE : E v ≠ [] := fun z2 => z (by rw [z2]; simp)
      refine sp_14 (by omega) hm hv5 hev hE hb ?_
      have hnd : nd E (v :: q) = (E v).length + nd E q := by
        rw [nd]
        have : 0 < (E v).length := List.length_pos_iff.mpr hE
        omega
      have hL : mtL lim (v :: q) E (t.drop b) = if (E v).isPrefixOf (t.drop b) = true then mtL lim q E ((t.drop b).drop (E v).length) else [] := by rw [mtL, if_neg hE]
      by_cases hp : (E v).isPrefixOf (t.drop b) = true
      · rw [if_pos hp] at hL ⊢
        rw [hL, List.drop_drop] at hy hn
        have hl := (List.isPrefixOf_iff_prefix.mp hp).length_le
        rw [List.length_drop] at hl
        have hpos : 0 < (E v).length := List.length_pos_iff.mpr hE
        refine tr_10_37 (by omega) ⟨fun z => absurd z (by decide), fun _ => ⟨⟨by omega, by omega⟩, ⟨by omega, by omega⟩, ?_⟩⟩
        rw [Int.toNat_natCast, h9]
        have ea : ((a : Int) + 1) = ((a + 1 : Nat) : Int) := by omega
        have eb : ((b : Int) + ((E v).length : Int)) = ((b + (E v).length : Nat) : Int) := by omega
        rw [ea, eb]
        refine ⟨⟨by omega, by omega⟩, sp_10 q d (a + 1) (b + (E v).length) sl E M _ hq' (by omega) (by omega) hm (he.mono (by omega)) (by omega) ?_ (by omega) ?_ ?_⟩
        · intro u hu
          rw [tk_succ halt, List.mem_append, hv]
          rintro (h | h)
          · exact hf u hu h
          · rw [List.mem_singleton] at h; rw [h] at hu; exact hE hu
        · intro M2 E' r' hh he2 ho2
          exact tr_10_57 (by omega) ⟨fun z => absurd z (by decide), fun _ => hy M2 E' r' hh he2 ho2⟩
        · intro M2 hnil he2 ho2
          exact tr_10_57 (by omega) ⟨fun _ => hn M2 hnil he2 ho2, fun z => absurd rfl z⟩
      · rw [if_neg hp] at hL ⊢
        exact tr_10_37 (by omega) ⟨fun _ => hn M hL (fun u hu => ⟨(he u hu).1, fun _ => rfl⟩) pm_fr.rf, fun z => absurd rfl z⟩
end MTC

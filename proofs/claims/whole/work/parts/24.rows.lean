/-! ROWS: what a Row holds, and what its methods do to it -/
def pm_row (M : Nat → Nat → Int) (k : Nat) (xs : List Int) : Prop := M k 1 = (xs.length : Int) ∧ xs.length ≤ 24 ∧ ∀ j, j < xs.length → M (k + 1) j = xs.getD j 0
/-- nothing changed but the row at k -/
def pm_only (k : Nat) (M M' : Nat → Nat → Int) : Prop := ∀ a, a ≠ k → a ≠ k + 1 → M' a = M a
theorem pm_only.rf {k : Nat} {M : Nat → Nat → Int} : pm_only k M M := fun _ _ _ => rfl
theorem pm_only.tr {k : Nat} {M M1 M2 : Nat → Nat → Int} (h1 : pm_only k M M1) (h2 : pm_only k M1 M2) : pm_only k M M2 := fun a ha hb => (h2 a ha hb).trans (h1 a ha hb)
theorem pm_up_row {M : Nat → Nat → Int} {q j a : Nat} {x : Int} (h : a ≠ q) : pm_up M q j x a = M a := by
  funext b
  exact pm_up_ne (Or.inl h)
theorem pm_cp_row {M : Nat → Nat → Int} {q i q' i' n a : Nat} (h : a ≠ q') : pm_cp M q i q' i' n a = M a := by
  funext b
  exact pm_cp_ne (Or.inl h)
theorem pm_row.congr {M M' : Nat → Nat → Int} {k : Nat} {xs : List Int} (h : pm_row M k xs) (h1 : M' k = M k) (h2 : M' (k + 1) = M (k + 1)) : pm_row M' k xs := by
  obtain ⟨a, b, c⟩ := h
  exact ⟨by rw [h1]; exact a, b, fun j hj => by rw [h2]; exact c j hj⟩
theorem pm_row.only {M M' : Nat → Nat → Int} {k q : Nat} {xs : List Int} (h : pm_row M q xs) (ho : pm_only k M M') (h1 : q ≠ k) (h2 : q ≠ k + 1) (h3 : q + 1 ≠ k) : pm_row M' q xs := h.congr (ho q h1 h2) (ho (q + 1) h3 (by omega))
theorem pm_row.clear {M : Nat → Nat → Int} {k : Nat} : pm_row (pm_up M k 1 0) k [] := ⟨pm_up_eq, by decide, fun j hj => absurd hj (Nat.not_lt_zero j)⟩
theorem pm_only.clear {M : Nat → Nat → Int} {k : Nat} : pm_only k M (pm_up M k 1 0) := fun a ha _ => pm_up_row ha
theorem pm_row.add {M : Nat → Nat → Int} {k : Nat} {xs : List Int} (x : Int) (h : pm_row M k xs) (hl : xs.length < 24) : pm_row (pm_up (pm_up M (k + 1) (M k 1).toNat x) k 1 (M k 1 + 1)) k (xs ++ [x]) := by
  obtain ⟨a, b, c⟩ := h
  have hn : (M k 1).toNat = xs.length := by rw [a]; exact Int.toNat_natCast _
  refine ⟨?_, by rw [List.length_append]; simpa using hl, fun j hj => ?_⟩
  · rw [pm_up_eq, a, List.length_append]; simp
  · rw [pm_up_ne (Or.inl (by omega)), hn]
    rw [List.length_append] at hj
    by_cases h1 : j = xs.length
    · subst h1
      rw [pm_up_eq]
      simp
    · have h2 : j < xs.length := by simp at hj; omega
      rw [pm_up_ne (Or.inr h1), c j h2, List.getD_append _ _ _ _ h2]
theorem pm_only.add {M : Nat → Nat → Int} {k : Nat} {j : Nat} {x y : Int} : pm_only k M (pm_up (pm_up M (k + 1) j x) k 1 y) := fun a ha hb => (pm_up_row ha).trans (pm_up_row hb)
theorem pm_row.size {M : Nat → Nat → Int} {k : Nat} {xs : List Int} (h : pm_row M k xs) : M k 1 = (xs.length : Int) ∧ (M k 1).toNat = xs.length ∧ 0 ≤ M k 1 ∧ M k 1 ≤ 24 := by
  obtain ⟨a, b, -⟩ := h
  exact ⟨a, by rw [a]; exact Int.toNat_natCast _, by omega, by omega⟩
theorem pm_row.at {M : Nat → Nat → Int} {k j : Nat} {xs : List Int} (h : pm_row M k xs) (hj : j < xs.length) : M (k + 1) j = xs.getD j 0 := h.2.2 j hj
theorem pm_row.drop {M : Nat → Nat → Int} {k : Nat} {xs : List Int} (h : pm_row M k xs) (hl : 0 < xs.length) : pm_row (pm_up M k 1 (M k 1 - 1)) k xs.dropLast := by
  obtain ⟨a, b, c⟩ := h
  refine ⟨?_, by rw [List.length_dropLast]; omega, fun j hj => ?_⟩
  · rw [pm_up_eq, a, List.length_dropLast]; omega
  · rw [List.length_dropLast] at hj
    rw [pm_up_ne (Or.inl (by omega)), c j (by omega)]
    rw [List.getD_eq_getElem?_getD, List.getD_eq_getElem?_getD, List.getElem?_dropLast, if_pos hj]
theorem pm_row.put {M : Nat → Nat → Int} {k j : Nat} {xs : List Int} {x : Int} (h : pm_row M k xs) (hj : j < xs.length) : pm_row (pm_up M (k + 1) j x) k (xs.set j x) := by
  obtain ⟨a, b, c⟩ := h
  refine ⟨?_, by rw [List.length_set]; exact b, fun i hi => ?_⟩
  · rw [pm_up_ne (Or.inl (by omega)), a, List.length_set]
  · rw [List.length_set] at hi
    by_cases hij : i = j
    · subst hij
      rw [pm_up_eq, List.getD_eq_getElem?_getD, List.getElem?_set_self hj]
      rfl
    · rw [pm_up_ne (Or.inr hij), c i hi, List.getD_eq_getElem?_getD, List.getD_eq_getElem?_getD, List.getElem?_set_ne (Ne.symm hij)]
theorem pm_row.become {M : Nat → Nat → Int} {k q : Nat} {xs : List Int} (h : pm_row M q xs) (h3 : q + 1 ≠ k) : pm_row (pm_up (pm_cp M (q + 1) 0 (k + 1) 0 (M q 1).toNat) k 1 (M q 1)) k xs := by
  obtain ⟨a, b, c⟩ := h
  have hn : (M q 1).toNat = xs.length := by rw [a]; exact Int.toNat_natCast _
  refine ⟨by rw [pm_up_eq]; exact a, b, fun j hj => ?_⟩
  rw [pm_up_ne (Or.inl (by omega)), hn, pm_cp_in ⟨Nat.zero_le _, by omega⟩]
  rw [Nat.zero_add, Nat.sub_zero]
  exact c j hj
theorem pm_only.become {M : Nat → Nat → Int} {k q i i' n : Nat} {y : Int} : pm_only k M (pm_up (pm_cp M q i (k + 1) i' n) k 1 y) := fun a ha hb => (pm_up_row ha).trans (pm_cp_row hb)
section RWS
variable {d n : Nat} {kd : Nat → Nat} {M : Nat → Nat → Int} {Qr : Option pm_V → pm_Me → Prop} {Qx : Nat → pm_Me → Prop}
/-- becomeZeros -/
theorem sp_43 {k : Nat} {x : Nat} (hd : 2 ≤ d) (hx : x ≤ 24) (h : ∀ M', pm_row M' k (List.replicate x 0) → pm_only k M M' → Qr none (pm_m n kd M')) : pm_run d 43 [.inr (.inl (6, k)), .inl (x : Int)] (pm_m n kd M) Qr Qx := by
  obtain ⟨d, rfl⟩ := pm_ex1 (Nat.le_trans (by decide) hd)
  have loop : ∀ (c i : Nat) (M1 : Nat → Nat → Int), c + i = x → pm_row M1 k (List.replicate i 0) → pm_only k M M1 → pm_wq d 43 Qr Qx (6, [some (.inr (.inl (6, k))), some (.inl (x : Int)), some (.inl (i : Int))], [], pm_m n kd M1, 0, 0) := by
    intro c
    induction c with
    | zero =>
      intro i M1 hc hr ho
      have : i = x := by omega
      subst this
      exact tr_43_6 (by omega) ⟨fun _ => h M1 hr ho, fun z => by omega⟩
    | succ c ih =>
      intro i M1 hc hr ho
      have hl : (List.replicate i (0 : Int)).length = i := List.length_replicate
      have hs := hr.size
      rw [hl] at hs
      refine tr_43_6 (by omega) ⟨fun z => by omega, fun _ => ⟨⟨by omega, by omega⟩, ⟨by omega, by omega⟩, ?_⟩⟩
      have e : ((i : Int) + 1) = ((i + 1 : Nat) : Int) := by omega
      rw [e]
      have hr2 := hr.add 0 (by omega)
      rw [← List.replicate_succ'] at hr2
      exact ih (i + 1) _ (by omega) hr2 (ho.tr pm_only.add)
  exact tr_43 (by omega) (loop x 0 _ (by omega) pm_row.clear pm_only.clear)
/-- becomeReverse -/
theorem sp_44 {k q : Nat} {xs : List Int} (hd : 3 ≤ d) (hq : pm_row M q xs) (h1 : q ≠ k) (h2 : q ≠ k + 1) (h3 : q + 1 ≠ k) (h : ∀ M', pm_row M' k xs.reverse → pm_only k M M' → Qr none (pm_m n kd M')) : pm_run d 44 [.inr (.inl (6, k)), .inr (.inl (6, q))] (pm_m n kd M) Qr Qx := by
  obtain ⟨d, rfl⟩ := pm_ex1 (Nat.le_trans (by decide) hd)
  have loop : ∀ (i : Nat) (M1 : Nat → Nat → Int), i ≤ xs.length → pm_row M1 k (xs.drop i).reverse → pm_only k M M1 → pm_wq d 44 Qr Qx (11, [some (.inr (.inl (6, k))), some (.inr (.inl (6, q))), some (.inl ((i : Int) - 1))], [], pm_m n kd M1, 0, 0) := by
    intro i
    induction i with
    | zero =>
      intro M1 hi hr ho
      exact tr_44_11 (by omega) ⟨fun _ => h M1 (by simpa using hr) ho, fun z => by omega⟩
    | succ i ih =>
      intro M1 hi hr ho
      have hs := hr.size
      rw [List.length_reverse, List.length_drop] at hs
      have hq1 := hq.only ho h1 h2 h3
      have hs2 := hq1.size
      have e : ((i + 1 : Nat) : Int) - 1 = (i : Int) := by omega
      rw [e]
      refine tr_44_11 (by omega) ⟨fun z => by omega, fun _ => ⟨⟨by omega, by omega, by omega⟩, ⟨by omega, by omega⟩, ⟨by omega, by omega⟩, ?_⟩⟩
      refine ih _ (by omega) ?_ (ho.tr pm_only.add)
      have hr2 := hr.add (M1 (q + 1) (i : Int).toNat) (by rw [List.length_reverse, List.length_drop]; omega)
      rw [Int.toNat_natCast, hq1.at (by omega)] at hr2
      rw [Int.toNat_natCast, hq1.at (by omega)]
      have e2 : (xs.drop i).reverse = (xs.drop (i + 1)).reverse ++ [xs.getD i 0] := by
        rw [List.drop_eq_getElem_cons (show i < xs.length by omega), List.reverse_cons, List.getD_eq_getElem _ _ (show i < xs.length by omega)]
      rw [e2]
      exact hr2
  have hqs := (hq.only (M' := pm_up M k 1 0) pm_only.clear h1 h2 h3).size
  refine tr_44 (by omega) ⟨⟨by omega, by omega⟩, ?_⟩
  rw [hqs.1]
  exact loop xs.length _ (Nat.le_refl _) (by rw [List.drop_length]; exact pm_row.clear) pm_only.clear
/-- isSame -/
theorem sp_48 {k q : Nat} {xs ys : List Int} (hd : 1 ≤ d) (hk : pm_row M k xs) (hq : pm_row M q ys) (h : Qr (some (.inl (if xs = ys then 1 else 0))) (pm_m n kd M)) : pm_run d 48 [.inr (.inl (6, k)), .inr (.inl (6, q))] (pm_m n kd M) Qr Qx := by
  obtain ⟨d, rfl⟩ := pm_ex1 hd
  have hks := hk.size
  have hqs := hq.size
  refine tr_48 ⟨fun z => ?_, fun z => ?_⟩
  · have hlen : xs.length = ys.length := by omega
    have loop : ∀ (c i : Nat), c + i = xs.length → (∀ j, j < i → xs.getD j 0 = ys.getD j 0) → pm_wq d 48 Qr Qx (15, [some (.inr (.inl (6, k))), some (.inr (.inl (6, q))), some (.inl (i : Int))], [], pm_m n kd M, 0, 0) := by
      intro c
      induction c with
      | zero =>
        intro i hc hj
        refine tr_48_15 ⟨fun _ => ?_, fun z => by omega⟩
        have e : xs = ys := by
          apply List.ext_getElem hlen
          intro j h1 h2
          have := hj j (by omega)
          rwa [List.getD_eq_getElem _ _ h1, List.getD_eq_getElem _ _ h2] at this
        rw [if_pos e] at h
        exact h
      | succ c ih =>
        intro i hc hj
        refine tr_48_15 ⟨fun z => by omega, fun _ => ⟨⟨by omega, by omega⟩, ⟨by omega, by omega⟩, fun z => ⟨⟨by omega, by omega⟩, ?_⟩, fun z => ?_⟩⟩
        · rw [Int.toNat_natCast, hk.at (by omega), hq.at (by omega)] at z
          have e : ((i : Int) + 1) = ((i + 1 : Nat) : Int) := by omega
          rw [e]
          refine ih (i + 1) (by omega) (fun j hj2 => ?_)
          by_cases hji : j = i
          · rw [hji]; exact z
          · exact hj j (by omega)
        · rw [Int.toNat_natCast, hk.at (by omega), hq.at (by omega)] at z
          rw [if_neg (fun e => z (by rw [e]))] at h
          exact h
    exact loop xs.length 0 (by omega) (fun j hj => absurd hj (Nat.not_lt_zero j))
  · rw [if_neg (fun e => z (by rw [hks.1, hqs.1, e]))] at h
    exact h
/-- where x first stands; the length if it doesn't -/
def pm_ix : List Int → Int → Nat
  | [], _ => 0
  | y :: ys, x => if y = x then 0 else pm_ix ys x + 1
theorem pm_ix_at : ∀ {xs : List Int} {x : Int} {i : Nat}, i < xs.length → xs.getD i 0 = x → (∀ j, j < i → xs.getD j 0 ≠ x) → pm_ix xs x = i
  | [], _, _, h, _, _ => absurd h (Nat.not_lt_zero _)
  | y :: ys, x, 0, _, h, _ => by
    have h : y = x := h
    rw [pm_ix, if_pos h]
  | y :: ys, x, i + 1, hi, h, hj => by
    have h0 : y ≠ x := hj 0 (by omega)
    rw [pm_ix, if_neg h0, pm_ix_at (xs := ys) (x := x) (i := i) (by simpa using hi) h (fun j hj2 => hj (j + 1) (by omega))]
theorem pm_ix_no : ∀ {xs : List Int} {x : Int}, (∀ j, j < xs.length → xs.getD j 0 ≠ x) → pm_ix xs x = xs.length
  | [], _, _ => rfl
  | y :: ys, x, hj => by
    have h0 : y ≠ x := hj 0 (by simp)
    rw [pm_ix, if_neg h0, pm_ix_no (xs := ys) (x := x) (fun j hj2 => hj (j + 1) (by simpa using hj2))]
    rfl
/-- indexOf -/
theorem sp_49 {k : Nat} {x : Int} {xs : List Int} (hd : 1 ≤ d) (hk : pm_row M k xs) (h : Qr (some (.inl (pm_ix xs x : Int))) (pm_m n kd M)) : pm_run d 49 [.inr (.inl (6, k)), .inl x] (pm_m n kd M) Qr Qx := by
  obtain ⟨d, rfl⟩ := pm_ex1 hd
  have hks := hk.size
  have loop : ∀ (c i : Nat), c + i = xs.length → (∀ j, j < i → xs.getD j 0 ≠ x) → pm_wq d 49 Qr Qx (2, [some (.inr (.inl (6, k))), some (.inl x), some (.inl (i : Int))], [], pm_m n kd M, 0, 0) := by
    intro c
    induction c with
    | zero =>
      intro i hc hj
      refine tr_49_2 ⟨fun _ => ?_, fun z => by omega⟩
      rw [hks.1, ← pm_ix_no (xs := xs) (x := x) (fun j hj2 => hj j (by omega))]
      exact h
    | succ c ih =>
      intro i hc hj
      refine tr_49_2 ⟨fun z => by omega, fun _ => ⟨⟨by omega, by omega⟩, fun z => ⟨⟨by omega, by omega⟩, ?_⟩, fun z => ?_⟩⟩
      · rw [Int.toNat_natCast, hk.at (by omega)] at z
        have e : ((i : Int) + 1) = ((i + 1 : Nat) : Int) := by omega
        rw [e]
        refine ih (i + 1) (by omega) (fun j hj2 => ?_)
        by_cases hji : j = i
        · rw [hji]; exact z
        · exact hj j (by omega)
      · rw [Int.toNat_natCast, hk.at (by omega)] at z
        rw [← pm_ix_at (xs := xs) (x := x) (i := i) (by omega) (by omega) hj]
        exact h
  exact tr_49 (loop xs.length 0 (by omega) (fun j hj => absurd hj (Nat.not_lt_zero j)))
/-- countOf -/
theorem sp_50 {k : Nat} {x : Int} {xs : List Int} (hd : 1 ≤ d) (hk : pm_row M k xs) (h : Qr (some (.inl (xs.count x : Int))) (pm_m n kd M)) : pm_run d 50 [.inr (.inl (6, k)), .inl x] (pm_m n kd M) Qr Qx := by
  obtain ⟨d, rfl⟩ := pm_ex1 hd
  have hks := hk.size
  have loop : ∀ (c i : Nat), c + i = xs.length → pm_wq d 50 Qr Qx (4, [some (.inr (.inl (6, k))), some (.inl x), some (.inl ((xs.take i).count x : Int)), some (.inl (i : Int))], [], pm_m n kd M, 0, 0) := by
    intro c
    induction c with
    | zero =>
      intro i hc
      refine tr_50_4 ⟨fun _ => ?_, fun z => by omega⟩
      rw [List.take_of_length_le (by omega)]
      exact h
    | succ c ih =>
      intro i hc
      have hi : i < xs.length := by omega
      have ht : xs.take (i + 1) = xs.take i ++ [xs.getD i 0] := by
        rw [List.take_add_one, List.getD_eq_getElem _ _ hi, List.getElem?_eq_getElem hi]; rfl
      have hcl : (xs.take i).count x ≤ i := Nat.le_trans List.count_le_length (by rw [List.length_take]; omega)
      have e : ((i : Int) + 1) = ((i + 1 : Nat) : Int) := by omega
      refine tr_50_4 ⟨fun z => by omega, fun _ => ⟨⟨by omega, by omega⟩, fun z => ⟨⟨by omega, by omega⟩, ?_⟩, fun z => ⟨⟨by omega, by omega⟩, ⟨by omega, by omega⟩, ?_⟩⟩⟩
      · rw [Int.toNat_natCast, hk.at hi] at z
        have ih1 := ih (i + 1) (by omega)
        rw [ht, List.count_append, List.count_singleton, if_neg (by simpa using z), Nat.add_zero] at ih1
        rw [e]
        exact ih1
      · rw [Int.toNat_natCast, hk.at hi] at z
        have ih1 := ih (i + 1) (by omega)
        have z2 : xs.getD i 0 = x := Classical.not_not.mp z
        rw [ht, List.count_append, List.count_singleton, if_pos (by simpa using z2)] at ih1
        rw [e]
        have e3 : (((xs.take i).count x : Nat) : Int) + 1 = (((xs.take i).count x + 1 : Nat) : Int) := by omega
        rw [e3]
        exact ih1
  exact tr_50 (loop xs.length 0 (by omega))
end RWS

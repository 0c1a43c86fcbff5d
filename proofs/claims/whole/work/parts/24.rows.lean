/-! ROWS: what a Row holds, and what its methods do to it; frames; loops -/
/-- a loop that counts up to N -/
theorem pm_lp {α : Type} {N : Nat} {G : Nat → α → Prop} {I : Nat → α → Prop} (fin : ∀ a, I N a → G N a) (step : ∀ i a, i < N → I i a → (∀ a', I (i + 1) a' → G (i + 1) a') → G i a) : ∀ i a, i ≤ N → I i a → G i a := by
  have key : ∀ c i a, c + i = N → I i a → G i a := by
    intro c
    induction c with
    | zero => intro i a hc hI; have : i = N := by omega
              subst this; exact fin a hI
    | succ c ih => intro i a hc hI; exact step i a (by omega) hI (fun a' hI' => ih (i + 1) a' (by omega) hI')
  exact fun i a hi hI => key (N - i) i a (by omega) hI
theorem pm_lp2 {α β : Type} {N : Nat} {G : Nat → α → β → Prop} {I : Nat → α → β → Prop} (fin : ∀ a b, I N a b → G N a b) (step : ∀ i a b, i < N → I i a b → (∀ a' b', I (i + 1) a' b' → G (i + 1) a' b') → G i a b) : ∀ i a b, i ≤ N → I i a b → G i a b :=
  fun i a b hi hI => pm_lp (α := α × β) (G := fun i q => G i q.1 q.2) (I := fun i q => I i q.1 q.2) (fun q hq => fin q.1 q.2 hq) (fun i q hi hq ih => step i q.1 q.2 hi hq (fun a' b' h => ih (a', b') h)) i (a, b) hi hI
theorem pm_lp3 {α β γ : Type} {N : Nat} {G : Nat → α → β → γ → Prop} {I : Nat → α → β → γ → Prop} (fin : ∀ a b c, I N a b c → G N a b c) (step : ∀ i a b c, i < N → I i a b c → (∀ a' b' c', I (i + 1) a' b' c' → G (i + 1) a' b' c') → G i a b c) : ∀ i a b c, i ≤ N → I i a b c → G i a b c :=
  fun i a b c hi hI => pm_lp2 (α := α × β) (β := γ) (G := fun i q c => G i q.1 q.2 c) (I := fun i q c => I i q.1 q.2 c) (fun q c hq => fin q.1 q.2 c hq) (fun i q c hi hq ih => step i q.1 q.2 c hi hq (fun a' b' c' h => ih (a', b') c' h)) i (a, b) c hi hI
/-- nothing changed but the places from lo up to hi -/
def pm_fr (lo hi : Nat) (M M' : Nat → Nat → Int) : Prop := ∀ a, a < lo ∨ hi ≤ a → M' a = M a
theorem pm_fr.rf {lo hi : Nat} {M : Nat → Nat → Int} : pm_fr lo hi M M := fun _ _ => rfl
theorem pm_fr.tr {lo hi : Nat} {M M1 M2 : Nat → Nat → Int} (h1 : pm_fr lo hi M M1) (h2 : pm_fr lo hi M1 M2) : pm_fr lo hi M M2 := fun a ha => (h2 a ha).trans (h1 a ha)
theorem pm_fr.wd {lo hi lo' hi' : Nat} {M M1 : Nat → Nat → Int} (h : pm_fr lo hi M M1) (h1 : lo' ≤ lo) (h2 : hi ≤ hi') : pm_fr lo' hi' M M1 := fun a ha => h a (by omega)
theorem pm_up_row {M : Nat → Nat → Int} {q j a : Nat} {x : Int} (h : a ≠ q) : pm_up M q j x a = M a := by
  funext b
  exact pm_up_ne (Or.inl h)
theorem pm_cp_row {M : Nat → Nat → Int} {q i q' i' n a : Nat} (h : a ≠ q') : pm_cp M q i q' i' n a = M a := by
  funext b
  exact pm_cp_ne (Or.inl h)
theorem pm_fr.up {lo hi : Nat} {M M1 : Nat → Nat → Int} {q j : Nat} {x : Int} (h : pm_fr lo hi M M1) (h1 : lo ≤ q) (h2 : q < hi) : pm_fr lo hi M (pm_up M1 q j x) := fun a ha => (pm_up_row (by omega)).trans (h a ha)
theorem pm_fr.cp {lo hi : Nat} {M M1 : Nat → Nat → Int} {q i q' i' n : Nat} (h : pm_fr lo hi M M1) (h1 : lo ≤ q') (h2 : q' < hi) : pm_fr lo hi M (pm_cp M1 q i q' i' n) := fun a ha => (pm_cp_row (by omega)).trans (h a ha)
theorem pm_fr.at {lo hi : Nat} {M M1 : Nat → Nat → Int} {a b : Nat} (h : pm_fr lo hi M M1) (h1 : a < lo ∨ hi ≤ a) : M1 a b = M a b := by rw [h a h1]
theorem gd_eq {xs : List Nat} {j : Nat} (h : j < xs.length) : xs.getD j 0 = xs[j] := by
  rw [List.getD_eq_getElem?_getD, List.getElem?_eq_getElem h]; rfl
theorem gd_app {xs ys : List Nat} {j : Nat} (h : j < xs.length) : (xs ++ ys).getD j 0 = xs.getD j 0 := by
  rw [List.getD_eq_getElem?_getD, List.getD_eq_getElem?_getD, List.getElem?_append_left h]
theorem gd_last {xs : List Nat} {x : Nat} : (xs ++ [x]).getD xs.length 0 = x := by
  rw [List.getD_eq_getElem?_getD, List.getElem?_append_right (Nat.le_refl _)]; simp
theorem gd_take {xs : List Nat} {i j : Nat} (h : j < i) : (xs.take i).getD j 0 = xs.getD j 0 := by
  rw [List.getD_eq_getElem?_getD, List.getD_eq_getElem?_getD, List.getElem?_take, if_pos h]
theorem gd_drop {xs : List Nat} {i j : Nat} : (xs.drop i).getD j 0 = xs.getD (i + j) 0 := by
  rw [List.getD_eq_getElem?_getD, List.getD_eq_getElem?_getD, List.getElem?_drop]
theorem gd_mem {xs : List Nat} {j : Nat} (h : j < xs.length) : xs.getD j 0 ∈ xs := by rw [gd_eq h]; exact List.getElem_mem h
theorem gd_ext {xs ys : List Nat} (hl : xs.length = ys.length) (h : ∀ j, j < xs.length → xs.getD j 0 = ys.getD j 0) : xs = ys := by
  apply List.ext_getElem hl
  intro j h1 h2
  have := h j h1
  rwa [gd_eq h1, gd_eq h2] at this
theorem tk_succ {xs : List Nat} {i : Nat} (h : i < xs.length) : xs.take (i + 1) = xs.take i ++ [xs.getD i 0] := by
  rw [List.take_add_one, gd_eq h, List.getElem?_eq_getElem h]; rfl
theorem dr_cons {xs : List Nat} {i : Nat} (h : i < xs.length) : xs.drop i = xs.getD i 0 :: xs.drop (i + 1) := by
  rw [List.drop_eq_getElem_cons h, gd_eq h]
theorem gd_set_eq {xs : List Nat} {j x : Nat} (h : j < xs.length) : (xs.set j x).getD j 0 = x := by
  rw [List.getD_eq_getElem?_getD, List.getElem?_set_self h]; rfl
theorem gd_set_ne {xs : List Nat} {i j x : Nat} (h : i ≠ j) : (xs.set j x).getD i 0 = xs.getD i 0 := by
  rw [List.getD_eq_getElem?_getD, List.getD_eq_getElem?_getD, List.getElem?_set_ne (Ne.symm h)]
theorem tk_len {xs : List Nat} {i : Nat} (h : i ≤ xs.length) : (xs.take i).length = i := by rw [List.length_take]; omega
def pm_row (M : Nat → Nat → Int) (k : Nat) (xs : List Nat) : Prop := M k 1 = (xs.length : Int) ∧ xs.length ≤ 24 ∧ ∀ j, j < xs.length → M (k + 1) j = ((xs.getD j 0 : Nat) : Int)
theorem pm_row.congr {M M' : Nat → Nat → Int} {k : Nat} {xs : List Nat} (h : pm_row M k xs) (h1 : M' k = M k) (h2 : M' (k + 1) = M (k + 1)) : pm_row M' k xs := by
  obtain ⟨a, b, c⟩ := h
  exact ⟨by rw [h1]; exact a, b, fun j hj => by rw [h2]; exact c j hj⟩
theorem pm_row.fr {M M' : Nat → Nat → Int} {q lo hi : Nat} {xs : List Nat} (h : pm_row M q xs) (ho : pm_fr lo hi M M') (h1 : q + 1 < lo ∨ hi ≤ q) : pm_row M' q xs := h.congr (ho q (by omega)) (ho (q + 1) (by omega))
theorem pm_row.clear {M : Nat → Nat → Int} {k : Nat} : pm_row (pm_up M k 1 0) k [] := ⟨pm_up_eq, by decide, fun j hj => absurd hj (Nat.not_lt_zero j)⟩
theorem pm_row.size {M : Nat → Nat → Int} {k : Nat} {xs : List Nat} (h : pm_row M k xs) : M k 1 = (xs.length : Int) ∧ (M k 1).toNat = xs.length ∧ 0 ≤ M k 1 ∧ M k 1 ≤ 24 := by
  obtain ⟨a, b, -⟩ := h
  exact ⟨a, by rw [a]; exact Int.toNat_natCast _, by omega, by omega⟩
theorem pm_row.at {M : Nat → Nat → Int} {k j : Nat} {xs : List Nat} (h : pm_row M k xs) (hj : j < xs.length) : M (k + 1) j = ((xs.getD j 0 : Nat) : Int) := h.2.2 j hj
theorem pm_row.add {M : Nat → Nat → Int} {k : Nat} {xs : List Nat} {x : Int} (a : Nat) (hx : x = (a : Int)) (h : pm_row M k xs) (hl : xs.length < 24) : pm_row (pm_up (pm_up M (k + 1) (M k 1).toNat x) k 1 (M k 1 + 1)) k (xs ++ [a]) := by
  have hn := h.size
  obtain ⟨b, c, e⟩ := h
  refine ⟨?_, by rw [List.length_append, List.length_singleton]; omega, fun j hj => ?_⟩
  · rw [pm_up_eq, b, List.length_append]; simp
  · rw [pm_up_ne (Or.inl (by omega)), hn.2.1]
    rw [List.length_append, List.length_singleton] at hj
    by_cases h1 : j = xs.length
    · subst h1
      rw [pm_up_eq, gd_last, hx]
    · rw [pm_up_ne (Or.inr h1), e j (by omega), gd_app (by omega)]
theorem pm_row.drop {M : Nat → Nat → Int} {k : Nat} {xs : List Nat} (h : pm_row M k xs) (hl : 0 < xs.length) : pm_row (pm_up M k 1 (M k 1 - 1)) k xs.dropLast := by
  obtain ⟨a, b, c⟩ := h
  refine ⟨?_, by rw [List.length_dropLast]; omega, fun j hj => ?_⟩
  · rw [pm_up_eq, a, List.length_dropLast]; omega
  · rw [List.length_dropLast] at hj
    rw [pm_up_ne (Or.inl (by omega)), c j (by omega)]
    rw [List.getD_eq_getElem?_getD, List.getD_eq_getElem?_getD, List.getElem?_dropLast, if_pos hj]
theorem pm_row.put {M : Nat → Nat → Int} {k j a : Nat} {xs : List Nat} {x : Int} (h : pm_row M k xs) (hj : j < xs.length) (hx : x = (a : Int)) : pm_row (pm_up M (k + 1) j x) k (xs.set j a) := by
  obtain ⟨b, c, e⟩ := h
  refine ⟨?_, by rw [List.length_set]; exact c, fun i hi => ?_⟩
  · rw [pm_up_ne (Or.inl (by omega)), b, List.length_set]
  · rw [List.length_set] at hi
    by_cases hij : i = j
    · subst hij
      rw [pm_up_eq, gd_set_eq hj, hx]
    · rw [pm_up_ne (Or.inr hij), e i hi, gd_set_ne hij]
theorem pm_row.become {M : Nat → Nat → Int} {k q : Nat} {xs : List Nat} (h : pm_row M q xs) : pm_row (pm_up (pm_cp M (q + 1) 0 (k + 1) 0 (M q 1).toNat) k 1 (M q 1)) k xs := by
  have hn := h.size
  obtain ⟨a, b, c⟩ := h
  refine ⟨by rw [pm_up_eq]; exact a, b, fun j hj => ?_⟩
  rw [pm_up_ne (Or.inl (by omega)), hn.2.1, pm_cp_in ⟨Nat.zero_le _, by omega⟩]
  rw [Nat.zero_add, Nat.sub_zero]
  exact c j hj
/-- bits of small sets -/
theorem pm_or_small : ∀ x, x < 32 → ∀ v, v < 5 → pm_or (x : Nat) (pm_shl 1 (v : Nat)) = ((x ||| 2 ^ v : Nat) : Int) := by decide +kernel
theorem pm_or_lt : ∀ x, x < 32 → ∀ v, v < 5 → (x ||| 2 ^ v) < 32 := by decide +kernel
theorem pm_holds : ∀ x, x < 32 → ∀ v, v < 5 → ((0 ≤ ((v : Nat) : Int) ∧ ((v : Nat) : Int) < 5 ∧ pm_and (x : Nat) (pm_shl 1 (v : Nat)) ≠ 0) ↔ x.testBit v = true) := by decide +kernel
def pm_mem (xs : List Nat) : Nat := xs.foldl (fun s v => s ||| 2 ^ v) 0
theorem pm_mem_snoc {xs : List Nat} {v : Nat} : pm_mem (xs ++ [v]) = pm_mem xs ||| 2 ^ v := by
  unfold pm_mem
  rw [List.foldl_append]
  rfl
theorem pm_mem_lt {xs : List Nat} (h : ∀ v ∈ xs, v < 5) : ∀ i, i ≤ xs.length → pm_mem (xs.take i) < 32 := by
  intro i
  induction i with
  | zero => intro _; rw [List.take_zero]; decide
  | succ i ih => intro hi; rw [tk_succ (by omega), pm_mem_snoc]; exact pm_or_lt _ (ih (by omega)) _ (h _ (gd_mem (by omega)))
theorem pm_mem_lt' {xs : List Nat} (h : ∀ v ∈ xs, v < 5) : pm_mem xs < 32 := by
  have := pm_mem_lt h xs.length (Nat.le_refl _)
  rwa [List.take_length] at this
/-- where x first stands; the length if it doesn't -/
def pm_ix : List Nat → Nat → Nat
  | [], _ => 0
  | y :: ys, x => if y = x then 0 else pm_ix ys x + 1
theorem pm_ix_at : ∀ {xs : List Nat} {x : Nat} {i : Nat}, i < xs.length → xs.getD i 0 = x → (∀ j, j < i → xs.getD j 0 ≠ x) → pm_ix xs x = i
  | [], _, _, h, _, _ => absurd h (Nat.not_lt_zero _)
  | y :: ys, x, 0, _, h, _ => by
    have h : y = x := h
    rw [pm_ix, if_pos h]
  | y :: ys, x, i + 1, hi, h, hj => by
    have h0 : y ≠ x := hj 0 (by omega)
    rw [pm_ix, if_neg h0, pm_ix_at (xs := ys) (x := x) (i := i) (by simpa using hi) h (fun j hj2 => hj (j + 1) (by omega))]
theorem pm_ix_no : ∀ {xs : List Nat} {x : Nat}, (∀ j, j < xs.length → xs.getD j 0 ≠ x) → pm_ix xs x = xs.length
  | [], _, _ => rfl
  | y :: ys, x, hj => by
    have h0 : y ≠ x := hj 0 (by simp)
    rw [pm_ix, if_neg h0, pm_ix_no (xs := ys) (x := x) (fun j hj2 => hj (j + 1) (by simpa using hj2))]
    rfl
theorem pm_ix_le : ∀ {xs : List Nat} {x : Nat}, pm_ix xs x ≤ xs.length
  | [], _ => Nat.le_refl _
  | y :: ys, x => by
    rw [pm_ix]
    split
    · exact Nat.zero_le _
    · exact Nat.succ_le_succ pm_ix_le
theorem pm_ix_mem : ∀ {xs : List Nat} {x : Nat}, x ∈ xs → pm_ix xs x < xs.length ∧ xs.getD (pm_ix xs x) 0 = x
  | y :: ys, x, h => by
    rw [pm_ix]
    split
    · exact ⟨Nat.succ_pos _, by assumption⟩
    · next hne =>
      rcases List.mem_cons.mp h with h | h
      · exact absurd h.symm hne
      · exact ⟨Nat.succ_lt_succ (pm_ix_mem h).1, (pm_ix_mem h).2⟩
theorem pm_ix_app : ∀ {xs ys : List Nat} {x : Nat}, x ∈ xs → pm_ix (xs ++ ys) x = pm_ix xs x
  | y :: ys, zs, x, h => by
    rw [List.cons_append, pm_ix, pm_ix]
    split
    · rfl
    · next hne =>
      rcases List.mem_cons.mp h with h | h
      · exact absurd h.symm hne
      · rw [pm_ix_app h]
theorem pm_ix_new : ∀ {xs : List Nat} {x : Nat}, x ∉ xs → pm_ix xs x = xs.length
  | [], _, _ => rfl
  | y :: ys, x, h => by
    rw [pm_ix, if_neg (fun z => h (by rw [z]; exact List.mem_cons_self)), pm_ix_new (fun z => h (List.mem_cons_of_mem _ z))]
    rfl
section RWS
variable {d n : Nat} {kd : Nat → Nat} {M : Nat → Nat → Int} {Qr : Option pm_V → pm_Me → Prop} {Qx : Nat → pm_Me → Prop}
/-- become -/
theorem sq_42 {k q : Nat} {xs : List Nat} (hd : 1 ≤ d) (hq : pm_row M q xs) (h1 : q ≠ k) (h2 : q ≠ k + 1) (h : ∀ M', pm_row M' k xs → pm_fr k (k + 2) M M' → Qr none (pm_m n kd M')) : pm_run d 42 [.inr (.inl (6, k)), .inr (.inl (6, q))] (pm_m n kd M) Qr Qx := by
  have hs := hq.size
  exact sp_42 hd ⟨by omega, by omega, h1, h2⟩ (h _ hq.become ((pm_fr.cp pm_fr.rf (by omega) (by omega)).up (by omega) (by omega)))
/-- becomeZeros -/
theorem sp_43 {k : Nat} {x : Nat} (hd : 2 ≤ d) (hx : x ≤ 24) (h : ∀ M', pm_row M' k (List.replicate x 0) → pm_fr k (k + 2) M M' → Qr none (pm_m n kd M')) : pm_run d 43 [.inr (.inl (6, k)), .inl (x : Int)] (pm_m n kd M) Qr Qx := by
  obtain ⟨d, rfl⟩ := pm_ex1 (Nat.le_trans (by decide) hd)
  refine tr_43 (by omega) (pm_lp (N := x) (G := fun i M1 => pm_wq d 43 Qr Qx (6, [some (.inr (.inl (6, k))), some (.inl (x : Int)), some (.inl (i : Int))], [], pm_m n kd M1, 0, 0)) (I := fun i M1 => pm_row M1 k (List.replicate i 0) ∧ pm_fr k (k + 2) M M1) ?_ ?_ 0 _ (Nat.zero_le _) ⟨pm_row.clear, pm_fr.rf.up (by omega) (by omega)⟩)
  · intro M1 ⟨hr, ho⟩
    exact tr_43_6 (by omega) ⟨fun _ => h M1 hr ho, fun z => by omega⟩
  · intro i M1 hi ⟨hr, ho⟩ ih
    have hl : (List.replicate i (0 : Nat)).length = i := List.length_replicate
    have hs := hr.size
    rw [hl] at hs
    refine tr_43_6 (by omega) ⟨fun z => by omega, fun _ => ⟨⟨by omega, by omega⟩, ⟨by omega, by omega⟩, ?_⟩⟩
    have hr2 := hr.add 0 rfl (by omega)
    rw [← List.replicate_succ'] at hr2
    exact ih _ ⟨hr2, (ho.up (by omega) (by omega)).up (by omega) (by omega)⟩
/-- becomeReverse -/
theorem sp_44 {k q : Nat} {xs : List Nat} (hd : 3 ≤ d) (hq : pm_row M q xs) (h1 : q + 1 < k ∨ k + 2 ≤ q) (h : ∀ M', pm_row M' k xs.reverse → pm_fr k (k + 2) M M' → Qr none (pm_m n kd M')) : pm_run d 44 [.inr (.inl (6, k)), .inr (.inl (6, q))] (pm_m n kd M) Qr Qx := by
  obtain ⟨d, rfl⟩ := pm_ex1 (Nat.le_trans (by decide) hd)
  have loop : ∀ (i : Nat) (M1 : Nat → Nat → Int), i ≤ xs.length → pm_row M1 k (xs.drop i).reverse → pm_fr k (k + 2) M M1 → pm_wq d 44 Qr Qx (11, [some (.inr (.inl (6, k))), some (.inr (.inl (6, q))), some (.inl ((i : Int) - 1))], [], pm_m n kd M1, 0, 0) := by
    intro i
    induction i with
    | zero =>
      intro M1 hi hr ho
      exact tr_44_11 (by omega) ⟨fun _ => h M1 (by simpa using hr) ho, fun z => by omega⟩
    | succ i ih =>
      intro M1 hi hr ho
      have hs := hr.size
      rw [List.length_reverse, List.length_drop] at hs
      have hq1 := hq.fr ho h1
      have hs2 := hq1.size
      have e : ((i + 1 : Nat) : Int) - 1 = (i : Int) := by omega
      rw [e]
      refine tr_44_11 (by omega) ⟨fun z => by omega, fun _ => ⟨⟨by omega, by omega, by omega⟩, ⟨by omega, by omega⟩, ⟨by omega, by omega⟩, ?_⟩⟩
      refine ih _ (by omega) ?_ ((ho.up (by omega) (by omega)).up (by omega) (by omega))
      rw [dr_cons (show i < xs.length by omega), List.reverse_cons]
      exact hr.add _ (by rw [Int.toNat_natCast, hq1.at (by omega)]) (by rw [List.length_reverse, List.length_drop]; omega)
  have ho : pm_fr k (k + 2) M (pm_up M k 1 0) := pm_fr.rf.up (by omega) (by omega)
  have hqs := (hq.fr ho h1).size
  refine tr_44 (by omega) ⟨⟨by omega, by omega⟩, ?_⟩
  rw [hqs.1]
  exact loop xs.length _ (Nat.le_refl _) (by rw [List.drop_length]; exact pm_row.clear) ho
/-- isSame -/
theorem sp_48 {k q : Nat} {xs ys : List Nat} (hd : 1 ≤ d) (hk : pm_row M k xs) (hq : pm_row M q ys) (h : Qr (some (.inl (if xs = ys then 1 else 0))) (pm_m n kd M)) : pm_run d 48 [.inr (.inl (6, k)), .inr (.inl (6, q))] (pm_m n kd M) Qr Qx := by
  obtain ⟨d, rfl⟩ := pm_ex1 hd
  have hks := hk.size
  have hqs := hq.size
  refine tr_48 ⟨fun z => ?_, fun z => ?_⟩
  · have hlen : xs.length = ys.length := by omega
    refine pm_lp (α := Unit) (N := xs.length) (G := fun i _ => pm_wq d 48 Qr Qx (15, [some (.inr (.inl (6, k))), some (.inr (.inl (6, q))), some (.inl (i : Int))], [], pm_m n kd M, 0, 0)) (I := fun i _ => ∀ j, j < i → xs.getD j 0 = ys.getD j 0) ?_ ?_ 0 () (Nat.zero_le _) (fun j hj => absurd hj (Nat.not_lt_zero j))
    · intro _ hj
      refine tr_48_15 ⟨fun _ => ?_, fun z => by omega⟩
      rw [if_pos (gd_ext hlen hj)] at h
      exact h
    · intro i _ hi hj ih
      refine tr_48_15 ⟨fun z => by omega, fun _ => ⟨⟨by omega, by omega⟩, ⟨by omega, by omega⟩, fun z => ⟨⟨by omega, by omega⟩, ?_⟩, fun z => ?_⟩⟩
      · rw [Int.toNat_natCast, hk.at hi, hq.at (by omega)] at z
        refine ih () (fun j hj2 => ?_)
        by_cases hji : j = i
        · rw [hji]; omega
        · exact hj j (by omega)
      · rw [Int.toNat_natCast, hk.at hi, hq.at (by omega)] at z
        rw [if_neg (fun e => z (by rw [e]))] at h
        exact h
  · rw [if_neg (fun e => z (by rw [hks.1, hqs.1, e]))] at h
    exact h
/-- indexOf -/
theorem sp_49 {k x : Nat} {xs : List Nat} (hd : 1 ≤ d) (hk : pm_row M k xs) (h : Qr (some (.inl (pm_ix xs x : Int))) (pm_m n kd M)) : pm_run d 49 [.inr (.inl (6, k)), .inl (x : Int)] (pm_m n kd M) Qr Qx := by
  obtain ⟨d, rfl⟩ := pm_ex1 hd
  have hks := hk.size
  refine tr_49 (pm_lp (α := Unit) (N := xs.length) (G := fun i _ => pm_wq d 49 Qr Qx (2, [some (.inr (.inl (6, k))), some (.inl (x : Int)), some (.inl (i : Int))], [], pm_m n kd M, 0, 0)) (I := fun i _ => ∀ j, j < i → xs.getD j 0 ≠ x) ?_ ?_ 0 () (Nat.zero_le _) (fun j hj => absurd hj (Nat.not_lt_zero j)))
  · intro _ hj
    refine tr_49_2 ⟨fun _ => ?_, fun z => by omega⟩
    rw [hks.1, ← pm_ix_no hj]
    exact h
  · intro i _ hi hj ih
    refine tr_49_2 ⟨fun z => by omega, fun _ => ⟨⟨by omega, by omega⟩, fun z => ⟨⟨by omega, by omega⟩, ?_⟩, fun z => ?_⟩⟩
    · rw [Int.toNat_natCast, hk.at hi] at z
      refine ih () (fun j hj2 => ?_)
      by_cases hji : j = i
      · rw [hji]; omega
      · exact hj j (by omega)
    · rw [Int.toNat_natCast, hk.at hi] at z
      rw [← pm_ix_at (xs := xs) (x := x) (i := i) hi (by omega) hj]
      exact h
/-- countOf -/
theorem sp_50 {k x : Nat} {xs : List Nat} (hd : 1 ≤ d) (hk : pm_row M k xs) (h : Qr (some (.inl (xs.count x : Int))) (pm_m n kd M)) : pm_run d 50 [.inr (.inl (6, k)), .inl (x : Int)] (pm_m n kd M) Qr Qx := by
  obtain ⟨d, rfl⟩ := pm_ex1 hd
  have hks := hk.size
  refine tr_50 (pm_lp (α := Nat) (N := xs.length) (G := fun i c => pm_wq d 50 Qr Qx (4, [some (.inr (.inl (6, k))), some (.inl (x : Int)), some (.inl (c : Int)), some (.inl (i : Int))], [], pm_m n kd M, 0, 0)) (I := fun i c => c = (xs.take i).count x) ?_ ?_ 0 0 (Nat.zero_le _) rfl)
  · intro c hc
    refine tr_50_4 ⟨fun _ => ?_, fun z => by omega⟩
    rw [hc, List.take_length]
    exact h
  · intro i c hi hc ih
    have hcl : c ≤ i := by rw [hc]; exact Nat.le_trans List.count_le_length (by rw [List.length_take]; omega)
    refine tr_50_4 ⟨fun z => by omega, fun _ => ⟨⟨by omega, by omega⟩, fun z => ⟨⟨by omega, by omega⟩, ?_⟩, fun z => ⟨⟨by omega, by omega⟩, ⟨by omega, by omega⟩, ?_⟩⟩⟩
    · rw [Int.toNat_natCast, hk.at hi] at z
      refine ih c ?_
      rw [tk_succ hi, List.count_append, List.count_singleton, if_neg (by rw [beq_iff_eq]; omega), Nat.add_zero]
      exact hc
    · rw [Int.toNat_natCast, hk.at hi] at z
      refine ih (c + 1) ?_
      rw [tk_succ hi, List.count_append, List.count_singleton, if_pos (by rw [beq_iff_eq]; omega), hc]
/-- members -/
theorem sp_51 {k : Nat} {xs : List Nat} (hd : 2 ≤ d) (hk : pm_row M k xs) (h5 : ∀ v ∈ xs, v < 5) (h : Qr (some (.inl (pm_mem xs : Int))) (pm_m n kd M)) : pm_run d 51 [.inr (.inl (6, k))] (pm_m n kd M) Qr Qx := by
  obtain ⟨d, rfl⟩ := pm_ex1 (Nat.le_trans (by decide) hd)
  have hks := hk.size
  refine tr_51 (by omega) (pm_lp (α := Nat) (N := xs.length) (G := fun i c => pm_wq d 51 Qr Qx (4, [some (.inr (.inl (6, k))), some (.inl (c : Int)), some (.inl (i : Int))], [], pm_m n kd M, 0, 0)) (I := fun i c => c = pm_mem (xs.take i)) ?_ ?_ 0 0 (Nat.zero_le _) rfl)
  · intro c hc
    refine tr_51_4 (by omega) ⟨fun _ => ?_, fun z => by omega⟩
    rw [hc, List.take_length]
    exact h
  · intro i c hi hc ih
    have hv := h5 _ (gd_mem hi)
    refine tr_51_4 (by omega) ⟨fun z => by omega, fun _ => ⟨⟨by omega, by omega⟩, ?_⟩⟩
    rw [Int.toNat_natCast, hk.at hi]
    refine ⟨fun _ => ⟨⟨by omega, by omega⟩, ⟨by omega, by omega⟩, ?_⟩, fun z => by omega⟩
    rw [pm_or_small c (by rw [hc]; exact pm_mem_lt h5 i (by omega)) _ (h5 _ (gd_mem hi))]
    refine ih _ ?_
    rw [tk_succ hi, pm_mem_snoc, hc]
/-- removeAll -/
theorem sp_47 {k s : Nat} {xs : List Nat} (hd : 3 ≤ d) (hk : pm_row M k xs) (h5 : ∀ v ∈ xs, v < 5) (hs : s < 32) (h : ∀ M', pm_row M' k (xs.filter fun v => !s.testBit v) → pm_fr k (k + 2) M M' → Qr none (pm_m n kd M')) : pm_run d 47 [.inr (.inl (6, k)), .inl (s : Int)] (pm_m n kd M) Qr Qx := by
  obtain ⟨d, rfl⟩ := pm_ex1 (Nat.le_trans (by decide) hd)
  have hks := hk.size
  refine tr_47 (by omega) (pm_lp2 (N := xs.length) (G := fun i M1 (c : Nat) => pm_wq d 47 Qr Qx (4, [some (.inr (.inl (6, k))), some (.inl (s : Int)), some (.inl (c : Int)), some (.inl (i : Int))], [], pm_m n kd M1, 0, 0)) (I := fun i M1 c => c = ((xs.take i).filter fun v => !s.testBit v).length ∧ c ≤ i ∧ M1 k 1 = M k 1 ∧ (∀ j, j < c → M1 (k + 1) j = ((((xs.take i).filter fun v => !s.testBit v).getD j 0 : Nat) : Int)) ∧ (∀ j, i ≤ j → M1 (k + 1) j = M (k + 1) j) ∧ pm_fr k (k + 2) M M1) ?_ ?_ 0 M 0 (Nat.zero_le _) ⟨rfl, Nat.le_refl _, rfl, fun j hj => absurd hj (Nat.not_lt_zero j), fun _ _ => rfl, pm_fr.rf⟩)
  · intro M1 c ⟨hc, hle, h1, hf, hg, ho⟩
    refine tr_47_4 (by omega) ⟨fun _ => ?_, fun z => by omega⟩
    rw [List.take_length] at hc hf
    refine h _ ⟨?_, ?_, fun j hj => ?_⟩ (ho.up (by omega) (by omega))
    · rw [pm_up_eq, hc]
    · rw [← hc]; omega
    · rw [pm_up_ne (Or.inl (by omega)), hf j (by omega)]
  · intro i M1 c hi ⟨hc, hle, h1, hf, hg, ho⟩ ih
    have hat : M1 (k + 1) i = ((xs.getD i 0 : Nat) : Int) := (hg i (Nat.le_refl _)).trans (hk.at hi)
    have hv := h5 _ (gd_mem hi)
    refine tr_47_4 (by omega) ⟨fun z => by omega, fun _ => ⟨⟨by omega, by omega⟩, fun z => ⟨⟨by omega, by omega⟩, ?_⟩, fun z => ⟨⟨by omega, by omega⟩, ⟨by omega, by omega⟩, ⟨by omega, by omega⟩, ⟨by omega, by omega⟩, ?_⟩⟩⟩
    · rw [Int.toNat_natCast, hat, pm_holds s hs _ hv] at z
      have e : ((xs.take (i + 1)).filter fun v => !s.testBit v) = ((xs.take i).filter fun v => !s.testBit v) := by
        rw [tk_succ hi, List.filter_append, List.filter_cons, z]; simp
      refine ih M1 c ⟨by rw [e]; exact hc, by omega, h1, fun j hj => by rw [e]; exact hf j hj, fun j hj => hg j (by omega), ho⟩
    · rw [Int.toNat_natCast, hat, pm_holds s hs _ hv] at z
      have z2 : s.testBit (xs.getD i 0) = false := by
        cases hb : s.testBit (xs.getD i 0)
        · rfl
        · exact absurd hb z
      have e : ((xs.take (i + 1)).filter fun v => !s.testBit v) = ((xs.take i).filter fun v => !s.testBit v) ++ [xs.getD i 0] := by
        rw [tk_succ hi, List.filter_append, List.filter_cons, z2]; simp
      rw [Int.toNat_natCast, Int.toNat_natCast]
      refine ih (pm_up M1 (k + 1) c (M1 (k + 1) i)) (c + 1) ⟨?_, by omega, ?_, ?_, ?_, ho.up (by omega) (by omega)⟩
      · rw [e, List.length_append, List.length_singleton]; exact congrArg (· + 1) hc
      · exact (pm_up_ne (Or.inl (by omega))).trans h1
      · intro j hj
        rw [e]
        by_cases hjc : j = c
        · subst hjc
          rw [pm_up_eq, hat]
          conv => rhs; rw [hc]
          rw [gd_last]
        · rw [pm_up_ne (Or.inr hjc), hf j (by omega), gd_app (by omega)]
      · intro j hj
        exact (pm_up_ne (Or.inr (by omega))).trans (hg j (by omega))
end RWS

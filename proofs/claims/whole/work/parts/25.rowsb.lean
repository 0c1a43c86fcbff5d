/-! Rows: canonical names, Zimin words -/
def pm_sn (xs : List Nat) : List Nat := xs.foldl (fun s v => if v ∈ s then s else s ++ [v]) []
theorem pm_sn_snoc {xs : List Nat} {v : Nat} : pm_sn (xs ++ [v]) = if v ∈ pm_sn xs then pm_sn xs else pm_sn xs ++ [v] := by
  unfold pm_sn
  rw [List.foldl_append]
  rfl
theorem pm_sn_take {xs : List Nat} : ∀ i, i ≤ xs.length → ∀ v, (v ∈ pm_sn (xs.take i) ↔ v ∈ xs.take i) := by
  intro i
  induction i with
  | zero => intro _ v; simp [pm_sn]
  | succ i ih =>
    intro hi v
    rw [tk_succ (by omega), pm_sn_snoc]
    split
    · next hm =>
      rw [ih (by omega) v, List.mem_append]
      have hm2 := (ih (by omega) _).mp hm
      constructor
      · exact Or.inl
      · rintro (h | h)
        · exact h
        · rw [List.mem_singleton] at h; rw [h]; exact hm2
    · rw [List.mem_append, List.mem_append, ih (by omega) v]
theorem pm_sn_mem {xs : List Nat} {v : Nat} : v ∈ pm_sn xs ↔ v ∈ xs := by
  have := @pm_sn_take xs xs.length (Nat.le_refl _) v
  rwa [List.take_length] at this
theorem pm_sn_len {xs : List Nat} : (pm_sn xs).length ≤ xs.length := by
  have key : ∀ i, i ≤ xs.length → (pm_sn (xs.take i)).length ≤ i := by
    intro i
    induction i with
    | zero => intro _; simp [pm_sn]
    | succ i ih =>
      intro hi
      rw [tk_succ (by omega), pm_sn_snoc]
      have := ih (by omega)
      split
      · omega
      · rw [List.length_append, List.length_singleton]; omega
  have := key xs.length (Nat.le_refl _)
  rwa [List.take_length] at this
def pm_cn (xs : List Nat) : List Nat := xs.map (pm_ix (pm_sn xs))
theorem pm_cn_old {xs : List Nat} {v : Nat} (h : v ∈ xs) : pm_cn (xs ++ [v]) = pm_cn xs ++ [pm_ix (pm_sn xs) v] := by
  unfold pm_cn
  rw [pm_sn_snoc, if_pos (pm_sn_mem.mpr h), List.map_append]
  rfl
theorem pm_cn_new {xs : List Nat} {v : Nat} (h : v ∉ xs) : pm_cn (xs ++ [v]) = pm_cn xs ++ [(pm_sn xs).length] := by
  have hn : v ∉ pm_sn xs := fun z => h (pm_sn_mem.mp z)
  unfold pm_cn
  rw [pm_sn_snoc, if_neg hn, List.map_append]
  congr 1
  · apply List.map_congr_left
    intro a ha
    exact pm_ix_app (pm_sn_mem.mpr ha)
  · have e : pm_ix (pm_sn xs ++ [v]) v = (pm_sn xs).length := pm_ix_at (by simp) gd_last (fun j hj => by
      rw [gd_app hj]
      intro z
      exact hn (by rw [← z]; exact gd_mem hj))
    rw [List.map_cons, e]
    rfl
theorem gd_map {xs : List Nat} {f : Nat → Nat} {j : Nat} (h : j < xs.length) : (xs.map f).getD j 0 = f (xs.getD j 0) := by
  rw [gd_eq (by rw [List.length_map]; exact h), gd_eq h, List.getElem_map]
def pm_zm : Nat → List Nat
  | 0 => []
  | n + 1 => pm_zm n ++ n :: pm_zm n
theorem pm_zm_len : ∀ n, n ≤ 4 → (pm_zm n).length = 2 ^ n - 1 := by decide +kernel
theorem pm_zm_lt : ∀ n, n ≤ 4 → ∀ v ∈ pm_zm n, v < 4 := by decide +kernel
section RWB
variable {d n : Nat} {kd : Nat → Nat} {M : Nat → Nat → Int} {Qr : Option pm_V → pm_Me → Prop} {Qx : Nat → pm_Me → Prop}
/-- becomeCanonical -/
theorem sp_45 {k q : Nat} {xs : List Nat} (hd : 3 ≤ d) (hq : pm_row M q xs) (h1 : q + 1 < k ∨ k + 2 ≤ q) (h : ∀ M', pm_row M' k (pm_cn xs) → pm_fr k (k + 2) M M' → Qr none (pm_m n kd M')) : pm_run d 45 [.inr (.inl (6, k)), .inr (.inl (6, q))] (pm_m n kd M) (Qr) Qx := by
  obtain ⟨d, rfl⟩ := pm_ex1 (Nat.le_trans (by decide) hd)
  refine tr_45 (by omega) (pm_lp2 (N := xs.length) (G := fun i M1 (c : Nat) => pm_wq d 45 Qr Qx (8, [some (.inr (.inl (6, k))), some (.inr (.inl (6, q))), some (.inl (c : Int)), some (.inl (i : Int)), none], [], pm_m n kd M1, 0, 0)) (I := fun i M1 c => pm_row M1 k (pm_cn (xs.take i)) ∧ c = (pm_sn (xs.take i)).length ∧ pm_fr k (k + 2) M M1) ?_ ?_ 0 _ 0 (Nat.zero_le _) ⟨pm_row.clear, rfl, pm_fr.rf.up (by omega) (by omega)⟩)
  · intro M1 c ⟨hr, hc, ho⟩
    have hs := (hq.fr ho h1).size
    rw [List.take_length] at hr
    exact tr_45_8 (by omega) ⟨fun _ => h M1 hr ho, fun z => by omega⟩
  · intro i M1 c hi ⟨hr, hc, ho⟩ ih
    have hq1 := hq.fr ho h1
    have hs := hq1.size
    have hrs := hr.size
    have hl : (pm_cn (xs.take i)).length = i := by rw [pm_cn, List.length_map, tk_len (by omega)]
    rw [hl] at hrs
    have hcl : c ≤ i := by rw [hc]; exact Nat.le_trans pm_sn_len (by rw [tk_len (by omega)]; exact Nat.le_refl _)
    refine tr_45_8 (by omega) ⟨fun z => by omega, fun _ => ⟨⟨by omega, by omega, by omega⟩, ?_⟩⟩
    rw [Int.toNat_natCast, hq1.at hi]
    refine sp_49 (by omega) hq1 ?_
    have hmem := @pm_ix_mem xs (xs.getD i 0) (gd_mem hi)
    have hin : xs.getD i 0 ∈ xs.take i ↔ pm_ix xs (xs.getD i 0) < i := by
      constructor
      · intro hm
        have e : pm_ix (xs.take i ++ xs.drop i) (xs.getD i 0) = pm_ix (xs.take i) (xs.getD i 0) := pm_ix_app hm
        rw [List.take_append_drop] at e
        have := (pm_ix_mem hm).1
        rw [tk_len (by omega)] at this
        omega
      · intro hlt
        have := @gd_mem (xs.take i) (pm_ix xs (xs.getD i 0)) (by rw [tk_len (by omega)]; exact hlt)
        rwa [gd_take hlt, hmem.2] at this
    refine tr_45_25 (by omega) ⟨fun z => ⟨⟨by omega, by omega⟩, ⟨by omega, by omega⟩, ⟨by omega, by omega⟩, ?_⟩, fun z => ⟨⟨by omega, by omega, by omega⟩, ⟨by omega, by omega⟩, ⟨by omega, by omega⟩, ?_⟩⟩
    · have hnm : xs.getD i 0 ∉ xs.take i := fun z2 => by have := hin.mp z2; omega
      refine ih _ (c + 1) ⟨?_, ?_, (ho.up (by omega) (by omega)).up (by omega) (by omega)⟩
      · rw [tk_succ hi, pm_cn_new hnm]
        exact hr.add _ (by rw [hc]) (by omega)
      · rw [tk_succ hi, pm_sn_snoc, if_neg (fun z2 => hnm (pm_sn_mem.mp z2)), List.length_append, hc]; rfl
    · have hm : xs.getD i 0 ∈ xs.take i := hin.mpr (by omega)
      refine ih _ c ⟨?_, ?_, (ho.up (by omega) (by omega)).up (by omega) (by omega)⟩
      · rw [tk_succ hi, pm_cn_old hm]
        refine hr.add _ ?_ (by omega)
        rw [Int.toNat_natCast, hr.at (by omega), pm_cn, gd_map (by rw [tk_len (by omega)]; omega), gd_take (by omega), hmem.2]
      · rw [tk_succ hi, pm_sn_snoc, if_pos (pm_sn_mem.mpr hm), hc]
/-- becomeZimin -/
theorem sp_46 {k x : Nat} (hd : 3 ≤ d) (hx : x ≤ 4) (h : ∀ M', pm_row M' k (pm_zm x) → pm_fr k (k + 2) M M' → Qr none (pm_m n kd M')) : pm_run d 46 [.inr (.inl (6, k)), .inl (x : Int)] (pm_m n kd M) (Qr) Qx := by
  obtain ⟨d, rfl⟩ := pm_ex1 (Nat.le_trans (by decide) hd)
  refine tr_46 (by omega) (pm_lp (N := x) (G := fun i M1 => pm_wq d 46 Qr Qx (6, [some (.inr (.inl (6, k))), some (.inl (x : Int)), some (.inl (i : Int)), none, none], [], pm_m n kd M1, 0, 0)) (I := fun i M1 => pm_row M1 k (pm_zm i) ∧ pm_fr k (k + 2) M M1) ?_ ?_ 0 _ (Nat.zero_le _) ⟨pm_row.clear, pm_fr.rf.up (by omega) (by omega)⟩)
  · intro M1 ⟨hr, ho⟩
    exact tr_46_6 (by omega) ⟨fun _ => h M1 hr ho, fun z => by omega⟩
  · intro i M1 hi ⟨hr, ho⟩ ih
    have hs := hr.size
    have hl := pm_zm_len i (by omega)
    have hl3 : (pm_zm i).length ≤ 7 := by
      have : i ≤ 3 := by omega
      have : 2 ^ i ≤ 2 ^ 3 := Nat.pow_le_pow_right (by decide) this
      omega
    refine tr_46_6 (by omega) ⟨fun z => by omega, fun _ => ⟨⟨by omega, by omega⟩, ?_⟩⟩
    have hr2 := hr.add i rfl (by omega)
    have ho2 : pm_fr k (k + 2) M (pm_up (pm_up M1 (k + 1) (M1 k 1).toNat (i : Int)) k 1 (M1 k 1 + 1)) := (ho.up (by omega) (by omega)).up (by omega) (by omega)
    rw [hs.1] at hr2 ho2 ⊢
    refine pm_lp (N := (pm_zm i).length) (G := fun j M2 => pm_wq d 46 Qr Qx (24, [some (.inr (.inl (6, k))), some (.inl (x : Int)), some (.inl (i : Int)), some (.inl ((pm_zm i).length : Int)), some (.inl (j : Int))], [], pm_m n kd M2, 0, 0)) (I := fun j M2 => pm_row M2 k (pm_zm i ++ [i] ++ (pm_zm i).take j) ∧ pm_fr k (k + 2) M M2) ?_ ?_ 0 _ (Nat.zero_le _) ⟨by rw [List.take_zero, List.append_nil]; exact hr2, ho2⟩
    · intro M2 ⟨hr3, ho3⟩
      refine tr_46_24 (by omega) ⟨fun _ => ⟨⟨by omega, by omega⟩, ih M2 ⟨?_, ho3⟩⟩, fun z => by omega⟩
      rw [List.take_length, List.append_assoc] at hr3
      exact hr3
    · intro j M2 hj ⟨hr3, ho3⟩ ih2
      have hs3 := hr3.size
      have hl4 : (pm_zm i ++ [i] ++ (pm_zm i).take j).length = (pm_zm i).length + 1 + j := by
        rw [List.length_append, List.length_append, List.length_singleton, tk_len (by omega)]
      rw [hl4] at hs3
      refine tr_46_24 (by omega) ⟨fun z => by omega, fun _ => ⟨⟨by omega, by omega, by omega⟩, ⟨by omega, by omega⟩, ⟨by omega, by omega⟩, ih2 _ ⟨?_, (ho3.up (by omega) (by omega)).up (by omega) (by omega)⟩⟩⟩
      rw [tk_succ hj, ← List.append_assoc]
      refine hr3.add _ ?_ (by omega)
      rw [Int.toNat_natCast, hr3.at (by omega), List.append_assoc, gd_app hj]
end RWB

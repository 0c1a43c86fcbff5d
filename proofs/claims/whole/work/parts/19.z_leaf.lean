/-! LEAVES: small methods that the transitions of the others take as one step -/
section LVS
variable {d n : Nat} {kd : Nat → Nat} {M : Nat → Nat → Int} {Qr : Option pm_V → pm_Me → Prop} {Qx : Nat → pm_Me → Prop}
theorem pm_ex1 {d : Nat} (h : 1 ≤ d) : ∃ e, d = e + 1 := ⟨d - 1, by omega⟩
theorem pm_up_eq {M : Nat → Nat → Int} {q j : Nat} {x : Int} : pm_up M q j x q j = x := if_pos ⟨rfl, rfl⟩
theorem pm_up_ne {M : Nat → Nat → Int} {q j a b : Nat} {x : Int} (h : a ≠ q ∨ b ≠ j) : pm_up M q j x a b = M a b := if_neg (fun z => h.elim (fun w => w z.1) (fun w => w z.2))
theorem pm_cp_in {M : Nat → Nat → Int} {q i q' i' n b : Nat} (h : i' ≤ b ∧ b < i' + n) : pm_cp M q i q' i' n q' b = M q (i + (b - i')) := if_pos ⟨rfl, h⟩
theorem pm_cp_ne {M : Nat → Nat → Int} {q i q' i' n a b : Nat} (h : a ≠ q' ∨ b < i' ∨ i' + n ≤ b) : pm_cp M q i q' i' n a b = M a b := if_neg (fun z => by rcases h with h | h | h <;> omega)
theorem sp_36 {k : Nat} {x : Int} (hd : 1 ≤ d) (h1 : (0 ≤ x ∧ x < M k 1) → Qr (some (.inl 1)) (pm_m n kd M)) (h0 : ¬ (0 ≤ x ∧ x < M k 1) → Qr (some (.inl 0)) (pm_m n kd M)) : pm_run d 36 [.inr (.inl (6, k)), .inl x] (pm_m n kd M) Qr Qx := by
  obtain ⟨d, rfl⟩ := pm_ex1 hd
  exact tr_36 ⟨fun z => h0 (by omega), fun z => ⟨fun z2 => h0 (by omega), fun z2 => h1 (by omega)⟩⟩
theorem sp_37 {k : Nat} {x : Int} (hd : 2 ≤ d) (hs : 0 ≤ x ∧ x < M k 1 ∧ M k 1 ≤ 24) (h : Qr (some (.inl (M (k + 1) x.toNat))) (pm_m n kd M)) : pm_run d 37 [.inr (.inl (6, k)), .inl x] (pm_m n kd M) Qr Qx := by
  obtain ⟨d, rfl⟩ := pm_ex1 (Nat.le_trans (by decide) hd)
  exact tr_37 (by omega) (sp_36 (by omega) (fun _ => tr_37_5 (by omega) ⟨fun z => absurd z (by decide), fun _ => ⟨⟨by omega, by omega⟩, h⟩⟩) (fun z => absurd ⟨hs.1, hs.2.1⟩ z))
theorem sp_38 {k : Nat} {x v : Int} (hd : 2 ≤ d) (hs : 0 ≤ x ∧ x < M k 1 ∧ M k 1 ≤ 24) (h : Qr none (pm_m n kd (pm_up M (k + 1) x.toNat v))) : pm_run d 38 [.inr (.inl (6, k)), .inl x, .inl v] (pm_m n kd M) Qr Qx := by
  obtain ⟨d, rfl⟩ := pm_ex1 (Nat.le_trans (by decide) hd)
  exact tr_38 (by omega) (sp_36 (by omega) (fun _ => tr_38_5 (by omega) ⟨fun z => absurd z (by decide), fun _ => ⟨⟨by omega, by omega⟩, h⟩⟩) (fun z => absurd ⟨hs.1, hs.2.1⟩ z))
theorem sp_39 {k : Nat} {x : Int} (hd : 1 ≤ d) (hs : 0 ≤ M k 1 ∧ M k 1 < 24) (h : Qr none (pm_m n kd (pm_up (pm_up M (k + 1) (M k 1).toNat x) k 1 (M k 1 + 1)))) : pm_run d 39 [.inr (.inl (6, k)), .inl x] (pm_m n kd M) Qr Qx := by
  obtain ⟨d, rfl⟩ := pm_ex1 hd
  have e : pm_up M (k + 1) (M k 1).toNat x k 1 = M k 1 := pm_up_ne (Or.inl (by omega))
  refine tr_39 ⟨fun z => by omega, fun _ => ⟨⟨by omega, by omega⟩, ?_, ?_⟩⟩
  · rw [e]; exact ⟨by omega, by omega⟩
  · rw [e]; exact h
theorem sp_40 {k : Nat} (hd : 1 ≤ d) (hs : 0 < M k 1 ∧ M k 1 ≤ 24) (h : Qr none (pm_m n kd (pm_up M k 1 (M k 1 - 1)))) : pm_run d 40 [.inr (.inl (6, k))] (pm_m n kd M) Qr Qx := by
  obtain ⟨d, rfl⟩ := pm_ex1 hd
  exact tr_40 ⟨fun z => by omega, fun _ => ⟨⟨by omega, by omega⟩, h⟩⟩
theorem sp_41 {k : Nat} (hd : 1 ≤ d) (h : Qr none (pm_m n kd (pm_up M k 1 0))) : pm_run d 41 [.inr (.inl (6, k))] (pm_m n kd M) Qr Qx := by
  obtain ⟨d, rfl⟩ := pm_ex1 hd
  exact tr_41 h
theorem sp_42 {k q : Nat} (hd : 1 ≤ d) (hs : 0 ≤ M q 1 ∧ M q 1 ≤ 24 ∧ q ≠ k ∧ q ≠ (k + 1)) (h : Qr none (pm_m n kd (pm_up (pm_cp M (q + 1) 0 (k + 1) 0 (M q 1).toNat) k 1 (M q 1)))) : pm_run d 42 [.inr (.inl (6, k)), .inr (.inl (6, q))] (pm_m n kd M) Qr Qx := by
  obtain ⟨d, rfl⟩ := pm_ex1 hd
  have e : pm_cp M (q + 1) 0 (k + 1) 0 (M q 1).toNat q 1 = M q 1 := pm_cp_ne (Or.inl (by omega))
  refine tr_42 ⟨⟨by omega, by omega, by omega, by omega, by omega, by omega⟩, ?_⟩
  rw [e]; exact h
theorem sp_104 {x : Int} (hd : 1 ≤ d) (h1 : (0 ≤ x ∧ x < 5) → Qr (some (.inl 1)) (pm_m n kd M)) (h0 : ¬ (0 ≤ x ∧ x < 5) → Qr (some (.inl 0)) (pm_m n kd M)) : pm_run d 104 [.inl x] (pm_m n kd M) Qr Qx := by
  obtain ⟨d, rfl⟩ := pm_ex1 hd
  exact tr_104 ⟨fun z => h0 (by omega), fun z => ⟨fun z2 => h0 (by omega), fun z2 => h1 (by omega)⟩⟩
theorem sp_105 {s v : Int} (hd : 2 ≤ d) (h1 : (0 ≤ v ∧ v < 5 ∧ pm_and s (pm_shl 1 v) ≠ 0) → Qr (some (.inl 1)) (pm_m n kd M)) (h0 : ¬ (0 ≤ v ∧ v < 5 ∧ pm_and s (pm_shl 1 v) ≠ 0) → Qr (some (.inl 0)) (pm_m n kd M)) : pm_run d 105 [.inl s, .inl v] (pm_m n kd M) Qr Qx := by
  obtain ⟨d, rfl⟩ := pm_ex1 (Nat.le_trans (by decide) hd)
  exact tr_105 (by omega) (sp_104 (by omega) (fun z => tr_105_4 (by omega) ⟨fun w => absurd w (by decide), fun _ => ⟨fun w => h0 (fun q => q.2.2 w), fun w => h1 ⟨z.1, z.2, w⟩⟩⟩) (fun z => tr_105_4 (by omega) ⟨fun _ => h0 (fun q => z ⟨q.1, q.2.1⟩), fun w => absurd rfl w⟩))
theorem sp_106 {x : Int} (hd : 1 ≤ d) (h1 : (1 ≤ x ∧ x ≤ 4) → Qr none (pm_m n kd M)) (h0 : ¬ (1 ≤ x ∧ x ≤ 4) → Qx 0 (pm_m n kd M)) : pm_run d 106 [.inl x] (pm_m n kd M) Qr Qx := by
  obtain ⟨d, rfl⟩ := pm_ex1 hd
  exact tr_106 ⟨fun z => h0 (by omega), fun z => ⟨fun z2 => h1 (by omega), fun z2 => h0 (by omega)⟩⟩
theorem sp_107 {x : Int} (hd : 1 ≤ d) (h1 : (0 ≤ x ∧ x < 4) → Qr none (pm_m n kd M)) (h0 : ¬ (0 ≤ x ∧ x < 4) → Qx 2 (pm_m n kd M)) : pm_run d 107 [.inl x] (pm_m n kd M) Qr Qx := by
  obtain ⟨d, rfl⟩ := pm_ex1 hd
  exact tr_107 ⟨fun z => h0 (by omega), fun z => ⟨fun z2 => h1 (by omega), fun z2 => h0 (by omega)⟩⟩
theorem sp_108 {x : Int} (hd : 2 ≤ d) (h1 : (0 ≤ x ∧ x < 4) → M 40 x.toNat ≠ 0 → Qr none (pm_m n kd M)) (h2 : (0 ≤ x ∧ x < 4) → ¬ (M 40 x.toNat ≠ 0) → Qx 1 (pm_m n kd M)) (h0 : ¬ (0 ≤ x ∧ x < 4) → Qx 2 (pm_m n kd M)) : pm_run d 108 [.inr (.inl (8, 0)), .inl x] (pm_m n kd M) Qr Qx := by
  obtain ⟨d, rfl⟩ := pm_ex1 (Nat.le_trans (by decide) hd)
  exact tr_108 (by omega) (sp_107 (by omega) (fun z => tr_108_4 (by omega) ⟨z, h1 z, h2 z⟩) (fun z => h0 z))
theorem sp_109 {x : Int} (hd : 1 ≤ d) (h1 : (0 ≤ x ∧ x < M 1 0) → Qr none (pm_m n kd M)) (h0 : ¬ (0 ≤ x ∧ x < M 1 0) → Qx 0 (pm_m n kd M)) : pm_run d 109 [.inr (.inl (8, 0)), .inl x] (pm_m n kd M) Qr Qx := by
  obtain ⟨d, rfl⟩ := pm_ex1 hd
  exact tr_109 ⟨fun z => h0 (by omega), fun z => ⟨fun z2 => h1 (by omega), fun z2 => h0 (by omega)⟩⟩
theorem sp_110 (hd : 1 ≤ d) (h1 : M 2 1 ≠ 0 → Qr none (pm_m n kd M)) (h0 : ¬ (M 2 1 ≠ 0) → Qx 1 (pm_m n kd M)) : pm_run d 110 [.inr (.inl (8, 0))] (pm_m n kd M) Qr Qx := by
  obtain ⟨d, rfl⟩ := pm_ex1 hd
  exact tr_110 ⟨h1, h0⟩
theorem sp_111 (hd : 1 ≤ d) (h1 : M 4 1 ≠ 0 → Qr none (pm_m n kd M)) (h0 : ¬ (M 4 1 ≠ 0) → Qx 1 (pm_m n kd M)) : pm_run d 111 [.inr (.inl (8, 0))] (pm_m n kd M) Qr Qx := by
  obtain ⟨d, rfl⟩ := pm_ex1 hd
  exact tr_111 ⟨h1, h0⟩
theorem sp_115 {x : Int} (hd : 1 ≤ d) (h1 : x = 0 → Qr none (pm_m n kd M)) (h0 : ¬ (x = 0) → Qx 4 (pm_m n kd M)) : pm_run d 115 [.inl x] (pm_m n kd M) Qr Qx := by
  obtain ⟨d, rfl⟩ := pm_ex1 hd
  exact tr_115 ⟨h1, h0⟩
theorem sp_123 (hd : 1 ≤ d) (h : Qr (some (.inl (M 97 0))) (pm_m n kd M)) : pm_run d 123 [.inr (.inl (9, 97))] (pm_m n kd M) Qr Qx := by
  obtain ⟨d, rfl⟩ := pm_ex1 hd
  exact tr_123 h
theorem sp_124 {v a b : Int} (hd : 1 ≤ d) (h1 : (a ≤ v ∧ v ≤ b) → Qr (some (.inl 1)) (pm_m n kd M)) (h0 : ¬ (a ≤ v ∧ v ≤ b) → Qr (some (.inl 0)) (pm_m n kd M)) : pm_run d 124 [.inl v, .inl a, .inl b] (pm_m n kd M) Qr Qx := by
  obtain ⟨d, rfl⟩ := pm_ex1 hd
  exact tr_124 ⟨fun z => h0 (by omega), fun z => ⟨fun z2 => h0 (by omega), fun z2 => h1 (by omega)⟩⟩
theorem sp_125 {x : Int} (hd : 1 ≤ d) (h : Qr (some (.inl 0)) (pm_m n kd (pm_up M 97 0 x))) : pm_run d 125 [.inr (.inl (9, 97)), .inl x] (pm_m n kd M) Qr Qx := by
  obtain ⟨d, rfl⟩ := pm_ex1 hd
  exact tr_125 h
theorem sp_126 {x : Int} (hd : 1 ≤ d) (h : Qr (some (.inl x)) (pm_m n kd (pm_up M 97 0 0))) : pm_run d 126 [.inr (.inl (9, 97)), .inl x] (pm_m n kd M) Qr Qx := by
  obtain ⟨d, rfl⟩ := pm_ex1 hd
  exact tr_126 h
theorem sp_127 {x : Int} (hd : 1 ≤ d) (hs : x = 0 ∨ x = 1) (h : Qr (some (.inl x)) (pm_m n kd (pm_up M 97 0 0))) : pm_run d 127 [.inr (.inl (9, 97)), .inl x] (pm_m n kd M) Qr Qx := by
  obtain ⟨d, rfl⟩ := pm_ex1 hd
  exact tr_127 ⟨hs, h⟩
theorem sp_128 {x : Int} (hd : 1 ≤ d) (h : Qr (some (.inl 0)) (pm_m n kd (pm_up M 97 0 x))) : pm_run d 128 [.inr (.inl (9, 97)), .inl x] (pm_m n kd M) Qr Qx := by
  obtain ⟨d, rfl⟩ := pm_ex1 hd
  exact tr_128 h
theorem sp_150 {x : Int} (hd : 2 ≤ d) (hs : pm_r (M 97 3 - 1)) (h1 : (0 ≤ x ∧ x ≤ M 97 3 - 1) → Qr (some (.inl 1)) (pm_m n kd M)) (h0 : ¬ (0 ≤ x ∧ x ≤ M 97 3 - 1) → Qr (some (.inl 0)) (pm_m n kd M)) : pm_run d 150 [.inr (.inl (9, 97)), .inl x] (pm_m n kd M) Qr Qx := by
  obtain ⟨d, rfl⟩ := pm_ex1 (Nat.le_trans (by decide) hd)
  exact tr_150 (by omega) ⟨hs, sp_124 (by omega) (fun z => tr_150_11 (by omega) ⟨Or.inr rfl, h1 z⟩) (fun z => tr_150_11 (by omega) ⟨Or.inl rfl, h0 z⟩)⟩
/-- variableAt -/
theorem sp_240 {k : Nat} {x : Int} (hd : 1 ≤ d) (hs : 0 ≤ x ∧ x < M (k + 1) 1 ∧ M (k + 1) 1 ≤ 24 ∧ 0 ≤ M (k + 2) x.toNat ∧ M (k + 2) x.toNat < 5) (h : Qr (some (.inl (M (k + 2) x.toNat))) (pm_m n kd M)) : pm_run d 240 [.inr (.inl (1, k)), .inl x] (pm_m n kd M) Qr Qx := by
  obtain ⟨d, rfl⟩ := pm_ex1 hd
  exact tr_240 ⟨fun z => by omega, fun _ => ⟨fun z => by omega, fun _ => ⟨⟨by omega, by omega⟩, fun z => by omega, fun _ => ⟨fun z => by omega, fun _ => h⟩⟩⟩⟩
end LVS

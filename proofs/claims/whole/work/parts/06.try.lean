section
variable (d : Nat) (Qr : Option pm_V → pm_Me → Prop) (Qx : Nat → pm_Me → Prop)
abbrev pm_stm (d mi : Nat) (Qr : Option pm_V → pm_Me → Prop) (Qx : Nat → pm_Me → Prop) := pm_stp (pm_cd mi) (pm_hd mi) (pm_mc mi) (pm_ms mi) pm_mc pm_ms (pm_run d) Qr Qx
set_option maxRecDepth 100000 in
theorem try_add (k : Nat) (x : Int) (n : Nat) (kd : Nat → Nat) (M : Nat → Nat → Int)
  (h : (24 ≤ M k 1 → Qr none ((n, kd, fun _ _ => true), M)) ∧ (¬ 24 ≤ M k 1 → (0 ≤ M k 1 ∧ M k 1 < ((24 : Nat) : Int)) ∧ pm_r (pm_up M (k+1) (M k 1).toNat x k 1 + 1) ∧ Qr none ((n, kd, fun _ _ => true), pm_up (pm_up M (k+1) (M k 1).toNat x) k 1 (pm_up M (k+1) (M k 1).toNat x k 1 + 1)))) :
  pm_wp (pm_stm d 39 Qr Qx) (0, [some (.inr (.inl (6, k))), some (.inl x)], [], ((n, kd, fun _ _ => true), M), 0, 0) := by
  refine pm_seg_wp (fun _ => false) 30 ?_
  exact h
end
section
variable (d : Nat) (Qr : Option pm_V → pm_Me → Prop) (Qx : Nat → pm_Me → Prop)
set_option maxRecDepth 100000 in
theorem try_count (k : Nat) (x c i : Int) (n : Nat) (kd : Nat → Nat) (M : Nat → Nat → Int)
  (h : (M k 1 ≤ i → Qr (some (.inl c)) ((n, kd, fun _ _ => true), M)) ∧ (¬ M k 1 ≤ i → (0 ≤ i ∧ i < ((24 : Nat) : Int)) ∧
     (M (k+1) i.toNat ≠ x → pm_r (i + 1) ∧ pm_wp (pm_stm d 50 Qr Qx) (4, [some (.inr (.inl (6, k))), some (.inl x), some (.inl c), some (.inl (i + 1))], [], ((n, kd, fun _ _ => true), M), 0, 0)) ∧
     (¬ M (k+1) i.toNat ≠ x → pm_r (c + 1) ∧ pm_r (i + 1) ∧ pm_wp (pm_stm d 50 Qr Qx) (4, [some (.inr (.inl (6, k))), some (.inl x), some (.inl (c + 1)), some (.inl (i + 1))], [], ((n, kd, fun _ _ => true), M), 0, 0)))) :
  pm_wp (pm_stm d 50 Qr Qx) (4, [some (.inr (.inl (6, k))), some (.inl x), some (.inl c), some (.inl i)], [], ((n, kd, fun _ _ => true), M), 0, 0) := by
  refine pm_seg_wp (fun p => Nat.beq p 4) 30 ?_
  exact h
theorem try_get (k : Nat) (i : Int) (n : Nat) (kd : Nat → Nat) (M : Nat → Nat → Int)
  (h : pm_run d 36 [.inr (.inl (6, k)), .inl i] ((n, kd, fun _ _ => true), M) (fun r m' => pm_wp (pm_stm d 37 Qr Qx) (5, [some (.inr (.inl (6, k))), some (.inl i)], pm_lst r ++ [], m', 0, 0)) Qx) :
  pm_wp (pm_stm d 37 Qr Qx) (0, [some (.inr (.inl (6, k))), some (.inl i)], [], ((n, kd, fun _ _ => true), M), 0, 0) := by
  refine pm_seg_wp (fun p => Nat.beq p 5) 30 ?_
  exact h
end

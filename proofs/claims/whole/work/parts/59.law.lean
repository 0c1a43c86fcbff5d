/-! THE LAW FROM ITS START TO ITS END (laid by wip/whole/gen_law.py) -/
set_option maxRecDepth 100000 in
theorem ls_28 {n : Nat} {kd : Nat → Nat} {M : Nat → Nat → Int} {i : Int} {c t : Nat} (h : pm_r (M 9998 0 - 3) ∧ ((M 9998 0 - 3 < i → (some (.inl 1) : Option pm_V) = some (.inl 1)) ∧ (¬ (M 9998 0 - 3 < i) → (0 ≤ i ∧ i < M 9998 0) ∧ lwW (44, [some (.inr (.inl (999, 9999))), some (.inr (.inl (8, 0))), some (.inr (.inl (9, 97))), some (.inr (.inl (3001, 122))), some (.inr (.inl (4001, 123))), some (.inl i), none, none, none], [.inl (pm_and (M 9999 i.toNat) 63)], pm_m n kd M, c, t)))) : lwW (28, [some (.inr (.inl (999, 9999))), some (.inr (.inl (8, 0))), some (.inr (.inl (9, 97))), some (.inr (.inl (3001, 122))), some (.inr (.inl (4001, 123))), some (.inl i), none, none, none], [], pm_m n kd M, c, t) :=
  pm_seg_wp (fun p => Nat.beq p 44) 20 (show pm_seg lwS _ _ (28, [some (.inr (.inl (999, 9999))), some (.inr (.inl (8, 0))), some (.inr (.inl (9, 97))), some (.inr (.inl (3001, 122))), some (.inr (.inl (4001, 123))), some (.inl i), none, none, none], [], pm_m n kd M, c, t) lwW from ⟨h.1, fun z => ⟨Or.inr rfl, h.2.1 z⟩, fun z => ⟨(h.2.2 z).1, (h.2.2 z).2⟩⟩)
set_option maxRecDepth 100000 in
theorem ls_2563 {n : Nat} {kd : Nat → Nat} {M : Nat → Nat → Int} {c t : Nat} {x5 : Int} (h : pm_r (x5 + 3) ∧ lwW (28, [some (.inr (.inl (999, 9999))), some (.inr (.inl (8, 0))), some (.inr (.inl (9, 97))), some (.inr (.inl (3001, 122))), some (.inr (.inl (4001, 123))), some (.inl (x5 + 3)), none, none, none], [], (pm_m n kd M), c, t)) : lwW (2563, [some (.inr (.inl (999, 9999))), some (.inr (.inl (8, 0))), some (.inr (.inl (9, 97))), some (.inr (.inl (3001, 122))), some (.inr (.inl (4001, 123))), some (.inl x5), none, none, none], [], pm_m n kd M, c, t) :=
  pm_seg_wp (fun p => Nat.beq p 28) 4 (show pm_seg lwS _ _ (2563, [some (.inr (.inl (999, 9999))), some (.inr (.inl (8, 0))), some (.inr (.inl (9, 97))), some (.inr (.inl (3001, 122))), some (.inr (.inl (4001, 123))), some (.inl x5), none, none, none], [], pm_m n kd M, c, t) lwW from ⟨h.1, h.2⟩)
set_option maxRecDepth 100000 in
theorem ls_44 {n : Nat} {kd : Nat → Nat} {M : Nat → Nat → Int} {i x : Int} {c t : Nat} (h1 : (x < 0 ∨ 46 < x) → lwW (2563, [some (.inr (.inl (999, 9999))), some (.inr (.inl (8, 0))), some (.inr (.inl (9, 97))), some (.inr (.inl (3001, 122))), some (.inr (.inl (4001, 123))), some (.inl i), none, none, none], [], pm_m n kd M, c, t)) (h2 : ¬ (x < 0 ∨ 46 < x) → ∀ o, (#[204, 260, 273, 286, 342, 355, 411, 424, 437, 500, 556, 612, 675, 738, 794, 850, 863, 876, 932, 1010, 1097, 1162, 1218, 1269, 1313, 1369, 1437, 1481, 1556, 1619, 1632, 1688, 1744, 1757, 1801, 1857, 1913, 1969, 2025, 2102, 2170, 2226, 2270, 2338, 2406, 2462, 2475] : Array Int)[(x - 0).toNat]? = some o → lwW ((((44 : Nat) : Int) + o).toNat, [some (.inr (.inl (999, 9999))), some (.inr (.inl (8, 0))), some (.inr (.inl (9, 97))), some (.inr (.inl (3001, 122))), some (.inr (.inl (4001, 123))), some (.inl i), none, none, none], [], pm_m n kd M, c, t)) : lwW (44, [some (.inr (.inl (999, 9999))), some (.inr (.inl (8, 0))), some (.inr (.inl (9, 97))), some (.inr (.inl (3001, 122))), some (.inr (.inl (4001, 123))), some (.inl i), none, none, none], [.inl x], pm_m n kd M, c, t) :=
  pm_wp_of lwW (fun _ z => z) (show lwS (44, [some (.inr (.inl (999, 9999))), some (.inr (.inl (8, 0))), some (.inr (.inl (9, 97))), some (.inr (.inl (3001, 122))), some (.inr (.inl (4001, 123))), some (.inl i), none, none, none], [.inl x], pm_m n kd M, c, t) lwW from ⟨h1, h2⟩)
theorem lw_sw {s : stt} {n : Nat} {kd : Nat → Nat} {M : Nat → Nat → Int} {i : Int} {c t : Nat} (hi : 0 ≤ i ∧ i + 2 < M 9998 0 ∧ M 9998 0 ≤ 1536) (hv : ∀ j, pm_r (M 9999 j)) (hL : Lab M s) (hR : Ref M s) (hW : wfs s) (hc : c + 10 ≤ 603072) (ht : t + 60 ≤ 7174250) (hN : lwN i n kd c t M) : ∀ k : Nat, k < 47 → ∀ o : Int, (#[204, 260, 273, 286, 342, 355, 411, 424, 437, 500, 556, 612, 675, 738, 794, 850, 863, 876, 932, 1010, 1097, 1162, 1218, 1269, 1313, 1369, 1437, 1481, 1556, 1619, 1632, 1688, 1744, 1757, 1801, 1857, 1913, 1969, 2025, 2102, 2170, 2226, 2270, 2338, 2406, 2462, 2475] : Array Int)[k]? = some o → lwW ((((44 : Nat) : Int) + o).toNat, [some (.inr (.inl (999, 9999))), some (.inr (.inl (8, 0))), some (.inr (.inl (9, 97))), some (.inr (.inl (3001, 122))), some (.inr (.inl (4001, 123))), some (.inl i), none, none, none], [], pm_m n kd M, c, t)
  | 0, _, o, ho => by
    have ho : some (204 : Int) = some o := ho
    cases ho
    exact lc_0 hi hv hL hR hW hc ht hN
  | 1, _, o, ho => by
    have ho : some (260 : Int) = some o := ho
    cases ho
    exact lc_1 hi hv hL hR hW hc ht hN
  | 2, _, o, ho => by
    have ho : some (273 : Int) = some o := ho
    cases ho
    exact lc_2 hi hv hL hR hW hc ht hN
  | 3, _, o, ho => by
    have ho : some (286 : Int) = some o := ho
    cases ho
    exact lc_3 hi hv hL hR hW hc ht hN
  | 4, _, o, ho => by
    have ho : some (342 : Int) = some o := ho
    cases ho
    exact lc_4 hi hv hL hR hW hc ht hN
  | 5, _, o, ho => by
    have ho : some (355 : Int) = some o := ho
    cases ho
    exact lc_5 hi hv hL hR hW hc ht hN
  | 6, _, o, ho => by
    have ho : some (411 : Int) = some o := ho
    cases ho
    exact lc_6 hi hv hL hR hW hc ht hN
  | 7, _, o, ho => by
    have ho : some (424 : Int) = some o := ho
    cases ho
    exact lc_7 hi hv hL hR hW hc ht hN
  | 8, _, o, ho => by
    have ho : some (437 : Int) = some o := ho
    cases ho
    exact lc_8 hi hv hL hR hW hc ht hN
  | 9, _, o, ho => by
    have ho : some (500 : Int) = some o := ho
    cases ho
    exact lc_9 hi hv hL hR hW hc ht hN
  | 10, _, o, ho => by
    have ho : some (556 : Int) = some o := ho
    cases ho
    exact lc_10 hi hv hL hR hW hc ht hN
  | 11, _, o, ho => by
    have ho : some (612 : Int) = some o := ho
    cases ho
    exact lc_11 hi hv hL hR hW hc ht hN
  | 12, _, o, ho => by
    have ho : some (675 : Int) = some o := ho
    cases ho
    exact lc_12 hi hv hL hR hW hc ht hN
  | 13, _, o, ho => by
    have ho : some (738 : Int) = some o := ho
    cases ho
    exact lc_13 hi hv hL hR hW hc ht hN
  | 14, _, o, ho => by
    have ho : some (794 : Int) = some o := ho
    cases ho
    exact lc_14 hi hv hL hR hW hc ht hN
  | 15, _, o, ho => by
    have ho : some (850 : Int) = some o := ho
    cases ho
    exact lc_15 hi hv hL hR hW hc ht hN
  | 16, _, o, ho => by
    have ho : some (863 : Int) = some o := ho
    cases ho
    exact lc_16 hi hv hL hR hW hc ht hN
  | 17, _, o, ho => by
    have ho : some (876 : Int) = some o := ho
    cases ho
    exact lc_17 hi hv hL hR hW hc ht hN
  | 18, _, o, ho => by
    have ho : some (932 : Int) = some o := ho
    cases ho
    exact lc_18 hi hv hL hR hW hc ht hN
  | 19, _, o, ho => by
    have ho : some (1010 : Int) = some o := ho
    cases ho
    exact lc_19 hi hv hL hR hW hc ht hN
  | 20, _, o, ho => by
    have ho : some (1097 : Int) = some o := ho
    cases ho
    exact lc_20 hi hv hL hR hW hc ht hN
  | 21, _, o, ho => by
    have ho : some (1162 : Int) = some o := ho
    cases ho
    exact lc_21 hi hv hL hR hW hc ht hN
  | 22, _, o, ho => by
    have ho : some (1218 : Int) = some o := ho
    cases ho
    exact lc_22 hi hv hL hR hW hc ht hN
  | 23, _, o, ho => by
    have ho : some (1269 : Int) = some o := ho
    cases ho
    exact lc_23 hi hv hL hR hW hc ht hN
  | 24, _, o, ho => by
    have ho : some (1313 : Int) = some o := ho
    cases ho
    exact lc_24 hi hv hL hR hW hc ht hN
  | 25, _, o, ho => by
    have ho : some (1369 : Int) = some o := ho
    cases ho
    exact lc_25 hi hv hL hR hW hc ht hN
  | 26, _, o, ho => by
    have ho : some (1437 : Int) = some o := ho
    cases ho
    exact lc_26 hi hv hL hR hW hc ht hN
  | 27, _, o, ho => by
    have ho : some (1481 : Int) = some o := ho
    cases ho
    exact lc_27 hi hv hL hR hW hc ht hN
  | 28, _, o, ho => by
    have ho : some (1556 : Int) = some o := ho
    cases ho
    exact lc_28 hi hv hL hR hW hc ht hN
  | 29, _, o, ho => by
    have ho : some (1619 : Int) = some o := ho
    cases ho
    exact lc_29 hi hv hL hR hW hc ht hN
  | 30, _, o, ho => by
    have ho : some (1632 : Int) = some o := ho
    cases ho
    exact lc_30 hi hv hL hR hW hc ht hN
  | 31, _, o, ho => by
    have ho : some (1688 : Int) = some o := ho
    cases ho
    exact lc_31 hi hv hL hR hW hc ht hN
  | 32, _, o, ho => by
    have ho : some (1744 : Int) = some o := ho
    cases ho
    exact lc_32 hi hv hL hR hW hc ht hN
  | 33, _, o, ho => by
    have ho : some (1757 : Int) = some o := ho
    cases ho
    exact lc_33 hi hv hL hR hW hc ht hN
  | 34, _, o, ho => by
    have ho : some (1801 : Int) = some o := ho
    cases ho
    exact lc_34 hi hv hL hR hW hc ht hN
  | 35, _, o, ho => by
    have ho : some (1857 : Int) = some o := ho
    cases ho
    exact lc_35 hi hv hL hR hW hc ht hN
  | 36, _, o, ho => by
    have ho : some (1913 : Int) = some o := ho
    cases ho
    exact lc_36 hi hv hL hR hW hc ht hN
  | 37, _, o, ho => by
    have ho : some (1969 : Int) = some o := ho
    cases ho
    exact lc_37 hi hv hL hR hW hc ht hN
  | 38, _, o, ho => by
    have ho : some (2025 : Int) = some o := ho
    cases ho
    exact lc_38 hi hv hL hR hW hc ht hN
  | 39, _, o, ho => by
    have ho : some (2102 : Int) = some o := ho
    cases ho
    exact lc_39 hi hv hL hR hW hc ht hN
  | 40, _, o, ho => by
    have ho : some (2170 : Int) = some o := ho
    cases ho
    exact lc_40 hi hv hL hR hW hc ht hN
  | 41, _, o, ho => by
    have ho : some (2226 : Int) = some o := ho
    cases ho
    exact lc_41 hi hv hL hR hW hc ht hN
  | 42, _, o, ho => by
    have ho : some (2270 : Int) = some o := ho
    cases ho
    exact lc_42 hi hv hL hR hW hc ht hN
  | 43, _, o, ho => by
    have ho : some (2338 : Int) = some o := ho
    cases ho
    exact lc_43 hi hv hL hR hW hc ht hN
  | 44, _, o, ho => by
    have ho : some (2406 : Int) = some o := ho
    cases ho
    exact lc_44 hi hv hL hR hW hc ht hN
  | 45, _, o, ho => by
    have ho : some (2462 : Int) = some o := ho
    cases ho
    exact lc_45 hi hv hL hR hW hc ht hN
  | 46, _, o, ho => by
    have ho : some (2475 : Int) = some o := ho
    cases ho
    exact lc_46 hi hv hL hR hW hc ht hN
  | k + 47, h, _, _ => absurd h (by omega)
theorem lw_loop {n : Nat} {kd : Nat → Nat} {L : Nat} (hL1 : L ≤ 1536) : ∀ (f : Nat) (i : Int) (c t : Nat) (s : stt) (M : Nat → Nat → Int), 0 ≤ i → i ≤ 1600 → (L : Int) ≤ i + 3 * (f : Int) + 2 → c + 10 * f ≤ 603072 → t + 60 * f ≤ 7174250 → Lab M s → Ref M s → wfs s → M 9998 0 = (L : Int) → (∀ j, pm_r (M 9999 j)) → lwW (28, [some (.inr (.inl (999, 9999))), some (.inr (.inl (8, 0))), some (.inr (.inl (9, 97))), some (.inr (.inl (3001, 122))), some (.inr (.inl (4001, 123))), some (.inl i), none, none, none], [], pm_m n kd M, c, t) := by
  intro f
  induction f with
  | zero =>
    intro i c t s M h0 h1 h2 hc ht hL hR hW hl hv
    exact ls_28 ⟨⟨by omega, by omega⟩, fun _ => rfl, fun w => by exfalso; omega⟩
  | succ f ih =>
    intro i c t s M h0 h1 h2 hc ht hL hR hW hl hv
    refine ls_28 ⟨⟨by omega, by omega⟩, fun _ => rfl, fun w => ⟨⟨by omega, by omega⟩, ?_⟩⟩
    have hN : lwN i n kd c t M := fun M' s' hL' hR' hW' ho => ls_2563 ⟨⟨by omega, by omega⟩, ih (i + 3) (c + 10) (t + 60) s' M' (by omega) (by omega) (by omega) (by omega) (by omega) hL' hR' hW' (by rw [ho 9998 (by decide)]; exact hl) (fun j => by rw [ho 9999 (by decide)]; exact hv j)⟩
    refine ls_44 (fun w2 => ?_) (fun w2 o ho => ?_)
    · exact pm_wp_fg [some (.inr (.inl (999, 9999))), some (.inr (.inl (8, 0))), some (.inr (.inl (9, 97))), some (.inr (.inl (3001, 122))), some (.inr (.inl (4001, 123))), some (.inl i), none, none, none] (c + 10) (t + 60) ⟨Or.inl rfl, Or.inl rfl, Or.inl rfl, Or.inl rfl, Or.inl rfl, Or.inl rfl, Or.inl rfl, Or.inl rfl, Or.inl rfl, trivial⟩ (by omega) (by omega) (by omega) (by omega) (hN M s hL hR hW (fun _ _ => rfl))
    · rw [Int.sub_zero] at ho
      exact lw_sw ⟨h0, by omega, by omega⟩ hv hL hR hW (by omega) (by omega) hN _ (by omega) o ho
/-! the memory with which the loop begins -/
def lw_K : Nat → Nat := pm_kd (pm_kd (kK_122_97 (pm_kd (kK_56_0 (pm_kd (fun _ => 0) 0 8)) 97 9)) 122 3001) 123 4001
def lw_B : Nat → Nat → Bool := pm_nb (pm_nb (kB_122_97 (pm_nb (kB_56_0 (pm_nb (fun _ _ => false) 0)) 97)) 122) 123
def lw_M (M : Nat → Nat → Int) : Nat → Nat → Int := pm_nm (pm_nm (kM_122_97 (pm_nm (kM_56_0 (pm_nm M 0)) 97)) 122) 123
set_option maxRecDepth 100000 in
theorem lw_K_lt : ∀ q, q < 124 → lw_K q < 10 ∨ (1000 ≤ lw_K q ∧ lw_K q < 5006) := by decide +kernel
set_option maxRecDepth 100000 in
theorem lw_B_ok : ∀ q, q < 124 → ∀ j, j < 45 → pm_nd (lw_K q) j = true → lw_B q j = true := by decide +kernel
theorem fk_big : ∀ κ, κ < 10 → ∀ j, 45 ≤ j → pm_fk κ j = 0 := by
  intro κ hκ j hj
  have key : ∀ l : List Nat, l.length ≤ 45 → l.getD j 0 = 0 := fun l hl => by
    rw [List.getD_eq_getElem?_getD, List.getElem?_eq_none (by omega)]
    rfl
  rcases (show κ = 0 ∨ κ = 1 ∨ κ = 2 ∨ κ = 3 ∨ κ = 4 ∨ κ = 5 ∨ κ = 6 ∨ κ = 7 ∨ κ = 8 ∨ κ = 9 by omega) with e | e | e | e | e | e | e | e | e | e <;> subst e
  · exact key _ (by decide)
  · exact key _ (by decide)
  · exact key _ (by decide)
  · exact key _ (by decide)
  · exact key _ (by decide)
  · rfl
  · exact key _ (by decide)
  · exact key _ (by decide)
  · exact key _ (by decide)
  · exact key _ (by decide)
theorem lw_all : ∀ q, q < 124 → ∀ j, pm_nd (lw_K q) j = true → lw_B q j = true := by
  intro q hq j hj
  by_cases h45 : j < 45
  · exact lw_B_ok q hq j h45 hj
  · exfalso
    unfold pm_nd at hj
    rcases lw_K_lt q hq with h | ⟨h1, h2⟩
    · rw [fk_big _ h j (by omega)] at hj
      have e : Nat.ble 1000 (lw_K q) = false := by
        cases hb : Nat.ble 1000 (lw_K q) with
        | false => rfl
        | true => have := Nat.le_of_ble_eq_true hb; omega
      rw [e] at hj
      cases hj
    · rw [Nat.ble_eq_true_of_le h1] at hj
      have hj : (Nat.ble 5000 (lw_K q) && Nat.blt j (lw_K q - 5000)) = true := hj
      rw [Bool.and_eq_true] at hj
      have := Nat.le_of_ble_eq_true hj.2
      omega
set_option maxRecDepth 100000 in
theorem lw_begin (M : Nat → Nat → Int) (h : lwW (28, [some (.inr (.inl (999, 9999))), some (.inr (.inl (8, 0))), some (.inr (.inl (9, 97))), some (.inr (.inl (3001, 122))), some (.inr (.inl (4001, 123))), some (.inl 0), none, none, none], [], pm_m 124 lw_K (lw_M M), 124, 1715)) : lwW (0, [some (.inr (.inl (999, 9999))), none, none, none, none, none, none, none, none], [], ((0, fun _ => 0, fun _ _ => false), M), 0, 0) :=
  pm_seg_wp (fun p => Nat.beq p 7) 10 (show pm_seg lwS _ _ (0, [some (.inr (.inl (999, 9999))), none, none, none, none, none, none, none, none], [], ((0, fun _ => 0, fun _ _ => false), M), 0, 0) lwW from ⟨show 0 < 9000 by decide, ct_56_0 (d := 996) (pm_seg_wp (fun p => Nat.beq p 15) 10 (show pm_seg lwS _ _ (7, [some (.inr (.inl (999, 9999))), none, none, none, none, none, none, none, none], [.inr (.inl (8, 0))], ((97, kK_56_0 (pm_kd (fun _ => 0) 0 8), kB_56_0 (pm_nb (fun _ _ => false) 0)), kM_56_0 (pm_nm M 0)), 97, 1093) lwW from ⟨show 97 < 9000 by decide, ct_122_97 (d := 999) (pm_seg_wp (fun p => Nat.beq p 28) 20 (show pm_seg lwS _ _ (15, [some (.inr (.inl (999, 9999))), some (.inr (.inl (8, 0))), none, none, none, none, none, none, none], [.inr (.inl (9, 97))], ((122, kK_122_97 (pm_kd (kK_56_0 (pm_kd (fun _ => 0) 0 8)) 97 9), kB_122_97 (pm_nb (kB_56_0 (pm_nb (fun _ _ => false) 0)) 97)), kM_122_97 (pm_nm (kM_56_0 (pm_nm M 0)) 97)), 122, 1713) lwW from ⟨⟨by decide, by decide, show 122 < 9000 by decide⟩, ⟨by decide, by decide, show 123 < 9000 by decide⟩, lw_all, h⟩))⟩))⟩)
def s0_lw : stt := ((2, [], [], fun _ => []), none, fun _ => none, none)
theorem row_nil {M : Nat → Nat → Int} {k : Nat} (h : M k 1 = 0) : pm_row M k [] := ⟨h, by decide, fun j hj => absurd hj (Nat.not_lt_zero j)⟩
theorem ar_nil {M : Nat → Nat → Int} {a o : Nat} : px_ar M a o [] := fun j hj => absurd hj (Nat.not_lt_zero j)
theorem s0_wf : wfs s0_lw := ⟨⟨⟨by decide, by decide⟩, wfp_nil, ⟨by decide, fun v hv => (by cases hv)⟩, ⟨fun l => Nat.zero_le _, fun l v hv => (by cases hv), fun l _ => rfl⟩⟩, fun x hx => (by cases hx), fun i q hq => (by cases hq), fun f hf => (by cases hf)⟩
set_option maxRecDepth 100000 in
theorem lw_M0 (M : Nat → Nat → Int) : (lw_M M 1 0 = 2 ∧ lw_M M 2 1 = 0 ∧ lw_M M 4 1 = 0 ∧ lw_M M 8 1 = 0 ∧ lw_M M 10 1 = 0 ∧ lw_M M 12 1 = 0 ∧ lw_M M 14 1 = 0 ∧ lw_M M 0 2 = 0 ∧ lw_M M 40 0 = 0 ∧ lw_M M 40 1 = 0 ∧ lw_M M 40 2 = 0 ∧ lw_M M 40 3 = 0 ∧ lw_M M 41 0 = 0) ∧ (lw_M M 97 3 = 2 ∧ lw_M M 97 1 = 0 ∧ lw_M M 97 4 = 0 ∧ lw_M M 100 0 = 0 ∧ lw_M M 100 1 = 0 ∧ lw_M M 100 2 = 0 ∧ lw_M M 100 3 = 0 ∧ lw_M M 97 14 = 0 ∧ lw_M M 102 0 = -1 ∧ lw_M M 102 1 = -1 ∧ lw_M M 102 2 = -1 ∧ lw_M M 102 3 = -1 ∧ lw_M M 97 10 = 0) :=
  ⟨⟨rfl, rfl, rfl, rfl, rfl, rfl, rfl, rfl, rfl, rfl, rfl, rfl, rfl⟩, rfl, rfl, rfl, rfl, rfl, rfl, rfl, rfl, rfl, rfl, rfl, rfl, rfl⟩
theorem lt4 {f : Nat → Prop} (h0 : f 0) (h1 : f 1) (h2 : f 2) (h3 : f 3) : ∀ l, l < 4 → f l
  | 0, _ => h0
  | 1, _ => h1
  | 2, _ => h2
  | 3, _ => h3
  | l + 4, h => absurd h (by omega)
theorem s0_lab (M : Nat → Nat → Int) : Lab (lw_M M) s0_lw := by
  obtain ⟨⟨a0, a1, a2, a3, a4, a5, a6, a7, a8, a9, a10, a11, a12⟩, -⟩ := lw_M0 M
  exact ⟨⟨a0, row_nil a1, row_nil a2, lt4 (row_nil a3) (row_nil a4) (row_nil a5) (row_nil a6)⟩, a7, lt4 a8 a9 a10 a11, a12⟩
theorem s0_ref (M : Nat → Nat → Int) : Ref (lw_M M) s0_lw := by
  obtain ⟨-, b0, b1, b2, b3, b4, b5, b6, b7, b8, b9, b10, b11, b12⟩ := lw_M0 M
  exact ⟨⟨b0, b1, b2, ar_nil, ar_nil, lt4 ⟨b3, ar_nil⟩ ⟨b4, ar_nil⟩ ⟨b5, ar_nil⟩ ⟨b6, ar_nil⟩⟩, b7, lt4 b8 b9 b10 b11, b12⟩
set_option maxRecDepth 100000 in
theorem lw_hi (M : Nat → Nat → Int) : lw_M M 9998 = M 9998 ∧ lw_M M 9999 = M 9999 := ⟨rfl, rfl⟩
theorem pm_law_holds {L : Nat} {xs : Nat → Int32} (hL : L ≤ 1536) : pm_Law L xs := by
  show lwW (0, [some (.inr (.inl (999, 9999))), none, none, none, none, none, none, none, none], [], ((0, fun _ => 0, fun _ _ => false), pm_M0 L xs), 0, 0)
  refine lw_begin _ ?_
  obtain ⟨e1, e2⟩ := lw_hi (pm_M0 L xs)
  refine lw_loop hL 512 0 124 1715 s0_lw _ (by decide) (by decide) (by omega) (by decide) (by decide) (s0_lab _) (s0_ref _) s0_wf ?_ (fun j => ?_)
  · rw [e1]; rfl
  · rw [e2]
    exact pm_r_of (xs j)

/-! Morphisms, desks -/
/-- the four images of a morphism whose thing is at k -/
def pm_img (M : Nat → Nat → Int) (k : Nat) (im : Nat → List Nat) : Prop := ∀ l, l < 4 → pm_row M (k + 2 + 2 * l) (im l)
theorem pm_img.fr {M M' : Nat → Nat → Int} {k lo hi : Nat} {im : Nat → List Nat} (h : pm_img M k im) (ho : pm_fr lo hi M M') (h1 : k + 10 ≤ lo ∨ hi ≤ k + 2) : pm_img M' k im := fun l hl => (h l hl).fr ho (by omega)
theorem pm_ra {k l : Nat} : ((k + 1) + 1 + 2 * ((l : Nat) : Int).toNat) = k + 2 + 2 * l := by rw [Int.toNat_natCast]
/-- a letter's image in another's -/
def pm_ap (im : Nat → List Nat) (w : List Nat) : List Nat := w.flatMap im
theorem pm_ap_snoc {im : Nat → List Nat} {w : List Nat} {v : Nat} : pm_ap im (w ++ [v]) = pm_ap im w ++ im v := by
  unfold pm_ap
  rw [List.flatMap_append]
  simp
theorem pm_ap_len {im : Nat → List Nat} {w : List Nat} : ∀ i j, i ≤ j → j ≤ w.length → (pm_ap im (w.take i)).length ≤ (pm_ap im (w.take j)).length := by
  intro i j hij
  induction j with
  | zero => intro _; have : i = 0 := by omega
            subst this; exact Nat.le_refl _
  | succ j ih =>
    intro hj
    by_cases h : i = j + 1
    · subst h; exact Nat.le_refl _
    · refine Nat.le_trans (ih (by omega) (by omega)) ?_
      rw [tk_succ (show j < w.length by omega), pm_ap_snoc, List.length_append]; omega
section MPH
variable {d n : Nat} {kd : Nat → Nat} {M : Nat → Nat → Int} {Qr : Option pm_V → pm_Me → Prop} {Qx : Nat → pm_Me → Prop}
/-- Morphism.clear -/
theorem sp_16 {k : Nat} (hd : 2 ≤ d) (h : ∀ M', pm_img M' k (fun _ => []) → pm_fr (k + 2) (k + 10) M M' → Qr none (pm_m n kd M')) : pm_run d 16 [.inr (.inl (2, k))] (pm_m n kd M) Qr Qx := by
  obtain ⟨d, rfl⟩ := pm_ex1 (Nat.le_trans (by decide) hd)
  refine tr_16 (by omega) (pm_lp (N := 4) (G := fun i M1 => pm_wq d 16 Qr Qx (2, [some (.inr (.inl (2, k))), some (.inl (i : Int))], [], pm_m n kd M1, 0, 0)) (I := fun i M1 => (∀ l, l < i → pm_row M1 (k + 2 + 2 * l) []) ∧ pm_fr (k + 2) (k + 10) M M1) ?_ ?_ 0 M (Nat.zero_le _) ⟨fun l hl => absurd hl (Nat.not_lt_zero l), pm_fr.rf⟩)
  · intro M1 ⟨hr, ho⟩
    exact tr_16_2 (by omega) ⟨fun _ => h M1 hr ho, fun z => by omega⟩
  · intro i M1 hi ⟨hr, ho⟩ ih
    refine tr_16_2 (by omega) ⟨fun z => by omega, fun _ => ⟨⟨by omega, by omega⟩, ⟨by omega, by omega⟩, ?_⟩⟩
    rw [pm_ra]
    refine ih _ ⟨fun l hl => ?_, ho.up (by omega) (by omega)⟩
    by_cases e : l = i
    · subst e; exact pm_row.clear
    · exact (hr l (by omega)).fr (lo := k + 2 + 2 * i) (hi := k + 2 + 2 * i + 1) (pm_fr.rf.up (by omega) (by omega)) (by omega)
/-- Morphism.become -/
theorem sp_17 {k q : Nat} {im : Nat → List Nat} (hd : 2 ≤ d) (hq : pm_img M q im) (h1 : q + 10 ≤ k ∨ k + 10 ≤ q) (h : ∀ M', pm_img M' k im → pm_fr (k + 2) (k + 10) M M' → Qr none (pm_m n kd M')) : pm_run d 17 [.inr (.inl (2, k)), .inr (.inl (2, q))] (pm_m n kd M) Qr Qx := by
  obtain ⟨d, rfl⟩ := pm_ex1 (Nat.le_trans (by decide) hd)
  refine tr_17 (pm_lp (N := 4) (G := fun i M1 => pm_wq d 17 Qr Qx (2, [some (.inr (.inl (2, k))), some (.inr (.inl (2, q))), some (.inl (i : Int))], [], pm_m n kd M1, 0, 0)) (I := fun i M1 => (∀ l, l < i → pm_row M1 (k + 2 + 2 * l) (im l)) ∧ pm_fr (k + 2) (k + 10) M M1) ?_ ?_ 0 M (Nat.zero_le _) ⟨fun l hl => absurd hl (Nat.not_lt_zero l), pm_fr.rf⟩)
  · intro M1 ⟨hr, ho⟩
    exact tr_17_2 ⟨fun _ => h M1 hr ho, fun z => by omega⟩
  · intro i M1 hi ⟨hr, ho⟩ ih
    have hq1 := hq.fr ho (by omega)
    refine tr_17_2 ⟨fun z => by omega, fun _ => ⟨⟨by omega, by omega⟩, ⟨by omega, by omega⟩, ?_⟩⟩
    rw [pm_ra, pm_ra]
    refine sq_42 (by omega) (hq1 i hi) (by omega) (by omega) (fun M2 hr2 ho2 => ?_)
    refine tr_17_22 ⟨⟨by omega, by omega⟩, ih M2 ⟨fun l hl => ?_, ho.tr (ho2.wd (by omega) (by omega))⟩⟩
    by_cases e : l = i
    · subst e; exact hr2
    · exact (hr l (by omega)).fr ho2 (by omega)
/-- Desk.become -/
def pm_desk (M : Nat → Nat → Int) (k : Nat) (K : Nat) (p w : List Nat) (im : Nat → List Nat) : Prop := M k 0 = (K : Int) ∧ pm_row M (k + 1) p ∧ pm_row M (k + 3) w ∧ pm_img M (k + 5) im
theorem pm_desk.fr {M M' : Nat → Nat → Int} {k K lo hi : Nat} {p w : List Nat} {im : Nat → List Nat} (h : pm_desk M k K p w im) (ho : pm_fr lo hi M M') (h1 : k + 15 ≤ lo ∨ hi ≤ k) : pm_desk M' k K p w im := by
  obtain ⟨a, b, c, e⟩ := h
  exact ⟨(ho.at (by omega)).trans a, b.fr ho (by omega), c.fr ho (by omega), e.fr ho (by omega)⟩
theorem sp_1 {k q K : Nat} {p w : List Nat} {im : Nat → List Nat} (hd : 3 ≤ d) (hq : pm_desk M q K p w im) (h1 : q + 15 ≤ k ∨ k + 15 ≤ q) (h : ∀ M', pm_desk M' k K p w im → pm_fr k (k + 15) M M' → Qr none (pm_m n kd M')) : pm_run d 1 [.inr (.inl (0, k)), .inr (.inl (0, q))] (pm_m n kd M) Qr Qx := by
  obtain ⟨d, rfl⟩ := pm_ex1 (Nat.le_trans (by decide) hd)
  have ho : pm_fr k (k + 1) M (pm_up M k 0 (M q 0)) := pm_fr.rf.up (by omega) (by omega)
  obtain ⟨a, b, c, e⟩ := hq
  refine tr_1 ?_
  refine sq_42 (by omega) (b.fr ho (by omega)) (by omega) (by omega) (fun M1 hr1 ho1 => ?_)
  refine tr_1_19 ?_
  refine sq_42 (by omega) ((c.fr ho (by omega)).fr ho1 (by omega)) (by omega) (by omega) (fun M2 hr2 ho2 => ?_)
  refine tr_1_30 ?_
  refine sp_17 (im := im) (by omega) (((e.fr ho (by omega)).fr ho1 (by omega)).fr ho2 (by omega)) (by omega) (fun M3 hr3 ho3 => ?_)
  refine tr_1_41 (h M3 ⟨?_, ?_, ?_, hr3⟩ ?_)
  · rw [ho3.at (by omega), ho2.at (by omega), ho1.at (by omega), pm_up_eq]; exact a
  · exact (hr1.fr ho2 (by omega)).fr ho3 (by omega)
  · exact hr2.fr ho3 (by omega)
  · exact (((ho.wd (by omega) (by omega)).tr (ho1.wd (by omega) (by omega))).tr (ho2.wd (by omega) (by omega))).tr (ho3.wd (by omega) (by omega))
/-- Morphism.becomeFirst -/
theorem sp_18 {k K x : Nat} (hd : 3 ≤ d) (hx : x ≤ 24) (h : ∀ M', pm_img M' k (fun l => if l < K then List.replicate x 0 else []) → pm_fr (k + 2) (k + 10) M M' → Qr none (pm_m n kd M')) : pm_run d 18 [.inr (.inl (2, k)), .inl (K : Int), .inl (x : Int)] (pm_m n kd M) Qr Qx := by
  obtain ⟨d, rfl⟩ := pm_ex1 (Nat.le_trans (by decide) hd)
  refine tr_18 (pm_lp (N := 4) (G := fun i M1 => pm_wq d 18 Qr Qx (2, [some (.inr (.inl (2, k))), some (.inl (K : Int)), some (.inl (x : Int)), some (.inl (i : Int))], [], pm_m n kd M1, 0, 0)) (I := fun i M1 => (∀ l, l < i → pm_row M1 (k + 2 + 2 * l) (if l < K then List.replicate x 0 else [])) ∧ pm_fr (k + 2) (k + 10) M M1) ?_ ?_ 0 M (Nat.zero_le _) ⟨fun l hl => absurd hl (Nat.not_lt_zero l), pm_fr.rf⟩)
  · intro M1 ⟨hr, ho⟩
    exact tr_18_2 ⟨fun _ => h M1 hr ho, fun z => by omega⟩
  · intro i M1 hi ⟨hr, ho⟩ ih
    have fin : ∀ M2, pm_row M2 (k + 2 + 2 * i) (if i < K then List.replicate x 0 else []) → pm_fr (k + 2 + 2 * i) (k + 2 + 2 * i + 2) M1 M2 → pm_wq d 18 Qr Qx (26, [some (.inr (.inl (2, k))), some (.inl (K : Int)), some (.inl (x : Int)), some (.inl (i : Int))], [], pm_m n kd M2, 0, 0) := by
      intro M2 hr2 ho2
      refine tr_18_26 ⟨⟨by omega, by omega⟩, ih M2 ⟨fun l hl => ?_, ho.tr (ho2.wd (by omega) (by omega))⟩⟩
      by_cases e : l = i
      · subst e; exact hr2
      · exact (hr l (by omega)).fr ho2 (by omega)
    refine tr_18_2 ⟨fun z => by omega, fun _ => ⟨⟨by omega, by omega⟩, fun z => ?_, fun z => ?_⟩⟩
    · rw [pm_ra]
      exact sp_43 (x := 0) (by omega) (by omega) (fun M2 hr2 ho2 => fin M2 (by rw [if_neg (by omega)]; exact hr2) ho2)
    · rw [pm_ra]
      exact sp_43 (x := x) (by omega) (by omega) (fun M2 hr2 ho2 => fin M2 (by rw [if_pos (by omega)]; exact hr2) ho2)
/-- Morphism.change: into the row at 95 -/
theorem sp_20 {k q : Nat} {im : Nat → List Nat} {w : List Nat} (hd : 3 ≤ d) (hk : pm_img M k im) (hq : pm_row M q w) (h4 : ∀ v ∈ w, v < 4) (h1 : k + 10 ≤ 95 ∨ 97 ≤ k + 2) (h2 : q + 2 ≤ 95 ∨ 97 ≤ q)
    (hy : ∀ M', (pm_ap im w).length ≤ 24 → pm_row M' 95 (pm_ap im w) → pm_fr 95 97 M M' → Qr (some (.inl 1)) (pm_m n kd M')) (hn : ∀ M', 24 < (pm_ap im w).length → pm_fr 95 97 M M' → Qr (some (.inl 0)) (pm_m n kd M')) : pm_run d 20 [.inr (.inl (2, k)), .inr (.inl (6, q)), .inr (.inl (6, 95))] (pm_m n kd M) Qr Qx := by
  obtain ⟨d, rfl⟩ := pm_ex1 (Nat.le_trans (by decide) hd)
  refine tr_20 (by omega) (pm_lp (N := w.length) (G := fun i M1 => pm_wq d 20 Qr Qx (6, [some (.inr (.inl (2, k))), some (.inr (.inl (6, q))), some (.inr (.inl (6, 95))), some (.inl (i : Int)), none, none, none], [], pm_m n kd M1, 0, 0)) (I := fun i M1 => pm_row M1 95 (pm_ap im (w.take i)) ∧ pm_fr 95 97 M M1) ?_ ?_ 0 _ (Nat.zero_le _) ⟨pm_row.clear, pm_fr.rf.up (by omega) (by omega)⟩)
  · intro M1 ⟨hr, ho⟩
    have hs := (hq.fr ho (by omega)).size
    rw [List.take_length] at hr
    exact tr_20_6 (by omega) ⟨fun _ => hy M1 hr.2.1 hr ho, fun z => by omega⟩
  · intro i M1 hi ⟨hr, ho⟩ ih
    have hq1 := hq.fr ho (by omega)
    have hk1 := hk.fr ho (by omega)
    have hs := hq1.size
    have hrs := hr.size
    have hv := h4 _ (gd_mem hi)
    have hat := hq1.at hi
    refine tr_20_6 (by omega) ⟨fun z => by omega, fun _ => ⟨⟨by omega, by omega, by omega⟩, ?_⟩⟩
    rw [Int.toNat_natCast, hat]
    refine ⟨fun z => by omega, fun _ => ⟨fun z => by omega, fun _ => ⟨⟨by omega, by omega⟩, ?_⟩⟩⟩
    rw [pm_ra]
    have him := hk1 _ hv
    have hims := him.size
    rw [hims.1, hrs.1]
    refine ⟨⟨by omega, by omega⟩, fun z => ⟨⟨by omega, by omega⟩, ?_⟩, fun z => ?_⟩
    · refine pm_lp (N := (im (w.getD i 0)).length) (G := fun j M2 => pm_wq d 20 Qr Qx (66, [some (.inr (.inl (2, k))), some (.inr (.inl (6, q))), some (.inr (.inl (6, 95))), some (.inl (i : Int)), none, some (.inr (.inl (6, k + 2 + 2 * w.getD i 0))), some (.inl (j : Int))], [], pm_m n kd M2, 0, 0)) (I := fun j M2 => pm_row M2 95 (pm_ap im (w.take i) ++ (im (w.getD i 0)).take j) ∧ pm_fr 95 97 M M2) ?_ ?_ 0 _ (Nat.zero_le _) ⟨by rw [List.take_zero, List.append_nil]; exact hr, ho⟩
      · intro M2 ⟨hr2, ho2⟩
        have := ((hk.fr ho2 (by omega)) _ hv).size
        refine tr_20_66 (by omega) ⟨fun _ => ⟨⟨by omega, by omega⟩, ih M2 ⟨?_, ho2⟩⟩, fun z => by omega⟩
        rw [tk_succ hi, pm_ap_snoc]
        rw [List.take_length] at hr2
        exact hr2
      · intro j M2 hj ⟨hr2, ho2⟩ ih2
        have him2 := (hk.fr ho2 (by omega)) _ hv
        have hs2 := him2.size
        have hrs2 := hr2.size
        rw [List.length_append, tk_len (by omega)] at hrs2
        refine tr_20_66 (by omega) ⟨fun z => by omega, fun _ => ⟨⟨by omega, by omega, by omega⟩, ⟨by omega, by omega⟩, ⟨by omega, by omega⟩, ih2 _ ⟨?_, (ho2.up (by omega) (by omega)).up (by omega) (by omega)⟩⟩⟩
        rw [tk_succ hj, ← List.append_assoc]
        exact hr2.add _ (by rw [Int.toNat_natCast, him2.at hj]) (by rw [List.length_append, tk_len (by omega)]; omega)
    · refine hn M1 ?_ ho
      have h9 := @pm_ap_len im w (i + 1) w.length (by omega) (Nat.le_refl _)
      rw [tk_succ hi, pm_ap_snoc, List.length_append, List.take_length] at h9
      omega
end MPH

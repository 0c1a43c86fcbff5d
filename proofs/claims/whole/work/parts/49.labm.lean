/-! CALLS OF THE CLASS: words that are spoiled, morphisms that are sought -/
/-- the images with a number -/
def gim (K m num : Nat) : Nat → List Nat := fun l => if l < K then (List.range m).map (fun i => num / K ^ (m * (K - 1 - l) + (m - 1 - i)) % K) else []
def rnx (K : Nat) : List Nat → Nat → List Nat × Bool
  | xs, 0 => (xs, false)
  | xs, i + 1 => if xs.getD i 0 + 1 < K then (xs.set i (xs.getD i 0 + 1), true) else rnx K (xs.set i 0) i
def inx (K : Nat) : (Nat → List Nat) → Nat → (Nat → List Nat) × Bool
  | im, 0 => (im, false)
  | im, l + 1 => if (rnx K (im l) (im l).length).2 = true then (ud im l (rnx K (im l) (im l).length).1, true) else inx K (ud im l (rnx K (im l) (im l).length).1) l
theorem gim_zero : ∀ K, K < 5 → ∀ m, m < 4 → ∀ l, l < 4 → (if l < K then List.replicate m 0 else []) = gim K m 0 l := by decide +kernel
def gnB (K m num : Nat) : Bool := Nat.blt K 2 || Nat.blt m 1 || Nat.ble (K ^ (K * m)) num || (((inx K (gim K m num) 4).2 == decide (num + 1 < K ^ (K * m))) && (Nat.ble (K ^ (K * m)) (num + 1) || ((List.range 4).all fun l => (inx K (gim K m num) 4).1 l == gim K m (num + 1) l)))
theorem gnB_all : ∀ K, K < 5 → ∀ m, m < 4 → ∀ num, num < 100 → gnB K m num = true := by decide +kernel
theorem gim_next (K : Nat) (hK : K < 5) (hK2 : 2 ≤ K) (m : Nat) (hm : m < 4) (hm1 : 1 ≤ m) (num : Nat) (hn : num < 100) (hnum : num < K ^ (K * m)) : ((inx K (gim K m num) 4).2 = decide (num + 1 < K ^ (K * m))) ∧ (num + 1 < K ^ (K * m) → ∀ l, l < 4 → (inx K (gim K m num) 4).1 l = gim K m (num + 1) l) := by
  have h := gnB_all K hK m hm num hn
  unfold gnB at h
  rw [Bool.or_eq_true, Bool.or_eq_true, Bool.or_eq_true] at h
  rcases h with ((h | h) | h) | h
  · have := Nat.le_of_ble_eq_true h
    omega
  · have := Nat.le_of_ble_eq_true h
    omega
  · have := Nat.le_of_ble_eq_true h
    omega
  · rw [Bool.and_eq_true, Bool.or_eq_true] at h
    refine ⟨beq_iff_eq.mp h.1, fun h2 l hl => ?_⟩
    rcases h.2 with h3 | h3
    · have := Nat.le_of_ble_eq_true h3
      omega
    · exact beq_iff_eq.mp (List.all_eq_true.mp h3 l (List.mem_range.mpr hl))
theorem gim_dig : ∀ K, K < 5 → ∀ m, m < 4 → ∀ num, num < 100 → ∀ l, l < 4 → ∀ v ∈ gim K m num l, v < K := by
  intro K hK m hm num hn l hl v hv
  unfold gim at hv
  split at hv
  · obtain ⟨i, -, hi⟩ := List.mem_map.mp hv
    rw [← hi]
    exact Nat.mod_lt _ (by omega)
  · cases hv
theorem gim_len {K m num l : Nat} : (gim K m num l).length = if l < K then m else 0 := by
  unfold gim
  split
  · rw [List.length_map, List.length_range]
  · rfl
/-- nothing is given up with short words -/
theorem lpc_small {p : List Nat} {rec : List Nat → Nat → EV} {B : Nat} (hrec : ∀ w t, t + B ≤ 1500 → (rec w t).2.2 = false ∧ (rec w t).2.1 ≤ t + B) : ∀ c w l tr, tr + c * (B + 1) ≤ 1500 → (lpc p rec c w l tr).2.2 = false ∧ (lpc p rec c w l tr).2.1 ≤ tr + c * (B + 1)
  | 0, w, l, tr, h => ⟨rfl, by show tr ≤ _; omega⟩
  | c + 1, w, l, tr, h => by
    have e : (c + 1) * (B + 1) = c * (B + 1) + (B + 1) := Nat.succ_mul _ _
    rw [e] at h ⊢
    rw [lpc, if_neg (by omega)]
    split
    · obtain ⟨a1, a2⟩ := hrec (w ++ [l]) (tr + 1) (by omega)
      obtain ⟨b1, b2⟩ := lpc_small hrec c w (l + 1) (rec (w ++ [l]) (tr + 1)).2.1 (by omega)
      unfold evb evc
      rw [if_neg (by rw [a1]; exact Bool.false_ne_true)]
      refine ⟨b1, ?_⟩
      show (lpc p rec c w (l + 1) (rec (w ++ [l]) (tr + 1)).2.1).2.1 ≤ _
      omega
    · obtain ⟨b1, b2⟩ := lpc_small hrec c w (l + 1) (tr + 1) (by omega)
      exact ⟨b1, by omega⟩
theorem nodes_small {s : stt} {lg : Nat} (hK : gK s ≤ 4) (hl : lg ≤ 2) : (nodes s lg []).2.2 = false := by
  have h0 : ∀ w t, t + 0 ≤ 1500 → (DF (gP s) (gK s) 0 w t).2.2 = false ∧ (DF (gP s) (gK s) 0 w t).2.1 ≤ t + 0 := fun w t _ => ⟨rfl, Nat.le_refl _⟩
  have h1 : ∀ w t, t + 4 ≤ 1500 → (DF (gP s) (gK s) 1 w t).2.2 = false ∧ (DF (gP s) (gK s) 1 w t).2.1 ≤ t + 4 := fun w t ht => by
    have := lpc_small (p := gP s) h0 (gK s) w 0 t (by omega)
    exact ⟨this.1, Nat.le_trans this.2 (by omega)⟩
  have h2 : ∀ w t, t + 20 ≤ 1500 → (DF (gP s) (gK s) 2 w t).2.2 = false := fun w t ht => by
    have : gK s * (4 + 1) ≤ 20 := Nat.mul_le_mul hK (Nat.le_refl 5)
    exact (lpc_small (p := gP s) h1 (gK s) w 0 t (by omega)).1
  show (DF (gP s) (gK s) (lg - 0) [] 0).2.2 = false
  rcases (show lg = 0 ∨ lg = 1 ∨ lg = 2 by omega) with e | e | e
  · rw [e]; rfl
  · rw [e]; exact (h1 [] 0 (by decide)).1
  · rw [e]; exact h2 [] 0 (by decide)
noncomputable def ffm (s : stt) (m lg : Nat) : Nat → Nat → Option Nat
  | 0, _ => none
  | c + 1, num => if csp s (gim (gK s) m num) lg = 0 then some num else ffm s m lg c (num + 1)
noncomputable def o_findMorphism (s : stt) (x y : Int) : ans := if (1 ≤ x ∧ x ≤ 3) ∧ 1 ≤ y ∧ y ≤ 2 then (if gP s = [] then (.inr 2, s) else match ffm s x.toNat y.toNat (min (gK s ^ (gK s * x.toNat)) 100) 0 with | some num => (.inl ((num : Int) + 1), sI s (gim (gK s) x.toNat num)) | none => if 100 < gK s ^ (gK s * x.toNat) then (.inr 3, s) else (.inr 4, s)) else (.inr 1, s)
/-- nothing changed but matcher, search, draft and result -/
def px_cs (M M' : Nat → Nat → Int) : Prop := ∀ a, a < 53 ∨ (78 ≤ a ∧ a < 93) ∨ 97 ≤ a → M' a = M a
theorem px_cs.rf {M : Nat → Nat → Int} : px_cs M M := fun _ _ => rfl
theorem px_cs.tr {M M1 M2 : Nat → Nat → Int} (h1 : px_cs M M1) (h2 : px_cs M1 M2) : px_cs M M2 := fun a ha => (h2 a ha).trans (h1 a ha)
theorem px_cs.fr {M M' : Nat → Nat → Int} (h : px_cs M M') : pm_fr 53 97 M M' := fun a ha => h a (by omega)
theorem px_cs.of {M M' : Nat → Nat → Int} {lo hi : Nat} (h : pm_fr lo hi M M') (h1 : (53 ≤ lo ∧ hi ≤ 78) ∨ (93 ≤ lo ∧ hi ≤ 97)) : px_cs M M' := fun a ha => h a (by omega)
theorem pm_img.cs {M M' : Nat → Nat → Int} {k : Nat} {im : Nat → List Nat} (h : pm_img M k im) (g : px_cs M M') (hk : k + 10 ≤ 53 ∨ (78 ≤ k ∧ k + 10 ≤ 93)) : pm_img M' k im := fun l hl => (h l hl).congr (g _ (by omega)) (g _ (by omega))
section LBM
variable {d n : Nat} {kd : Nat → Nat} {M : Nat → Nat → Int} {Qr : Option pm_V → pm_Me → Prop} {Qx : Nat → pm_Me → Prop} {s : stt} {x y : Int}
/-- spoils -/
theorem la_121 {k : Nat} {im : Nat → List Nat} {p v : List Nat} (hd : 24 ≤ d) (hi : pm_img M k im) (hk : k + 10 ≤ 53 ∨ (78 ≤ k ∧ k + 10 ≤ 93)) (h4 : ∀ l, l < 4 → (im l).length ≤ 4) (hm : pm_mp M 53 p) (hp : p ≠ []) (h15 : p.length ≤ 15) (hv : pm_row M 76 v) (hvK : ∀ u ∈ v, u < 4) (hv5 : v.length ≤ 5) (h : ∀ M', pm_mp M' 53 p → pm_fr 53 97 M M' → (∀ a, 63 ≤ a → a < 95 → M' a = M a) → Qr (some (.inl (bI (FO p (pm_ap im v)).isSome))) (pm_m n kd M')) : pm_run d 121 [.inr (.inl (8, 0)), .inr (.inl (2, k)), .inr (.inl (6, 76))] (pm_m n kd M) Qr Qx := by
  obtain ⟨d, rfl⟩ := pm_ex1 (show 1 ≤ d by omega)
  have hlen : ∀ w : List Nat, (∀ u ∈ w, u < 4) → (pm_ap im w).length ≤ 4 * w.length := by
    intro w
    induction w with
    | nil => intro _; exact Nat.le_refl _
    | cons a w ih =>
      intro hw
      have h1 := ih (fun u hu => hw u (List.mem_cons_of_mem _ hu))
      have h2 := h4 a (hw a List.mem_cons_self)
      unfold pm_ap at h1 ⊢
      rw [List.flatMap_cons, List.length_append, List.length_cons]
      omega
  have h20 := hlen v hvK
  refine tr_121 (sp_20 (by omega) hi hv hvK (by omega) (by decide) (fun M1 _ hr ho => ?_) (fun M1 hbig _ => by omega))
  refine tr_121_9 ⟨fun _ => ?_, fun w => absurd (by decide) w⟩
  refine sp_5 (by omega) hr (by decide) (by decide) (fun M2 ht ho2 => tr_121_25 ?_)
  have hm2 := (hm.fr ho (by decide)).fr ho2 (by decide)
  refine sp_6 (by omega) hm2 ht hp ?_ ?_
  · intro M3 s0 E' r' hb hs hh he ho3
    refine tr_121_32 ⟨fun w => by omega, fun _ => ?_⟩
    have := h M3 (hm2.fr ho3 (by decide)) (((ho.wd (by decide) (by decide)).tr (ho2.wd (by decide) (by decide))).tr (ho3.wd (by decide) (by decide))) (fun a h1 h2 => by rw [ho3 a (by omega), ho2 a (by omega), ho a (by omega)])
    rw [FO_some hh (occ_end (head_ne hh) hp) hb] at this
    exact this
  · intro M3 hb ho3
    refine tr_121_32 ⟨fun _ => ?_, fun w => absurd (by decide) w⟩
    have := h M3 (hm2.fr ho3 (by decide)) (((ho.wd (by decide) (by decide)).tr (ho2.wd (by decide) (by decide))).tr (ho3.wd (by decide) (by decide))) (fun a h1 h2 => by rw [ho3 a (by omega), ho2 a (by omega), ho a (by omega)])
    rw [FO_none (fun j _ => hb j)] at this
    exact this
/-- countSpoiledBy -/
theorem la_120 {k lg : Nat} {im : Nat → List Nat} (hd : 28 ≤ d) (hL : Lab M s) (hW : wfs s) (hne : gP s ≠ []) (hlg : lg ≤ 5) (hi : pm_img M k im) (hk : k + 10 ≤ 53 ∨ (78 ≤ k ∧ k + 10 ≤ 93)) (h4 : ∀ l, l < 4 → (im l).length ≤ 4) (h : ∀ M', px_cs M M' → Qr (some (.inl (if (nodes s lg []).2.2 = true then -1 else (csp s im lg : Int)))) (pm_m n kd M')) : pm_run d 120 [.inr (.inl (8, 0)), .inr (.inl (2, k)), .inl (lg : Int)] (pm_m n kd M) Qr Qx := by
  obtain ⟨d, rfl⟩ := pm_ex1 (show 1 ≤ d by omega)
  have hK : 2 ≤ gK s ∧ gK s ≤ 4 := hW.1.1
  have hP : wfp (gP s) := hW.1.2.1
  refine tr_120 (la_118 (by omega) hL hW (fun M1 hS1 ho1 hx1 => tr_120_4 ?_))
  have g1 : px_cs M M1 := fun a ha => by
    by_cases e : 78 ≤ a ∧ a < 93
    · exact hx1 a e.1 e.2
    · exact ho1 a (by omega)
  refine sp_3 (by omega) (hL.p.congr (g1 2 (by decide)) (g1 3 (by decide))) hP.2 (by decide) (fun M2 hm2 ho2 => tr_120_18 ?_)
  have hS2 := hS1.fr ho2 (by decide)
  have g2 : px_cs M M2 := g1.tr (px_cs.of ho2 (by decide))
  have hRS0 := nodes0 (s := s) (lg := lg)
  unfold csp at h
  generalize hN : nodes s lg [] = N at h hRS0
  obtain ⟨L0, r0⟩ := N
  generalize hX : cnl (fun v => v.length == lg && (FO (gP s) (pm_ap im v)).isSome) L0 = X at h
  have hL0 := RS_len (tr := 0) (by decide) hRS0
  have loop : ∀ (c found : Nat) (v : List Nat) (t cx : Nat) (L : List (List Nat × Nat)) (M3 : Nat → Nat → Int), L.length = c → found + c ≤ 1500 → cx ≤ found → SI M3 (gP s) v 0 (gK s) t → pm_mp M3 53 (gP s) → v.length ≤ lg → (∀ u ∈ v, u < gK s) → t ≤ 1500 → RS (gP s) (gK s) lg v.length v 0 t = (L, r0) → X = cx + cnl (fun v => v.length == lg && (FO (gP s) (pm_ap im v)).isSome) L → px_cs M M3 → pm_wq d 120 Qr Qx (23, [some (.inr (.inl (8, 0))), some (.inr (.inl (2, k))), some (.inl (lg : Int)), some (.inl (cx : Int)), some (.inl (found : Int))], [], pm_m n kd M3, 0, 0) := by
    intro c
    induction c with
    | zero =>
      intro found v t cx L M3 hc hf hcx hS3 hm3 hvl hvK ht hR hx ho3
      have hLn : L = [] := List.length_eq_zero_iff.mp hc
      refine tr_120_23 ⟨fun w => by omega, fun _ => ?_⟩
      refine sp_55 (m := v.length) (by omega) hne hP.1 hS3 (by omega) (by omega) hvl hK.2 hvK ht ?_ ?_
      · intro M4 v' t' L' r hR2 _ _ _ _ _ _ _
        rw [hR, hLn] at hR2
        cases hR2
      · intro M4 t' g hR2 h6' h5' _ ho4
        rw [hR, hLn] at hR2
        have hr0 : r0 = (t', g) := (Prod.mk.inj hR2).2
        rw [hLn] at hx
        have hx : X = cx + 0 := hx
        have hh := h M4 (ho3.tr (px_cs.of ho4 (by decide)))
        have hh : Qr (some (.inl (if r0.2 = true then -1 else (X : Int)))) (pm_m n kd M4) := hh
        rw [hr0] at hh
        refine tr_120_39 ⟨fun _ => ⟨fun z6 => ?_, fun z6 => ?_⟩, fun w => absurd rfl w⟩
        · have hg : g = false := by cases g; rfl; rw [h6'] at z6; exact absurd z6 (by decide)
          rw [hg, if_neg Bool.false_ne_true] at hh
          rw [show cx = X by omega]
          exact hh
        · have hg : g = true := by cases g; rw [h6'] at z6; exact absurd rfl z6; rfl
          rw [hg, if_pos rfl] at hh
          exact hh
    | succ c ih =>
      intro found v t cx L M3 hc hf hcx hS3 hm3 hvl hvK ht hR hx ho3
      refine tr_120_23 ⟨fun w => by omega, fun _ => ?_⟩
      refine sp_55 (m := v.length) (by omega) hne hP.1 hS3 (by omega) (by omega) hvl hK.2 hvK ht ?_ ?_
      · intro M4 v' t' L' r hR2 hS4 hb4 hl4 hK4 ht4 hR4 ho4
        rw [hR] at hR2
        cases hR2
        have hs4 := hS4.2.2.1.size
        have e : ((found : Int) + 1) = ((found + 1 : Nat) : Int) := by omega
        have ho5 : px_cs M M4 := ho3.tr (px_cs.of ho4 (by decide))
        have hm4 := hm3.fr ho4 (by decide)
        rw [cnl_cons] at hx
        rw [List.length_cons] at hc
        refine tr_120_39 ⟨fun w => absurd w (by decide), fun _ => ⟨fun z7 => ⟨⟨by omega, by omega⟩, ?_⟩, fun z7 => ?_⟩⟩
        · rw [if_neg (fun w => by rw [Bool.and_eq_true, beq_iff_eq] at w; omega)] at hx
          rw [e]
          exact ih (found + 1) v' t' cx L' M4 (by omega) (by omega) (by omega) hS4 hm4 hl4 hK4 ht4 hR4 (by omega) ho5
        · have hvl' : v'.length = lg := by omega
          refine la_121 (by omega) (hi.cs ho5 hk) hk h4 hm4 hne hP.1 hS4.2.2.1 (fun u hu => by have := hK4 u hu; omega) (by omega) (fun M5 hm5 ho6 hx6 => ?_)
          have ho7 : px_cs M M5 := fun a ha => by
            by_cases e : 63 ≤ a ∧ a < 95
            · rw [hx6 a e.1 e.2]; exact ho5 a ha
            · rw [ho6 a (by omega)]; exact ho5 a ha
          have hS5 : SI M5 (gP s) v' 0 (gK s) t' := by
            obtain ⟨a1, ⟨tx, a2, a3, a4⟩, a5, a6, a7, a8, a9⟩ := hS4
            have ho8 : pm_fr 0 63 M4 (fun a => if 63 ≤ a ∧ a < 95 then M5 a else M4 a) := fun a ha => by
              show (if 63 ≤ a ∧ a < 95 then M5 a else M4 a) = M4 a
              split
              · next e => exact hx6 a e.1 e.2
              · rfl
            refine ⟨⟨a1.1.congr (hx6 _ (by decide) (by decide)) (hx6 _ (by decide) (by decide)), a1.2.1, fun v hv => by rw [hx6 _ (by decide) (by decide)]; exact a1.2.2.1 v hv, fun v hv => by rw [hx6 _ (by decide) (by decide)]; exact a1.2.2.2.1 v hv, fun j hj => by rw [hx6 _ (by decide) (by decide)]; exact a1.2.2.2.2 j hj⟩, ⟨tx, a2.congr (hx6 _ (by decide) (by decide)) (hx6 _ (by decide) (by decide)), a3, a4⟩, a5.congr (hx6 _ (by decide) (by decide)) (hx6 _ (by decide) (by decide)), by rw [hx6 _ (by decide) (by decide)]; exact a6, by rw [hx6 _ (by decide) (by decide)]; exact a7, by rw [hx6 _ (by decide) (by decide)]; exact a8, by rw [hx6 _ (by decide) (by decide)]; exact a9⟩
          refine tr_120_68 ⟨fun z8 => ⟨⟨by omega, by omega⟩, ?_⟩, fun z8 => ⟨⟨by omega, by omega⟩, ⟨by omega, by omega⟩, ?_⟩⟩
          · have hb : (FO (gP s) (pm_ap im v')).isSome = false := by
              cases hc2 : (FO (gP s) (pm_ap im v')).isSome with
              | false => rfl
              | true => rw [hc2] at z8; exact absurd z8 (by decide)
            rw [if_neg (fun w => by rw [hb, Bool.and_false] at w; cases w)] at hx
            rw [e]
            exact ih (found + 1) v' t' cx L' M5 (by omega) (by omega) (by omega) hS5 hm5 hl4 hK4 ht4 hR4 (by omega) ho7
          · have hb : (FO (gP s) (pm_ap im v')).isSome = true := by
              cases hc2 : (FO (gP s) (pm_ap im v')).isSome with
              | true => rfl
              | false => rw [hc2] at z8; exact absurd rfl z8
            rw [if_pos (by rw [hb, hvl', Bool.and_true]; exact beq_self_eq_true _)] at hx
            have e2 : ((cx : Int) + 1) = ((cx + 1 : Nat) : Int) := by omega
            rw [e, e2]
            exact ih (found + 1) v' t' (cx + 1) L' M5 (by omega) (by omega) (by omega) hS5 hm5 hl4 hK4 ht4 hR4 (by omega) ho7
      · intro M4 t' g hR2 _ _ _ _
        rw [hR] at hR2
        have := (Prod.mk.inj hR2).1
        rw [this] at hc
        cases hc
  exact loop L0.length 0 [] 0 0 L0 M2 rfl (by omega) (by omega) hS2 hm2 (Nat.zero_le _) (fun u hu => by cases hu) (by decide) hRS0 (by omega) g2
theorem la_101 (hd : 30 ≤ d) (hL : Lab M s) (hW : wfs s) (h : LO [0, 1, 4] (o_countSpoiled s x) n kd M Qr Qx) : pm_run d 101 [.inr (.inl (8, 0)), .inl x] (pm_m n kd M) Qr Qx := by
  obtain ⟨d, rfl⟩ := pm_ex1 (show 1 ≤ d by omega)
  have hsp := hL.p.size
  unfold o_countSpoiled at h
  refine tr_101 (by omega) ⟨fun z => ?_, fun z => ⟨fun z2 => ⟨fun z3 => ?_, fun z3 => ?_⟩, fun z2 => ?_⟩⟩
  · rw [if_neg (by omega)] at h
    exact h M hL pm_fr.rf
  · have hne : gP s ≠ [] := ln0.mp (by omega)
    rw [if_pos (by omega), if_neg hne] at h
    obtain ⟨lg, rfl⟩ : ∃ k : Nat, x = (k : Int) := ⟨x.toNat, by omega⟩
    rw [Int.toNat_natCast] at h
    refine la_120 (by omega) hL hW hne (by omega) hL.i (by decide) (fun l _ => hW.1.2.2.2.1 l) (fun M1 g => tr_101_36 (by omega) ?_)
    by_cases hg : (nodes s lg []).2.2 = true
    · rw [if_pos hg] at h ⊢
      exact ⟨fun w => absurd rfl w, fun _ => ⟨fun w => absurd w (by decide), fun _ => h M1 (hL.fr g.fr (by decide)) (g.fr.wd (by decide) (by decide))⟩⟩
    · rw [if_neg hg] at h ⊢
      exact ⟨fun _ => ⟨fun _ => h M1 (hL.fr g.fr (by decide)) (g.fr.wd (by decide) (by decide)), fun w => absurd rfl w⟩, fun w => by omega⟩
  · rw [if_pos (by omega), if_pos (List.length_eq_zero_iff.mp (by omega))] at h
    exact h M hL pm_fr.rf
  · rw [if_neg (by omega)] at h
    exact h M hL pm_fr.rf
/-- becomeNext -/
theorem sp_19 {k K : Nat} {im : Nat → List Nat} (hd : 3 ≤ d) (hK : K ≤ 4) (hi : pm_img M k im) (hv : ∀ l, l < 4 → ∀ v ∈ im l, v < 4) (h : ∀ M', pm_img M' k (inx K im 4).1 → pm_fr (k + 2) (k + 10) M M' → Qr (some (.inl (bI (inx K im 4).2))) (pm_m n kd M')) : pm_run d 19 [.inr (.inl (2, k)), .inl (K : Int)] (pm_m n kd M) Qr Qx := by
  obtain ⟨d, rfl⟩ := pm_ex1 (show 1 ≤ d by omega)
  generalize hR : inx K im 4 = R at h
  have loop : ∀ (l : Nat) (im1 : Nat → List Nat) (M1 : Nat → Nat → Int), l ≤ 4 → pm_img M1 k im1 → (∀ l, l < 4 → ∀ v ∈ im1 l, v < 4) → inx K im1 l = R → pm_fr (k + 2) (k + 10) M M1 → pm_wq d 19 Qr Qx (2, [some (.inr (.inl (2, k))), some (.inl (K : Int)), some (.inl ((l : Int) - 1)), none, none], [], pm_m n kd M1, 0, 0) := by
    intro l
    induction l with
    | zero =>
      intro im1 M1 _ hi1 hv1 hR1 ho
      rw [← hR1] at h
      exact tr_19_2 (by omega) ⟨fun _ => h M1 hi1 ho, fun w => by omega⟩
    | succ l ih =>
      intro im1 M1 hl hi1 hv1 hR1 ho
      have el : (((l + 1 : Nat) : Int) - 1) = (l : Int) := by omega
      rw [el]
      have hrow := hi1 l (by omega)
      have hs := hrow.size
      refine tr_19_2 (by omega) ⟨fun w => by omega, fun _ => ⟨⟨by omega, by omega⟩, ?_⟩⟩
      rw [pm_ra, hs.1]
      refine ⟨⟨by omega, by omega⟩, ?_⟩
      rw [inx] at hR1
      have inner : ∀ (i : Nat) (xs : List Nat) (M2 : Nat → Nat → Int), i ≤ xs.length → xs.length ≤ 24 → (∀ v ∈ xs, v < 4) → pm_row M2 (k + 2 + 2 * l) xs → rnx K (im1 l) (im1 l).length = rnx K xs i → pm_fr (k + 2 + 2 * l) (k + 2 + 2 * l + 2) M1 M2 → pm_wq d 19 Qr Qx (21, [some (.inr (.inl (2, k))), some (.inl (K : Int)), some (.inl (l : Int)), some (.inr (.inl (6, k + 2 + 2 * l))), some (.inl ((i : Int) - 1))], [], pm_m n kd M2, 0, 0) := by
        intro i
        induction i with
        | zero =>
          intro xs M2 _ _ hx4 hr2 he ho2
          rw [he] at hR1
          have hR1 : inx K (ud im1 l xs) l = R := hR1
          have e2 : ((l : Int) + (-1)) = (l : Int) - 1 := by omega
          refine tr_19_21 (by omega) ⟨fun _ => ⟨⟨by omega, by omega⟩, ?_⟩, fun w => by omega⟩
          rw [e2]
          refine ih (ud im1 l xs) M2 (by omega) (fun j hj => ?_) (fun j hj => ?_) hR1 (ho.tr (ho2.wd (by omega) (by omega)))
          · by_cases ej : j = l
            · rw [ej, ud_eq]; exact hr2
            · rw [ud_ne ej]; exact (hi1 j hj).fr ho2 (by omega)
          · by_cases ej : j = l
            · rw [ej, ud_eq]; exact hx4
            · rw [ud_ne ej]; exact hv1 j hj
        | succ i ihi =>
          intro xs M2 hix h24 hx4 hr2 he ho2
          have hs2 := hr2.size
          have ei : (((i + 1 : Nat) : Int) - 1) = (i : Int) := by omega
          have hvi := hx4 _ (gd_mem (show i < xs.length by omega))
          rw [ei]
          rw [rnx] at he
          refine tr_19_21 (by omega) ⟨fun w => by omega, fun _ => ⟨⟨by omega, by omega, by omega⟩, ?_⟩⟩
          rw [Int.toNat_natCast, hr2.at (by omega)]
          refine ⟨⟨by omega, by omega⟩, fun w => ⟨⟨by omega, by omega, by omega⟩, ⟨by omega, by omega⟩, ?_⟩, fun w => ⟨⟨by omega, by omega, by omega⟩, ⟨by omega, by omega⟩, ⟨by omega, by omega, by omega⟩, ?_⟩⟩
          · rw [if_neg (by omega)] at he
            have e2 : ((i : Int) + (-1)) = (i : Int) - 1 := by omega
            rw [e2]
            refine ihi (xs.set i 0) _ (by rw [List.length_set]; omega) (by rw [List.length_set]; exact h24) (fun v hv => ?_) (hr2.put (by omega) rfl) he (ho2.up (by omega) (by omega))
            rcases List.mem_or_eq_of_mem_set hv with hv | hv
            · exact hx4 v hv
            · omega
          · rw [if_pos (by omega)] at he
            have hr3 := hr2.put (j := i) (a := xs.getD i 0 + 1) (x := ((xs.getD i 0 : Nat) : Int) + 1) (by omega) (by omega)
            have ho3 : pm_fr (k + 2 + 2 * l) (k + 2 + 2 * l + 2) M1 (pm_up M2 (k + 2 + 2 * l + 1) i (((xs.getD i 0 : Nat) : Int) + 1)) := ho2.up (by omega) (by omega)
            rw [he] at hR1
            have hR1 : (ud im1 l (xs.set i (xs.getD i 0 + 1)), true) = R := hR1
            rw [← hR1] at h
            refine h _ (fun j hj => ?_) (ho.tr (ho3.wd (by omega) (by omega)))
            show pm_row _ _ (ud im1 l (xs.set i (xs.getD i 0 + 1)) j)
            by_cases ej : j = l
            · rw [ej, ud_eq]; exact hr3
            · rw [ud_ne ej]; exact (hi1 j hj).fr ho3 (by omega)
      exact inner (im1 l).length (im1 l) M1 (Nat.le_refl _) hrow.2.1 (hv1 l (by omega)) hrow rfl pm_fr.rf
  exact tr_19 (by omega) (loop 4 im M (Nat.le_refl _) hi hv hR pm_fr.rf)
theorem pw_big : ∀ K, K < 5 → 2 ≤ K → ∀ m, m < 4 → K ^ (K * m) ≤ 16777216 := by decide +kernel
theorem la_100 (hd : 32 ≤ d) (hL : Lab M s) (hW : wfs s) (h : LO [0, 1, 4, 5] (o_findMorphism s x y) n kd M Qr Qx) : pm_run d 100 [.inr (.inl (8, 0)), .inl x, .inl y] (pm_m n kd M) Qr Qx := by
  obtain ⟨d, rfl⟩ := pm_ex1 (show 1 ≤ d by omega)
  have hsp := hL.p.size
  have hK : 2 ≤ gK s ∧ gK s ≤ 4 := hW.1.1
  unfold o_findMorphism at h
  refine tr_100 (by omega) ⟨fun z => ?_, fun z => ⟨fun z2 => ?_, fun z2 => ⟨fun z3 => ?_, fun z3 => ⟨fun z4 => ⟨fun z5 => ?_, fun z5 => ?_⟩, fun z4 => ?_⟩⟩⟩⟩
  · rw [if_neg (by omega)] at h
    exact h M hL pm_fr.rf
  · rw [if_neg (by omega)] at h
    exact h M hL pm_fr.rf
  · rw [if_neg (by omega)] at h
    exact h M hL pm_fr.rf
  · have hne : gP s ≠ [] := ln0.mp (by omega)
    rw [if_pos (by omega), if_neg hne] at h
    obtain ⟨m, rfl⟩ : ∃ k : Nat, x = (k : Int) := ⟨x.toNat, by omega⟩
    obtain ⟨lg, rfl⟩ : ∃ k : Nat, y = (k : Int) := ⟨y.toNat, by omega⟩
    rw [Int.toNat_natCast, Int.toNat_natCast] at h
    have hns := nodes_small (s := s) (lg := lg) hK.2 (by omega)
    rw [hL.k]
    refine sp_18 (by omega) (by omega) (fun M1 hi1 ho1 => tr_100_50 (by omega) ?_)
    have hi1 : pm_img M1 83 (gim (gK s) m 0) := fun l hl => by
      have : pm_row M1 (83 + 2 + 2 * l) (if l < gK s then List.replicate m 0 else []) := hi1 l hl
      rw [gim_zero _ (by omega) m (by omega) l hl] at this
      exact this
    generalize hF : ffm s m lg (min (gK s ^ (gK s * m)) 100) 0 = F at h
    have hall : 0 < gK s ^ (gK s * m) := Nat.pow_pos (by omega)
    have loop : ∀ (c num : Nat) (M2 : Nat → Nat → Int), c + num = min (gK s ^ (gK s * m)) 100 → num < gK s ^ (gK s * m) → pm_img M2 83 (gim (gK s) m num) → ffm s m lg c num = F → pm_fr 53 97 M M2 → pm_wq d 100 Qr Qx (55, [some (.inr (.inl (8, 0))), none, some (.inl (lg : Int)), some (.inl 1), some (.inl ((num : Int) + 1))], [], pm_m n kd M2, 1, 6) := by
      intro c
      induction c with
      | zero =>
        intro num M2 hc hnum hi2 hf ho2
        have hf : none = F := hf
        rw [← hf] at h
        have h : LO [0, 1, 4, 5] (if 100 < gK s ^ (gK s * m) then (.inr 3, s) else (.inr 4, s)) n kd M Qr Qx := h
        rw [if_pos (by omega)] at h
        exact tr_100_55 (by omega) ⟨fun _ => ⟨fun w => absurd w (by decide), fun _ => h M2 (hL.fr ho2 (by decide)) (ho2.wd (by decide) (by decide))⟩, fun w => by omega⟩
      | succ c ih =>
        intro num M2 hc hnum hi2 hf ho2
        have hL2 := hL.fr ho2 (by decide)
        rw [ffm] at hf
        refine tr_100_55 (by omega) ⟨fun w => by omega, fun _ => ⟨fun w => absurd w (by decide), fun _ => ?_⟩⟩
        refine la_120 (by omega) hL2 hW hne (by omega) hi2 (by decide) (fun l _ => by rw [gim_len]; split <;> omega) (fun M3 g3 => tr_100_75 (by omega) ?_)
        rw [hns, if_neg Bool.false_ne_true]
        have hL3 := hL2.fr g3.fr (by decide)
        have hi3 := hi2.cs g3 (by decide)
        have ho3 : pm_fr 53 97 M M3 := ho2.tr g3.fr
        refine ⟨fun w => ?_, fun w => ?_⟩
        · rw [if_neg (by omega)] at hf
          rw [hL3.k]
          refine sp_19 (by omega) hK.2 hi3 (fun l hl v hv => by have := gim_dig (gK s) (by omega) m (by omega) num (by omega) l hl v hv; omega) (fun M4 hi4 ho4 => tr_100_109 (by omega) ⟨⟨by omega, by omega⟩, ?_⟩)
          obtain ⟨t1, t2⟩ := gim_next (gK s) (by omega) hK.1 m (by omega) (by omega) num (by omega) hnum
          have ho5 : pm_fr 53 97 M M4 := ho3.tr (ho4.wd (by decide) (by decide))
          have e : ((num : Int) + 1 + 1) = (((num + 1 : Nat) : Int) + 1) := by omega
          rw [t1, e]
          by_cases hlast : num + 1 < gK s ^ (gK s * m)
          · rw [decide_eq_true hlast]
            exact ih (num + 1) M4 (by omega) hlast (fun l hl => by rw [← t2 hlast l hl]; exact hi4 l hl) hf ho5
          · rw [decide_eq_false hlast]
            have hc0 : c = 0 := by omega
            rw [hc0] at hf
            have hf : none = F := hf
            rw [← hf] at h
            have h : LO [0, 1, 4, 5] (if 100 < gK s ^ (gK s * m) then (.inr 3, s) else (.inr 4, s)) n kd M Qr Qx := h
            rw [if_neg (by omega)] at h
            have hh := h M4 (hL.fr ho5 (by decide)) (ho5.wd (by decide) (by decide))
            exact tr_100_55 (by omega) ⟨fun _ => ⟨fun _ => hh, fun w => absurd rfl w⟩, fun _ => ⟨fun _ => ⟨fun _ => hh, fun w => absurd rfl w⟩, fun w => absurd rfl w⟩⟩
        · rw [if_pos (by omega)] at hf
          rw [← hf] at h
          refine sp_17 (by omega) hi3 (by decide) (fun M4 hi4 ho4 => tr_100_92 (by omega) ?_)
          exact h M4 ((hL.fr ho3 (by decide)).si ho4 hi4) ((ho3.wd (by decide) (by decide)).tr (ho4.wd (by decide) (by decide)))
    exact loop _ 0 M1 (by omega) hall hi1 hF (ho1.wd (by decide) (by decide))
  · rw [if_pos (by omega), if_pos (List.length_eq_zero_iff.mp (by omega))] at h
    exact h M hL pm_fr.rf
  · rw [if_neg (by omega)] at h
    exact h M hL pm_fr.rf
end LBM

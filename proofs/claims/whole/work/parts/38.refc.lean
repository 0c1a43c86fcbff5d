/-! CALLS OF THE REFERENCE: images, snapshot -/
section RFC
variable {d n : Nat} {kd : Nat → Nat} {M : Nat → Nat → Int} {Qr : Option pm_V → pm_Me → Prop} {Qx : Nat → pm_Me → Prop} {s : stt} {x y : Int}
theorem Ref.si {M' : Nat → Nat → Int} {im : Nat → List Nat} (h : Ref M s) (g : px_dc M M') (gf : ∀ j, 0 < j → j < 5 → M' 97 j = M 97 j) (ga : ∀ a, 98 ≤ a → a < 100 → M' a = M a) (hi : ∀ l, l < 4 → M' 100 l = ((im l).length : Int) ∧ px_ar M' 101 (4 * l) (im l)) : Ref M' (sI s im) :=
  h.dk g ⟨(gf 3 (by decide) (by decide)).trans h.1.1, (gf 1 (by decide) (by decide)).trans h.1.2.1, (gf 4 (by decide) (by decide)).trans h.1.2.2.1, h.1.2.2.2.1.cg (ga 98 (by decide) (by decide)), h.1.2.2.2.2.1.cg (ga 99 (by decide) (by decide)), hi⟩
theorem ra_191 (hd : 3 ≤ d) (hR : Ref M s) (hW : wfs s) (h : RO (o_appendImage s x y) n kd M Qr) : pm_run d 191 [.inr (.inl (9, 97)), .inl x, .inl y] (pm_m n kd M) Qr Qx := by
  obtain ⟨d, rfl⟩ := pm_ex1 (show 1 ≤ d by omega)
  have hk := hR.k
  have hk4 : gK s ≤ 4 := hW.1.1.2
  unfold o_appendImage at h
  refine tr_191 (by omega) ⟨⟨by omega, by omega⟩, fun z => ⟨⟨by omega, by omega⟩, fun z2 => ⟨⟨by omega, by omega⟩, ?_⟩, fun z2 => ?_⟩, fun z => ?_⟩
  · rw [if_pos (by omega)] at h
    obtain ⟨k, rfl⟩ : ∃ k : Nat, x = (k : Int) := ⟨x.toNat, by omega⟩
    rw [Int.toNat_natCast] at h ⊢
    have hk3 : k < 4 := by omega
    have hi := hR.i k hk3
    have hl4 : (gI s k).length ≤ 4 := hW.1.2.2.2.1 k
    rw [hi.1]
    refine ⟨fun z3 => ?_, fun z3 => ?_⟩
    · rw [if_pos (by omega)] at h
      have e : (4 * (k : Int) + ((gI s k).length : Int)).toNat = 4 * k + (gI s k).length := by omega
      rw [e, pm_up_ne (Or.inl (by decide)), pm_up_eq, hi.1]
      refine ⟨⟨by omega, by omega⟩, ⟨by omega, by omega⟩, ⟨by omega, by omega⟩, ⟨by omega, by omega⟩, ⟨by omega, by omega⟩, ⟨by omega, by omega⟩, ⟨by omega, by omega⟩, ⟨by omega, by omega⟩, ?_⟩
      have g : px_dc M (pm_up (pm_up (pm_up M 101 (4 * k + (gI s k).length) y) 100 k (((gI s k).length : Int) + 1)) 97 0 0) := ((px_dc.rf.up (by omega)).up (by omega)).up (by omega)
      refine h _ (hR.si g (fun j j1 j2 => by rw [pm_up_ne (by omega), pm_up_ne (by omega), pm_up_ne (by omega)]) (fun a a1 a2 => by rw [pm_up_row (by omega), pm_up_row (by omega), pm_up_row (by omega)]) (fun l hl => ?_)) g.fr pm_up_eq
      by_cases el : l = k
      · subst el
        rw [ud_eq]
        refine ⟨?_, fun j hj => ?_⟩
        · rw [pm_up_ne (by omega), pm_up_eq, List.length_append]; rfl
        · rw [gd_snoc hj, pm_up_ne (by omega), pm_up_ne (by omega)]
          rw [List.length_append, List.length_singleton] at hj
          split
          · next ej => rw [ej, pm_up_eq]; omega
          · next ej => rw [pm_up_ne (by omega)]; exact hi.2 j (by omega)
      · rw [ud_ne el]
        have hil := hR.i l hl
        have hll : (gI s l).length ≤ 4 := hW.1.2.2.2.1 l
        refine ⟨?_, fun j hj => ?_⟩
        · rw [pm_up_ne (by omega), pm_up_ne (Or.inr el), pm_up_ne (by omega)]; exact hil.1
        · rw [pm_up_ne (by omega), pm_up_ne (by omega), pm_up_ne (by omega)]; exact hil.2 j hj
    · rw [if_neg (by omega)] at h
      exact RO.bad h hR px_sc.rf
  · rw [if_neg (by omega)] at h
    exact h.bad hR px_sc.rf
  · rw [if_neg (by omega)] at h
    exact h.bad hR px_sc.rf
theorem ra_192 (hd : 3 ≤ d) (hR : Ref M s) (hW : wfs s) (h : RO (o_clearImage s x) n kd M Qr) : pm_run d 192 [.inr (.inl (9, 97)), .inl x] (pm_m n kd M) Qr Qx := by
  obtain ⟨d, rfl⟩ := pm_ex1 (show 1 ≤ d by omega)
  have hk := hR.k
  have hk4 : gK s ≤ 4 := hW.1.1.2
  unfold o_clearImage at h
  refine tr_192 (by omega) ⟨⟨by omega, by omega⟩, fun z => ⟨⟨by omega, by omega⟩, ⟨by omega, by omega⟩, ?_⟩, fun z => ?_⟩
  · rw [if_pos (by omega)] at h
    obtain ⟨k, rfl⟩ : ∃ k : Nat, x = (k : Int) := ⟨x.toNat, by omega⟩
    rw [Int.toNat_natCast] at h ⊢
    rw [(hR.i k (by omega)).1]
    have g : px_dc M (pm_up (pm_up M 100 k 0) 97 0 0) := (px_dc.rf.up (by omega)).up (by omega)
    refine h _ (hR.si g (fun j j1 j2 => by rw [pm_up_ne (by omega), pm_up_ne (by omega)]) (fun a a1 a2 => by rw [pm_up_row (by omega), pm_up_row (by omega)]) (fun l hl => ?_)) g.fr pm_up_eq
    by_cases el : l = k
    · subst el
      rw [ud_eq]
      exact ⟨by rw [pm_up_ne (by omega), pm_up_eq]; rfl, fun j hj => absurd hj (Nat.not_lt_zero j)⟩
    · rw [ud_ne el]
      have hil := hR.i l hl
      refine ⟨?_, fun j hj => ?_⟩
      · rw [pm_up_ne (by omega), pm_up_ne (Or.inr el)]; exact hil.1
      · rw [pm_up_ne (by omega), pm_up_ne (by omega)]; exact hil.2 j hj
  · rw [if_neg (by omega)] at h
    exact h.bad hR px_sc.rf
/-- the images of the reference -/
def px_im (M : Nat → Nat → Int) (im : Nat → List Nat) : Prop := (∀ l, l < 4 → M 100 l = ((im l).length : Int) ∧ px_ar M 101 (4 * l) (im l)) ∧ ∀ l, (im l).length ≤ 4
theorem px_im.sc {M' : Nat → Nat → Int} {im : Nat → List Nat} (h : px_im M im) (g : px_sc M M') : px_im M' im := ⟨fun l hl => ⟨by rw [g.1 100 (by decide)]; exact (h.1 l hl).1, (h.1 l hl).2.cg (g.1 101 (by decide))⟩, h.2⟩
theorem ap_le {im : Nat → List Nat} (h : ∀ l, (im l).length ≤ 4) : ∀ w : List Nat, (pm_ap im w).length ≤ 4 * w.length
  | [] => Nat.zero_le _
  | v :: w => by
    have := ap_le h w
    have := h v
    unfold pm_ap at *
    rw [List.flatMap_cons, List.length_append, List.length_cons]
    omega
/-- applies -/
theorem ra_193 {t : List Nat} {im : Nat → List Nat} (hd : 1 ≤ d) (ht : px_tx M t) (h4 : ∀ v ∈ t, v < 4) (hi : px_im M im) (hy : ∀ M', (pm_ap im t).length ≤ 24 → px_tx M' (pm_ap im t) → px_sc M M' → M' 97 23 = M 97 23 → M' 111 = M 111 → Qr (some (.inl 1)) (pm_m n kd M')) (hn : ∀ M', 24 < (pm_ap im t).length → px_sc M M' → Qr (some (.inl 0)) (pm_m n kd M')) : pm_run d 193 [.inr (.inl (9, 97))] (pm_m n kd M) Qr Qx := by
  obtain ⟨d, rfl⟩ := pm_ex1 hd
  have h24 := ht.2.1
  refine tr_193 (pm_lp2 (N := t.length) (G := fun i M1 (c : Nat) => pm_wq d 193 Qr Qx (4, [some (.inr (.inl (9, 97))), some (.inl (c : Int)), some (.inl (i : Int)), none], [], pm_m n kd M1, 0, 0)) (I := fun i M1 c => c = (pm_ap im (t.take i)).length ∧ (∀ j, j < c → M1 119 j = (((pm_ap im (t.take i)).getD j 0 : Nat) : Int)) ∧ px_ao 119 M M1) ?_ ?_ 0 M 0 (Nat.zero_le _) ⟨rfl, fun j hj => absurd hj (Nat.not_lt_zero j), px_ao.rf⟩)
  · intro M1 c ⟨hc, hj, ho⟩
    have h25 : M1 97 25 = (t.length : Int) := (ho.at (by decide)).trans ht.1
    rw [List.take_length] at hc hj
    refine tr_193_4 ⟨fun _ => ⟨fun z => ?_, fun z => ?_⟩, fun z => by omega⟩
    · subst hc
      refine pm_lp (N := (pm_ap im t).length) (G := fun i M2 => pm_wq d 193 Qr Qx (75, [some (.inr (.inl (9, 97))), some (.inl ((pm_ap im t).length : Int)), some (.inl (i : Int)), none], [], pm_m n kd M2, 0, 0)) (I := fun i M2 => (∀ j, j < i → M2 112 j = (((pm_ap im t).getD j 0 : Nat) : Int)) ∧ px_ao 112 M1 M2) ?_ ?_ 0 M1 (Nat.zero_le _) ⟨fun j hj => absurd hj (Nat.not_lt_zero j), px_ao.rf⟩
      · intro M2 ⟨hj2, ho2⟩
        refine tr_193_75 ⟨fun _ => hy _ (by omega) ⟨pm_up_eq, by omega, fun j hj3 => (pm_up_ne (by omega)).trans (hj2 j hj3)⟩ (((ho.sc (by decide)).tr (ho2.sc (by decide))).up (by omega)) ?_ ?_, fun z => by omega⟩
        · rw [pm_up_ne (by omega), ho2.at (by decide), ho.at (by decide)]
        · rw [pm_up_row (by decide), ho2 111 (by decide), ho 111 (by decide)]
      · intro i M2 hi2 ⟨hj2, ho2⟩ ih
        refine tr_193_75 ⟨fun z => by omega, fun _ => ⟨⟨by omega, by omega⟩, ⟨by omega, by omega⟩, ⟨by omega, by omega⟩, ih _ ⟨fun j hj3 => ?_, ho2.up⟩⟩⟩
        rw [Int.toNat_natCast, ho2.at (by decide)]
        by_cases e : j = i
        · rw [e, pm_up_eq]; exact hj i hi2
        · rw [pm_up_ne (Or.inr e)]; exact hj2 j (by omega)
    · exact hn M1 (by omega) (ho.sc (by decide))
  · intro i M1 c hi2 ⟨hc, hj, ho⟩ ih
    have h25 : M1 97 25 = (t.length : Int) := (ho.at (by decide)).trans ht.1
    have hat : ∀ M2 : Nat → Nat → Int, px_ao 119 M M2 → M2 112 i = ((t.getD i 0 : Nat) : Int) := fun M2 g => (g.at (by decide)).trans (ht.2.2 i hi2)
    have hv := h4 _ (gd_mem hi2)
    have hil := (hi.sc (ho.sc (by decide))).1 _ hv
    have hl4 := hi.2 (t.getD i 0)
    have hb := ap_le hi.2 (t.take i)
    rw [tk_len (by omega), ← hc] at hb
    refine tr_193_4 ⟨fun z => by omega, fun _ => ?_⟩
    refine pm_lp2 (N := (im (t.getD i 0)).length) (G := fun j M2 (c2 : Nat) => pm_wq d 193 Qr Qx (14, [some (.inr (.inl (9, 97))), some (.inl (c2 : Int)), some (.inl (i : Int)), some (.inl (j : Int))], [], pm_m n kd M2, 0, 0)) (I := fun j M2 c2 => c2 = c + j ∧ (∀ j', j' < c2 → M2 119 j' = (((pm_ap im (t.take i) ++ (im (t.getD i 0)).take j).getD j' 0 : Nat) : Int)) ∧ px_ao 119 M M2) ?_ ?_ 0 M1 c (Nat.zero_le _) ⟨rfl, fun j' hj' => by rw [List.take_zero, List.append_nil]; exact hj j' hj', ho⟩
    · intro M2 c2 ⟨hc2, hj2, ho2⟩
      have hil2 := ((hi.sc (ho2.sc (by decide))).1 _ hv).1
      refine tr_193_14 ⟨⟨by omega, by omega⟩, ?_⟩
      rw [Int.toNat_natCast, hat M2 ho2, Int.toNat_natCast, hil2]
      refine ⟨⟨by omega, by omega⟩, fun _ => ⟨⟨by omega, by omega⟩, ih M2 c2 ⟨?_, ?_, ho2⟩⟩, fun z => by omega⟩
      · rw [tk_succ hi2, pm_ap_snoc, List.length_append, ← hc]; exact hc2
      · rw [tk_succ hi2, pm_ap_snoc]
        rw [List.take_length] at hj2
        exact hj2
    · intro j M2 c2 hj3 ⟨hc2, hj2, ho2⟩ ih2
      have hil2 := (hi.sc (ho2.sc (by decide))).1 _ hv
      have e0 : (4 * ((t.getD i 0 : Nat) : Int) + (j : Int)).toNat = 4 * t.getD i 0 + j := by omega
      refine tr_193_14 ⟨⟨by omega, by omega⟩, ?_⟩
      rw [Int.toNat_natCast, hat M2 ho2, Int.toNat_natCast, hil2.1, e0, hil2.2 j hj3]
      refine ⟨⟨by omega, by omega⟩, fun z => by omega, fun _ => ⟨⟨by omega, by omega⟩, ⟨by omega, by omega⟩, ⟨by omega, by omega⟩, ⟨by omega, by omega⟩, ⟨by omega, by omega⟩, ⟨by omega, by omega⟩, ⟨by omega, by omega⟩, ih2 _ (c2 + 1) ⟨by omega, fun j' hj' => ?_, ho2.up⟩⟩⟩
      rw [Int.toNat_natCast, tk_succ hj3, ← List.append_assoc]
      have hlen : (pm_ap im (t.take i) ++ (im (t.getD i 0)).take j).length = c2 := by
        rw [List.length_append, tk_len (by omega), ← hc]; exact hc2.symm
      rw [gd_snoc (by rw [List.length_append, hlen]; exact hj'), hlen]
      split
      · next e => rw [e, pm_up_eq]
      · next e => rw [pm_up_ne (Or.inr e)]; exact hj2 j' (by omega)
/-- wordIsText -/
theorem ra_194 {t : List Nat} {M0 : Nat → Nat → Int} (hd : 2 ≤ d) (hR : Ref M0 s) (g : px_sc M0 M) (ht : px_tx M t) (h : RO (.inl t.length, sW s t) n kd M0 Qr) : pm_run d 194 [.inr (.inl (9, 97))] (pm_m n kd M) Qr Qx := by
  obtain ⟨d, rfl⟩ := pm_ex1 (show 1 ≤ d by omega)
  have h24 := ht.2.1
  refine tr_194 (by omega) ?_
  rw [ht.1]
  refine pm_lp (N := t.length) (G := fun i M1 => pm_wq d 194 Qr Qx (10, [some (.inr (.inl (9, 97))), some (.inl (i : Int))], [], pm_m n kd M1, 0, 0)) (I := fun i M1 => (∀ j, j < i → M1 99 j = ((t.getD j 0 : Nat) : Int)) ∧ M1 97 4 = (t.length : Int) ∧ px_f1 4 99 M M1) ?_ ?_ 0 _ (Nat.zero_le _) ⟨fun j hj => absurd hj (Nat.not_lt_zero j), pm_up_eq, px_f1.up0 (by decide)⟩
  · intro M1 ⟨hj, h4, ho⟩
    refine tr_194_10 (by omega) ⟨fun _ => ?_, fun z => by omega⟩
    rw [h4]
    refine RO.sw h hR (g.dc.tr ⟨fun a ha => ho.1 a (by omega) (by omega), fun j j1 j2 => ho.2 j (by omega)⟩) ((ho.2 3 (by decide)).trans (g.2 3 (by decide) (by decide))) ((ho.2 1 (by decide)).trans (g.2 1 (by decide) (by decide))) (fun a a1 a2 a3 => (ho.1 a (by omega) a3).trans (g.1 a (by omega))) h4 hj
  · intro i M1 hi ⟨hj, h4, ho⟩ ih
    refine tr_194_10 (by omega) ⟨fun z => by omega, fun _ => ⟨⟨by omega, by omega⟩, ⟨by omega, by omega⟩, ⟨by omega, by omega⟩, ih _ ⟨fun j hj2 => ?_, (pm_up_ne (by omega)).trans h4, ho.up (by decide)⟩⟩⟩
    rw [Int.toNat_natCast, ho.1 112 (by decide) (by decide)]
    by_cases e : j = i
    · rw [e, pm_up_eq]; exact ht.2.2 i hi
    · rw [pm_up_ne (Or.inr e)]; exact hj j (by omega)
theorem Ref.im (hR : Ref M s) (hW : wfs s) : px_im M (gI s) := ⟨hR.i, fun l => hW.1.2.2.2.1 l⟩
theorem ra_195 (hd : 4 ≤ d) (hR : Ref M s) (hW : wfs s) (h : RO (o_applyMorphism s) n kd M Qr) : pm_run d 195 [.inr (.inl (9, 97))] (pm_m n kd M) Qr Qx := by
  obtain ⟨d, rfl⟩ := pm_ex1 (show 1 ≤ d by omega)
  have hk4 : gK s ≤ 4 := hW.1.1.2
  unfold o_applyMorphism at h
  refine tr_195 (by omega) (ra_144 (by omega) hR hW (fun M1 htx ho => tr_195_4 (by omega) ?_))
  have g1 := ho.sc (by decide) (by decide)
  refine ra_193 (by omega) htx (fun v hv => Nat.lt_of_lt_of_le (hW.1.2.2.1.2 v hv) hk4) ((hR.im hW).sc g1) ?_ ?_
  · intro M2 hle htx2 g2 _ _
    rw [if_pos hle] at h
    refine tr_195_8 (by omega) ⟨fun z => absurd z (by decide), fun _ => ?_⟩
    refine ra_194 (Qr := fun rv m' => pm_wq d 195 Qr Qx (15, [some (.inr (.inl (9, 97)))], pm_lst rv ++ [], m', 0, 0)) (by omega) hR (g1.tr g2) htx2 ?_
    intro M3 hR3 hf3
    exact fun z => tr_195_15 (by omega) (h M3 hR3 hf3 z)
  · intro M2 hgt g2
    rw [if_neg (by omega)] at h
    exact tr_195_8 (by omega) ⟨fun _ => RO.bad h hR (g1.tr g2), fun z => absurd rfl z⟩
theorem ra_196 (hd : 4 ≤ d) (hR : Ref M s) (hW : wfs s) (h : RO (o_iterate s x y) n kd M Qr) : pm_run d 196 [.inr (.inl (9, 97)), .inl x, .inl y] (pm_m n kd M) Qr Qx := by
  obtain ⟨d, rfl⟩ := pm_ex1 (show 1 ≤ d by omega)
  have hk := hR.k
  have hk4 : gK s ≤ 4 := hW.1.1.2
  unfold o_iterate at h
  refine tr_196 (by omega) ⟨⟨by omega, by omega⟩, fun z => ⟨fun z2 => ?_, fun z2 => ?_⟩, fun z => ?_⟩
  · rw [if_pos (by omega)] at h
    have loop : ∀ (c i : Nat) (w : List Nat) (M1 : Nat → Nat → Int), (c : Int) + i = y → px_tx M1 w → (∀ v ∈ w, v < gK s) → itr (gI s) [x.toNat] y.toNat = itr (gI s) w c → px_sc M M1 → pm_wq d 196 Qr Qx (38, [some (.inr (.inl (9, 97))), none, some (.inl y), some (.inl (i : Int))], [], pm_m n kd M1, 0, 0) := by
      intro c
      induction c with
      | zero =>
        intro i w M1 hc ht hw hi g
        rw [hi] at h
        refine tr_196_38 (by omega) ⟨fun _ => ?_, fun z => by omega⟩
        refine ra_194 (Qr := fun rv m' => pm_wq d 196 Qr Qx (66, [some (.inr (.inl (9, 97))), none, some (.inl y), some (.inl (i : Int))], pm_lst rv ++ [], m', 0, 0)) (by omega) hR g ht ?_
        intro M3 hR3 hf3
        exact fun z => tr_196_66 (by omega) (h M3 hR3 hf3 z)
      | succ c ih =>
        intro i w M1 hc ht hw hi g
        refine tr_196_38 (by omega) ⟨fun z => by omega, fun _ => ?_⟩
        refine ra_193 (by omega) ht (fun v hv => Nat.lt_of_lt_of_le (hw v hv) hk4) ((hR.im hW).sc g) ?_ ?_
        · intro M2 hle ht2 g2 _ _
          rw [itr, if_pos hle] at hi
          exact tr_196_47 (by omega) ⟨fun _ => ⟨⟨by omega, by omega⟩, ih (i + 1) _ M2 (by omega) ht2 (ap_lt hW.1.2.2.2) hi (g.tr g2)⟩, fun z => absurd (by decide) z⟩
        · intro M2 hgt g2
          rw [itr, if_neg (by omega)] at hi
          rw [hi] at h
          exact tr_196_47 (by omega) ⟨fun z => absurd rfl z, fun _ => RO.bad h hR (g.tr g2)⟩
    refine loop y.toNat 0 [x.toNat] _ (by omega) ⟨(pm_up_ne (by omega)).trans pm_up_eq, by rw [List.length_singleton]; decide, fun j hj => ?_⟩ (fun v hv => by rw [List.mem_singleton] at hv; rw [hv]; omega) rfl ((px_sc.rf.up (by omega)).up (by omega))
    have : j = 0 := by rw [List.length_singleton] at hj; omega
    rw [this, pm_up_eq]
    show x = ((x.toNat : Nat) : Int)
    omega
  · rw [if_neg (by omega)] at h
    exact RO.bad h hR px_sc.rf
  · rw [if_neg (by omega)] at h
    exact RO.bad h hR px_sc.rf
/-- copyImages -/
theorem ra_197 {a1 a2 a3 a4 : Nat} (hd : 1 ≤ d) (e1 : a1 ≠ a3) (e2 : a2 ≠ a4) (e3 : a2 ≠ a3) (e4 : a3 ≠ a4) (h : ∀ M', (∀ l, l < 4 → M' a3 l = M a1 l) → (∀ k, k < 16 → M' a4 k = M a2 k) → (∀ a, a ≠ a3 → a ≠ a4 → M' a = M a) → Qr none (pm_m n kd M')) : pm_run d 197 [.inr (.inl (9, 97)), .inr (.inl (1004, a1)), .inr (.inl (1016, a2)), .inr (.inl (1004, a3)), .inr (.inl (1016, a4))] (pm_m n kd M) Qr Qx := by
  obtain ⟨d, rfl⟩ := pm_ex1 hd
  refine tr_197 (pm_lp (N := 4) (G := fun i M1 => pm_wq d 197 Qr Qx (3, [none, some (.inr (.inl (1004, a1))), some (.inr (.inl (1016, a2))), some (.inr (.inl (1004, a3))), some (.inr (.inl (1016, a4))), some (.inl (i : Int))], [], pm_m n kd M1, 0, 0)) (I := fun i M1 => (∀ l, l < i → M1 a3 l = M a1 l) ∧ px_ao a3 M M1) ?_ ?_ 0 M (Nat.zero_le _) ⟨fun l hl => absurd hl (Nat.not_lt_zero l), px_ao.rf⟩)
  · intro M1 ⟨hl, ho⟩
    refine tr_197_3 ⟨fun _ => ?_, fun z => by omega⟩
    refine pm_lp (N := 16) (G := fun i M2 => pm_wq d 197 Qr Qx (26, [none, none, some (.inr (.inl (1016, a2))), none, some (.inr (.inl (1016, a4))), some (.inl (i : Int))], [], pm_m n kd M2, 0, 0)) (I := fun i M2 => (∀ k, k < i → M2 a4 k = M a2 k) ∧ px_ao a4 M1 M2) ?_ ?_ 0 M1 (Nat.zero_le _) ⟨fun l hl => absurd hl (Nat.not_lt_zero l), px_ao.rf⟩
    · intro M2 ⟨hk, ho2⟩
      exact tr_197_26 ⟨fun _ => h M2 (fun l hl2 => (ho2.at e4).trans (hl l hl2)) hk (fun a x1 x2 => (ho2 a x2).trans (ho a x1)), fun z => by omega⟩
    · intro i M2 hi ⟨hk, ho2⟩ ih
      refine tr_197_26 ⟨fun z => by omega, fun _ => ⟨⟨by omega, by omega⟩, ⟨by omega, by omega⟩, ⟨by omega, by omega⟩, ih _ ⟨fun k hk2 => ?_, ho2.up⟩⟩⟩
      rw [Int.toNat_natCast, ho2.at e2, ho.at e3]
      by_cases e : k = i
      · rw [e, pm_up_eq]
      · rw [pm_up_ne (Or.inr e)]; exact hk k (by omega)
  · intro i M1 hi ⟨hl, ho⟩ ih
    refine tr_197_3 ⟨fun z => by omega, fun _ => ⟨⟨by omega, by omega⟩, ⟨by omega, by omega⟩, ⟨by omega, by omega⟩, ih _ ⟨fun l hl2 => ?_, ho.up⟩⟩⟩
    rw [Int.toNat_natCast, ho.at e1]
    by_cases e : l = i
    · rw [e, pm_up_eq]
    · rw [pm_up_ne (Or.inr e)]; exact hl l (by omega)
theorem ra_201 (hd : 2 ≤ d) (hR : Ref M s) (hW : wfs s) (h : RO (o_save s) n kd M Qr) : pm_run d 201 [.inr (.inl (9, 97))] (pm_m n kd M) Qr Qx := by
  obtain ⟨d, rfl⟩ := pm_ex1 (show 1 ≤ d by omega)
  have h15 : (gP s).length ≤ 15 := hW.1.2.1.1
  have h24 : (gW s).length ≤ 24 := hW.1.2.2.1.1
  refine tr_201 (by omega) ?_
  generalize hM0 : pm_up (pm_up (pm_up (pm_up M 97 14 1) 97 15 ((pm_up M 97 14 1) 97 3)) 97 16 ((pm_up (pm_up M 97 14 1) 97 15 ((pm_up M 97 14 1) 97 3)) 97 1)) 97 17 ((pm_up (pm_up (pm_up M 97 14 1) 97 15 ((pm_up M 97 14 1) 97 3)) 97 16 ((pm_up (pm_up M 97 14 1) 97 15 ((pm_up M 97 14 1) 97 3)) 97 1)) 97 4) = M0
  have f14 : M0 97 14 = 1 := by rw [← hM0]; simp [pm_up]
  have f15 : M0 97 15 = M 97 3 := by rw [← hM0]; simp [pm_up]
  have f16 : M0 97 16 = M 97 1 := by rw [← hM0]; simp [pm_up]
  have f17 : M0 97 17 = M 97 4 := by rw [← hM0]; simp [pm_up]
  have fo : ∀ j, j < 14 ∨ 18 ≤ j → M0 97 j = M 97 j := by
    intro j hj
    rw [← hM0, pm_up_ne (by omega), pm_up_ne (by omega), pm_up_ne (by omega), pm_up_ne (by omega)]
  have fa : ∀ a, a ≠ 97 → M0 a = M a := by
    intro a ha
    rw [← hM0, pm_up_row ha, pm_up_row ha, pm_up_row ha, pm_up_row ha]
  refine pm_lp (N := 15) (G := fun i M1 => pm_wq d 201 Qr Qx (31, [some (.inr (.inl (9, 97))), some (.inl (i : Int))], [], pm_m n kd M1, 0, 0)) (I := fun i M1 => (∀ j, j < i → M1 106 j = M 98 j) ∧ px_ao 106 M0 M1) ?_ ?_ 0 M0 (Nat.zero_le _) ⟨fun j hj => absurd hj (Nat.not_lt_zero j), px_ao.rf⟩
  · intro M1 ⟨b1, o1⟩
    refine tr_201_31 (by omega) ⟨fun _ => ?_, fun z => by omega⟩
    refine pm_lp (N := 24) (G := fun i M2 => pm_wq d 201 Qr Qx (57, [some (.inr (.inl (9, 97))), some (.inl (i : Int))], [], pm_m n kd M2, 0, 0)) (I := fun i M2 => (∀ j, j < i → M2 107 j = M 99 j) ∧ px_ao 107 M1 M2) ?_ ?_ 0 M1 (Nat.zero_le _) ⟨fun j hj => absurd hj (Nat.not_lt_zero j), px_ao.rf⟩
    · intro M2 ⟨b2, o2⟩
      refine tr_201_57 (by omega) ⟨fun _ => ?_, fun z => by omega⟩
      refine ra_197 (by omega) (by decide) (by decide) (by decide) (by decide) (fun M3 c1 c2 c3 => tr_201_101 (by omega) ?_)
      have gf : ∀ j, M3 97 j = M0 97 j := fun j => by rw [c3 97 (by decide) (by decide), o2.at (by decide), o1.at (by decide)]
      have ga : ∀ a, a ≠ 97 → a < 106 ∨ 110 ≤ a → M3 a = M a := fun a x1 x2 => by rw [c3 a (by omega) (by omega), o2 a (by omega), o1 a (by omega), fa a x1]
      have r4 : M3 97 4 = ((gW s).length : Int) := by rw [gf 4, fo 4 (by decide)]; exact hR.nw
      rw [r4]
      have gf2 : ∀ j, 0 < j → j < 14 → pm_up M3 97 0 0 97 j = M 97 j := fun j x1 x2 => by rw [pm_up_ne (by omega), gf j, fo j (by omega)]
      have ga2 : ∀ a, a ≠ 97 → a < 106 ∨ 110 ≤ a → pm_up M3 97 0 0 a = M a := fun a x1 x2 => (pm_up_row x1).trans (ga a x1 x2)
      refine h _ ⟨?_, ⟨?_, ?_, ?_, ?_, ?_, ?_, fun l hl => ⟨?_, ?_⟩⟩, fun i hi => (hR.2.2.1 i hi).cg (ga2 102 (by decide) (by decide)) (ga2 103 (by decide) (by decide)), hR.2.2.2.cg (gf2 10 (by decide) (by decide)) (ga2 104 (by decide) (by decide)) (ga2 105 (by decide) (by decide))⟩ (fun a ha => ga2 a (by omega) (by omega)) pm_up_eq
      · obtain ⟨q1, q2, q3, q4, q5, q6⟩ := hR.1
        exact ⟨(gf2 3 (by decide) (by decide)).trans q1, (gf2 1 (by decide) (by decide)).trans q2, (gf2 4 (by decide) (by decide)).trans q3, q4.cg (ga2 98 (by decide) (by decide)), q5.cg (ga2 99 (by decide) (by decide)), fun l hl => ⟨by rw [ga2 100 (by decide) (by decide)]; exact (q6 l hl).1, (q6 l hl).2.cg (ga2 101 (by decide) (by decide))⟩⟩
      · rw [pm_up_ne (by omega), gf 14]; exact f14
      · rw [pm_up_ne (by omega), gf 15, f15]; exact hR.k
      · rw [pm_up_ne (by omega), gf 16, f16]; exact hR.np
      · rw [pm_up_ne (by omega), gf 17, f17]; exact hR.nw
      · refine px_ar0.mpr (fun j hj => ?_)
        have hj : j < (gP s).length := hj
        rw [pm_up_ne (by omega), c3 106 (by decide) (by decide), o2.at (by decide), b1 j (by omega)]
        exact hR.p j hj
      · refine px_ar0.mpr (fun j hj => ?_)
        have hj : j < (gW s).length := hj
        rw [pm_up_ne (by omega), c3 107 (by decide) (by decide), b2 j (by omega)]
        exact hR.w j hj
      · rw [pm_up_ne (by omega), c1 l hl, o2.at (by decide), o1.at (by decide), fa 100 (by decide)]
        exact (hR.i l hl).1
      · intro j hj
        have hl4 : (gI s l).length ≤ 4 := hW.1.2.2.2.1 l
        have hj : j < (gI s l).length := hj
        rw [pm_up_ne (by omega), c2 _ (by omega), o2.at (by decide), o1.at (by decide), fa 101 (by decide)]
        exact (hR.i l hl).2 j hj
    · intro i M2 hi ⟨b2, o2⟩ ih
      refine tr_201_57 (by omega) ⟨fun z => by omega, fun _ => ⟨⟨by omega, by omega⟩, ⟨by omega, by omega⟩, ⟨by omega, by omega⟩, ih _ ⟨fun j hj2 => ?_, o2.up⟩⟩⟩
      rw [Int.toNat_natCast, o2.at (by decide), o1.at (by decide), fa 99 (by decide)]
      by_cases e : j = i
      · rw [e, pm_up_eq]
      · rw [pm_up_ne (Or.inr e)]; exact b2 j (by omega)
  · intro i M1 hi ⟨b1, o1⟩ ih
    refine tr_201_31 (by omega) ⟨fun z => by omega, fun _ => ⟨⟨by omega, by omega⟩, ⟨by omega, by omega⟩, ⟨by omega, by omega⟩, ih _ ⟨fun j hj2 => ?_, o1.up⟩⟩⟩
    rw [Int.toNat_natCast, o1.at (by decide), fa 98 (by decide)]
    by_cases e : j = i
    · rw [e, pm_up_eq]
    · rw [pm_up_ne (Or.inr e)]; exact b1 j (by omega)
theorem ra_202 (hd : 2 ≤ d) (hR : Ref M s) (hW : wfs s) (h : RO (o_restore s) n kd M Qr) : pm_run d 202 [.inr (.inl (9, 97))] (pm_m n kd M) Qr Qx := by
  obtain ⟨d, rfl⟩ := pm_ex1 (show 1 ≤ d by omega)
  unfold o_restore at h
  have hh : RefV M (gV s) := hR.2.1
  cases hc : gV s with
  | none =>
    rw [hc] at hh h
    have hh : M 97 14 = 0 := hh
    exact tr_202 (by omega) ⟨fun z => absurd hh z, fun _ => RO.bad h hR px_sc.rf⟩
  | some q =>
    rw [hc] at hh h
    obtain ⟨v1, v2, v3, v4, v5, v6, v7⟩ := hh
    have hWq := hW.2.1 q hc
    have h15 : q.2.1.length ≤ 15 := hWq.2.1.1
    have h24 : q.2.2.1.length ≤ 24 := hWq.2.2.1.1
    refine tr_202 (by omega) ⟨fun _ => ?_, fun z => absurd (by rw [v1]; decide) z⟩
    generalize hM0 : pm_up (pm_up (pm_up M 97 3 (M 97 15)) 97 1 ((pm_up M 97 3 (M 97 15)) 97 16)) 97 4 ((pm_up (pm_up M 97 3 (M 97 15)) 97 1 ((pm_up M 97 3 (M 97 15)) 97 16)) 97 17) = M0
    have f3 : M0 97 3 = M 97 15 := by rw [← hM0]; simp [pm_up]
    have f1 : M0 97 1 = M 97 16 := by rw [← hM0]; simp [pm_up]
    have f4 : M0 97 4 = M 97 17 := by rw [← hM0]; simp [pm_up]
    have fo : ∀ j, 5 ≤ j → M0 97 j = M 97 j := by
      intro j hj
      rw [← hM0, pm_up_ne (by omega), pm_up_ne (by omega), pm_up_ne (by omega)]
    have fa : ∀ a, a ≠ 97 → M0 a = M a := by
      intro a ha
      rw [← hM0, pm_up_row ha, pm_up_row ha, pm_up_row ha]
    refine pm_lp (N := 15) (G := fun i M1 => pm_wq d 202 Qr Qx (39, [some (.inr (.inl (9, 97))), some (.inl (i : Int))], [], pm_m n kd M1, 0, 0)) (I := fun i M1 => (∀ j, j < i → M1 98 j = M 106 j) ∧ px_ao 98 M0 M1) ?_ ?_ 0 M0 (Nat.zero_le _) ⟨fun j hj => absurd hj (Nat.not_lt_zero j), px_ao.rf⟩
    · intro M1 ⟨b1, o1⟩
      refine tr_202_39 (by omega) ⟨fun _ => ?_, fun z => by omega⟩
      refine pm_lp (N := 24) (G := fun i M2 => pm_wq d 202 Qr Qx (65, [some (.inr (.inl (9, 97))), some (.inl (i : Int))], [], pm_m n kd M2, 0, 0)) (I := fun i M2 => (∀ j, j < i → M2 99 j = M 107 j) ∧ px_ao 99 M1 M2) ?_ ?_ 0 M1 (Nat.zero_le _) ⟨fun j hj => absurd hj (Nat.not_lt_zero j), px_ao.rf⟩
      · intro M2 ⟨b2, o2⟩
        refine tr_202_65 (by omega) ⟨fun _ => ?_, fun z => by omega⟩
        refine ra_197 (by omega) (by decide) (by decide) (by decide) (by decide) (fun M3 c1 c2 c3 => tr_202_109 (by omega) ?_)
        have gf : ∀ j, M3 97 j = M0 97 j := fun j => by rw [c3 97 (by decide) (by decide), o2.at (by decide), o1.at (by decide)]
        have ga : ∀ a, a < 97 ∨ 102 ≤ a → M3 a = M a := fun a x2 => by rw [c3 a (by omega) (by omega), o2 a (by omega), o1 a (by omega), fa a (by omega)]
        have r4 : M3 97 4 = (q.2.2.1.length : Int) := by rw [gf 4, f4]; exact v4
        rw [r4]
        have g : px_dc M (pm_up M3 97 0 0) := ⟨fun a ha => (pm_up_row (by omega)).trans (ga a (by omega)), fun j x1 x2 => by rw [pm_up_ne (by omega), gf j, fo j x1]⟩
        refine h _ (hR.dk g ⟨?_, ?_, ?_, ?_, ?_, fun l hl => ⟨?_, ?_⟩⟩) g.fr pm_up_eq
        · rw [pm_up_ne (by omega), gf 3, f3]; exact v2
        · rw [pm_up_ne (by omega), gf 1, f1]; exact v3
        · rw [pm_up_ne (by omega)]; exact r4
        · refine px_ar0.mpr (fun j hj => ?_)
          rw [pm_up_ne (by omega), c3 98 (by decide) (by decide), o2.at (by decide), b1 j (by omega)]
          exact px_ar0.mp v5 j hj
        · refine px_ar0.mpr (fun j hj => ?_)
          rw [pm_up_ne (by omega), c3 99 (by decide) (by decide), b2 j (by omega)]
          exact px_ar0.mp v6 j hj
        · rw [pm_up_ne (by omega), c1 l hl, o2.at (by decide), o1.at (by decide), fa 108 (by decide)]
          exact (v7 l hl).1
        · intro j hj
          have hl4 : (q.2.2.2 l).length ≤ 4 := hWq.2.2.2.1 l
          rw [pm_up_ne (by omega), c2 _ (by omega), o2.at (by decide), o1.at (by decide), fa 109 (by decide)]
          exact (v7 l hl).2 j hj
      · intro i M2 hi ⟨b2, o2⟩ ih
        refine tr_202_65 (by omega) ⟨fun z => by omega, fun _ => ⟨⟨by omega, by omega⟩, ⟨by omega, by omega⟩, ⟨by omega, by omega⟩, ih _ ⟨fun j hj2 => ?_, o2.up⟩⟩⟩
        rw [Int.toNat_natCast, o2.at (by decide), o1.at (by decide), fa 107 (by decide)]
        by_cases e : j = i
        · rw [e, pm_up_eq]
        · rw [pm_up_ne (Or.inr e)]; exact b2 j (by omega)
    · intro i M1 hi ⟨b1, o1⟩ ih
      refine tr_202_39 (by omega) ⟨fun z => by omega, fun _ => ⟨⟨by omega, by omega⟩, ⟨by omega, by omega⟩, ⟨by omega, by omega⟩, ih _ ⟨fun j hj2 => ?_, o1.up⟩⟩⟩
      rw [Int.toNat_natCast, o1.at (by decide), fa 106 (by decide)]
      by_cases e : j = i
      · rw [e, pm_up_eq]
      · rw [pm_up_ne (Or.inr e)]; exact b1 j (by omega)
end RFC

/-! CALLS OF THE CLASS: pattern, word, occurrences, images, snapshot -/
section LAB
variable {d n : Nat} {kd : Nat → Nat} {M : Nat → Nat → Int} {Qr : Option pm_V → pm_Me → Prop} {Qx : Nat → pm_Me → Prop} {s : stt} {x y : Int}
theorem la_57 (hd : 2 ≤ d) (hL : Lab M s) (h : LO [0, 1] (o_appendVariable s x) n kd M Qr Qx) : pm_run d 57 [.inr (.inl (8, 0)), .inl x] (pm_m n kd M) Qr Qx := by
  obtain ⟨d, rfl⟩ := pm_ex1 (show 1 ≤ d by omega)
  have hp := hL.p
  have hs := hp.size
  unfold o_appendVariable at h
  refine tr_57 (by omega) ⟨fun z => ?_, fun z => ?_⟩
  · rw [if_pos z] at h
    refine ⟨fun z2 => ⟨⟨by omega, by omega⟩, ?_⟩, fun z2 => ?_⟩
    · rw [if_pos (by omega)] at h
      have := h _ (hL.sp ((pm_fr.rf.up (by omega) (by omega)).up (by omega) (by omega)) (hp.add x.toNat (show x = ((x.toNat : Nat) : Int) by omega) (by omega))) ((pm_fr.rf.up (by omega) (by omega)).up (by omega) (by omega))
      rw [pm_up_eq]
      rw [hs.1] at this ⊢
      exact this
    · rw [if_neg (by omega)] at h
      exact h M hL pm_fr.rf
  · rw [if_neg z] at h
    exact h M hL pm_fr.rf
theorem la_58 (hd : 2 ≤ d) (hL : Lab M s) (h : LO [] (o_clearPattern s) n kd M Qr Qx) : pm_run d 58 [.inr (.inl (8, 0))] (pm_m n kd M) Qr Qx := by
  obtain ⟨d, rfl⟩ := pm_ex1 (show 1 ≤ d by omega)
  have hs := hL.p.size
  have := h _ (hL.sp (pm_fr.rf.up (by omega) (by omega)) pm_row.clear) (pm_fr.rf.up (by omega) (by omega))
  refine tr_58 (by omega) ?_
  rw [hs.1]
  exact this
theorem la_59 (hd : 1 ≤ d) (hL : Lab M s) (h : LO [] (o_patternLength s) n kd M Qr Qx) : pm_run d 59 [.inr (.inl (8, 0))] (pm_m n kd M) Qr Qx := by
  obtain ⟨d, rfl⟩ := pm_ex1 (show 1 ≤ d by omega)
  have hs := hL.p.size
  refine tr_59 ?_
  rw [hs.1]
  exact h M hL pm_fr.rf
theorem la_60 (hd : 3 ≤ d) (hL : Lab M s) (h : LO [2] (o_patternVariable s x) n kd M Qr Qx) : pm_run d 60 [.inr (.inl (8, 0)), .inl x] (pm_m n kd M) Qr Qx := by
  obtain ⟨d, rfl⟩ := pm_ex1 (show 1 ≤ d by omega)
  have hp := hL.p
  have hs := hp.size
  unfold o_patternVariable at h
  refine tr_60 (by omega) ⟨fun z => ?_, fun z => ?_⟩
  · rw [if_pos (by omega)] at h
    refine ⟨⟨by omega, by omega, by omega⟩, ?_⟩
    rw [hp.at (by omega)]
    exact h M hL pm_fr.rf
  · rw [if_neg (by omega)] at h
    exact h M hL pm_fr.rf
theorem la_61 (hd : 3 ≤ d) (hL : Lab M s) (hW : wfs s) (h : LO [] (o_variables s) n kd M Qr Qx) : pm_run d 61 [.inr (.inl (8, 0))] (pm_m n kd M) Qr Qx := by
  obtain ⟨d, rfl⟩ := pm_ex1 (show 1 ≤ d by omega)
  exact tr_61 (sp_51 (by omega) hL.p hW.1.2.1.2 (tr_61_10 (h M hL pm_fr.rf)))
theorem la_62 (hd : 4 ≤ d) (hL : Lab M s) (h : LO [0] (o_loadZimin s x) n kd M Qr Qx) : pm_run d 62 [.inr (.inl (8, 0)), .inl x] (pm_m n kd M) Qr Qx := by
  obtain ⟨d, rfl⟩ := pm_ex1 (show 1 ≤ d by omega)
  unfold o_loadZimin at h
  refine tr_62 (by omega) ⟨fun z => ?_, fun z => ?_⟩
  · rw [if_pos z] at h
    have e : x = ((x.toNat : Nat) : Int) := by omega
    rw [e]
    refine sp_46 (by omega) (by omega) (fun M1 hr ho => tr_62_15 (by omega) ?_)
    rw [hr.size.1]
    exact h M1 (hL.sp ho hr) (ho.wd (by omega) (by omega))
  · rw [if_neg z] at h
    exact h M hL pm_fr.rf
/-- changePattern -/
theorem la_116 {p : List Nat} (hd : 2 ≤ d) (hL : Lab M s) (hr : pm_row M 93 p) (h : ∀ M', Lab M' (sP s p) → pm_fr 0 97 M M' → Qr (some (.inl (if gP s = p then 0 else 1))) (pm_m n kd M')) : pm_run d 116 [.inr (.inl (8, 0)), .inr (.inl (6, 93))] (pm_m n kd M) Qr Qx := by
  obtain ⟨d, rfl⟩ := pm_ex1 (show 1 ≤ d by omega)
  refine tr_116 (sp_48 (by omega) hL.p hr ?_)
  refine tr_116_11 ⟨fun z => ?_, fun z => ?_⟩
  · have e : gP s = p := by
      apply Classical.byContradiction
      intro w
      rw [if_neg w] at z
      exact z rfl
    refine sq_42 (by omega) hr (by decide) (by decide) (fun M1 hr1 ho => tr_116_31 ⟨Or.inl rfl, ?_⟩)
    have := h M1 (hL.sp ho hr1) (ho.wd (by omega) (by omega))
    rw [if_pos e] at this
    exact this
  · have e : gP s ≠ p := by
      intro w
      rw [if_pos w] at z
      exact z (by decide)
    refine sq_42 (by omega) hr (by decide) (by decide) (fun M1 hr1 ho => tr_116_31 ⟨Or.inr rfl, ?_⟩)
    have := h M1 (hL.sp ho hr1) (ho.wd (by omega) (by omega))
    rw [if_neg e] at this
    exact this
theorem if_01 {c : Prop} [Decidable c] : (if c then (0 : Int) else 1) = 0 ∨ (if c then (0 : Int) else 1) = 1 := by split; exact Or.inl rfl; exact Or.inr rfl
theorem if_10 {c : Prop} [Decidable c] : (if c then (1 : Int) else 0) = 0 ∨ (if c then (1 : Int) else 0) = 1 := by split; exact Or.inr rfl; exact Or.inl rfl
theorem la_63 (hd : 4 ≤ d) (hL : Lab M s) (h : LO [] (o_canonicalize s) n kd M Qr Qx) : pm_run d 63 [.inr (.inl (8, 0))] (pm_m n kd M) Qr Qx := by
  obtain ⟨d, rfl⟩ := pm_ex1 (show 1 ≤ d by omega)
  refine tr_63 (sp_45 (by omega) hL.p (by decide) (fun M1 hr ho => tr_63_14 ?_))
  refine la_116 (by omega) (hL.fr ho (by decide)) hr (fun M2 hL2 ho2 => tr_63_22 ⟨if_01, h M2 hL2 ((ho.wd (by omega) (by omega)).tr ho2)⟩)
theorem la_64 (hd : 4 ≤ d) (hL : Lab M s) (h : LO [] (o_reversePattern s) n kd M Qr Qx) : pm_run d 64 [.inr (.inl (8, 0))] (pm_m n kd M) Qr Qx := by
  obtain ⟨d, rfl⟩ := pm_ex1 (show 1 ≤ d by omega)
  refine tr_64 (sp_44 (by omega) hL.p (by decide) (fun M1 hr ho => tr_64_14 ?_))
  refine la_116 (by omega) (hL.fr ho (by decide)) hr (fun M2 hL2 ho2 => tr_64_22 ⟨if_01, h M2 hL2 ((ho.wd (by omega) (by omega)).tr ho2)⟩)
/-- occurs -/
theorem la_117 {q1 q2 : Nat} {p t : List Nat} (hd : 22 ≤ d) (h1 : pm_row M q1 p) (h2 : pm_row M q2 t) (hp : p ≠ []) (hp2 : wfp p) (hq1 : q1 + 1 < 53 ∨ 63 ≤ q1) (hq2 : q2 + 1 < 53 ∨ 63 ≤ q2) (h : ∀ M', pm_fr 53 63 M M' → Qr (some (.inl (bI (FO p t).isSome))) (pm_m n kd M')) : pm_run d 117 [.inr (.inl (8, 0)), .inr (.inl (6, q1)), .inr (.inl (6, q2))] (pm_m n kd M) Qr Qx := by
  obtain ⟨d, rfl⟩ := pm_ex1 (show 1 ≤ d by omega)
  have h15 := hp2.1
  refine tr_117 (sp_3 (by omega) h1 hp2.2 (by omega) (fun M1 hm ho => tr_117_8 ?_))
  refine sp_5 (by omega) (h2.fr ho (by omega)) (by omega) (by omega) (fun M2 ht ho2 => tr_117_16 ?_)
  have hm2 := hm.fr ho2 (by omega)
  refine sp_6 (by omega) hm2 ht hp ?_ ?_
  · intro M3 s0 E' r' hb hs hh he ho3
    refine tr_117_23 ⟨fun z => by omega, fun _ => ?_⟩
    have := h M3 (((ho.wd (by omega) (by omega)).tr (ho2.wd (by omega) (by omega))).tr (ho3.wd (by omega) (by omega)))
    rw [FO_some hh (occ_end (head_ne hh) hp) hb] at this
    exact this
  · intro M3 hb ho3
    refine tr_117_23 ⟨fun _ => ?_, fun z => absurd (by decide) z⟩
    have := h M3 (((ho.wd (by omega) (by omega)).tr (ho2.wd (by omega) (by omega))).tr (ho3.wd (by omega) (by omega)))
    rw [FO_none (fun j _ => hb j)] at this
    exact this
theorem la_65 (hd : 24 ≤ d) (hL : Lab M s) (hW : wfs s) (h : LO [0, 1] (o_occursInZimin s x) n kd M Qr Qx) : pm_run d 65 [.inr (.inl (8, 0)), .inl x] (pm_m n kd M) Qr Qx := by
  obtain ⟨d, rfl⟩ := pm_ex1 (show 1 ≤ d by omega)
  have hp := hL.p
  have hs := hp.size
  unfold o_occursInZimin at h
  refine tr_65 (by omega) ⟨fun z => ?_, fun z => ?_⟩
  · rw [if_pos z] at h
    refine ⟨fun z2 => ?_, fun z2 => ?_⟩
    · have hne : gP s ≠ [] := ln0.mp (by omega)
      rw [if_neg hne] at h
      have e : x = ((x.toNat : Nat) : Int) := by omega
      rw [e]
      refine sp_46 (by omega) (by omega) (fun M1 hr ho => tr_65_16 (by omega) ?_)
      refine la_117 (by omega) (hp.fr ho (by decide)) hr hne hW.1.2.1 (by decide) (by decide) (fun M2 ho2 => tr_65_31 (by omega) ⟨bI_or _, h M2 ((hL.fr ho (by decide)).fr ho2 (by decide)) ((ho.wd (by omega) (by omega)).tr (ho2.wd (by omega) (by omega)))⟩)
    · have hne : gP s = [] := List.length_eq_zero_iff.mp (by omega)
      rw [if_pos hne] at h
      exact h M hL pm_fr.rf
  · rw [if_neg z] at h
    exact h M hL pm_fr.rf
theorem la_66 (hd : 2 ≤ d) (hL : Lab M s) (h : LO [2] (o_shelve s x) n kd M Qr Qx) : pm_run d 66 [.inr (.inl (8, 0)), .inl x] (pm_m n kd M) Qr Qx := by
  obtain ⟨d, rfl⟩ := pm_ex1 (show 1 ≤ d by omega)
  have hp := hL.p
  unfold o_shelve at h
  refine tr_66 (by omega) ⟨fun z => ⟨z, ?_⟩, fun z => ?_⟩
  · rw [if_pos z] at h
    refine sq_42 (by omega) hp (by omega) (by omega) (fun M1 hr ho => tr_66_20 (by omega) ⟨z, ?_⟩)
    have hp1 := hp.fr ho (by omega)
    rw [pm_up_ne (Or.inl (by decide)), hp1.size.1]
    have ho2 : pm_fr 32 41 M (pm_up M1 40 x.toNat 1) := (ho.wd (by omega) (by omega)).up (by omega) (by omega)
    refine h _ ⟨hL.1.fr ho2 (by omega), hL.2.1.fr ho2 (by omega), fun i hi => ?_, hL.2.2.2.fr ho2 (by omega)⟩ (ho2.wd (by omega) (by omega))
    show LabS _ i (if i = x.toNat then some (gP s) else gS s i)
    by_cases e : i = x.toNat
    · rw [if_pos e]
      refine ⟨by rw [e, pm_up_eq], ?_⟩
      rw [e]
      exact (hr.congr rfl rfl : pm_row M1 (31 + 1 + 2 * x.toNat) (gP s)).fr (lo := 40) (hi := 41) (pm_fr.rf.up (by omega) (by omega)) (by omega)
    · rw [if_neg e]
      have hh := hL.2.2.1 i hi
      cases hc : gS s i with
      | none =>
        have hh : LabS M i (gS s i) := hh
        rw [hc] at hh
        have hh : M 40 i = 0 := hh
        show pm_up M1 40 x.toNat 1 40 i = 0
        rw [pm_up_ne (Or.inr e), ho.at (by omega)]
        exact hh
      | some q =>
        have hh : LabS M i (gS s i) := hh
        rw [hc] at hh
        refine ⟨?_, ?_⟩
        · rw [pm_up_ne (Or.inr e), ho.at (by omega)]
          exact hh.1
        · exact (hh.2.fr ho (by omega)).fr (lo := 40) (hi := 41) (pm_fr.rf.up (by omega) (by omega)) (by omega)
  · rw [if_neg z] at h
    exact h M hL pm_fr.rf
theorem la_67 (hd : 3 ≤ d) (hL : Lab M s) (h : LO [2, 1] (o_useShelf s x) n kd M Qr Qx) : pm_run d 67 [.inr (.inl (8, 0)), .inl x] (pm_m n kd M) Qr Qx := by
  obtain ⟨d, rfl⟩ := pm_ex1 (show 1 ≤ d by omega)
  unfold o_useShelf at h
  refine tr_67 (by omega) ⟨fun z => ?_, fun z => ?_⟩
  · rw [if_pos z] at h
    have hh : LabS M x.toNat (gS s x.toNat) := hL.2.2.1 x.toNat (by omega)
    cases hc : gS s x.toNat with
    | none =>
      rw [hc] at hh h
      have hh : M 40 x.toNat = 0 := hh
      exact ⟨fun z2 => absurd hh z2, fun _ => h M hL pm_fr.rf⟩
    | some q =>
      rw [hc] at hh h
      have h1 : M 40 x.toNat = 1 := hh.1
      refine ⟨fun _ => ⟨z, ?_⟩, fun z2 => absurd (by rw [h1]; decide) z2⟩
      refine sq_42 (by omega) hh.2 (by omega) (by omega) (fun M1 hr ho => tr_67_21 (by omega) ?_)
      rw [hr.size.1]
      exact h M1 (hL.sp ho hr) (ho.wd (by omega) (by omega))
  · rw [if_neg z] at h
    exact h M hL pm_fr.rf
theorem la_68 (hd : 4 ≤ d) (hL : Lab M s) (h : LO [2, 1] (o_isIsomorphic s x) n kd M Qr Qx) : pm_run d 68 [.inr (.inl (8, 0)), .inl x] (pm_m n kd M) Qr Qx := by
  obtain ⟨d, rfl⟩ := pm_ex1 (show 1 ≤ d by omega)
  unfold o_isIsomorphic at h
  refine tr_68 (by omega) ⟨fun z => ?_, fun z => ?_⟩
  · rw [if_pos z] at h
    have hh : LabS M x.toNat (gS s x.toNat) := hL.2.2.1 x.toNat (by omega)
    cases hc : gS s x.toNat with
    | none =>
      rw [hc] at hh h
      have hh : M 40 x.toNat = 0 := hh
      exact ⟨fun z2 => absurd hh z2, fun _ => h M hL pm_fr.rf⟩
    | some q =>
      rw [hc] at hh h
      have h1 : M 40 x.toNat = 1 := hh.1
      refine ⟨fun _ => ?_, fun z2 => absurd (by rw [h1]; decide) z2⟩
      refine sp_45 (by omega) hL.p (by decide) (fun M1 hr ho => tr_68_19 (by omega) ⟨z, ?_⟩)
      refine sp_45 (by omega) (hh.2.fr ho (by omega)) (by omega) (fun M2 hr2 ho2 => tr_68_32 (by omega) ?_)
      refine sp_48 (by omega) (hr.fr ho2 (by decide)) hr2 (tr_68_43 (by omega) ⟨if_10, ?_⟩)
      exact h M2 ((hL.fr ho (by decide)).fr ho2 (by decide)) ((ho.wd (by omega) (by omega)).tr (ho2.wd (by omega) (by omega)))
  · rw [if_neg z] at h
    exact h M hL pm_fr.rf
theorem la_69 (hd : 24 ≤ d) (hL : Lab M s) (hW : wfs s) (h : LO [2, 1] (o_contains s x) n kd M Qr Qx) : pm_run d 69 [.inr (.inl (8, 0)), .inl x] (pm_m n kd M) Qr Qx := by
  obtain ⟨d, rfl⟩ := pm_ex1 (show 1 ≤ d by omega)
  unfold o_contains at h
  refine tr_69 (by omega) ⟨fun z => ?_, fun z => ?_⟩
  · rw [if_pos z] at h
    have hh : LabS M x.toNat (gS s x.toNat) := hL.2.2.1 x.toNat (by omega)
    cases hc : gS s x.toNat with
    | none =>
      rw [hc] at hh h
      have hh : M 40 x.toNat = 0 := hh
      exact ⟨fun z2 => absurd hh z2, fun _ => h M hL pm_fr.rf⟩
    | some q =>
      rw [hc] at hh h
      have h1 : M 40 x.toNat = 1 := hh.1
      have hrow : pm_row M (31 + 1 + 2 * x.toNat) q := hh.2
      have hs := hrow.size
      refine ⟨fun _ => ⟨z, fun z2 => ⟨z, ?_⟩, fun z2 => ?_⟩, fun z2 => absurd (by rw [h1]; decide) z2⟩
      · have hne : q ≠ [] := ln0.mp (by omega)
        have h : LO [2, 1] (if q = [] then (.inr 2, s) else (.inl (bI (FO q (gP s)).isSome), s)) n kd M Qr Qx := h
        rw [if_neg hne] at h
        exact la_117 (by omega) hrow hL.p hne (hW.2.2.1 _ _ hc) (by omega) (by decide) (fun M2 ho2 => tr_69_44 (by omega) ⟨bI_or _, h M2 (hL.fr ho2 (by decide)) (ho2.wd (by omega) (by omega))⟩)
      · have hne : q = [] := List.length_eq_zero_iff.mp (by omega)
        have h : LO [2, 1] (if q = [] then (.inr 2, s) else (.inl (bI (FO q (gP s)).isSome), s)) n kd M Qr Qx := h
        rw [if_pos hne] at h
        exact h M hL pm_fr.rf
  · rw [if_neg z] at h
    exact h M hL pm_fr.rf
theorem la_70 (hd : 3 ≤ d) (hL : Lab M s) (h : LO [0] (o_setLetterCount s x) n kd M Qr Qx) : pm_run d 70 [.inr (.inl (8, 0)), .inl x] (pm_m n kd M) Qr Qx := by
  obtain ⟨d, rfl⟩ := pm_ex1 (show 1 ≤ d by omega)
  unfold o_setLetterCount at h
  refine tr_70 (by omega) ⟨fun z => ?_, fun z => ⟨fun z2 => ?_, fun z2 => ?_⟩⟩
  · rw [if_neg (by omega)] at h
    exact h M hL pm_fr.rf
  · rw [if_pos (by omega)] at h
    have ho : pm_fr 1 16 M (pm_up (pm_up M 1 0 x) 4 1 0) := (pm_fr.rf.up (by omega) (by omega)).up (by omega) (by omega)
    refine sp_16 (by omega) (fun M1 hi ho1 => tr_70_56 (by omega) ?_)
    rw [hL.k]
    have ho2 : pm_fr 1 16 M M1 := ho.tr (ho1.wd (by omega) (by omega))
    refine h M1 (hL.dk ho2 (by decide) (by decide) ⟨?_, ?_, ?_, hi⟩) (ho2.wd (by omega) (by omega))
    · rw [ho1.at (by decide), pm_up_ne (Or.inl (by decide)), pm_up_eq]; exact (Int.toNat_of_nonneg (by omega)).symm
    · exact hL.p.congr (by rw [ho1 2 (by decide), pm_up_row (by decide), pm_up_row (by decide)]) (by rw [ho1 3 (by decide), pm_up_row (by decide), pm_up_row (by decide)])
    · exact (pm_row.clear (M := pm_up M 1 0 x) (k := 4)).fr ho1 (by decide)
  · rw [if_neg (by omega)] at h
    exact h M hL pm_fr.rf
theorem la_71 (hd : 2 ≤ d) (hL : Lab M s) (h : LO [0, 1] (o_appendLetter s x) n kd M Qr Qx) : pm_run d 71 [.inr (.inl (8, 0)), .inl x] (pm_m n kd M) Qr Qx := by
  obtain ⟨d, rfl⟩ := pm_ex1 (show 1 ≤ d by omega)
  have hp := hL.w
  have hs := hp.size
  have hk := hL.k
  unfold o_appendLetter at h
  refine tr_71 (by omega) ⟨fun z => ?_, fun z => ?_⟩
  · rw [if_pos (by omega)] at h
    refine ⟨fun z2 => ⟨⟨by omega, by omega⟩, ?_⟩, fun z2 => ?_⟩
    · rw [if_pos (by omega)] at h
      have := h _ (hL.sw ((pm_fr.rf.up (by omega) (by omega)).up (by omega) (by omega)) (hp.add x.toNat (show x = ((x.toNat : Nat) : Int) by omega) (by omega))) ((pm_fr.rf.up (by omega) (by omega)).up (by omega) (by omega))
      rw [pm_up_eq]
      rw [hs.1] at this ⊢
      exact this
    · rw [if_neg (by omega)] at h
      exact h M hL pm_fr.rf
  · rw [if_neg (by omega)] at h
    exact h M hL pm_fr.rf
theorem la_72 (hd : 2 ≤ d) (hL : Lab M s) (h : LO [] (o_clearWord s) n kd M Qr Qx) : pm_run d 72 [.inr (.inl (8, 0))] (pm_m n kd M) Qr Qx := by
  obtain ⟨d, rfl⟩ := pm_ex1 (show 1 ≤ d by omega)
  have hs := hL.w.size
  have := h _ (hL.sw (pm_fr.rf.up (by omega) (by omega)) pm_row.clear) (pm_fr.rf.up (by omega) (by omega))
  refine tr_72 (by omega) ?_
  rw [hs.1]
  exact this
theorem la_73 (hd : 1 ≤ d) (hL : Lab M s) (h : LO [] (o_wordLength s) n kd M Qr Qx) : pm_run d 73 [.inr (.inl (8, 0))] (pm_m n kd M) Qr Qx := by
  obtain ⟨d, rfl⟩ := pm_ex1 (show 1 ≤ d by omega)
  have hs := hL.w.size
  refine tr_73 ?_
  rw [hs.1]
  exact h M hL pm_fr.rf
theorem la_74 (hd : 3 ≤ d) (hL : Lab M s) (h : LO [2] (o_letter s x) n kd M Qr Qx) : pm_run d 74 [.inr (.inl (8, 0)), .inl x] (pm_m n kd M) Qr Qx := by
  obtain ⟨d, rfl⟩ := pm_ex1 (show 1 ≤ d by omega)
  have hp := hL.w
  have hs := hp.size
  unfold o_letter at h
  refine tr_74 (by omega) ⟨fun z => ?_, fun z => ?_⟩
  · rw [if_pos (by omega)] at h
    refine ⟨⟨by omega, by omega, by omega⟩, ?_⟩
    rw [hp.at (by omega)]
    exact h M hL pm_fr.rf
  · rw [if_neg (by omega)] at h
    exact h M hL pm_fr.rf
theorem la_79 (hd : 24 ≤ d) (hL : Lab M s) (hW : wfs s) (h : LO [1] (o_avoids s) n kd M Qr Qx) : pm_run d 79 [.inr (.inl (8, 0))] (pm_m n kd M) Qr Qx := by
  obtain ⟨d, rfl⟩ := pm_ex1 (show 1 ≤ d by omega)
  have hs := hL.p.size
  unfold o_avoids at h
  refine tr_79 (by omega) ⟨fun z => ?_, fun z => ?_⟩
  · have hne : gP s ≠ [] := ln0.mp (by omega)
    rw [if_neg hne] at h
    refine la_117 (by omega) hL.p hL.w hne hW.1.2.1 (by decide) (by decide) (fun M2 ho2 => ?_)
    have := h M2 (hL.fr ho2 (by decide)) (ho2.wd (by omega) (by omega))
    cases hb : (FO (gP s) (gW s)).isSome with
    | true => rw [hb] at this; exact tr_79_22 (by omega) ⟨fun _ => this, fun z => absurd (by decide) z⟩
    | false => rw [hb] at this; exact tr_79_22 (by omega) ⟨fun z => absurd rfl z, fun _ => this⟩
  · have hne : gP s = [] := List.length_eq_zero_iff.mp (by omega)
    rw [if_pos hne] at h
    exact h M hL pm_fr.rf
/-- Occurrence.take -/
theorem la_22 {p t : List Nat} {E : Nat → List Nat} (hd : 3 ≤ d) (hm : pm_mp M 53 p) (ht : pm_row M 56 t) (he : pm_en M 53 t E t.length) (h : ∀ M', M' 41 0 = 1 → (∀ v, v < 5 → pm_row M' (43 + 2 * v) (E v)) → pm_fr 41 53 M M' → Qr none (pm_m n kd M')) : pm_run d 22 [.inr (.inl (3, 41)), .inr (.inl (1, 53))] (pm_m n kd M) Qr Qx := by
  obtain ⟨d, rfl⟩ := pm_ex1 (show 1 ≤ d by omega)
  refine tr_22 (by omega) (pm_lp (N := 5) (G := fun i M1 => pm_wq d 22 Qr Qx (7, [some (.inr (.inl (3, 41))), some (.inr (.inl (1, 53))), some (.inl (i : Int)), none], [], pm_m n kd M1, 0, 0)) (I := fun i M1 => M1 41 0 = 1 ∧ (∀ v, v < i → pm_row M1 (43 + 2 * v) (E v)) ∧ pm_fr 41 53 M M1) ?_ ?_ 0 _ (Nat.zero_le _) ⟨pm_up_eq, fun v hv => absurd hv (Nat.not_lt_zero v), pm_fr.rf.up (by decide) (by decide)⟩)
  · intro M1 ⟨h1, hr, ho⟩
    exact tr_22_7 (by omega) ⟨fun _ => h M1 h1 hr ho, fun z => by omega⟩
  · intro i M1 hi ⟨h1, hr, ho⟩ ih
    have hei := he i hi
    have hlen : (E i).length ≤ 24 := by
      by_cases hE : E i = []
      · rw [hE]; exact Nat.zero_le _
      · obtain ⟨st, a1, a2, a3⟩ := hei.2 hE
        have := ht.2.1
        omega
    refine tr_22_7 (by omega) ⟨fun z => by omega, fun _ => ⟨⟨by omega, by omega⟩, ?_⟩⟩
    have e : (42 + 1 + 2 * ((i : Nat) : Int).toNat) = 43 + 2 * i := by omega
    rw [e]
    refine pm_lp (N := (E i).length) (G := fun j M2 => pm_wq d 22 Qr Qx (23, [some (.inr (.inl (3, 41))), some (.inr (.inl (1, 53))), some (.inl (i : Int)), some (.inl (j : Int))], [], pm_m n kd M2, 0, 0)) (I := fun j M2 => pm_row M2 (43 + 2 * i) ((E i).take j) ∧ pm_fr (43 + 2 * i) (45 + 2 * i) M1 M2) ?_ ?_ 0 _ (Nat.zero_le _) ⟨pm_row.clear, pm_fr.rf.up (by omega) (by omega)⟩
    · intro M2 ⟨hr2, ho2⟩
      have h62 : M2 62 i = ((E i).length : Int) := by rw [ho2.at (by omega), ho.at (by omega)]; exact hei.1
      refine tr_22_23 (by omega) ⟨⟨by omega, by omega⟩, ?_⟩
      rw [Int.toNat_natCast, h62]
      rw [List.take_length] at hr2
      refine ⟨fun _ => ⟨⟨by omega, by omega⟩, ih M2 ⟨?_, fun v hv => ?_, ho.tr (ho2.wd (by omega) (by omega))⟩⟩, fun z => by omega⟩
      · rw [ho2.at (by omega)]; exact h1
      · by_cases ev : v = i
        · rw [ev]; exact hr2
        · exact (hr v (by omega)).fr ho2 (by omega)
    · intro j M2 hj ⟨hr2, ho2⟩ ih2
      have h62 : M2 62 i = ((E i).length : Int) := by rw [ho2.at (by omega), ho.at (by omega)]; exact hei.1
      have hE : E i ≠ [] := fun z => by rw [z] at hj; exact absurd hj (Nat.not_lt_zero j)
      obtain ⟨st, a1, a2, a3⟩ := hei.2 hE
      have h61 : M2 61 i = (st : Int) := by rw [ho2.at (by omega), ho.at (by omega)]; exact a1
      have ht2 : pm_row M2 56 t := (ht.fr ho (by omega)).fr ho2 (by omega)
      have hts := ht2.size
      have hrs := hr2.size
      rw [tk_len (by omega)] at hrs
      refine tr_22_23 (by omega) ⟨⟨by omega, by omega⟩, ?_⟩
      rw [e, Int.toNat_natCast, h62, h61]
      refine ⟨fun z => by omega, fun _ => ⟨⟨by omega, by omega⟩, ⟨by omega, by omega⟩, ⟨by omega, by omega⟩, ⟨by omega, by omega, by omega⟩, ⟨by omega, by omega⟩, ⟨by omega, by omega⟩, ih2 _ ⟨?_, (ho2.up (by omega) (by omega)).up (by omega) (by omega)⟩⟩⟩
      rw [tk_succ hj]
      refine hr2.add _ ?_ (by rw [tk_len (by omega)]; omega)
      have e2 : ((st : Int) + (j : Int)).toNat = st + j := by omega
      rw [e2, ht2.at (by omega)]
      congr 1
      conv => rhs; rw [← a3]
      rw [gd_take hj, gd_drop]
theorem la_80 (hd : 24 ≤ d) (hL : Lab M s) (hW : wfs s) (h : LO [1, 5] (o_findOccurrence s) n kd M Qr Qx) : pm_run d 80 [.inr (.inl (8, 0))] (pm_m n kd M) Qr Qx := by
  obtain ⟨d, rfl⟩ := pm_ex1 (show 1 ≤ d by omega)
  have hs := hL.p.size
  have h15 : (gP s).length ≤ 15 := hW.1.2.1.1
  unfold o_findOccurrence at h
  refine tr_80 (by omega) ⟨fun z => ?_, fun z => ?_⟩
  · have hne : gP s ≠ [] := ln0.mp (by omega)
    rw [if_neg hne] at h
    refine sp_3 (by omega) hL.p hW.1.2.1.2 (by decide) (fun M1 hm ho => tr_80_18 (by omega) ?_)
    refine sp_5 (by omega) (hL.w.fr ho (by decide)) (by decide) (by decide) (fun M2 ht ho2 => tr_80_32 (by omega) ?_)
    have hm2 := hm.fr ho2 (by decide)
    refine sp_6 (by omega) hm2 ht hne ?_ ?_
    · intro M3 s0 E' r' hb hs0 hh he ho3
      rw [FO_some hh (occ_end (head_ne hh) hne) hb] at h
      refine tr_80_39 (by omega) ⟨fun _ => ?_, fun z => by omega⟩
      refine la_22 (by omega) (hm2.fr ho3 (by decide)) (ht.fr ho3 (by decide)) he (fun M4 h41 hr4 ho4 => tr_80_65 (by omega) ?_)
      have hf : pm_fr 41 63 M M4 := (((ho.wd (by decide) (by decide)).tr (ho2.wd (by decide) (by decide))).tr (ho3.wd (by decide) (by decide))).tr (ho4.wd (by decide) (by decide))
      exact h M4 ⟨hL.1.fr hf (by decide), hL.2.1.fr hf (by decide), fun i hi => (hL.2.2.1 i hi).fr hf hi (by decide), h41, hr4⟩ (hf.wd (by decide) (by decide))
    · intro M3 hb ho3
      rw [FO_none (fun j _ => hb j)] at h
      have hf : pm_fr 53 63 M M3 := ((ho.wd (by decide) (by decide)).tr (ho2.wd (by decide) (by decide))).tr (ho3.wd (by decide) (by decide))
      exact tr_80_39 (by omega) ⟨fun z => absurd z (by decide), fun _ => h M3 (hL.fr hf (by decide)) (hf.wd (by decide) (by decide))⟩
  · have hne : gP s = [] := List.length_eq_zero_iff.mp (by omega)
    rw [if_pos hne] at h
    exact h M hL pm_fr.rf
theorem la_81 (hd : 3 ≤ d) (hL : Lab M s) (h : LO [0, 1] (o_imageLength s x) n kd M Qr Qx) : pm_run d 81 [.inr (.inl (8, 0)), .inl x] (pm_m n kd M) Qr Qx := by
  obtain ⟨d, rfl⟩ := pm_ex1 (show 1 ≤ d by omega)
  obtain ⟨d, rfl⟩ := pm_ex1 (show 1 ≤ d by omega)
  unfold o_imageLength at h
  have hh := hL.2.2.2
  refine tr_81 (tr_112 (by omega) ⟨fun z => ?_, fun z => ?_⟩)
  · rw [if_pos z] at h
    cases hc : gO s with
    | none =>
      have hh : LabO M (gO s) := hh
      rw [hc] at hh h
      have hh : M 41 0 = 0 := hh
      exact ⟨fun z2 => absurd hh z2, fun _ => h M hL pm_fr.rf⟩
    | some f =>
      have hh : LabO M (gO s) := hh
      rw [hc] at hh h
      refine ⟨fun _ => tr_81_5 ⟨z, ?_⟩, fun z2 => absurd (by rw [hh.1]; decide) z2⟩
      have hr : pm_row M (42 + 1 + 2 * x.toNat) (f x.toNat) := hh.2 x.toNat (by omega)
      rw [hr.size.1]
      exact h M hL pm_fr.rf
  · rw [if_neg z] at h
    exact h M hL pm_fr.rf
theorem la_82 (hd : 4 ≤ d) (hL : Lab M s) (h : LO [0, 1, 2] (o_imageLetter s x y) n kd M Qr Qx) : pm_run d 82 [.inr (.inl (8, 0)), .inl x, .inl y] (pm_m n kd M) Qr Qx := by
  obtain ⟨d, rfl⟩ := pm_ex1 (show 1 ≤ d by omega)
  obtain ⟨d, rfl⟩ := pm_ex1 (show 1 ≤ d by omega)
  unfold o_imageLetter at h
  have hh := hL.2.2.2
  refine tr_82 (by omega) (tr_112 (by omega) ⟨fun z => ?_, fun z => ?_⟩)
  · rw [if_pos z] at h
    cases hc : gO s with
    | none =>
      have hh : LabO M (gO s) := hh
      rw [hc] at hh h
      have hh : M 41 0 = 0 := hh
      exact ⟨fun z2 => absurd hh z2, fun _ => h M hL pm_fr.rf⟩
    | some f =>
      have hh : LabO M (gO s) := hh
      rw [hc] at hh h
      have hr : pm_row M (42 + 1 + 2 * x.toNat) (f x.toNat) := hh.2 x.toNat (by omega)
      have hs := hr.size
      have h : LO [0, 1, 2] (if 0 ≤ y ∧ y < (f x.toNat).length then (.inl ((f x.toNat).getD y.toNat 0 : Nat), s) else (.inr 3, s)) n kd M Qr Qx := h
      refine ⟨fun _ => tr_82_5 (by omega) ⟨z, fun z2 => ⟨z, ⟨by omega, by omega, by omega⟩, ?_⟩, fun z2 => ?_⟩, fun z2 => absurd (by rw [hh.1]; decide) z2⟩
      · rw [if_pos (by omega)] at h
        rw [hr.at (by omega)]
        exact h M hL pm_fr.rf
      · rw [if_neg (by omega)] at h
        exact h M hL pm_fr.rf
  · rw [if_neg z] at h
    exact h M hL pm_fr.rf
theorem la_83 (hd : 40 ≤ d) (hL : Lab M s) (hW : wfs s) (h : LO [1] (o_occurrenceCount s) n kd M Qr Qx) : pm_run d 83 [.inr (.inl (8, 0))] (pm_m n kd M) Qr Qx := by
  obtain ⟨d, rfl⟩ := pm_ex1 (show 1 ≤ d by omega)
  have hs := hL.p.size
  have h15 : (gP s).length ≤ 15 := hW.1.2.1.1
  unfold o_occurrenceCount at h
  refine tr_83 (by omega) ⟨fun z => ?_, fun z => ?_⟩
  · have hne : gP s ≠ [] := ln0.mp (by omega)
    rw [if_neg hne] at h
    refine sp_3 (by omega) hL.p hW.1.2.1.2 (by decide) (fun M1 hm ho => tr_83_18 (by omega) ?_)
    refine sp_5 (by omega) (hL.w.fr ho (by decide)) (by decide) (by decide) (fun M2 ht ho2 => tr_83_32 (by omega) ?_)
    have hm2 := hm.fr ho2 (by decide)
    refine sp_8 (by omega) hm2 ht hne (fun M3 ho3 => tr_83_39 (by omega) ?_)
    have hf : pm_fr 53 63 M M3 := ((ho.wd (by decide) (by decide)).tr (ho2.wd (by decide) (by decide))).tr (ho3.wd (by decide) (by decide))
    exact h M3 (hL.fr hf (by decide)) (hf.wd (by decide) (by decide))
  · have hne : gP s = [] := List.length_eq_zero_iff.mp (by omega)
    rw [if_pos hne] at h
    exact h M hL pm_fr.rf
theorem la_96 (hd : 2 ≤ d) (hL : Lab M s) (hW : wfs s) (h : LO [0, 1] (o_appendImage s x y) n kd M Qr Qx) : pm_run d 96 [.inr (.inl (8, 0)), .inl x, .inl y] (pm_m n kd M) Qr Qx := by
  obtain ⟨d, rfl⟩ := pm_ex1 (show 1 ≤ d by omega)
  have hk := hL.k
  have hk4 : gK s ≤ 4 := hW.1.1.2
  unfold o_appendImage at h
  refine tr_96 (by omega) ⟨fun z => ⟨fun z2 => ⟨⟨by omega, by omega⟩, ?_⟩, fun z2 => ?_⟩, fun z => ?_⟩
  · rw [if_pos (by omega)] at h
    have hr : pm_row M (7 + 1 + 2 * x.toNat) (gI s x.toNat) := hL.ii (by omega)
    have hs := hr.size
    refine ⟨fun z3 => ⟨⟨by omega, by omega⟩, ?_⟩, fun z3 => ?_⟩
    · rw [if_pos (by omega)] at h
      have hadd := hr.add y.toNat (show y = ((y.toNat : Nat) : Int) by omega) (by omega)
      have ho : pm_fr (7 + 1 + 2 * x.toNat) (7 + 1 + 2 * x.toNat + 2) M (pm_up (pm_up M ((7 + 1 + 2 * x.toNat) + 1) (M (7 + 1 + 2 * x.toNat) 1).toNat y) (7 + 1 + 2 * x.toNat) 1 (M (7 + 1 + 2 * x.toNat) 1 + 1)) := (pm_fr.rf.up (by omega) (by omega)).up (by omega) (by omega)
      have := h _ (hL.si (ho.wd (by omega) (by omega)) (fun l hl => ?_)) (ho.wd (by omega) (by omega))
      · rw [pm_up_eq]
        rw [hs.1] at this ⊢
        exact this
      · by_cases e : l = x.toNat
        · rw [e, ud_eq]; exact hadd
        · rw [ud_ne e]; exact (hL.i l hl).fr ho (by omega)
    · rw [if_neg (by omega)] at h
      exact h M hL pm_fr.rf
  · rw [if_neg (by omega)] at h
    exact h M hL pm_fr.rf
  · rw [if_neg (by omega)] at h
    exact h M hL pm_fr.rf
theorem la_97 (hd : 2 ≤ d) (hL : Lab M s) (hW : wfs s) (h : LO [0] (o_clearImage s x) n kd M Qr Qx) : pm_run d 97 [.inr (.inl (8, 0)), .inl x] (pm_m n kd M) Qr Qx := by
  obtain ⟨d, rfl⟩ := pm_ex1 (show 1 ≤ d by omega)
  have hk := hL.k
  have hk4 : gK s ≤ 4 := hW.1.1.2
  unfold o_clearImage at h
  refine tr_97 (by omega) ⟨fun z => ⟨⟨by omega, by omega⟩, ?_⟩, fun z => ?_⟩
  · rw [if_pos (by omega)] at h
    have hr : pm_row M (7 + 1 + 2 * x.toNat) (gI s x.toNat) := hL.ii (by omega)
    have ho : pm_fr (7 + 1 + 2 * x.toNat) (7 + 1 + 2 * x.toNat + 2) M (pm_up M (7 + 1 + 2 * x.toNat) 1 0) := pm_fr.rf.up (by omega) (by omega)
    rw [hr.size.1]
    refine h _ (hL.si (ho.wd (by omega) (by omega)) (fun l hl => ?_)) (ho.wd (by omega) (by omega))
    by_cases e : l = x.toNat
    · rw [e, ud_eq]; exact pm_row.clear
    · rw [ud_ne e]; exact (hL.i l hl).fr ho (by omega)
  · rw [if_neg (by omega)] at h
    exact h M hL pm_fr.rf
theorem la_98 (hd : 4 ≤ d) (hL : Lab M s) (hW : wfs s) (h : LO [1] (o_applyMorphism s) n kd M Qr Qx) : pm_run d 98 [.inr (.inl (8, 0))] (pm_m n kd M) Qr Qx := by
  obtain ⟨d, rfl⟩ := pm_ex1 (show 1 ≤ d by omega)
  have hk4 : gK s ≤ 4 := hW.1.1.2
  unfold o_applyMorphism at h
  refine tr_98 (sp_20 (by omega) hL.i hL.w (fun v hv => Nat.lt_of_lt_of_le (hW.1.2.2.1.2 v hv) hk4) (by decide) (by decide) ?_ ?_)
  · intro M1 hle hr ho
    rw [if_pos hle] at h
    refine tr_98_21 ⟨fun _ => ?_, fun z => absurd (by decide) z⟩
    refine sq_42 (by omega) hr (by decide) (by decide) (fun M2 hr2 ho2 => tr_98_49 ?_)
    rw [hr2.size.1]
    exact h M2 ((hL.fr ho (by decide)).sw ho2 hr2) ((ho.wd (by decide) (by decide)).tr (ho2.wd (by decide) (by decide)))
  · intro M1 hgt ho
    rw [if_neg (by omega)] at h
    exact tr_98_21 ⟨fun z => absurd rfl z, fun _ => h M1 (hL.fr ho (by decide)) (ho.wd (by decide) (by decide))⟩
theorem ap_lt {K : Nat} {im : Nat → List Nat} {w : List Nat} (h : wfi K im) : ∀ v ∈ pm_ap im w, v < K := by
  intro v hv
  unfold pm_ap at hv
  obtain ⟨l, _, hl⟩ := List.mem_flatMap.mp hv
  exact h.2.1 l v hl
theorem la_99 (hd : 5 ≤ d) (hL : Lab M s) (hW : wfs s) (h : LO [0, 1] (o_iterate s x y) n kd M Qr Qx) : pm_run d 99 [.inr (.inl (8, 0)), .inl x, .inl y] (pm_m n kd M) Qr Qx := by
  obtain ⟨d, rfl⟩ := pm_ex1 (show 1 ≤ d by omega)
  have hk := hL.k
  have hk4 : gK s ≤ 4 := hW.1.1.2
  unfold o_iterate at h
  refine tr_99 (by omega) ⟨fun z => ⟨fun z2 => ?_, fun z2 => ⟨fun z3 => ?_, fun z3 => ?_⟩⟩, fun z => ?_⟩
  · rw [if_neg (by omega)] at h
    exact h M hL pm_fr.rf
  · rw [if_pos (by omega)] at h
    have hr0 := (pm_row.clear (M := M) (k := 93)).add x.toNat (show x = ((x.toNat : Nat) : Int) by omega) (by decide)
    refine ⟨⟨by rw [pm_up_eq]; decide, by rw [pm_up_eq]; decide⟩, ?_⟩
    have loop : ∀ (c i : Nat) (w : List Nat) (M1 : Nat → Nat → Int), (c : Int) + i = y → pm_row M1 93 w → (∀ v ∈ w, v < gK s) → itr (gI s) [x.toNat] y.toNat = itr (gI s) w c → pm_fr 93 97 M M1 → pm_wq d 99 Qr Qx (43, [some (.inr (.inl (8, 0))), none, some (.inl y), some (.inl (i : Int))], [], pm_m n kd M1, 1, 6) := by
      intro c
      induction c with
      | zero =>
        intro i w M1 hc hr hw hi ho
        rw [hi] at h
        refine tr_99_43 (by omega) ⟨fun _ => ?_, fun z => by omega⟩
        refine sq_42 (by omega) hr (by decide) (by decide) (fun M2 hr2 ho2 => tr_99_111 (by omega) ?_)
        rw [hr2.size.1]
        exact h M2 ((hL.fr ho (by decide)).sw ho2 hr2) ((ho.wd (by decide) (by decide)).tr (ho2.wd (by decide) (by decide)))
      | succ c ih =>
        intro i w M1 hc hr hw hi ho
        refine tr_99_43 (by omega) ⟨fun z => by omega, fun _ => ?_⟩
        refine sp_20 (by omega) (hL.i.fr ho (by decide)) hr (fun v hv => Nat.lt_of_lt_of_le (hw v hv) hk4) (by decide) (by decide) ?_ ?_
        · intro M2 hle hr2 ho2
          rw [itr, if_pos hle] at hi
          refine tr_99_66 (by omega) ⟨fun _ => ?_, fun z => absurd (by decide) z⟩
          refine sq_42 (by omega) hr2 (by decide) (by decide) (fun M3 hr3 ho3 => tr_99_91 (by omega) ⟨⟨by omega, by omega⟩, ?_⟩)
          exact ih (i + 1) _ M3 (by omega) hr3 (ap_lt hW.1.2.2.2) hi (ho.tr ((ho2.wd (by decide) (by decide)).tr (ho3.wd (by decide) (by decide))))
        · intro M2 hgt ho2
          rw [itr, if_neg (by omega)] at hi
          rw [hi] at h
          refine tr_99_66 (by omega) ⟨fun z => absurd rfl z, fun _ => h M2 ((hL.fr ho (by decide)).fr ho2 (by decide)) ((ho.wd (by decide) (by decide)).tr (ho2.wd (by decide) (by decide)))⟩
    exact loop y.toNat 0 [x.toNat] _ (by omega) hr0 (fun v hv => by rw [List.mem_singleton] at hv; rw [hv]; omega) rfl (((pm_fr.rf.up (by omega) (by omega)).up (by omega) (by omega)).up (by omega) (by omega))
  · rw [if_neg (by omega)] at h
    exact h M hL pm_fr.rf
  · rw [if_neg (by omega)] at h
    exact h M hL pm_fr.rf
theorem la_102 (hd : 4 ≤ d) (hL : Lab M s) (h : LO [] (o_save s) n kd M Qr Qx) : pm_run d 102 [.inr (.inl (8, 0))] (pm_m n kd M) Qr Qx := by
  obtain ⟨d, rfl⟩ := pm_ex1 (show 1 ≤ d by omega)
  refine tr_102 (sp_1 (by omega) hL.1 (by decide) (fun M1 hd1 ho => tr_102_11 ?_))
  have ho2 : pm_fr 16 31 M M1 := ho
  have hu : pm_fr 0 1 M1 (pm_up M1 0 2 1) := pm_fr.rf.up (by decide) (by decide)
  have hw : pm_row M1 4 (gW s) := hL.w.fr ho2 (by decide)
  rw [pm_up_ne (Or.inl (by decide)), hw.size.1]
  refine h _ ⟨(hL.1.fr ho2 (by decide)).fr hu (by decide), ⟨pm_up_eq, hd1.fr hu (by decide)⟩, fun i hi => ((hL.2.2.1 i hi).fr ho2 hi (by decide)).fr hu hi (by decide), (hL.2.2.2.fr ho2 (by decide)).fr hu (by decide)⟩ ((ho2.wd (by decide) (by decide)).tr (hu.wd (by decide) (by decide)))
theorem la_103 (hd : 4 ≤ d) (hL : Lab M s) (h : LO [1] (o_restore s) n kd M Qr Qx) : pm_run d 103 [.inr (.inl (8, 0))] (pm_m n kd M) Qr Qx := by
  obtain ⟨d, rfl⟩ := pm_ex1 (show 1 ≤ d by omega)
  unfold o_restore at h
  have hh : LabV M (gV s) := hL.2.1
  cases hc : gV s with
  | none =>
    rw [hc] at hh h
    have hh : M 0 2 = 0 := hh
    exact tr_103 ⟨fun z => absurd hh z, fun _ => h M hL pm_fr.rf⟩
  | some q =>
    rw [hc] at hh h
    refine tr_103 ⟨fun _ => ?_, fun z => absurd (by rw [hh.1]; decide) z⟩
    refine sp_1 (by omega) hh.2 (by decide) (fun M1 hd1 ho => tr_103_29 ?_)
    have hw : pm_row M1 4 q.2.2.1 := hd1.2.2.1
    rw [hw.size.1]
    exact h M1 (hL.dk ho (by decide) (by decide) hd1) (ho.wd (by decide) (by decide))
end LAB

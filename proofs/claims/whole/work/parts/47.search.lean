/-! SEARCHES: words that avoid, letter by letter, with counted trials -/
/-- the pattern stands at the end of the word -/
def suf (p w : List Nat) : Prop := ∃ (h : Nat → List Nat) (r : List Nat), (∀ v ∈ p, h v ≠ []) ∧ r ++ p.flatMap h = w
noncomputable def sfB (p w : List Nat) : Bool := @decide (¬ suf p w) (Classical.propDecidable _)
theorem sfB_iff {p w : List Nat} : sfB p w = true ↔ ¬ suf p w := by
  unfold sfB
  exact @decide_eq_true_iff _ (Classical.propDecidable _)
theorem fm_rev (f : Nat → List Nat) : ∀ l : List Nat, (l.flatMap f).reverse = l.reverse.flatMap (fun v => (f v).reverse)
  | [] => rfl
  | a :: l => by rw [List.flatMap_cons, List.reverse_append, fm_rev f l, List.reverse_cons, List.flatMap_append]; simp
theorem mt_some {q r : List Nat} (hr : r.length ≤ 24) : mtL l24 q e0 r ≠ [] ↔ ∃ (h : Nat → List Nat) (r' : List Nat), (∀ v ∈ q, h v ≠ []) ∧ q.flatMap h ++ r' = r := by
  constructor
  · intro hne
    obtain ⟨b, a, hm⟩ := ne_nil_pair hne
    obtain ⟨h, -, h2, h3⟩ := mt_in ⟨a, hm⟩
    exact ⟨h, b, h2, h3⟩
  · rintro ⟨h, r', h1, h2⟩
    obtain ⟨E', hm⟩ := mt_of (r' := r') (p := q) (E := e0) (r := r) h hr (fun v hv => absurd rfl hv) h1 h2
    exact List.ne_nil_of_mem hm
/-- in the mirror -/
theorem suf_mir {p w : List Nat} (hw : w.length ≤ 24) : mtL l24 p.reverse e0 w.reverse ≠ [] ↔ suf p w := by
  rw [mt_some (by rw [List.length_reverse]; exact hw)]
  constructor
  · rintro ⟨h, r', h1, h2⟩
    refine ⟨fun v => (h v).reverse, r'.reverse, fun v hv => ?_, ?_⟩
    · show (h v).reverse ≠ []
      rw [ne_eq, List.reverse_eq_nil_iff]
      exact h1 v (List.mem_reverse.mpr hv)
    · have := congrArg List.reverse h2
      rw [List.reverse_append, fm_rev, List.reverse_reverse, List.reverse_reverse] at this
      exact this
  · rintro ⟨h, r', h1, h2⟩
    refine ⟨fun v => (h v).reverse, r'.reverse, fun v hv => ?_, ?_⟩
    · show (h v).reverse ≠ []
      rw [ne_eq, List.reverse_eq_nil_iff]
      exact h1 v (List.mem_reverse.mp hv)
    · have := congrArg List.reverse h2
      rw [List.reverse_append, fm_rev] at this
      exact this
/-- by the ends -/
theorem suf_end {p w : List Nat} (hp : p ≠ []) (hw : w.length ≤ 24) : (∀ s, s < w.length → occF true p w s = []) ↔ ¬ suf p w := by
  constructor
  · rintro h ⟨f, r, h1, h2⟩
    have hne : p.flatMap f ≠ [] := by
      cases p with
      | nil => exact absurd rfl hp
      | cons v q =>
        rw [List.flatMap_cons]
        intro z
        exact h1 v List.mem_cons_self (List.append_eq_nil_iff.mp z).1
    have hl : 0 < (p.flatMap f).length := List.length_pos_iff.mpr hne
    have hlen := congrArg List.length h2
    rw [List.length_append] at hlen
    have hd : w.drop r.length = p.flatMap f := by rw [← h2, List.drop_left]
    obtain ⟨E', hm⟩ := mt_of (r' := []) (p := p) (E := e0) (r := w.drop r.length) f (by rw [List.length_drop]; omega) (fun v hv => absurd rfl hv) h1 (by rw [List.append_nil, hd])
    have hm2 : (E', ([] : List Nat)) ∈ occF true p w r.length := List.mem_filter.mpr ⟨hm, rfl⟩
    rw [h r.length (by omega)] at hm2
    cases hm2
  · intro h s hs
    apply Classical.byContradiction
    intro hne
    obtain ⟨b, a, hm⟩ := ne_nil_pair hne
    obtain ⟨hm1, hm2⟩ := List.mem_filter.mp hm
    have hb : b = [] := by
      cases b with
      | nil => rfl
      | cons x y => cases hm2
    obtain ⟨f, -, h2, h3⟩ := mt_in ⟨a, hm1⟩
    rw [hb, List.append_nil] at h3
    exact h ⟨f, w.take s, h2, by rw [h3, List.take_append_drop]⟩
/-- words that were found, each with the trials so far; all trials; whether it was given up -/
abbrev EV : Type := List (List Nat × Nat) × Nat × Bool
def evc (x : List Nat × Nat) (r : EV) : EV := (x :: r.1, r.2)
def evb (r : EV) (k : Nat → EV) : EV := if r.2.2 = true then r else (r.1 ++ (k r.2.1).1, (k r.2.1).2)
theorem evb_nil {t : Nat} {k : Nat → EV} : evb ([], t, false) k = k t := by
  rfl
theorem evb_c {x : List Nat × Nat} {r : EV} {k : Nat → EV} : evb (evc x r) k = evc x (evb r k) := by
  unfold evb evc
  by_cases h : r.2.2 = true
  · rw [if_pos h, if_pos h]
  · rw [if_neg h, if_neg h]; rfl
theorem evb_as {r : EV} {k k' : Nat → EV} : evb (evb r k) k' = evb r (fun t => evb (k t) k') := by
  obtain ⟨L, t, g⟩ := r
  cases g with
  | true => rfl
  | false =>
    show evb (L ++ (k t).1, (k t).2) k' = (L ++ (evb (k t) k').1, (evb (k t) k').2)
    unfold evb
    by_cases h : (k t).2.2 = true
    · rw [if_pos h, if_pos h]
    · rw [if_neg h, if_neg h, List.append_assoc]
/-- the letters from l on, behind a word -/
noncomputable def lpc (p : List Nat) (rec : List Nat → Nat → EV) : Nat → List Nat → Nat → Nat → EV
  | 0, _, _, tr => ([], tr, false)
  | c + 1, w, l, tr => if 1500 ≤ tr then ([], tr, true) else if sfB p (w ++ [l]) = true then evc (w ++ [l], tr + 1) (evb (rec (w ++ [l]) (tr + 1)) (fun t1 => lpc p rec c w (l + 1) t1)) else lpc p rec c w (l + 1) (tr + 1)
noncomputable def DF (p : List Nat) (K : Nat) : Nat → List Nat → Nat → EV
  | 0, _, tr => ([], tr, false)
  | D + 1, w, tr => lpc p (DF p K D) K w 0 tr
noncomputable def lpD (p : List Nat) (K D : Nat) (w : List Nat) (l tr : Nat) : EV := match D with
  | 0 => ([], tr, false)
  | D + 1 => lpc p (DF p K D) (K - l) w l tr
theorem lpD_zero {p : List Nat} {K D : Nat} {w : List Nat} {tr : Nat} : lpD p K D w 0 tr = DF p K D w tr := by
  cases D <;> rfl
theorem lpD_end {p : List Nat} {K D : Nat} {w : List Nat} {l tr : Nat} (h : K ≤ l) : lpD p K D w l tr = ([], tr, false) := by
  cases D with
  | zero => rfl
  | succ D =>
    show lpc p (DF p K D) (K - l) w l tr = _
    rw [show K - l = 0 by omega]
    rfl
theorem lpD_step {p : List Nat} {K D : Nat} {w : List Nat} {l tr : Nat} (h : l < K) : lpD p K (D + 1) w l tr = if 1500 ≤ tr then ([], tr, true) else if sfB p (w ++ [l]) = true then evc (w ++ [l], tr + 1) (evb (DF p K D (w ++ [l]) (tr + 1)) (fun t1 => lpD p K (D + 1) w (l + 1) t1)) else lpD p K (D + 1) w (l + 1) (tr + 1) := by
  show lpc p (DF p K D) (K - l) w l tr = _
  rw [show K - l = (K - (l + 1)) + 1 by omega]
  rfl
/-- .. and then back to the word with which it began -/
noncomputable def RS (p : List Nat) (K Lg : Nat) : Nat → List Nat → Nat → Nat → EV
  | 0, w, l, tr => lpD p K (Lg - w.length) w l tr
  | m + 1, w, l, tr => evb (lpD p K (Lg - w.length) w l tr) (fun t1 => RS p K Lg m w.dropLast (w.getD (w.length - 1) 0 + 1) t1)
theorem RS_pop {p : List Nat} {K Lg m : Nat} {w : List Nat} {l tr : Nat} (h : K ≤ l ∨ Lg ≤ w.length) : RS p K Lg (m + 1) w l tr = RS p K Lg m w.dropLast (w.getD (w.length - 1) 0 + 1) tr := by
  have e : lpD p K (Lg - w.length) w l tr = ([], tr, false) := by
    rcases h with h | h
    · exact lpD_end h
    · rw [show Lg - w.length = 0 by omega]; rfl
  rw [RS, e, evb_nil]
theorem RS_stop {p : List Nat} {K Lg : Nat} {w : List Nat} {l tr : Nat} (h : K ≤ l ∨ Lg ≤ w.length) : RS p K Lg 0 w l tr = ([], tr, false) := by
  rw [RS]
  rcases h with h | h
  · exact lpD_end h
  · rw [show Lg - w.length = 0 by omega]; rfl
theorem RS_up {p : List Nat} {K Lg m : Nat} {w : List Nat} {l tr : Nat} (hl : l < K) (hw : w.length < Lg) (ht : 1500 ≤ tr) : RS p K Lg m w l tr = ([], tr, true) := by
  have e : lpD p K (Lg - w.length) w l tr = ([], tr, true) := by
    rw [show Lg - w.length = (Lg - w.length - 1) + 1 by omega, lpD_step hl, if_pos ht]
  cases m with
  | zero => rw [RS, e]
  | succ m => rw [RS, e]; rfl
theorem RS_bad {p : List Nat} {K Lg m : Nat} {w : List Nat} {l tr : Nat} (hl : l < K) (hw : w.length < Lg) (ht : ¬ 1500 ≤ tr) (hs : ¬ sfB p (w ++ [l]) = true) : RS p K Lg m w l tr = RS p K Lg m w (l + 1) (tr + 1) := by
  have e : lpD p K (Lg - w.length) w l tr = lpD p K (Lg - w.length) w (l + 1) (tr + 1) := by
    rw [show Lg - w.length = (Lg - w.length - 1) + 1 by omega, lpD_step hl, if_neg ht, if_neg hs]
  cases m with
  | zero => rw [RS, RS, e]
  | succ m => rw [RS, RS, e]
theorem dl_app {w : List Nat} {l : Nat} : (w ++ [l]).dropLast = w := by simp
theorem gl_app {w : List Nat} {l : Nat} : (w ++ [l]).getD ((w ++ [l]).length - 1) 0 = l := by
  rw [List.length_append, List.length_singleton, Nat.add_sub_cancel, gd_last]
theorem RS_good {p : List Nat} {K Lg m : Nat} {w : List Nat} {l tr : Nat} (hl : l < K) (hw : w.length < Lg) (ht : ¬ 1500 ≤ tr) (hs : sfB p (w ++ [l]) = true) : RS p K Lg m w l tr = evc (w ++ [l], tr + 1) (RS p K Lg (m + 1) (w ++ [l]) 0 (tr + 1)) := by
  have e : lpD p K (Lg - w.length) w l tr = evc (w ++ [l], tr + 1) (evb (lpD p K (Lg - (w ++ [l]).length) (w ++ [l]) 0 (tr + 1)) (fun t1 => lpD p K (Lg - w.length) w (l + 1) t1)) := by
    rw [List.length_append, List.length_singleton, lpD_zero, show Lg - w.length = (Lg - (w.length + 1)) + 1 by omega, lpD_step hl, if_neg ht, if_pos hs]
  have r1 : RS p K Lg (m + 1) (w ++ [l]) 0 (tr + 1) = evb (lpD p K (Lg - (w ++ [l]).length) (w ++ [l]) 0 (tr + 1)) (fun t1 => RS p K Lg m w (l + 1) t1) := by
    rw [RS, dl_app, gl_app]
  rw [r1]
  cases m with
  | zero => rw [RS, e]; rfl
  | succ m =>
    rw [RS, e, evb_c, evb_as]
    rfl
/-- how many are found, how many tried -/
def evok (tr : Nat) (r : EV) : Prop := r.1.length + tr ≤ r.2.1 ∧ r.2.1 ≤ 1500
theorem evb_ok {r : EV} {k : Nat → EV} {tr : Nat} (h : evok tr r) (hk : ∀ t, t ≤ 1500 → evok t (k t)) : evok tr (evb r k) := by
  unfold evb
  split
  · exact h
  · obtain ⟨a, b⟩ := h
    obtain ⟨c, e⟩ := hk r.2.1 b
    refine ⟨?_, e⟩
    show (r.1 ++ (k r.2.1).1).length + tr ≤ (k r.2.1).2.1
    rw [List.length_append]
    omega
theorem lpc_ok {p : List Nat} {rec : List Nat → Nat → EV} (h : ∀ w t, t ≤ 1500 → evok t (rec w t)) : ∀ c w l tr, tr ≤ 1500 → evok tr (lpc p rec c w l tr)
  | 0, w, l, tr, ht => ⟨by show 0 + tr ≤ tr; omega, ht⟩
  | c + 1, w, l, tr, ht => by
    rw [lpc]
    split
    · exact ⟨by show 0 + tr ≤ tr; omega, ht⟩
    · split
      · obtain ⟨a, b⟩ := evb_ok (h (w ++ [l]) (tr + 1) (by omega)) (k := fun t1 => lpc p rec c w (l + 1) t1) (fun t ht2 => lpc_ok h c w (l + 1) t ht2)
        refine ⟨?_, b⟩
        show (_ :: (evb (rec (w ++ [l]) (tr + 1)) fun t1 => lpc p rec c w (l + 1) t1).1).length + tr ≤ (evb (rec (w ++ [l]) (tr + 1)) fun t1 => lpc p rec c w (l + 1) t1).2.1
        rw [List.length_cons]
        omega
      · obtain ⟨a, b⟩ := lpc_ok h c w (l + 1) (tr + 1) (by omega)
        exact ⟨by omega, b⟩
theorem DF_ok {p : List Nat} {K : Nat} : ∀ D w tr, tr ≤ 1500 → evok tr (DF p K D w tr)
  | 0, w, tr, ht => ⟨by show 0 + tr ≤ tr; omega, ht⟩
  | D + 1, w, tr, ht => lpc_ok (fun w t ht => DF_ok D w t ht) K w 0 tr ht
/-- the search of the class: what it holds -/
def SI (M : Nat → Nat → Int) (p w : List Nat) (b K tr : Nat) : Prop := pm_mp M 64 p.reverse ∧ (∃ tx, pm_row M 67 tx ∧ tx.length = 24 ∧ tx.drop (24 - w.length) = w.reverse) ∧ pm_row M 76 w ∧ M 63 3 = (b : Int) ∧ M 63 4 = (K : Int) ∧ M 63 5 = (tr : Int) ∧ M 63 6 = 0
theorem set_drop {tx : List Nat} {j x : Nat} (hj : j < tx.length) : (tx.set j x).drop j = x :: tx.drop (j + 1) := by
  rw [dr_cons (by rw [List.length_set]; exact hj), gd_set_eq hj]
  congr 1
  refine gd_ext (by rw [List.length_drop, List.length_drop, List.length_set]) (fun i hi => ?_)
  rw [gd_drop, gd_drop, gd_set_ne (by omega)]
section SRC
variable {d n : Nat} {kd : Nat → Nat} {M : Nat → Nat → Int} {Qr : Option pm_V → pm_Me → Prop} {Qx : Nat → pm_Me → Prop} {s : stt} {x y : Int}
theorem SI.fr {M' : Nat → Nat → Int} {p w : List Nat} {b K tr lo hi : Nat} (h : SI M p w b K tr) (ho : pm_fr lo hi M M') (h1 : (72 ≤ lo ∧ hi ≤ 74) ∨ hi ≤ 63 ∨ 78 ≤ lo) : SI M' p w b K tr := by
  obtain ⟨a1, ⟨tx, a2, a3, a4⟩, a5, a6, a7, a8, a9⟩ := h
  exact ⟨a1.fr ho (by omega), ⟨tx, a2.fr ho (by omega), a3, a4⟩, a5.fr ho (by omega), (ho.at (by omega)).trans a6, (ho.at (by omega)).trans a7, (ho.at (by omega)).trans a8, (ho.at (by omega)).trans a9⟩
/-- put -/
theorem sp_54 {p w : List Nat} {b K tr l : Nat} (hd : 3 ≤ d) (hS : SI M p w b K tr) (hw : w.length < 24) (h : ∀ M', SI M' p (w ++ [l]) b K tr → pm_fr 63 78 M M' → Qr none (pm_m n kd M')) : pm_run d 54 [.inr (.inl (7, 63)), .inl (l : Int)] (pm_m n kd M) Qr Qx := by
  obtain ⟨d, rfl⟩ := pm_ex1 (show 1 ≤ d by omega)
  obtain ⟨a1, ⟨tx, a2, a3, a4⟩, a5, a6, a7, a8, a9⟩ := hS
  have hs := a5.size
  have ht := a2.size
  have e1 : (pm_up (pm_up M 77 (M 76 1).toNat (l : Int)) 76 1 (M 76 1 + 1)) 76 1 = (w.length : Int) + 1 := by rw [pm_up_eq, hs.1]
  have e2 : (pm_up (pm_up M 77 (M 76 1).toNat (l : Int)) 76 1 (M 76 1 + 1)) 67 1 = 24 := by rw [pm_up_ne (by omega), pm_up_ne (by omega), ht.1, a3]; rfl
  have hr := a5.add l rfl hw
  have ho1 : pm_fr 76 78 M (pm_up (pm_up M 77 (M 76 1).toNat (l : Int)) 76 1 (M 76 1 + 1)) := (pm_fr.rf.up (by decide) (by decide)).up (by decide) (by decide)
  refine tr_54 (by omega) ?_
  rw [e1, e2]
  refine ⟨⟨by omega, by omega⟩, ⟨by omega, by omega⟩, ⟨by omega, by omega, by omega⟩, ?_⟩
  have e3 : (24 - ((w.length : Int) + 1)).toNat = 24 - (w.length + 1) := by omega
  rw [e3]
  generalize hM1 : pm_up (pm_up M 77 (M 76 1).toNat (l : Int)) 76 1 (M 76 1 + 1) = M1 at hr ho1
  have ho2 : pm_fr 68 69 M1 (pm_up M1 68 (24 - (w.length + 1)) (l : Int)) := pm_fr.rf.up (by decide) (by decide)
  have a2' := a2.fr ho1 (by decide)
  have ht2 := a2'.put (j := 24 - (w.length + 1)) (a := l) (x := (l : Int)) (by omega) rfl
  refine h _ ⟨?_, ⟨tx.set (24 - (w.length + 1)) l, ht2, by rw [List.length_set]; exact a3, ?_⟩, ?_, ?_, ?_, ?_, ?_⟩ ((ho1.wd (by decide) (by decide)).tr (ho2.wd (by decide) (by decide)))
  · exact (a1.fr ho1 (by decide)).fr ho2 (by decide)
  · rw [List.length_append, List.length_singleton, set_drop (by omega), show 24 - (w.length + 1) + 1 = 24 - w.length by omega, a4, List.reverse_append]
    rfl
  · exact hr.fr ho2 (by decide)
  · rw [ho2.at (by decide), ho1.at (by decide)]; exact a6
  · rw [ho2.at (by decide), ho1.at (by decide)]; exact a7
  · rw [ho2.at (by decide), ho1.at (by decide)]; exact a8
  · rw [ho2.at (by decide), ho1.at (by decide)]; exact a9
/-- begin -/
theorem sp_53 {p w : List Nat} {K q : Nat} (hd : 6 ≤ d) (hp : pm_row M 2 p) (h5 : ∀ v ∈ p, v < 5) (hq : pm_row M q w) (hq2 : q + 2 ≤ 63 ∨ 78 ≤ q) (h : ∀ M', SI M' p w w.length K 0 → pm_fr 63 78 M M' → Qr none (pm_m n kd M')) : pm_run d 53 [.inr (.inl (7, 63)), .inr (.inl (6, 2)), .inl (K : Int), .inr (.inl (6, q))] (pm_m n kd M) Qr Qx := by
  obtain ⟨d, rfl⟩ := pm_ex1 (show 1 ≤ d by omega)
  refine tr_53 (by omega) (sp_44 (by omega) hp (by decide) (fun M1 hr1 ho1 => tr_53_8 (by omega) ?_))
  refine sp_3 (by omega) hr1 (fun v hv => h5 v (List.mem_reverse.mp hv)) (by decide) (fun M2 hm2 ho2 => tr_53_19 (by omega) ?_)
  refine sp_43 (x := 24) (by omega) (by decide) (fun M3 hr3 ho3 => tr_53_31 (by omega) ?_)
  have ho : pm_fr 63 78 M M3 := ((ho1.wd (by decide) (by decide)).tr (ho2.wd (by decide) (by decide))).tr (ho3.wd (by decide) (by decide))
  have hm3 := hm2.fr ho3 (by decide)
  have ho4 : pm_fr 76 77 M3 (pm_up M3 76 1 0) := pm_fr.rf.up (by decide) (by decide)
  have h24 := hq.2.1
  refine pm_lp (N := w.length) (G := fun i M4 => pm_wq d 53 Qr Qx (41, [some (.inr (.inl (7, 63))), none, some (.inl (K : Int)), some (.inr (.inl (6, q))), some (.inl (i : Int))], [], pm_m n kd M4, 0, 0)) (I := fun i M4 => pm_mp M4 64 p.reverse ∧ (∃ tx, pm_row M4 67 tx ∧ tx.length = 24 ∧ tx.drop (24 - i) = (w.take i).reverse) ∧ pm_row M4 76 (w.take i) ∧ pm_fr 63 78 M M4) ?_ ?_ 0 _ (Nat.zero_le _) ⟨hm3.fr ho4 (by decide), ⟨List.replicate 24 0, hr3.fr ho4 (by decide), List.length_replicate, rfl⟩, pm_row.clear, ho.up (by decide) (by decide)⟩
  · intro M4 ⟨b1, ⟨tx, b2, b3, b4⟩, b5, ho5⟩
    have hs := (hq.fr ho5 (by omega)).size
    rw [List.take_length] at b4 b5
    refine tr_53_41 (by omega) ⟨fun _ => ?_, fun z => by omega⟩
    have ho6 : pm_fr 63 64 M4 (pm_up (pm_up (pm_up (pm_up M4 63 3 (M4 q 1)) 63 4 (K : Int)) 63 5 0) 63 6 0) := (((pm_fr.rf.up (by decide) (by decide)).up (by decide) (by decide)).up (by decide) (by decide)).up (by decide) (by decide)
    refine h _ ⟨b1.fr ho6 (by decide), ⟨tx, b2.fr ho6 (by decide), b3, b4⟩, b5.fr ho6 (by decide), ?_, ?_, ?_, pm_up_eq⟩ (ho5.tr (ho6.wd (by decide) (by decide)))
    · rw [pm_up_ne (Or.inr (by decide)), pm_up_ne (Or.inr (by decide)), pm_up_ne (Or.inr (by decide)), pm_up_eq]; exact hs.1
    · rw [pm_up_ne (Or.inr (by decide)), pm_up_ne (Or.inr (by decide)), pm_up_eq]
    · rw [pm_up_ne (Or.inr (by decide)), pm_up_eq]; rfl
  · intro i M4 hi ⟨b1, ⟨tx, b2, b3, b4⟩, b5, ho5⟩ ih
    have hq4 := hq.fr ho5 (by omega)
    have hs := hq4.size
    have hl := tk_len (xs := w) (i := i) (by omega)
    refine tr_53_41 (by omega) ⟨fun z => by omega, fun _ => ⟨⟨by omega, by omega, by omega⟩, ?_⟩⟩
    rw [Int.toNat_natCast, hq4.at hi]
    -- any numbers for the fields
    have hS : SI (pm_up (pm_up (pm_up (pm_up M4 63 3 0) 63 4 0) 63 5 0) 63 6 0) p (w.take i) 0 0 0 → True := fun _ => trivial
    obtain ⟨d, rfl⟩ := pm_ex1 (show 1 ≤ d by omega)
    have hs5 := b5.size
    have ht := b2.size
    rw [hl] at hs5
    have e1 : (pm_up (pm_up M4 77 (M4 76 1).toNat ((w.getD i 0 : Nat) : Int)) 76 1 (M4 76 1 + 1)) 76 1 = (i : Int) + 1 := by rw [pm_up_eq, hs5.1]
    have e2 : (pm_up (pm_up M4 77 (M4 76 1).toNat ((w.getD i 0 : Nat) : Int)) 76 1 (M4 76 1 + 1)) 67 1 = 24 := by rw [pm_up_ne (by omega), pm_up_ne (by omega), ht.1, b3]; rfl
    have hr := b5.add (w.getD i 0) rfl (by omega)
    rw [← tk_succ hi] at hr
    have ho6 : pm_fr 76 78 M4 (pm_up (pm_up M4 77 (M4 76 1).toNat ((w.getD i 0 : Nat) : Int)) 76 1 (M4 76 1 + 1)) := (pm_fr.rf.up (by decide) (by decide)).up (by decide) (by decide)
    refine tr_54 (by omega) ?_
    rw [e1, e2]
    refine ⟨⟨by omega, by omega⟩, ⟨by omega, by omega⟩, ⟨by omega, by omega, by omega⟩, tr_53_60 (by omega) ⟨⟨by omega, by omega⟩, ?_⟩⟩
    have e3 : (24 - ((i : Int) + 1)).toNat = 24 - (i + 1) := by omega
    rw [e3]
    generalize hM1 : pm_up (pm_up M4 77 (M4 76 1).toNat ((w.getD i 0 : Nat) : Int)) 76 1 (M4 76 1 + 1) = M5 at hr ho6
    have ho7 : pm_fr 68 69 M5 (pm_up M5 68 (24 - (i + 1)) ((w.getD i 0 : Nat) : Int)) := pm_fr.rf.up (by decide) (by decide)
    have ht2 := (b2.fr ho6 (by decide)).put (j := 24 - (i + 1)) (a := w.getD i 0) (x := ((w.getD i 0 : Nat) : Int)) (by omega) rfl
    refine ih _ ⟨(b1.fr ho6 (by decide)).fr ho7 (by decide), ⟨tx.set (24 - (i + 1)) (w.getD i 0), ht2, by rw [List.length_set]; exact b3, ?_⟩, hr.fr ho7 (by decide), ho5.tr ((ho6.wd (by decide) (by decide)).tr (ho7.wd (by decide) (by decide)))⟩
    rw [set_drop (by omega), show 24 - (i + 1) + 1 = 24 - i by omega, b4, tk_succ hi, List.reverse_append]
    rfl
/-- next -/
theorem sp_55 {p w : List Nat} {b K tr Lg m : Nat} (hd : 22 ≤ d) (hp : p ≠ []) (h15 : p.length ≤ 15) (hS : SI M p w b K tr) (hm : w.length = b + m) (hLg : Lg ≤ 24) (hwl : w.length ≤ Lg) (hK : K ≤ 4) (hwK : ∀ v ∈ w, v < K) (htr : tr ≤ 1500)
    (hy : ∀ M' v t L' r, RS p K Lg m w 0 tr = ((v, t) :: L', r) → SI M' p v b K t → b ≤ v.length → v.length ≤ Lg → (∀ u ∈ v, u < K) → t ≤ 1500 → RS p K Lg (v.length - b) v 0 t = (L', r) → pm_fr 63 78 M M' → Qr (some (.inl 1)) (pm_m n kd M'))
    (hn : ∀ M' t g, RS p K Lg m w 0 tr = ([], t, g) → M' 63 6 = bI g → M' 63 5 = (t : Int) → (∃ v, pm_row M' 76 v ∧ v.length ≤ w.length) → pm_fr 63 78 M M' → Qr (some (.inl 0)) (pm_m n kd M')) : pm_run d 55 [.inr (.inl (7, 63)), .inl (Lg : Int)] (pm_m n kd M) Qr Qx := by
  obtain ⟨d, rfl⟩ := pm_ex1 (show 1 ≤ d by omega)
  have hs := hS.2.2.1.size
  have hk4 := hS.2.2.2.2.1
  generalize hR : RS p K Lg m w 0 tr = R at hy hn
  have key : ∀ (f turn m : Nat) (v : List Nat) (l t : Nat) (M1 : Nat → Nat → Int), SI M1 p v b K t → v.length = b + m → v.length ≤ w.length → v.length ≤ Lg → (∀ u ∈ v, u < K) → t ≤ 1500 → l ≤ 4 → (1500 - t) + v.length = f → turn + f ≤ 1524 → R = RS p K Lg m v l t → (Lg ≤ v.length → K ≤ l) → pm_fr 63 78 M M1 → pm_wq d 55 Qr Qx (22, [some (.inr (.inl (7, 63))), none, some (.inl (l : Int)), some (.inl (turn : Int))], [], pm_m n kd M1, 0, 0) := by
    intro f
    induction f with
    | zero =>
      intro turn m v l t M1 hS1 hvm hvw hvl hvK ht hl hf htu hRe hlg ho
      obtain ⟨a1, ⟨tx, a2, a3, a4⟩, a5, a6, a7, a8, a9⟩ := hS1
      have hs1 := a5.size
      have hm0 : m = 0 := by omega
      subst hm0
      refine tr_55_22 (by omega) ⟨fun z => by omega, fun _ => ⟨fun z => ⟨fun z2 => by omega, fun z2 => ?_⟩, fun z => ⟨fun z2 => by omega, fun z2 => ?_⟩⟩⟩
      · have hRe2 := hRe.trans (RS_up (by omega) (by omega) (by omega))
        have ho2 : pm_fr 63 64 M1 (pm_up M1 63 6 1) := pm_fr.rf.up (by decide) (by decide)
        exact hn _ t true hRe2 pm_up_eq (by rw [pm_up_ne (Or.inr (by decide))]; exact a8) ⟨v, a5.fr ho2 (by decide), hvw⟩ (ho.tr (ho2.wd (by decide) (by decide)))
      · exact hn M1 t false (hRe.trans (RS_stop (by omega))) a9 a8 ⟨v, a5, hvw⟩ ho
    | succ f ih =>
      intro turn m v l t M1 hS1 hvm hvw hvl hvK ht hl hf htu hRe hlg ho
      have hS0 := hS1
      obtain ⟨a1, ⟨tx, a2, a3, a4⟩, a5, a6, a7, a8, a9⟩ := hS1
      have hs1 := a5.size
      have ht1 := a2.size
      have et : ((turn : Int) + 1) = ((turn + 1 : Nat) : Int) := by omega
      refine tr_55_22 (by omega) ⟨fun z => by omega, fun _ => ⟨fun z => ⟨fun z2 => ⟨⟨by omega, by omega⟩, ?_⟩, fun z2 => ?_⟩, fun z => ⟨fun z2 => ⟨⟨by omega, by omega⟩, ⟨by omega, by omega, by omega⟩, ?_⟩, fun z2 => ?_⟩⟩⟩
      · -- a trial
        have hlK : l < K := by omega
        have hvL : v.length < Lg := by
          apply Classical.byContradiction
          intro hh
          have := hlg (by omega)
          omega
        have ho2 : pm_fr 63 64 M1 (pm_up M1 63 5 (M1 63 5 + 1)) := pm_fr.rf.up (by decide) (by decide)
        have hS2 : SI (pm_up M1 63 5 (M1 63 5 + 1)) p v b K (t + 1) := ⟨a1.fr ho2 (by decide), ⟨tx, a2.fr ho2 (by decide), a3, a4⟩, a5.fr ho2 (by decide), (pm_up_ne (Or.inr (by decide))).trans a6, (pm_up_ne (Or.inr (by decide))).trans a7, by rw [pm_up_eq, a8]; rfl, (pm_up_ne (Or.inr (by decide))).trans a9⟩
        refine sp_54 (by omega) hS2 (by omega) (fun M2 hS3 ho3 => tr_55_114 (by omega) ?_)
        have hS30 := hS3
        obtain ⟨c1, ⟨ty, c2, c3, c4⟩, c5, c6, c7, c8, c9⟩ := hS3
        have hs3 := c5.size
        rw [List.length_append, List.length_singleton] at hs3 c4
        rw [hs3.1]
        refine ⟨⟨by omega, by omega⟩, ?_⟩
        have e24 : (24 : Int) - ((v.length + 1 : Nat) : Int) = ((24 - (v.length + 1) : Nat) : Int) := by omega
        rw [e24]
        have hmir : occ p.reverse ty (24 - (v.length + 1)) = mtL l24 p.reverse e0 (v ++ [l]).reverse := by unfold occ; rw [c4]
        have hsm := suf_mir (p := p) (w := v ++ [l]) (by rw [List.length_append, List.length_singleton]; omega)
        have hofr : pm_fr 63 78 M M2 := ho.tr ((ho2.wd (by decide) (by decide)).tr ho3)
        refine sp_7 (by rw [List.length_reverse]; omega) c1 c2 (fun z => hp (List.reverse_eq_nil_iff.mp z)) (by omega) ?_ ?_
        · intro M3 E' r' hh he ho4
          have hbad : ¬ sfB p (v ++ [l]) = true := by
            rw [sfB_iff, Classical.not_not, ← hsm, ← hmir]
            exact head_ne hh
          have c5' := c5.fr ho4 (by decide)
          have hsz := c5'.size
          rw [List.length_append, List.length_singleton] at hsz
          refine tr_55_131 (by omega) ⟨fun _ => ⟨⟨by omega, by omega⟩, ⟨by omega, by omega⟩, ⟨by omega, by omega⟩, ?_⟩, fun z => absurd (by decide) z⟩
          have ho5 : pm_fr 76 77 M3 (pm_up M3 76 1 (M3 76 1 - 1)) := pm_fr.rf.up (by decide) (by decide)
          have hdl := c5'.drop (by rw [List.length_append, List.length_singleton]; omega)
          rw [dl_app] at hdl
          have el : ((l : Int) + 1) = ((l + 1 : Nat) : Int) := by omega
          rw [et, el]
          refine ih (turn + 1) m v (l + 1) (t + 1) _ ⟨(c1.fr ho4 (by decide)).fr ho5 (by decide), ⟨ty, (c2.fr ho4 (by decide)).fr ho5 (by decide), c3, ?_⟩, hdl, ?_, ?_, ?_, ?_⟩ hvm hvw hvl hvK (by omega) (by omega) (by omega) (by omega) (hRe.trans (RS_bad hlK hvL (by omega) hbad)) (fun hh => by omega) (hofr.tr ((ho4.wd (by decide) (by decide)).tr (ho5.wd (by decide) (by decide))))
          · rw [show 24 - v.length = 24 - (v.length + 1) + 1 by omega, ← List.drop_drop, c4, List.reverse_append]
            rfl
          · rw [ho5.at (by decide), ho4.at (by decide)]; exact c6
          · rw [ho5.at (by decide), ho4.at (by decide)]; exact c7
          · rw [ho5.at (by decide), ho4.at (by decide)]; exact c8
          · rw [ho5.at (by decide), ho4.at (by decide)]; exact c9
        · intro M3 hnil ho4
          have hgood : sfB p (v ++ [l]) = true := by
            rw [sfB_iff, ← hsm, ← hmir]
            exact fun z => z hnil
          refine tr_55_131 (by omega) ⟨fun z => absurd rfl z, fun _ => ?_⟩
          have hRe2 := hRe.trans (RS_good hlK hvL (by omega) hgood)
          have hlen : (v ++ [l]).length = v.length + 1 := by rw [List.length_append, List.length_singleton]
          refine hy M3 (v ++ [l]) (t + 1) (RS p K Lg (m + 1) (v ++ [l]) 0 (t + 1)).1 (RS p K Lg (m + 1) (v ++ [l]) 0 (t + 1)).2 hRe2 (hS30.fr ho4 (by decide)) (by omega) (by omega) (fun u hu => ?_) (by omega) ?_ (hofr.tr (ho4.wd (by decide) (by decide)))
          · rcases List.mem_append.mp hu with hu | hu
            · exact hvK u hu
            · rw [List.mem_singleton] at hu; omega
          · rw [hlen, show v.length + 1 - b = m + 1 by omega]
      · -- given up
        have hvL : v.length < Lg := by
          apply Classical.byContradiction
          intro hh
          have := hlg (by omega)
          omega
        have hRe2 := hRe.trans (RS_up (by omega) hvL (by omega))
        have ho2 : pm_fr 63 64 M1 (pm_up M1 63 6 1) := pm_fr.rf.up (by decide) (by decide)
        exact hn _ t true hRe2 pm_up_eq (by rw [pm_up_ne (Or.inr (by decide))]; exact a8) ⟨v, a5.fr ho2 (by decide), hvw⟩ (ho.tr (ho2.wd (by decide) (by decide)))
      · -- back by a letter
        obtain ⟨m, rfl⟩ : ∃ m', m = m' + 1 := ⟨m - 1, by omega⟩
        have e1 : ((M1 76 1) - 1).toNat = v.length - 1 := by omega
        have hvl1 := hvK _ (gd_mem (show v.length - 1 < v.length by omega))
        rw [e1, a5.at (by omega)]
        refine ⟨⟨by omega, by omega⟩, ⟨by omega, by omega⟩, ⟨by omega, by omega⟩, ?_⟩
        have ho5 : pm_fr 76 77 M1 (pm_up M1 76 1 (M1 76 1 - 1)) := pm_fr.rf.up (by decide) (by decide)
        have hdl := a5.drop (by omega)
        have el : (((v.getD (v.length - 1) 0 : Nat) : Int) + 1) = ((v.getD (v.length - 1) 0 + 1 : Nat) : Int) := by omega
        have hdlen : v.dropLast.length = v.length - 1 := List.length_dropLast
        rw [et, el]
        refine ih (turn + 1) m v.dropLast (v.getD (v.length - 1) 0 + 1) t _ ⟨a1.fr ho5 (by decide), ⟨tx, a2.fr ho5 (by decide), a3, ?_⟩, hdl, ?_, ?_, ?_, ?_⟩ (by omega) (by omega) (by omega) (fun u hu => hvK u ((List.dropLast_sublist v).subset hu)) ht (by omega) (by omega) (by omega) (hRe.trans (RS_pop (by omega))) (fun hh => by omega) (ho.tr (ho5.wd (by decide) (by decide)))
        · rw [hdlen, show 24 - (v.length - 1) = 24 - v.length + 1 by omega, ← List.drop_drop, a4, List.dropLast_eq_take, List.reverse_take]
          congr 1
          omega
        · rw [ho5.at (by decide)]; exact a6
        · rw [ho5.at (by decide)]; exact a7
        · rw [ho5.at (by decide)]; exact a8
        · rw [ho5.at (by decide)]; exact a9
      · have hm0 : m = 0 := by omega
        subst hm0
        exact hn M1 t false (hRe.trans (RS_stop (by omega))) a9 a8 ⟨v, a5, hvw⟩ ho
  refine tr_55 (by omega) ⟨fun z => ?_, fun z => ?_⟩
  · rw [hk4]
    refine key ((1500 - tr) + w.length) 0 m w K tr M hS hm (Nat.le_refl _) hwl hwK htr hK rfl (by omega) ?_ (fun _ => Nat.le_refl _) pm_fr.rf
    rw [← hR]
    cases m with
    | zero => rw [RS_stop (by omega), RS_stop (by omega)]
    | succ m => rw [RS_pop (by omega), RS_pop (by omega)]
  · exact key ((1500 - tr) + w.length) 0 m w 0 tr M hS hm (Nat.le_refl _) hwl hwK htr (by omega) rfl (by omega) hR.symm (fun hh => by omega) pm_fr.rf
end SRC

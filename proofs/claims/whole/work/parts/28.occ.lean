/-! OCCURRENCES BY THEIR IMAGES; the limits of the lengths and the start at 0 -/
def l24 : Nat → Nat := fun _ => 24
theorem mt_in {r' : List Nat} : ∀ {p : List Nat} {E : Nat → List Nat} {r : List Nat}, (∃ E', (E', r') ∈ mtL l24 p E r) → ∃ h : Nat → List Nat, (∀ v, E v ≠ [] → h v = E v) ∧ (∀ v ∈ p, h v ≠ []) ∧ p.flatMap h ++ r' = r
  | [], E, r, ⟨E', h⟩ => by
    rw [mtL, List.mem_singleton] at h
    cases h
    exact ⟨E, fun _ _ => rfl, fun v hv => (by cases hv), rfl⟩
  | v :: p, E, r, ⟨E', h⟩ => by
    rw [mtL] at h
    split at h
    · next he =>
      obtain ⟨m, h1, h2, h3⟩ := fm_mem h
      have hm : min (l24 v) r.length ≤ r.length := Nat.min_le_right _ _
      have hlt : (r.take m).length = m := by rw [List.length_take]; omega
      obtain ⟨f, a, b, c⟩ := mt_in ⟨E', h3⟩
      have hne : r.take m ≠ [] := fun z => by rw [z, List.length_nil] at hlt; omega
      have hfv : f v = r.take m := by rw [a v (by rw [ud_eq]; exact hne), ud_eq]
      refine ⟨f, fun u hu => ?_, fun u hu => ?_, ?_⟩
      · by_cases e : u = v
        · subst e; exact absurd he hu
        · rw [a u (by rw [ud_ne e]; exact hu), ud_ne e]
      · rcases List.mem_cons.mp hu with e | e
        · rw [e, hfv]; exact hne
        · exact b u e
      · rw [List.flatMap_cons, List.append_assoc, c, hfv, List.take_append_drop]
    · next he =>
      split at h
      · next hp =>
        obtain ⟨f, a, b, c⟩ := mt_in ⟨E', h⟩
        refine ⟨f, a, fun u hu => ?_, ?_⟩
        · rcases List.mem_cons.mp hu with e | e
          · rw [e, a v he]; exact he
          · exact b u e
        · rw [List.flatMap_cons, List.append_assoc, c, a v he]
          have := List.prefix_iff_eq_take.mp (List.isPrefixOf_iff_prefix.mp hp)
          conv => lhs; lhs; rw [this]
          rw [List.take_append_drop]
      · cases h
theorem mt_of {r' : List Nat} : ∀ {p : List Nat} {E : Nat → List Nat} {r : List Nat} (h : Nat → List Nat), r.length ≤ 24 → (∀ v, E v ≠ [] → h v = E v) → (∀ v ∈ p, h v ≠ []) → p.flatMap h ++ r' = r → ∃ E', (E', r') ∈ mtL l24 p E r
  | [], E, r, h, _, a, b, c => ⟨E, by rw [mtL, List.mem_singleton, ← c]; rfl⟩
  | v :: p, E, r, h, hr, a, b, c => by
    rw [List.flatMap_cons, List.append_assoc] at c
    have hv := b v List.mem_cons_self
    have hlv : 0 < (h v).length := List.length_pos_iff.mpr hv
    have hlr : (h v).length ≤ r.length := by rw [← c, List.length_append]; omega
    have ht : r.take (h v).length = h v := by rw [← c, List.take_left]
    have hdr : r.drop (h v).length = p.flatMap h ++ r' := by rw [← c, List.drop_left]
    rw [mtL]
    split
    · next he =>
      obtain ⟨E', hE⟩ := mt_of (r' := r') (p := p) (E := ud E v (r.take (h v).length)) (r := r.drop (h v).length) h (by rw [List.length_drop]; omega) (fun u hu => by
        by_cases e : u = v
        · subst e; rw [ud_eq, ht]
        · rw [ud_ne e] at hu ⊢; exact a u hu) (fun u hu => b u (List.mem_cons_of_mem _ hu)) hdr.symm
      exact ⟨E', fm_in (j := (h v).length) (by omega) (by unfold l24; omega) hE⟩
    · next he =>
      have hh := a v he
      rw [if_pos (by rw [List.isPrefixOf_iff_prefix, ← hh, ← c]; exact List.prefix_append _ _)]
      rw [← hh]
      exact mt_of (r' := r') (p := p) (E := E) (r := r.drop (h v).length) h (by rw [List.length_drop]; omega) a (fun u hu => b u (List.mem_cons_of_mem _ hu)) hdr.symm
theorem ne_nil_pair {α β : Type} {L : List (α × β)} (h : L ≠ []) : ∃ b, ∃ a, (a, b) ∈ L := by
  obtain ⟨q, hq⟩ := List.exists_mem_of_ne_nil _ h
  exact ⟨q.2, q.1, hq⟩
/-- the variables that stand right behind v -/
def fol (v : Nat) : List Nat → List Nat
  | a :: b :: q => (if a = v then [b] else []) ++ fol v (b :: q)
  | _ => []
def lm (p : List Nat) (v : Nat) : Nat := if (fol v p).all (fun x => p.count x == 1) = true then 1 else 24
theorem fol_mem {v x : Nat} : ∀ {p : List Nat}, x ∈ fol v p ↔ ∃ p1 p2, p = p1 ++ v :: x :: p2
  | [] => by simp [fol]
  | [a] => by
    simp only [fol, List.not_mem_nil, false_iff]
    rintro ⟨p1, p2, h⟩
    have := congrArg List.length h
    simp at this
    omega
  | a :: b :: q => by
    rw [fol, List.mem_append, fol_mem (p := b :: q)]
    constructor
    · rintro (h | ⟨p1, p2, h⟩)
      · split at h
        · next e => rw [List.mem_singleton] at h; exact ⟨[], q, by rw [h, e]; rfl⟩
        · cases h
      · exact ⟨a :: p1, p2, by rw [h]; rfl⟩
    · rintro ⟨p1, p2, h⟩
      cases p1 with
      | nil =>
        have h1 := List.cons.inj h
        have h2 := List.cons.inj h1.2
        left
        rw [if_pos h1.1, h2.1]
        exact List.mem_cons_self
      | cons c p1 =>
        right
        exact ⟨p1, p2, (List.cons.inj h).2⟩
theorem ix_split : ∀ {l : List Nat} {y : Nat} {r : List Nat}, y ∉ l → pm_ix (l ++ y :: r) y = l.length
  | [], y, r, _ => by rw [List.nil_append, pm_ix, if_pos rfl]; rfl
  | a :: l, y, r, h => by
    rw [List.cons_append, pm_ix, if_neg (fun z => h (by rw [z]; exact List.mem_cons_self)), ix_split (fun z => h (List.mem_cons_of_mem _ z))]
    rfl
theorem uniq_split {l1 l2 : List Nat} {y : Nat} {r1 r2 : List Nat} (h : l1 ++ y :: r1 = l2 ++ y :: r2) (h1 : y ∉ l1) (h2 : y ∉ l2) : l1 = l2 := by
  have a := ix_split (r := r1) h1
  rw [h, ix_split h2] at a
  have := congrArg (List.take l1.length) h
  rw [List.take_left, ← a, List.take_left] at this
  exact this
theorem cnt_split {l : List Nat} {y : Nat} {r : List Nat} (h : (l ++ y :: r).count y = 1) : y ∉ l := by
  rw [List.count_append, List.count_cons_self] at h
  exact fun z => by
    have := List.count_pos_iff.mpr z
    omega
theorem lm_single {p : List Nat} {v x : Nat} (h : lm p v = 1) (hx : x ∈ fol v p) : p.count x = 1 := by
  unfold lm at h
  split at h
  · next hh => exact beq_iff_eq.mp (List.all_eq_true.mp hh x hx)
  · cases h
/-- what comes over from an image that is cut to its first letter -/
theorem shrink {p : List Nat} {v a : Nat} {tl : List Nat} {h : Nat → List Nat} (hl : lm p v = 1) (hv : h v = a :: tl) : ∀ (q pre : List Nat) (u : Nat), p = pre ++ u :: q →
    ∃ x, (if u = v then tl else []) ++ q.flatMap h = q.flatMap (fun y => if y = v then [a] else if y ∈ fol v p then tl ++ h y else h y) ++ x
  | [], pre, u, _ => ⟨_, rfl⟩
  | y :: q, pre, u, hp => by
    obtain ⟨x, hx⟩ := shrink hl hv q (pre ++ [u]) y (by rw [hp]; simp)
    have hpy : p = (pre ++ [u]) ++ y :: q := by rw [hp]; simp
    rw [List.flatMap_cons, List.flatMap_cons]
    by_cases hu : u = v
    · rw [if_pos hu]
      have hf : y ∈ fol v p := fol_mem.mpr ⟨pre, q, by rw [hp, hu]⟩
      have hc := lm_single hl hf
      rw [hpy] at hc
      have hny := cnt_split hc
      have hyv : y ≠ v := fun z => hny (by rw [z, hu]; simp)
      rw [if_neg hyv] at hx
      rw [List.nil_append] at hx
      refine ⟨x, ?_⟩
      rw [if_neg hyv, if_pos hf, hx, List.append_assoc, List.append_assoc]
    · rw [if_neg hu, List.nil_append]
      by_cases hyv : y = v
      · rw [if_pos hyv] at hx
        refine ⟨x, ?_⟩
        rw [if_pos hyv, hyv, hv]
        rw [List.cons_append, List.cons_append, List.cons_append, hx]
        rfl
      · rw [if_neg hyv, List.nil_append] at hx
        have hnf : y ∉ fol v p := by
          intro hf
          have hc := lm_single hl hf
          obtain ⟨p1, p2, h2⟩ := fol_mem.mp hf
          have h3 : p = (p1 ++ [v]) ++ y :: p2 := by rw [h2]; simp
          have e := uniq_split (hpy.symm.trans h3) (cnt_split (by rw [← hpy]; exact hc)) (cnt_split (by rw [← h3]; exact hc))
          have := congrArg List.getLast? e
          simp at this
          exact hu this
        refine ⟨x, ?_⟩
        rw [if_neg hyv, if_neg hnf, hx, List.append_assoc]
theorem mt_shrink {p pre q : List Nat} {v m : Nat} {E : Nat → List Nat} {r : List Nat} (hp : p = pre ++ v :: q) (hl : lm p v = 1) (hE : ∀ u, E u = [] ↔ u ∉ pre) (hvp : E v = []) (hr : r.length ≤ 24) (hm : 1 ≤ m) (hmr : m ≤ r.length) (h : mtL l24 q (ud E v (r.take m)) (r.drop m) ≠ []) : mtL l24 q (ud E v (r.take 1)) (r.drop 1) ≠ [] := by
  obtain ⟨r', hr'⟩ := ne_nil_pair h
  obtain ⟨f, a1, a2, a3⟩ := mt_in hr'
  have hlt : (r.take m).length = m := by rw [List.length_take]; omega
  have hne : r.take m ≠ [] := fun z => by rw [z, List.length_nil] at hlt; omega
  have hfv : f v = r.take m := by rw [a1 v (by rw [ud_eq]; exact hne), ud_eq]
  cases hr0 : r with
  | nil => rw [hr0] at hmr; simp at hmr; omega
  | cons a r0 =>
    have hfv2 : f v = a :: r0.take (m - 1) := by
      rw [hfv, hr0]
      cases m with
      | zero => omega
      | succ m => rfl
    obtain ⟨x, hx⟩ := shrink hl hfv2 q pre v hp
    rw [if_pos rfl] at hx
    have hd : r0 = r0.take (m - 1) ++ r.drop m := by
      rw [hr0]
      cases m with
      | zero => omega
      | succ m => rw [List.drop_succ_cons, Nat.add_sub_cancel, List.take_append_drop]
    rw [← a3] at hd
    have key : ∃ E', (E', x ++ r') ∈ mtL l24 q (ud E v ((a :: r0).take 1)) ((a :: r0).drop 1) := by
      refine mt_of (r' := x ++ r') (p := q) (E := ud E v ((a :: r0).take 1)) (r := (a :: r0).drop 1) (fun y => if y = v then [a] else if y ∈ fol v p then r0.take (m - 1) ++ f y else f y) (by rw [hr0] at hr; simp at hr ⊢; omega) ?_ ?_ ?_
      · intro u hu
        by_cases e : u = v
        · subst e; rw [ud_eq]; simp
        · rw [ud_ne e] at hu ⊢
          have hup : u ∈ pre := Classical.byContradiction (fun z => hu ((hE u).mpr z))
          have hnf : u ∉ fol v p := by
            intro hf
            have hc := lm_single hl hf
            obtain ⟨p1, p2, h2⟩ := fol_mem.mp hf
            have h3 : p = (p1 ++ [v]) ++ u :: p2 := by rw [h2]; simp
            have hn := cnt_split (by rw [← h3]; exact hc)
            have e1 : pm_ix p u = p1.length + 1 := by rw [h3, ix_split hn]; simp
            have e2 : pm_ix p u = pm_ix pre u := by rw [hp]; exact pm_ix_app hup
            have e3 := (pm_ix_mem hup).1
            have hvpre : v ∈ pre := by
              have e4 : pre.getD p1.length 0 = v := by
                have : p.getD p1.length 0 = v := by
                  rw [h2, List.getD_eq_getElem?_getD, List.getElem?_append_right (Nat.le_refl _)]
                  simp
                rw [← this, hp, gd_app (by omega)]
              rw [← e4]
              exact gd_mem (by omega)
            exact ((hE v).mp hvp) hvpre
          show (if u = v then [a] else if u ∈ fol v p then r0.take (m - 1) ++ f u else f u) = E u
          rw [if_neg e, if_neg hnf, a1 u (by rw [ud_ne e]; exact hu), ud_ne e]
      · intro u hu
        show (if u = v then [a] else if u ∈ fol v p then r0.take (m - 1) ++ f u else f u) ≠ []
        split
        · simp
        · split
          · intro z; exact a2 u hu (List.append_eq_nil_iff.mp z).2
          · exact a2 u hu
      · rw [← List.append_assoc, ← hx, List.append_assoc]
        exact hd.symm
    obtain ⟨E', h9⟩ := key
    exact fun z => by rw [z] at h9; cases h9
theorem fm_head {α : Type} {g g' : Nat → List α} : ∀ {c i : Nat}, (∀ j, i ≤ j → j < i + c → (g j).head? = (g' j).head?) → (fm g i c).head? = (fm g' i c).head?
  | 0, _, _ => rfl
  | c + 1, i, h => by
    rw [fm, fm, List.head?_append, List.head?_append, h i (Nat.le_refl _) (by omega), fm_head (fun j h1 h2 => h j (by omega) (by omega))]
/-- the limits leave the first occurrence as it is -/
theorem mt_limit {p : List Nat} : ∀ (q pre : List Nat) (E : Nat → List Nat) (r : List Nat), p = pre ++ q → (∀ u, E u = [] ↔ u ∉ pre) → r.length ≤ 24 → (mtL (lm p) q E r).head? = (mtL l24 q E r).head?
  | [], pre, E, r, _, _, _ => rfl
  | v :: q, pre, E, r, hp, hE, hr => by
    have hp2 : p = (pre ++ [v]) ++ q := by rw [hp]; simp
    rw [mtL, mtL]
    split
    · next he =>
      have ih : ∀ j, 1 ≤ j → j ≤ r.length → (mtL (lm p) q (ud E v (r.take j)) (r.drop j)).head? = (mtL l24 q (ud E v (r.take j)) (r.drop j)).head? := by
        intro j hj1 hj2
        refine mt_limit q (pre ++ [v]) _ _ hp2 (fun u => ?_) (by rw [List.length_drop]; omega)
        have hlt : (r.take j).length = j := by rw [List.length_take]; omega
        by_cases e : u = v
        · subst e
          rw [ud_eq]
          constructor
          · intro z; rw [z, List.length_nil] at hlt; omega
          · intro z; exact absurd (by simp) z
        · rw [ud_ne e, hE u, List.mem_append, List.mem_singleton]
          constructor
          · intro z; rintro (w | w); exact z w; exact e w
          · intro z w; exact z (Or.inl w)
      have hl2 : min (l24 v) r.length = r.length := Nat.min_eq_right hr
      rw [hl2]
      by_cases hl : lm p v = 1
      · rw [hl]
        cases hrl : r.length with
        | zero => rfl
        | succ c =>
          have hmin : min 1 (c + 1) = 1 := by omega
          rw [hmin]
          show (mtL (lm p) q (ud E v (r.take 1)) (r.drop 1) ++ []).head? = (mtL l24 q (ud E v (r.take 1)) (r.drop 1) ++ fm _ 2 c).head?
          rw [List.append_nil, List.head?_append, ih 1 (by omega) (by omega)]
          cases hg : mtL l24 q (ud E v (r.take 1)) (r.drop 1) with
          | cons x xs => rfl
          | nil =>
            rw [fm_nil]
            · rfl
            · intro j h1 h2
              apply Classical.byContradiction
              intro hne
              exact mt_shrink hp hl hE he hr (m := j) (by omega) (by omega) hne hg
      · have hl3 : lm p v = 24 := by
          unfold lm at hl ⊢
          split
          · next hh => rw [if_pos hh] at hl; exact absurd rfl hl
          · rfl
        rw [hl3, show min 24 r.length = r.length by omega]
        exact fm_head (fun j h1 h2 => ih j h1 (by omega))
    · next he =>
      split
      · have hvp : v ∈ pre := Classical.byContradiction (fun z => he ((hE v).mpr z))
        refine mt_limit q (pre ++ [v]) E _ hp2 (fun u => ?_) (by rw [List.length_drop]; omega)
        rw [hE u, List.mem_append, List.mem_singleton]
        constructor
        · intro z; rintro (w | w); exact z w; exact z (by rw [w]; exact hvp)
        · intro z w; exact z (Or.inl w)
      · rfl
def e0 : Nat → List Nat := fun _ => []
/-- all occurrences of a pattern at a place of a text -/
def occ (p t : List Nat) (s : Nat) : List ((Nat → List Nat) × List Nat) := mtL l24 p e0 (t.drop s)
theorem nd_e0 : ∀ p : List Nat, nd e0 p = p.length
  | [] => rfl
  | v :: p => by rw [nd, nd_e0 p, List.length_cons]; show max 1 0 + p.length = _; omega
theorem occ_need {p t : List Nat} {s : Nat} (h : t.length < s + p.length) (hp : p ≠ []) : occ p t s = [] := by
  apply Classical.byContradiction
  intro hne
  have := mtL_need hne
  rw [nd_e0, List.length_drop] at this
  have : 0 < p.length := List.length_pos_iff.mpr hp
  omega
theorem occ_head {p t : List Nat} {s : Nat} (ht : t.length ≤ 24) : (mtL (lm p) p e0 (t.drop s)).head? = (occ p t s).head? := mt_limit p [] e0 _ rfl (fun u => by simp [e0]) (by rw [List.length_drop]; omega)
theorem head_nil {α : Type} {L L' : List α} (h : L.head? = L'.head?) (hn : L = []) : L' = [] := by
  rw [hn] at h
  cases L' with
  | nil => rfl
  | cons a b => cases h
theorem occ_nil {p t : List Nat} {s : Nat} (ht : t.length ≤ 24) (h : mtL (lm p) p e0 (t.drop s) = []) : occ p t s = [] := head_nil (occ_head ht) h
/-- a first image that is used once goes back to the start -/
theorem occ_zero {v : Nat} {q t : List Nat} {s : Nat} (ht : t.length ≤ 24) (hv : v ∉ q) (h : occ (v :: q) t s ≠ []) : occ (v :: q) t 0 ≠ [] := by
  obtain ⟨r', hr'⟩ := ne_nil_pair h
  obtain ⟨f, a1, a2, a3⟩ := mt_in hr'
  obtain ⟨E', h9⟩ := mt_of (r' := r') (p := v :: q) (E := e0) (r := t.drop 0) (fun u => if u = v then t.take s ++ f v else f u) (by rw [List.length_drop]; omega) (fun u hu => absurd rfl hu) (fun u hu => by
      show (if u = v then t.take s ++ f v else f u) ≠ []
      split
      · intro z; exact a2 v List.mem_cons_self (List.append_eq_nil_iff.mp z).2
      · exact a2 u hu) (by
      have e : q.flatMap (fun u => if u = v then t.take s ++ f v else f u) = q.flatMap f := by
        rw [List.flatMap_def, List.flatMap_def]
        congr 1
        apply List.map_congr_left
        intro u hu
        exact if_neg (fun z => hv (by rw [← z]; exact hu))
      rw [List.flatMap_cons, if_pos rfl, e, List.append_assoc, List.append_assoc]
      rw [List.flatMap_cons, List.append_assoc] at a3
      rw [a3, List.take_append_drop, List.drop_zero])
  exact fun z => by
    have h9 : (E', r') ∈ occ (v :: q) t 0 := h9
    rw [z] at h9; cases h9

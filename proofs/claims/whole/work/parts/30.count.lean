/-! COUNTING OCCURRENCES -/
def sm (g : Nat → Nat) : Nat → Nat → Nat
  | _, 0 => 0
  | i, c + 1 => g i + sm g (i + 1) c
theorem sm_congr {g g' : Nat → Nat} : ∀ {c i : Nat}, (∀ j, i ≤ j → j < i + c → g j = g' j) → sm g i c = sm g' i c
  | 0, _, _ => rfl
  | c + 1, i, h => by rw [sm, sm, h i (Nat.le_refl _) (by omega), sm_congr (fun j h1 h2 => h j (by omega) (by omega))]
theorem sm_add {g g' : Nat → Nat} : ∀ {c i : Nat}, sm (fun j => g j + g' j) i c = sm g i c + sm g' i c
  | 0, _ => rfl
  | c + 1, i => by rw [sm, sm, sm, sm_add]; omega
theorem sm_shift {g : Nat → Nat} : ∀ {c i : Nat}, sm (fun j => g (j + 1)) i c = sm g (i + 1) c
  | 0, _ => rfl
  | c + 1, i => by rw [sm, sm, sm_shift]
theorem sm_zero {g : Nat → Nat} : ∀ {c i : Nat}, (∀ j, i ≤ j → j < i + c → g j = 0) → sm g i c = 0
  | 0, _, _ => rfl
  | c + 1, i, h => by rw [sm, h i (Nat.le_refl _) (by omega), sm_zero (fun j h1 h2 => h j (by omega) (by omega))]
theorem sm_snoc {g : Nat → Nat} : ∀ {c i : Nat}, sm g i (c + 1) = sm g i c + g (i + c)
  | 0, i => by simp [sm]
  | c + 1, i => by
    rw [sm, sm_snoc, sm]
    rw [show i + 1 + c = i + (c + 1) by omega]
    omega
theorem sm_app {g : Nat → Nat} : ∀ {c e i : Nat}, sm g i (c + e) = sm g i c + sm g (i + c) e
  | 0, e, i => by rw [Nat.zero_add, sm]; simp
  | c + 1, e, i => by
    rw [show c + 1 + e = (c + e) + 1 by omega, sm, sm, sm_app, show i + 1 + c = i + (c + 1) by omega]
    omega
theorem sm_le {g : Nat → Nat} {B : Nat} : ∀ {c i : Nat}, (∀ j, i ≤ j → j < i + c → g j ≤ B) → sm g i c ≤ c * B
  | 0, _, _ => Nat.zero_le _
  | c + 1, i, h => by
    rw [sm, Nat.succ_mul]
    have := sm_le (c := c) (i := i + 1) (fun j h1 h2 => h j (by omega) (by omega))
    have := h i (Nat.le_refl _) (by omega)
    omega
theorem fm_len {α : Type} {g : Nat → List α} : ∀ {c i : Nat}, (fm g i c).length = sm (fun j => (g j).length) i c
  | 0, _ => rfl
  | c + 1, i => by rw [fm, sm, List.length_append, fm_len]
/-- binomials -/
def ch : Nat → Nat → Nat
  | _, 0 => 1
  | 0, _ + 1 => 0
  | n + 1, k + 1 => ch n k + ch n (k + 1)
theorem ch_0 : ∀ n, ch n 0 = 1
  | 0 => rfl
  | _ + 1 => rfl
theorem ch_le : ∀ n k, ch n k ≤ 2 ^ n
  | n, 0 => by rw [ch_0]; exact Nat.pow_pos (by decide)
  | 0, k + 1 => Nat.zero_le _
  | n + 1, k + 1 => by
    have := ch_le n k
    have := ch_le n (k + 1)
    rw [ch, Nat.pow_succ]
    omega
theorem ch_big : ∀ n k, n < k → ch n k = 0
  | _, 0, h => absurd h (Nat.not_lt_zero _)
  | 0, k + 1, _ => rfl
  | n + 1, k + 1, h => by rw [ch, ch_big n k (by omega), ch_big n (k + 1) (by omega)]
theorem ch_self : ∀ n, ch n n = 1
  | 0 => rfl
  | n + 1 => by rw [ch, ch_self n, ch_big n (n + 1) (by omega)]
theorem ch_abs : ∀ n k, (k + 1) * ch (n + 1) (k + 1) = (n + 1) * ch n k
  | n, 0 => by
    rw [ch_0]
    have : ∀ m, ch m 1 = m := by
      intro m
      induction m with
      | zero => rfl
      | succ m ih => rw [ch, ch_0, ih]; omega
    rw [this]; omega
  | 0, k + 1 => by rw [ch_big (0 + 1) (k + 1 + 1) (by omega), ch_big 0 (k + 1) (by omega)]; simp
  | n + 1, k + 1 => by
    have h1 := ch_abs n k
    have h2 := ch_abs n (k + 1)
    have e1 : ch (n + 1 + 1) (k + 1 + 1) = ch (n + 1) (k + 1) + ch (n + 1) (k + 1 + 1) := rfl
    have e2 : ch (n + 1) (k + 1) = ch n k + ch n (k + 1) := rfl
    rw [e1, Nat.mul_add, h2, Nat.add_mul (k + 1) 1, Nat.one_mul, h1]
    rw [Nat.add_mul (n + 1) 1, Nat.one_mul]
    have e3 : (n + 1) * ch (n + 1) (k + 1) = (n + 1) * ch n k + (n + 1) * ch n (k + 1) := by rw [e2, Nat.mul_add]
    omega
/-- how many occurrences do not hang on what doesn't stand in the pattern -/
theorem mt_ind : ∀ {q : List Nat} {E E' : Nat → List Nat} {r : List Nat}, (∀ v ∈ q, E v = E' v) → (mtL l24 q E r).length = (mtL l24 q E' r).length
  | [], _, _, _, _ => rfl
  | v :: q, E, E', r, h => by
    have hv := h v List.mem_cons_self
    rw [mtL, mtL, ← hv]
    split
    · rw [fm_len, fm_len]
      refine sm_congr (fun j _ _ => mt_ind (fun u hu => ?_))
      by_cases e : u = v
      · rw [e, ud_eq, ud_eq]
      · rw [ud_ne e, ud_ne e]; exact h u (List.mem_cons_of_mem _ hu)
    · split
      · exact mt_ind (fun u hu => h u (List.mem_cons_of_mem _ hu))
      · rfl
theorem cnt_nil {x : Nat} {q : List Nat} {E : Nat → List Nat} (hE : E x = []) : (mtL l24 (x :: q) E []).length = 0 := by
  rw [mtL, if_pos hE]
  rfl
theorem cnt_one {x : Nat} {q : List Nat} {E : Nat → List Nat} {r : List Nat} (hE : E x = []) (hx : x ∉ q) (hr : r.length ≤ 24) : (mtL l24 (x :: q) E r).length = sm (fun m => (mtL l24 q E (r.drop m)).length) 1 r.length := by
  rw [mtL, if_pos hE, fm_len, show min (l24 x) r.length = r.length from Nat.min_eq_right hr]
  refine sm_congr (fun j _ _ => mt_ind (fun u hu => ud_ne (fun z => hx (by rw [← z]; exact hu))))
theorem cnt_cons {x a : Nat} {q : List Nat} {E : Nat → List Nat} {r : List Nat} (hE : E x = []) (hx : x ∉ q) (hr : r.length < 24) : (mtL l24 (x :: q) E (a :: r)).length = (mtL l24 q E r).length + (mtL l24 (x :: q) E r).length := by
  rw [cnt_one hE hx (by rw [List.length_cons]; omega), cnt_one hE hx (by omega), List.length_cons, sm, ← sm_shift]
  rfl
/-- a run of variables that stand once -/
def Wt : Nat → Nat → Nat
  | _, 0 => 1
  | 0, _ + 1 => 0
  | n + 1, j + 1 => Wt n (j + 1) + Wt (n + 1) j
theorem Wt_0 : ∀ n, Wt n 0 = 1
  | 0 => by rw [Wt]
  | _ + 1 => by rw [Wt]
theorem Wt_ch : ∀ n j, Wt (n + 1) j = ch (n + j) n
  | n, 0 => by rw [Wt_0, Nat.add_zero, ch_self]
  | 0, j + 1 => by rw [Wt, Wt_ch 0 j, ch_0, ch_0, Wt]
  | n + 1, j + 1 => by
    rw [Wt, Wt_ch n (j + 1), Wt_ch (n + 1) j, show n + 1 + (j + 1) = (n + 1 + j) + 1 by omega, ch, show n + (j + 1) = n + 1 + j by omega]
theorem cnt_run {q2 : List Nat} {E : Nat → List Nat} : ∀ (r run : List Nat), (∀ x ∈ run, E x = [] ∧ x ∉ q2) → run.Nodup → r.length ≤ 24 →
    (mtL l24 (run ++ q2) E r).length = sm (fun j => Wt run.length j * (mtL l24 q2 E (r.drop (run.length + j))).length) 0 (r.length + 1 - run.length)
  | r, [], _, _, _ => by
    rw [List.nil_append, List.length_nil, Nat.sub_zero, sm, Wt_0, Nat.one_mul, sm_zero]
    · rfl
    · intro j h1 h2
      cases j with
      | zero => omega
      | succ j => rw [Wt, Nat.zero_mul]
  | [], x :: run, h, _, _ => by
    rw [List.cons_append, cnt_nil (h x List.mem_cons_self).1, List.length_cons, show ([] : List Nat).length + 1 - (run.length + 1) = 0 by simp]
    rfl
  | a :: r, x :: run, h, hn, hr => by
    have hx := h x List.mem_cons_self
    have hn2 := List.nodup_cons.mp hn
    rw [List.length_cons] at hr
    rw [List.cons_append, cnt_cons hx.1 (by rw [List.mem_append]; rintro (z | z); exact hn2.1 z; exact hx.2 z) (by omega)]
    rw [cnt_run r run (fun y hy => h y (List.mem_cons_of_mem _ hy)) hn2.2 (by omega), ← List.cons_append, cnt_run r (x :: run) h hn (by omega)]
    rw [List.length_cons, List.length_cons]
    have e1 : r.length + 1 + 1 - (run.length + 1) = r.length + 1 - run.length := by omega
    rw [e1]
    cases hc : r.length + 1 - run.length with
    | zero =>
      rw [show r.length + 1 - (run.length + 1) = 0 by omega]
      rfl
    | succ c =>
      rw [show r.length + 1 - (run.length + 1) = c by omega]
      rw [sm, sm, Wt_0, Wt_0]
      have e2 : ∀ j, (a :: r).drop (run.length + 1 + j) = r.drop (run.length + j) := fun j => by
        rw [show run.length + 1 + j = (run.length + j) + 1 by omega, List.drop_succ_cons]
      rw [e2]
      rw [← sm_shift (i := 0), ← sm_shift (i := 0), Nat.add_assoc, ← sm_add]
      congr 1
      refine sm_congr (fun j _ _ => ?_)
      rw [e2, Wt, Nat.add_mul, show run.length + 1 + j = run.length + (j + 1) by omega]
theorem cnt_last {E : Nat → List Nat} : ∀ (r run : List Nat), (∀ x ∈ run, E x = []) → run.Nodup → r.length ≤ 24 → (mtL l24 run E r).length = ch r.length run.length
  | r, [], _, _, _ => by rw [List.length_nil, ch_0]; rfl
  | [], x :: run, h, _, _ => by rw [cnt_nil (h x List.mem_cons_self)]; rfl
  | a :: r, x :: run, h, hn, hr => by
    have hn2 := List.nodup_cons.mp hn
    rw [List.length_cons] at hr
    rw [cnt_cons (h x List.mem_cons_self) hn2.1 (by omega), cnt_last r run (fun y hy => h y (List.mem_cons_of_mem _ hy)) hn2.2 (by omega), cnt_last r (x :: run) h hn (by omega)]
    rfl
/-- a bound -/
def opn (E : Nat → List Nat) : Nat := (List.range 5).countP (fun v => (E v).isEmpty)
theorem opn_ud {E : Nat → List Nat} {v : Nat} {x : List Nat} (hv : v < 5) (hE : E v = []) (hx : x ≠ []) : opn (ud E v x) + 1 = opn E := by
  have hx2 : x.isEmpty = false := by cases x; exact absurd rfl hx; rfl
  have key : ∀ u, (ud E v x u).isEmpty = (if u = v then false else (E u).isEmpty) := by
    intro u
    unfold ud
    split
    · exact hx2
    · rfl
  have hE2 : (E v).isEmpty = true := by rw [hE]; rfl
  unfold opn
  simp only [key]
  have : v = 0 ∨ v = 1 ∨ v = 2 ∨ v = 3 ∨ v = 4 := by omega
  rcases this with h | h | h | h | h <;> subst h <;> simp [List.range, List.range.loop, List.countP_cons, hE2] <;> omega
theorem cnt_le : ∀ {q : List Nat} {E : Nat → List Nat} {r : List Nat}, (∀ v ∈ q, v < 5) → r.length ≤ 24 → (mtL l24 q E r).length ≤ 24 ^ opn E
  | [], E, r, _, _ => by show 1 ≤ _; exact Nat.pow_pos (by decide)
  | v :: q, E, r, h, hr => by
    rw [mtL]
    split
    · next hE =>
      rw [fm_len]
      have hm : min (l24 v) r.length = r.length := Nat.min_eq_right hr
      rw [hm]
      by_cases h0 : r.length = 0
      · rw [h0]; exact Nat.zero_le _
      · have hb : ∀ j, 1 ≤ j → j < 1 + r.length → (mtL l24 q (ud E v (r.take j)) (r.drop j)).length ≤ 24 ^ (opn E - 1) := by
          intro j h1 h2
          have hlt : (r.take j).length = j := by rw [List.length_take]; omega
          have hne : r.take j ≠ [] := fun z => by rw [z, List.length_nil] at hlt; omega
          have := opn_ud (E := E) (v := v) (h v List.mem_cons_self) hE hne
          have h9 := cnt_le (q := q) (E := ud E v (r.take j)) (r := r.drop j) (fun u hu => h u (List.mem_cons_of_mem _ hu)) (by rw [List.length_drop]; omega)
          rw [show opn E - 1 = opn (ud E v (r.take j)) by omega]
          exact h9
        have h1 := sm_le hb
        have ho : 1 ≤ opn E := by
          have hlt : (r.take 1).length = 1 := by rw [List.length_take]; omega
          have hne : r.take 1 ≠ [] := fun z => by rw [z, List.length_nil] at hlt; omega
          have := opn_ud (E := E) (v := v) (h v List.mem_cons_self) hE hne
          omega
        have e : 24 ^ opn E = 24 * 24 ^ (opn E - 1) := by
          conv => lhs; rw [show opn E = (opn E - 1) + 1 by omega]
          rw [Nat.pow_succ, Nat.mul_comm]
        rw [e]
        exact Nat.le_trans h1 (Nat.mul_le_mul_right _ hr)
    · split
      · exact cnt_le (fun u hu => h u (List.mem_cons_of_mem _ hu)) (by rw [List.length_drop]; omega)
      · exact Nat.zero_le _
theorem opn_le {E : Nat → List Nat} : opn E ≤ 5 := by
  unfold opn
  exact Nat.le_trans List.countP_le_length (by simp)
theorem cnt_le5 {q : List Nat} {E : Nat → List Nat} {r : List Nat} (h : ∀ v ∈ q, v < 5) (hr : r.length ≤ 24) : (mtL l24 q E r).length ≤ 7962624 := Nat.le_trans (cnt_le h hr) (Nat.le_trans (Nat.pow_le_pow_right (by decide) opn_le) (by decide))

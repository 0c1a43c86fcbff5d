/-! THE PURE MACHINE'S MEMORY IN THE HEAP -/
abbrev pm_cl : List vw_C := [(RX0, TX0, 4), (RX1, TX1, 7), (RX2, TX2, 1), (RX3, TX3, 2), (RX4, TX4, 3), (RX5, TX5, 3), (RX6, TX6, 2), (RX7, TX7, 7), (RX8, TX8, 13), (RX9, TX9, 45)]
def pm_val (ad : Nat → Nat) (v : pm_V) : Value := match v with
  | .inl x => .int (Int32.ofInt x)
  | .inr (.inl (_, q)) => .ref (ad q)
  | .inr (.inr (.inl x)) => .long (Int64.ofInt x)
  | .inr (.inr (.inr (.inl x))) => .float x
  | .inr (.inr (.inr (.inr x))) => .double x
def pm_ok (fl : Bool) (z : pm_Sh) (v : pm_V) : Prop := match v with
  | .inl x => pm_r x
  | .inr (.inl (κ, q)) => (q < z.1 ∧ z.2.1 q = κ) ∨ (fl = true ∧ κ = 999 ∧ q = 9999)
  | .inr (.inr (.inl x)) => -9223372036854775808 ≤ x ∧ x ≤ 9223372036854775807
  | _ => True
def pm_fv (ad : Nat → Nat) (κ k : Nat) (ini : Nat → Bool) (f : Nat → Int) (j : Nat) : Value := if pm_fk κ j = 0 then Value.int (Int32.ofInt (f j)) else if ini j = true then .ref (ad (pm_rf κ k j)) else .null
def pm_qv (ad : Nat → Nat) (κ k : Nat) (ini : Nat → Bool) (j : Nat) : Option Nat := if j < κ - 5000 ∧ ini j = true then some (ad (pm_rf κ k j)) else none
/-- a thing's cell -/
def pm_e (AC : Nat → ClassId) (ad : Nat → Nat) (κ k : Nat) (ini : Nat → Bool) (f : Nat → Int) : va_E :=
  if κ < 1000 then .inr (κ, (List.range (pm_nf κ)).map (pm_fv ad κ k ini f))
  else if κ < 2000 then .inl (AC 1, κ - 1000, .inl (fun j => Int32.ofInt (f j)))
  else if κ < 3000 then .inl (AC 2, κ - 2000, .inl (fun j => Int32.ofInt (f j)))
  else if κ < 4000 then .inl (AC 3, κ - 3000, .inr (.inl (fun j => Int64.ofInt (f j))))
  else if κ < 5000 then .inl (AC 4, κ - 4000, .inr (.inr (.inr (.inl (fun j => UInt64.ofNat (f j).toNat)))))
  else .inl (AC 5, κ - 5000, .inr (.inr (.inr (.inr (pm_qv ad κ k ini)))))
def pm_ws (AC : Nat → ClassId) (ad : Nat → Nat) (m : pm_Me) : va_W := (List.range m.1.1).map fun k => (ad k, pm_e AC ad (m.1.2.1 k) k (m.1.2.2 k) (m.2 k))
abbrev pm_tys (AC : Nat → ClassId) : List (ClassId × FieldType) := [(AC 1, .int), (AC 2, .boolean), (AC 3, .long), (AC 4, .double), (AC 5, .object "PatternLaboratory$Row")]
def pm_inv1 (m : pm_Me) (k : Nat) : Prop :=
  (m.1.2.1 k < 10 ∨ (1000 ≤ m.1.2.1 k ∧ m.1.2.1 k < 6000)) ∧
  (m.1.2.1 k < 3000 → ∀ j, pm_r (m.2 k j)) ∧
  (3000 ≤ m.1.2.1 k → m.1.2.1 k < 4000 → ∀ j, -9223372036854775808 ≤ m.2 k j ∧ m.2 k j ≤ 9223372036854775807) ∧
  (m.1.2.1 k < 10 → ∀ j, pm_fk (m.1.2.1 k) j ≠ 0 → m.1.2.2 k j = true → pm_rf (m.1.2.1 k) k j < m.1.1 ∧ m.1.2.1 (pm_rf (m.1.2.1 k) k j) + 1 = pm_fk (m.1.2.1 k) j) ∧
  (5000 ≤ m.1.2.1 k → ∀ j, j < m.1.2.1 k - 5000 → m.1.2.2 k j = true → pm_rf (m.1.2.1 k) k j < m.1.1 ∧ m.1.2.1 (pm_rf (m.1.2.1 k) k j) = 6)
def pm_inv (m : pm_Me) : Prop := m.1.1 ≤ 9000 ∧ ∀ k, k < m.1.1 → pm_inv1 m k
theorem pm_ws_get {AC : Nat → ClassId} {ad : Nat → Nat} {m : pm_Me} {k : Nat} (h : k < m.1.1) : (pm_ws AC ad m)[k]? = some (ad k, pm_e AC ad (m.1.2.1 k) k (m.1.2.2 k) (m.2 k)) := by
  unfold pm_ws
  rw [List.getElem?_map, List.getElem?_range h]
  rfl
theorem pm_ws_len {AC : Nat → ClassId} {ad : Nat → Nat} {m : pm_Me} : (pm_ws AC ad m).length = m.1.1 := by
  unfold pm_ws
  rw [List.length_map, List.length_range]
theorem pm_ws_none {AC : Nat → ClassId} {ad : Nat → Nat} {m : pm_Me} {k : Nat} (h : ¬ k < m.1.1) : (pm_ws AC ad m)[k]? = none := by
  rw [List.getElem?_eq_none]
  rw [pm_ws_len]
  omega
/-- one thing changes -/
theorem pm_ws_set {AC : Nat → ClassId} {ad : Nat → Nat} {m m' : pm_Me} {q : Nat} {e : va_E} (hq : q < m.1.1) (hn : m'.1.1 = m.1.1) (he : e = pm_e AC ad (m'.1.2.1 q) q (m'.1.2.2 q) (m'.2 q)) (ho : ∀ k, k < m.1.1 → k ≠ q → m'.1.2.1 k = m.1.2.1 k ∧ m'.1.2.2 k = m.1.2.2 k ∧ m'.2 k = m.2 k) : (pm_ws AC ad m).set q (ad q, e) = pm_ws AC ad m' := by
  apply List.ext_getElem?
  intro k
  by_cases hk : k < m.1.1
  · by_cases hkq : k = q
    · subst hkq
      rw [List.getElem?_set_self (by rw [pm_ws_len]; exact hk), pm_ws_get (by rw [hn]; exact hk), he]
    · rw [List.getElem?_set_ne (Ne.symm hkq), pm_ws_get hk, pm_ws_get (by rw [hn]; exact hk)]
      obtain ⟨h1, h2, h3⟩ := ho k hk hkq
      rw [h1, h2, h3]
  · rw [pm_ws_none (by rw [hn]; exact hk), List.getElem?_eq_none]
    rw [List.length_set, pm_ws_len]
    omega
theorem pm_e_ad {AC : Nat → ClassId} {ad ad' : Nat → Nat} {m : pm_Me} {k : Nat} (hi : pm_inv1 m k) (h : ∀ q, q < m.1.1 → ad' q = ad q) : pm_e AC ad' (m.1.2.1 k) k (m.1.2.2 k) (m.2 k) = pm_e AC ad (m.1.2.1 k) k (m.1.2.2 k) (m.2 k) := by
  unfold pm_e
  by_cases h1 : m.1.2.1 k < 1000
  · rw [if_pos h1, if_pos h1]
    congr 2
    apply List.map_congr_left
    intro j _
    unfold pm_fv
    by_cases h2 : pm_fk (m.1.2.1 k) j = 0
    · rw [if_pos h2, if_pos h2]
    · rw [if_neg h2, if_neg h2]
      by_cases h3 : m.1.2.2 k j = true
      · rw [if_pos h3, if_pos h3]
        have h9 : m.1.2.1 k < 10 := by
          rcases hi.1 with h | h
          · exact h
          · omega
        rw [h _ (hi.2.2.2.1 h9 j h2 h3).1]
      · rw [if_neg h3, if_neg h3]
  · rw [if_neg h1, if_neg h1]
    by_cases h2 : m.1.2.1 k < 2000
    · rw [if_pos h2, if_pos h2]
    · rw [if_neg h2, if_neg h2]
      by_cases h3 : m.1.2.1 k < 3000
      · rw [if_pos h3, if_pos h3]
      · rw [if_neg h3, if_neg h3]
        by_cases h4 : m.1.2.1 k < 4000
        · rw [if_pos h4, if_pos h4]
        · rw [if_neg h4, if_neg h4]
          by_cases h5 : m.1.2.1 k < 5000
          · rw [if_pos h5, if_pos h5]
          · rw [if_neg h5, if_neg h5]
            have e : pm_qv ad' (m.1.2.1 k) k (m.1.2.2 k) = pm_qv ad (m.1.2.1 k) k (m.1.2.2 k) := by
              funext j
              unfold pm_qv
              by_cases h6 : j < m.1.2.1 k - 5000 ∧ m.1.2.2 k j = true
              · rw [if_pos h6, if_pos h6, h _ (hi.2.2.2.2 (by omega) j h6.1 h6.2).1]
              · rw [if_neg h6, if_neg h6]
            rw [e]
theorem pm_ws_ad {AC : Nat → ClassId} {ad ad' : Nat → Nat} {m : pm_Me} (hi : pm_inv m) (h : ∀ q, q < m.1.1 → ad' q = ad q) : pm_ws AC ad' m = pm_ws AC ad m := by
  unfold pm_ws
  apply List.map_congr_left
  intro k hk
  have hk := List.mem_range.mp hk
  rw [h k hk, pm_e_ad (hi.2 k hk) h]
/-- a new thing -/
theorem pm_ws_push {AC : Nat → ClassId} {ad : Nat → Nat} {m : pm_Me} {a κ : Nat} {e : va_E} {M' : Nat → Nat → Int} {B' : Nat → Nat → Bool} (hi : pm_inv m) (he : e = pm_e AC (fun j => if j = m.1.1 then a else ad j) κ m.1.1 (B' m.1.1) (M' m.1.1)) (hM : ∀ k, k < m.1.1 → M' k = m.2 k) (hB : ∀ k, k < m.1.1 → B' k = m.1.2.2 k) : pm_ws AC ad m ++ [(a, e)] = pm_ws AC (fun j => if j = m.1.1 then a else ad j) ((m.1.1 + 1, pm_kd m.1.2.1 m.1.1 κ, B'), M') := by
  unfold pm_ws
  show _ = (List.range (m.1.1 + 1)).map _
  rw [List.range_succ, List.map_append]
  congr 1
  · apply List.map_congr_left
    intro k hk
    have hk := List.mem_range.mp hk
    have hne : k ≠ m.1.1 := Nat.ne_of_lt hk
    have e2 := pm_e_ad (AC := AC) (ad := ad) (ad' := fun j => if j = m.1.1 then a else ad j) (hi.2 k hk) (fun q hq => if_neg (Nat.ne_of_lt hq))
    show (ad k, _) = (if k = m.1.1 then a else ad k, pm_e AC _ (pm_kd m.1.2.1 m.1.1 κ k) k (B' k) (M' k))
    rw [if_neg hne, hM k hk, hB k hk, show pm_kd m.1.2.1 m.1.1 κ k = m.1.2.1 k from if_neg hne, e2]
  · show [(a, e)] = [(if m.1.1 = m.1.1 then a else ad m.1.1, pm_e AC _ (pm_kd m.1.2.1 m.1.1 κ m.1.1) m.1.1 (B' m.1.1) (M' m.1.1))]
    rw [if_pos rfl, he, show pm_kd m.1.2.1 m.1.1 κ m.1.1 = κ from if_pos rfl]
/-! the locals -/
def pm_ll (ad : Nat → Nat) : Nat → List (Option pm_V) → List (Nat × Value)
  | _, [] => []
  | i, none :: L => pm_ll ad (i + 1) L
  | i, some v :: L => (i, pm_val ad v) :: pm_ll ad (i + 1) L
theorem pm_ll_mem {ad : Nat → Nat} {q : Nat × Value} : ∀ {L : List (Option pm_V)} {i : Nat}, q ∈ pm_ll ad i L ↔ ∃ j v, pm_ld L j = some v ∧ q = (i + j, pm_val ad v)
  | [], i => by simp [pm_ll, pm_ld]
  | none :: L, i => by
    rw [pm_ll, pm_ll_mem]
    constructor
    · rintro ⟨j, v, h1, h2⟩
      exact ⟨j + 1, v, h1, by rw [h2]; congr 1; omega⟩
    · rintro ⟨j, v, h1, h2⟩
      cases j with
      | zero => simp [pm_ld] at h1
      | succ j => exact ⟨j, v, h1, by rw [h2]; congr 1; omega⟩
  | some w :: L, i => by
    rw [pm_ll, List.mem_cons, pm_ll_mem]
    constructor
    · rintro (h | ⟨j, v, h1, h2⟩)
      · exact ⟨0, w, rfl, h⟩
      · exact ⟨j + 1, v, h1, by rw [h2]; congr 1; omega⟩
    · rintro ⟨j, v, h1, h2⟩
      cases j with
      | zero =>
        left
        have h1 : some w = some v := h1
        cases h1
        exact h2
      | succ j => exact Or.inr ⟨j, v, h1, by rw [h2]; congr 1; omega⟩
theorem pm_lv_at {ad : Nat → Nat} {ls : Array Slot} {nL j : Nat} {L : List (Option pm_V)} {v : pm_V} (h : lv_has ls nL (pm_ll ad 0 L)) (hj : pm_ld L j = some v) : ls[j]? = some (.val (pm_val ad v)) := by
  have := h.2.2 (j, pm_val ad v) (pm_ll_mem.mpr ⟨j, v, hj, by rw [Nat.zero_add]⟩)
  exact this
theorem pm_lv_weak {ls : Array Slot} {nL : Nat} {l l' : List (Nat × Value)} (h : lv_has ls nL l) (hs : ∀ q ∈ l', q ∈ l) : lv_has ls nL l' := ⟨h.1, h.2.1, fun q hq => h.2.2 q (hs q hq)⟩
theorem pm_cat {ad : Nat → Nat} (v : pm_V) : ((pm_val ad v).category = 2 ↔ pm_c2 v = true) ∧ ((pm_val ad v).category = 1 ↔ pm_c2 v = false) := by
  rcases v with x | ⟨κ, q⟩ | x | x | x <;> simp [pm_val, pm_c2, Value.category]
theorem pm_k2_some {o : Option pm_V} {w : pm_V} (h : pm_k2 o = some w) : o = some w ∧ pm_c2 w = false := by
  rcases o with _ | x | ⟨κ, q⟩ | x | x | x <;> simp [pm_k2] at h <;> subst h <;> exact ⟨rfl, rfl⟩
theorem pm_ld_s1 {v w : pm_V} : ∀ {L : List (Option pm_V)} {i j : Nat}, pm_ld (pm_s1 L i v) j = some w → (j = i ∧ w = v) ∨ (j ≠ i ∧ pm_ld L j = some w ∧ ¬ (j + 1 = i ∧ pm_c2 w = true))
  | [], i, j, h => by simp [pm_s1, pm_ld] at h
  | o :: L, 0, 0, h => by
    have h : some v = some w := h
    cases h
    exact Or.inl ⟨rfl, rfl⟩
  | o :: L, 0, j + 1, h => Or.inr ⟨by omega, h, by omega⟩
  | o :: L, 1, 0, h => by
    have h : pm_k2 o = some w := h
    obtain ⟨h1, h2⟩ := pm_k2_some h
    exact Or.inr ⟨by omega, h1, fun q => by rw [h2] at q; cases q.2⟩
  | o :: L, 1, j + 1, h => by
    rcases pm_ld_s1 (L := L) (i := 0) (j := j) h with ⟨h1, h2⟩ | ⟨h1, h2, h3⟩
    · exact Or.inl ⟨by omega, h2⟩
    · exact Or.inr ⟨by omega, h2, by omega⟩
  | o :: L, i + 2, 0, h => Or.inr ⟨by omega, h, by omega⟩
  | o :: L, i + 2, j + 1, h => by
    rcases pm_ld_s1 (L := L) (i := i + 1) (j := j) h with ⟨h1, h2⟩ | ⟨h1, h2, h3⟩
    · exact Or.inl ⟨by omega, h2⟩
    · exact Or.inr ⟨by omega, h2, fun q => h3 ⟨by omega, q.2⟩⟩
theorem pm_ld_s0 {w : pm_V} : ∀ {L : List (Option pm_V)} {i j : Nat}, pm_ld (pm_s0 L i) j = some w → j ≠ i ∧ pm_ld L j = some w ∧ ¬ (j + 1 = i ∧ pm_c2 w = true)
  | [], i, j, h => by simp [pm_s0, pm_ld] at h
  | o :: L, 0, 0, h => by
    have h : none = some w := h
    cases h
  | o :: L, 0, j + 1, h => ⟨by omega, h, by omega⟩
  | o :: L, 1, 0, h => by
    have h : pm_k2 o = some w := h
    obtain ⟨h1, h2⟩ := pm_k2_some h
    exact ⟨by omega, h1, fun q => by rw [h2] at q; cases q.2⟩
  | o :: L, 1, j + 1, h => by
    obtain ⟨h1, h2, h3⟩ := pm_ld_s0 (L := L) (i := 0) (j := j) h
    exact ⟨by omega, h2, by omega⟩
  | o :: L, i + 2, 0, h => ⟨by omega, h, by omega⟩
  | o :: L, i + 2, j + 1, h => by
    obtain ⟨h1, h2, h3⟩ := pm_ld_s0 (L := L) (i := i + 1) (j := j) h
    exact ⟨by omega, h2, fun q => h3 ⟨by omega, q.2⟩⟩
theorem pm_ld_s2 {v w : pm_V} : ∀ {L : List (Option pm_V)} {i j : Nat}, pm_ld (pm_s2 L i v) j = some w → (j = i ∧ w = v) ∨ (j ≠ i ∧ j ≠ i + 1 ∧ pm_ld L j = some w ∧ ¬ (j + 1 = i ∧ pm_c2 w = true))
  | [], i, j, h => by simp [pm_s2, pm_ld] at h
  | [o], 0, 0, h => by
    have h : none = some w := h
    cases h
  | [o], 0, j + 1, h => by
    have h : none = some w := h
    cases h
  | o :: o' :: L, 0, 0, h => by
    have h : some v = some w := h
    cases h
    exact Or.inl ⟨rfl, rfl⟩
  | o :: o' :: L, 0, 1, h => by
    have h : none = some w := h
    cases h
  | o :: o' :: L, 0, j + 2, h => Or.inr ⟨by omega, by omega, h, by omega⟩
  | o :: L, 1, 0, h => by
    have h : pm_k2 o = some w := by
      cases L <;> exact h
    obtain ⟨h1, h2⟩ := pm_k2_some h
    exact Or.inr ⟨by omega, by omega, h1, fun q => by rw [h2] at q; cases q.2⟩
  | o :: L, 1, j + 1, h => by
    have h : pm_ld (pm_s2 L 0 v) j = some w := by
      cases L <;> exact h
    rcases pm_ld_s2 (L := L) (i := 0) (j := j) h with ⟨h1, h2⟩ | ⟨h1, h2, h3, h4⟩
    · exact Or.inl ⟨by omega, h2⟩
    · exact Or.inr ⟨by omega, by omega, h3, by omega⟩
  | o :: L, i + 2, 0, h => by
    have h : o = some w := by
      cases L <;> exact h
    exact Or.inr ⟨by omega, by omega, h, by omega⟩
  | o :: L, i + 2, j + 1, h => by
    have h : pm_ld (pm_s2 L (i + 1) v) j = some w := by
      cases L <;> exact h
    rcases pm_ld_s2 (L := L) (i := i + 1) (j := j) h with ⟨h1, h2⟩ | ⟨h1, h2, h3, h4⟩
    · exact Or.inl ⟨by omega, h2⟩
    · exact Or.inr ⟨by omega, by omega, h3, fun q => h4 ⟨by omega, q.2⟩⟩
theorem pm_lv_s1 {ad : Nat → Nat} {ls' : Array Slot} {nL i : Nat} {L : List (Option pm_V)} {v : pm_V} (h : lv_has ls' nL ((i, pm_val ad v) :: (pm_ll ad 0 L).filter (fun q => !(q.1 == i) && !(q.1 + 1 == i && q.2.category == 2)))) : lv_has ls' nL (pm_ll ad 0 (pm_s1 L i v)) := by
  refine pm_lv_weak h (fun q hq => ?_)
  obtain ⟨j, w, h1, rfl⟩ := pm_ll_mem.mp hq
  rcases pm_ld_s1 h1 with ⟨h2, h3⟩ | ⟨h2, h3, h4⟩
  · subst h2; subst h3
    rw [Nat.zero_add]
    exact List.mem_cons_self
  · refine List.mem_cons_of_mem _ (List.mem_filter.mpr ⟨pm_ll_mem.mpr ⟨j, w, h3, rfl⟩, ?_⟩)
    have := (pm_cat (ad := ad) w).1
    simp only [Nat.zero_add, Bool.and_eq_true, Bool.not_eq_true', beq_eq_false_iff_ne, ne_eq, h2, not_false_eq_true, true_and, Bool.and_eq_false_iff]
    by_cases h5 : j + 1 = i
    · right
      exact fun q => h4 ⟨h5, this.mp q⟩
    · left
      exact h5
theorem pm_lv_s0 {ad : Nat → Nat} {ls' : Array Slot} {nL i : Nat} {L : List (Option pm_V)} {x : Value} (h : lv_has ls' nL ((i, x) :: (pm_ll ad 0 L).filter (fun q => !(q.1 == i) && !(q.1 + 1 == i && q.2.category == 2)))) : lv_has ls' nL (pm_ll ad 0 (pm_s0 L i)) := by
  refine pm_lv_weak h (fun q hq => ?_)
  obtain ⟨j, w, h1, rfl⟩ := pm_ll_mem.mp hq
  obtain ⟨h2, h3, h4⟩ := pm_ld_s0 h1
  refine List.mem_cons_of_mem _ (List.mem_filter.mpr ⟨pm_ll_mem.mpr ⟨j, w, h3, rfl⟩, ?_⟩)
  have := (pm_cat (ad := ad) w).1
  simp only [Nat.zero_add, Bool.and_eq_true, Bool.not_eq_true', beq_eq_false_iff_ne, ne_eq, h2, not_false_eq_true, true_and, Bool.and_eq_false_iff]
  by_cases h5 : j + 1 = i
  · right
    exact fun q => h4 ⟨h5, this.mp q⟩
  · left
    exact h5
theorem pm_lv_s2 {ad : Nat → Nat} {ls' : Array Slot} {nL i : Nat} {L : List (Option pm_V)} {v : pm_V} (h : lv_has ls' nL ((i, pm_val ad v) :: (pm_ll ad 0 L).filter (fun q => !(q.1 == i) && (!(q.1 == i + 1) && !(q.1 + 1 == i && q.2.category == 2))))) : lv_has ls' nL (pm_ll ad 0 (pm_s2 L i v)) := by
  refine pm_lv_weak h (fun q hq => ?_)
  obtain ⟨j, w, h1, rfl⟩ := pm_ll_mem.mp hq
  rcases pm_ld_s2 h1 with ⟨h2, h3⟩ | ⟨h2, h0, h3, h4⟩
  · subst h2; subst h3
    rw [Nat.zero_add]
    exact List.mem_cons_self
  · refine List.mem_cons_of_mem _ (List.mem_filter.mpr ⟨pm_ll_mem.mpr ⟨j, w, h3, rfl⟩, ?_⟩)
    have := (pm_cat (ad := ad) w).1
    simp only [Nat.zero_add, Bool.and_eq_true, Bool.not_eq_true', beq_eq_false_iff_ne, ne_eq, h2, h0, not_false_eq_true, true_and, Bool.and_eq_false_iff]
    by_cases h5 : j + 1 = i
    · right
      exact fun q => h4 ⟨h5, this.mp q⟩
    · left
      exact h5
theorem pm_fg_ld {w : pm_V} : ∀ {L L' : List (Option pm_V)} {j : Nat}, pm_fg L L' → pm_ld L' j = some w → pm_ld L j = some w
  | [], [], _, _, h => h
  | [], _ :: _, _, hf, _ => by simp [pm_fg] at hf
  | _ :: _, [], _, hf, _ => by simp [pm_fg] at hf
  | a :: L, b :: L', 0, hf, h => by
    have h : b = some w := h
    rcases hf.1 with h1 | h1
    · exact h1.symm.trans h
    · rw [h1] at h; cases h
  | a :: L, b :: L', j + 1, hf, h => pm_fg_ld (L := L) (L' := L') hf.2 h
theorem pm_val_ad {ad ad' : Nat → Nat} {fl : Bool} {z : pm_Sh} {v : pm_V} (h : pm_ok fl z v) (h1 : ∀ q, q < z.1 → ad' q = ad q) (h2 : ad' 9999 = ad 9999) : pm_val ad' v = pm_val ad v := by
  rcases v with x | ⟨κ, q⟩ | x | x | x
  · rfl
  · rcases h with h | ⟨-, -, h⟩
    · show Value.ref (ad' q) = .ref (ad q)
      rw [h1 q h.1]
    · show Value.ref (ad' q) = .ref (ad q)
      rw [h, h2]
  · rfl
  · rfl
  · rfl

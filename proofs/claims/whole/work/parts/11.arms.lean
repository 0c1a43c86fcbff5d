/-! ONE INSTRUCTION OF THE PURE MACHINE, ONE OF THE MACHINE (laid by wip/whole/gen_arms.py) -/
theorem pm_ok_cons {fl : Bool} {z : pm_Sh} {v : pm_V} {st : List pm_V} (h : pm_ok fl z v) (hs : ∀ w ∈ st, pm_ok fl z w) : ∀ w ∈ v :: st, pm_ok fl z w := fun w hw => (List.mem_cons.mp hw).elim (fun q => by rw [q]; exact h) (hs w)
theorem pm_ok_tl {fl : Bool} {z : pm_Sh} {v : pm_V} {st : List pm_V} (hs : ∀ w ∈ v :: st, pm_ok fl z w) : ∀ w ∈ st, pm_ok fl z w := fun w hw => hs w (List.mem_cons_of_mem _ hw)
theorem pm_ok_hd {fl : Bool} {z : pm_Sh} {v : pm_V} {st : List pm_V} (hs : ∀ w ∈ v :: st, pm_ok fl z w) : pm_ok fl z v := hs v List.mem_cons_self
theorem pm_ok_s1 {fl : Bool} {z : pm_Sh} {v : pm_V} {L : List (Option pm_V)} {i : Nat} (h : pm_ok fl z v) (hL : ∀ j w, pm_ld L j = some w → pm_ok fl z w) : ∀ j w, pm_ld (pm_s1 L i v) j = some w → pm_ok fl z w := fun j w hw => by
  rcases pm_ld_s1 hw with ⟨-, h2⟩ | ⟨-, h2, -⟩
  · rw [h2]; exact h
  · exact hL j w h2
theorem pm_ok_s0 {fl : Bool} {z : pm_Sh} {L : List (Option pm_V)} {i : Nat} (hL : ∀ j w, pm_ld L j = some w → pm_ok fl z w) : ∀ j w, pm_ld (pm_s0 L i) j = some w → pm_ok fl z w := fun j w hw => hL j w (pm_ld_s0 hw).2.1
theorem pm_ok_s2 {fl : Bool} {z : pm_Sh} {v : pm_V} {L : List (Option pm_V)} {i : Nat} (h : pm_ok fl z v) (hL : ∀ j w, pm_ld L j = some w → pm_ok fl z w) : ∀ j w, pm_ld (pm_s2 L i v) j = some w → pm_ok fl z w := fun j w hw => by
  rcases pm_ld_s2 hw with ⟨-, h2⟩ | ⟨-, -, h2, -⟩
  · rw [h2]; exact h
  · exact hL j w h2
/-- the things that were there at the start are there still, where they were -/
def pm_bs (bs : Nat × (Nat → Nat) × (Nat → Nat)) (ad : Nat → Nat) (n : Nat) (kd : Nat → Nat) : Prop := bs.1 ≤ n ∧ (∀ q, q < bs.1 → kd q = bs.2.1 q ∧ ad q = bs.2.2 q) ∧ ad 9999 = bs.2.2 9999
def pm_Rel (s : State) (D : va_G) (AC : Nat → ClassId) (A : Nat → Prop) (nL : Nat) (fl : Bool) (M0 : Nat → Nat → Int) (bs : Nat × (Nat → Nat) × (Nat → Nat)) (ad : Nat → Nat) (H : Heap) (locs : List Loc) (ls : Array Slot) (L : List (Option pm_V)) (st : List pm_V) (me : pm_Me) : Prop :=
  va_P D pm_cl (pm_ws AC ad me) H ∧ va_D A (pm_ws AC ad me) ∧ pm_inv me ∧ va_S A s.heap H locs ∧ lv_has ls nL (pm_ll ad 0 L) ∧ (∀ j v, pm_ld L j = some v → pm_ok fl me.1 v) ∧ (∀ v ∈ st, pm_ok fl me.1 v) ∧ (∀ a, 9000 ≤ a → me.2 a = M0 a) ∧ pm_bs bs ad me.1.1 me.1.2.1
def pm_W (p : Program) (l : Launch) (e : Env) (R : Room) (s : State) (m : MethodId) (args : Array Value) (below : List Frame) (meth : Method) (c : Code) (Q : State → Prop) (D : va_G) (AC : Nat → ClassId) (A : Nat → Prop) (nL : Nat) (fl : Bool) (M0 : Nat → Nat → Int) (bs : Nat × (Nat → Nat) × (Nat → Nat)) (pcs : List Nat) (S : pm_St) : Prop :=
  S.1 ∈ pcs → S.2.2.2.2.1 ≤ R.cells → S.2.2.2.2.2 ≤ R.slots → ∀ (ad : Nat → Nat) (H : Heap) (locs : List Loc) (ls : Array Slot), pm_Rel s D AC A nL fl M0 bs ad H locs ls S.2.1 S.2.2.1 S.2.2.2.1 → W p l e R s m args below meth c H locs S.2.2.2.2.1 S.2.2.2.2.2 Q (F0 m S.1 ls (S.2.2.1.map (pm_val ad)))
theorem pm_i32_add (x y : Int) : Int32.ofInt x + Int32.ofInt y = Int32.ofInt (x + y) := (Int32.ofInt_add x y).symm
theorem pm_i32_sub (x y : Int) : Int32.ofInt x - Int32.ofInt y = Int32.ofInt (x - y) := (Int32.ofInt_sub x y).symm
theorem pm_i32_mul (x y : Int) : Int32.ofInt x * Int32.ofInt y = Int32.ofInt (x * y) := (Int32.ofInt_mul x y).symm
theorem pm_i32_to {x : Int} (h : pm_r x) : (Int32.ofInt x).toInt = x := Int32.toInt_ofInt_of_le h.1 (by have := h.2; show x < 2147483648; omega)
theorem pm_i32_lt {x y : Int} (hx : pm_r x) (hy : pm_r y) : Int32.ofInt x < Int32.ofInt y ↔ x < y := by rw [Int32.lt_iff_toInt_lt, pm_i32_to hx, pm_i32_to hy]
theorem pm_i32_le {x y : Int} (hx : pm_r x) (hy : pm_r y) : Int32.ofInt x ≤ Int32.ofInt y ↔ x ≤ y := by rw [Int32.le_iff_toInt_le, pm_i32_to hx, pm_i32_to hy]
theorem pm_i32_eq {x y : Int} (hx : pm_r x) (hy : pm_r y) : Int32.ofInt x = Int32.ofInt y ↔ x = y := by rw [← Int32.toInt_inj, pm_i32_to hx, pm_i32_to hy]
theorem pm_i32_of (x : Int32) : Int32.ofInt x.toInt = x := Int32.ofInt_toInt x
theorem pm_r_of (x : Int32) : pm_r x.toInt := ⟨Int32.le_toInt x, by have := Int32.toInt_lt x; omega⟩
theorem pm_r0 : pm_r 0 := ⟨by decide, by decide⟩
theorem pm_i32_0 : Int32.ofInt 0 = 0 := by decide
theorem pm_clamp {x : Int} (h : pm_r x) (h0 : 0 ≤ x) : (Int32.ofInt x).toNatClampNeg = x.toNat := by
  show (Int32.ofInt x).toInt.toNat = _
  rw [pm_i32_to h]
theorem pm_vin {x : Int} {n : Nat} (h : pm_r x) (h0 : 0 ≤ x) (h1 : x < (n : Int)) : vp_in (Int32.ofInt x) n := by
  rw [vp_in_iff, pm_i32_to h]
  exact ⟨h0, h1⟩
theorem pm_idiv_r {x y : Int} (h : pm_r x) (h0 : 0 ≤ x) (h1 : 0 < y) : pm_r (x / y) := by
  have a := Int.ediv_nonneg h0 (Int.le_of_lt h1)
  have b := Int.ediv_le_self y h0
  exact ⟨by omega, by have := h.2; omega⟩
theorem pm_irem_r {x y : Int} (h : pm_r x) (h0 : 0 ≤ x) (h1 : 0 < y) : pm_r (x % y) := by
  have a := Int.emod_nonneg x (Int.ne_of_gt h1)
  have b : x % y ≤ x := by
    have h2 := Int.emod_def x y
    have h3 := Int.mul_nonneg (Int.le_of_lt h1) (Int.ediv_nonneg h0 (Int.le_of_lt h1))
    omega
  exact ⟨by omega, by have := h.2; omega⟩
theorem pm_i32_idiv {x y : Int} (hx : pm_r x) (hy : pm_r y) (h0 : 0 ≤ x) (h1 : 0 < y) : Int32.ofInt x / Int32.ofInt y = Int32.ofInt (x / y) := by
  apply Int32.toInt_inj.mp
  rw [pm_i32_to (pm_idiv_r hx h0 h1), Int32.toInt_div_of_ne_left _ _ (fun q => by rw [← Int32.toInt_inj, pm_i32_to hx] at q; have : (Int32.minValue).toInt = -2147483648 := by decide
                                                                                  omega), pm_i32_to hx, pm_i32_to hy, Int.tdiv_eq_ediv_of_nonneg h0]
theorem pm_i32_irem {x y : Int} (hx : pm_r x) (hy : pm_r y) (h0 : 0 ≤ x) (h1 : 0 < y) : Int32.ofInt x - Int32.ofInt x / Int32.ofInt y * Int32.ofInt y = Int32.ofInt (x % y) := by
  rw [pm_i32_idiv hx hy h0 h1, pm_i32_mul, pm_i32_sub]
  congr 1
  have := Int.emod_def x y
  rw [this, Int.mul_comm]
theorem pm_i2l {x : Int} (h : pm_r x) : (Int32.ofInt x).toInt64 = Int64.ofInt x := by
  apply Int64.toInt_inj.mp
  rw [Int32.toInt_toInt64, pm_i32_to h, Int64.toInt_ofInt_of_le (by have := h.1; omega) (by have := h.2; show x < 9223372036854775808; omega)]
theorem pm_lcmp_r (x y : Int) : pm_r (pm_lcmp x y) := by
  unfold pm_lcmp pm_r
  split
  · omega
  · split <;> omega
theorem pm_i64_to {x : Int} (h : -9223372036854775808 ≤ x ∧ x ≤ 9223372036854775807) : (Int64.ofInt x).toInt = x := Int64.toInt_ofInt_of_le h.1 (by have := h.2; show x < 9223372036854775808; omega)
theorem pm_lcmp_eq {x y : Int} (hx : -9223372036854775808 ≤ x ∧ x ≤ 9223372036854775807) (hy : -9223372036854775808 ≤ y ∧ y ≤ 9223372036854775807) : Int32.ofInt (pm_lcmp x y) = lg_cmp (Int64.ofInt x) (Int64.ofInt y) := by
  have h1 : Int64.ofInt x < Int64.ofInt y ↔ x < y := by rw [Int64.lt_iff_toInt_lt, pm_i64_to hx, pm_i64_to hy]
  have h2 : Int64.ofInt x = Int64.ofInt y ↔ x = y := by rw [← Int64.toInt_inj, pm_i64_to hx, pm_i64_to hy]
  have h3 : Int64.ofInt y < Int64.ofInt x ↔ y < x := by rw [Int64.lt_iff_toInt_lt, pm_i64_to hx, pm_i64_to hy]
  unfold pm_lcmp lg_cmp
  simp only [gt_iff_lt, h2, h3]
  by_cases a : x < y
  · rw [if_pos a, if_neg (by omega), if_neg (by omega)]; decide
  · rw [if_neg a]
    by_cases b : x = y
    · rw [if_pos b, if_neg (by omega), if_pos b]; decide
    · rw [if_neg b, if_pos (by omega)]; decide
section SND
variable {p : Program} {l : Launch} {e : Env} {R : Room} {s : State} {m : MethodId} {args : Array Value} {below : List Frame} {meth : Method} {c : Code} {Q : State → Prop}
variable {D : va_G} {AC : Nat → ClassId} {A : Nat → Prop} {cc : ByteArray} {nL : Nat} {fl : Bool} {M0 : Nat → Nat → Int} {bs : Nat × (Nat → Nat) × (Nat → Nat)} {pcs : List Nat}
variable {pc : Nat} {L : List (Option pm_V)} {st : List pm_V} {me : pm_Me} {c0 t0 : Nat}

theorem pm_a_iconst (hx : p.tables.exec = Jvm.exec) (hb : c.code = cc) {n : Int} (hd : decode cc pc = .ok (.iconst n, 1)) (hr : pm_r n) (k : pm_W p l e R s m args below meth c Q D AC A nL fl M0 bs pcs (pc + 1, L, .inl n :: st, me, c0, t0)) (hp : pc + 1 ∈ pcs) : pm_W p l e R s m args below meth c Q D AC A nL fl M0 bs pcs (pc, L, st, me, c0, t0) := by
  intro _ hlc hlt ad H locs ls h
  obtain ⟨hP, hD, hI, hS, hl, hL, hst, hM, hb0⟩ := id h
  exact lv_iconst hx hb hd rfl (k hp hlc hlt ad H locs ls ⟨hP, hD, hI, hS, hl, hL, pm_ok_cons hr hst, hM, hb0⟩)
theorem pm_a_bipush (hx : p.tables.exec = Jvm.exec) (hb : c.code = cc) {n : Int} (hd : decode cc pc = .ok (.bipush n, 2)) (hv : (Int8.ofInt n).toInt32 = Int32.ofInt n) (hr : pm_r n) (k : pm_W p l e R s m args below meth c Q D AC A nL fl M0 bs pcs (pc + 2, L, .inl n :: st, me, c0, t0)) (hp : pc + 2 ∈ pcs) : pm_W p l e R s m args below meth c Q D AC A nL fl M0 bs pcs (pc, L, st, me, c0, t0) := by
  intro _ hlc hlt ad H locs ls h
  obtain ⟨hP, hD, hI, hS, hl, hL, hst, hM, hb0⟩ := id h
  exact lv_bipush hx hb hd hv (k hp hlc hlt ad H locs ls ⟨hP, hD, hI, hS, hl, hL, pm_ok_cons hr hst, hM, hb0⟩)
theorem pm_a_sipush (hx : p.tables.exec = Jvm.exec) (hb : c.code = cc) {n : Int} (hd : decode cc pc = .ok (.sipush n, 3)) (hv : (Int16.ofInt n).toInt32 = Int32.ofInt n) (hr : pm_r n) (k : pm_W p l e R s m args below meth c Q D AC A nL fl M0 bs pcs (pc + 3, L, .inl n :: st, me, c0, t0)) (hp : pc + 3 ∈ pcs) : pm_W p l e R s m args below meth c Q D AC A nL fl M0 bs pcs (pc, L, st, me, c0, t0) := by
  intro _ hlc hlt ad H locs ls h
  obtain ⟨hP, hD, hI, hS, hl, hL, hst, hM, hb0⟩ := id h
  exact lv_sipush hx hb hd hv (k hp hlc hlt ad H locs ls ⟨hP, hD, hI, hS, hl, hL, pm_ok_cons hr hst, hM, hb0⟩)
theorem pm_a_lconst (hx : p.tables.exec = Jvm.exec) (hb : c.code = cc) {n : Fin 2} (hd : decode cc pc = .ok (.lconst n, 1)) (k : pm_W p l e R s m args below meth c Q D AC A nL fl M0 bs pcs (pc + 1, L, .inr (.inr (.inl (n.val : Int))) :: st, me, c0, t0)) (hp : pc + 1 ∈ pcs) : pm_W p l e R s m args below meth c Q D AC A nL fl M0 bs pcs (pc, L, st, me, c0, t0) := by
  intro _ hlc hlt ad H locs ls h
  obtain ⟨hP, hD, hI, hS, hl, hL, hst, hM, hb0⟩ := id h
  have hn := n.isLt
  exact lv_lconst hx hb hd (by show Int64.ofNat n.val = Int64.ofInt (n.val : Int); rw [Int64.ofInt_eq_ofNat]) (k hp hlc hlt ad H locs ls ⟨hP, hD, hI, hS, hl, hL, pm_ok_cons (show pm_ok fl me.1 (.inr (.inr (.inl (n.val : Int)))) from ⟨by omega, by omega⟩) hst, hM, hb0⟩)
theorem pm_a_fconst (hx : p.tables.exec = Jvm.exec) (hb : c.code = cc) (hd : decode cc pc = .ok (.fconst 0, 1)) (k : pm_W p l e R s m args below meth c Q D AC A nL fl M0 bs pcs (pc + 1, L, .inr (.inr (.inr (.inl 0))) :: st, me, c0, t0)) (hp : pc + 1 ∈ pcs) : pm_W p l e R s m args below meth c Q D AC A nL fl M0 bs pcs (pc, L, st, me, c0, t0) := by
  intro _ hlc hlt ad H locs ls h
  obtain ⟨hP, hD, hI, hS, hl, hL, hst, hM, hb0⟩ := id h
  exact lv_fconst0 hx hb hd (k hp hlc hlt ad H locs ls ⟨hP, hD, hI, hS, hl, hL, pm_ok_cons (v := .inr (.inr (.inr (.inl 0)))) trivial hst, hM, hb0⟩)
theorem pm_a_dconst0 (hx : p.tables.exec = Jvm.exec) (hb : c.code = cc) (hd : decode cc pc = .ok (.dconst 0, 1)) (k : pm_W p l e R s m args below meth c Q D AC A nL fl M0 bs pcs (pc + 1, L, .inr (.inr (.inr (.inr 0))) :: st, me, c0, t0)) (hp : pc + 1 ∈ pcs) : pm_W p l e R s m args below meth c Q D AC A nL fl M0 bs pcs (pc, L, st, me, c0, t0) := by
  intro _ hlc hlt ad H locs ls h
  obtain ⟨hP, hD, hI, hS, hl, hL, hst, hM, hb0⟩ := id h
  exact lv_dconst0 hx hb hd (k hp hlc hlt ad H locs ls ⟨hP, hD, hI, hS, hl, hL, pm_ok_cons (v := .inr (.inr (.inr (.inr 0)))) trivial hst, hM, hb0⟩)
theorem pm_a_dconst1 (hx : p.tables.exec = Jvm.exec) (hb : c.code = cc) (hd : decode cc pc = .ok (.dconst 1, 1)) (k : pm_W p l e R s m args below meth c Q D AC A nL fl M0 bs pcs (pc + 1, L, .inr (.inr (.inr (.inr 0x3ff0000000000000))) :: st, me, c0, t0)) (hp : pc + 1 ∈ pcs) : pm_W p l e R s m args below meth c Q D AC A nL fl M0 bs pcs (pc, L, st, me, c0, t0) := by
  intro _ hlc hlt ad H locs ls h
  obtain ⟨hP, hD, hI, hS, hl, hL, hst, hM, hb0⟩ := id h
  exact lv_dconst1 hx hb hd (k hp hlc hlt ad H locs ls ⟨hP, hD, hI, hS, hl, hL, pm_ok_cons (v := .inr (.inr (.inr (.inr 0x3ff0000000000000)))) trivial hst, hM, hb0⟩)
theorem pm_a_ldc2 (hx : p.tables.exec = Jvm.exec) (hb : c.code = cc) {own : String} {index : Nat} {v : UInt64} (hown : s.vm.findClass own = some m.cls) (hc : (Jvm.Cond.constantDouble own index v).before args s = true) (hd : decode cc pc = .ok (.ldc2_w index, 3)) (k : pm_W p l e R s m args below meth c Q D AC A nL fl M0 bs pcs (pc + 3, L, .inr (.inr (.inr (.inr v))) :: st, me, c0, t0)) (hp : pc + 3 ∈ pcs) : pm_W p l e R s m args below meth c Q D AC A nL fl M0 bs pcs (pc, L, st, me, c0, t0) := by
  intro _ hlc hlt ad H locs ls h
  obtain ⟨hP, hD, hI, hS, hl, hL, hst, hM, hb0⟩ := id h
  exact lv_ldc2d hx hb hown hc hd (k hp hlc hlt ad H locs ls ⟨hP, hD, hI, hS, hl, hL, pm_ok_cons (v := .inr (.inr (.inr (.inr v)))) trivial hst, hM, hb0⟩)
theorem pm_a_iload (hx : p.tables.exec = Jvm.exec) (hb : c.code = cc) {n : Nat} {x : Int} (hd : decode cc pc = .ok (.iload n, 2)) (hn : pm_ld L n = some (.inl x)) (k : pm_W p l e R s m args below meth c Q D AC A nL fl M0 bs pcs (pc + 2, L, .inl x :: st, me, c0, t0)) (hp : pc + 2 ∈ pcs) : pm_W p l e R s m args below meth c Q D AC A nL fl M0 bs pcs (pc, L, st, me, c0, t0) := by
  intro _ hlc hlt ad H locs ls h
  obtain ⟨hP, hD, hI, hS, hl, hL, hst, hM, hb0⟩ := id h
  exact lv_iload hx hb hd (pm_lv_at hl hn) (k hp hlc hlt ad H locs ls ⟨hP, hD, hI, hS, hl, hL, pm_ok_cons (hL n _ hn) hst, hM, hb0⟩)
theorem pm_a_iload_n (hx : p.tables.exec = Jvm.exec) (hb : c.code = cc) {n : Fin 4} {x : Int} (hd : decode cc pc = .ok (.iload_n n, 1)) (hn : pm_ld L n.val = some (.inl x)) (k : pm_W p l e R s m args below meth c Q D AC A nL fl M0 bs pcs (pc + 1, L, .inl x :: st, me, c0, t0)) (hp : pc + 1 ∈ pcs) : pm_W p l e R s m args below meth c Q D AC A nL fl M0 bs pcs (pc, L, st, me, c0, t0) := by
  intro _ hlc hlt ad H locs ls h
  obtain ⟨hP, hD, hI, hS, hl, hL, hst, hM, hb0⟩ := id h
  exact lv_iload_n hx hb hd rfl (pm_lv_at hl hn) (k hp hlc hlt ad H locs ls ⟨hP, hD, hI, hS, hl, hL, pm_ok_cons (hL n.val _ hn) hst, hM, hb0⟩)
theorem pm_a_aload (hx : p.tables.exec = Jvm.exec) (hb : c.code = cc) {n : Nat} {κ q : Nat} (hd : decode cc pc = .ok (.aload n, 2)) (hn : pm_ld L n = some (.inr (.inl (κ, q)))) (k : pm_W p l e R s m args below meth c Q D AC A nL fl M0 bs pcs (pc + 2, L, .inr (.inl (κ, q)) :: st, me, c0, t0)) (hp : pc + 2 ∈ pcs) : pm_W p l e R s m args below meth c Q D AC A nL fl M0 bs pcs (pc, L, st, me, c0, t0) := by
  intro _ hlc hlt ad H locs ls h
  obtain ⟨hP, hD, hI, hS, hl, hL, hst, hM, hb0⟩ := id h
  exact lv_aload hx hb hd (pm_lv_at hl hn) (k hp hlc hlt ad H locs ls ⟨hP, hD, hI, hS, hl, hL, pm_ok_cons (hL n _ hn) hst, hM, hb0⟩)
theorem pm_a_aload_n (hx : p.tables.exec = Jvm.exec) (hb : c.code = cc) {n : Fin 4} {κ q : Nat} (hd : decode cc pc = .ok (.aload_n n, 1)) (hn : pm_ld L n.val = some (.inr (.inl (κ, q)))) (k : pm_W p l e R s m args below meth c Q D AC A nL fl M0 bs pcs (pc + 1, L, .inr (.inl (κ, q)) :: st, me, c0, t0)) (hp : pc + 1 ∈ pcs) : pm_W p l e R s m args below meth c Q D AC A nL fl M0 bs pcs (pc, L, st, me, c0, t0) := by
  intro _ hlc hlt ad H locs ls h
  obtain ⟨hP, hD, hI, hS, hl, hL, hst, hM, hb0⟩ := id h
  exact lv_aload_n hx hb hd rfl (pm_lv_at hl hn) (k hp hlc hlt ad H locs ls ⟨hP, hD, hI, hS, hl, hL, pm_ok_cons (hL n.val _ hn) hst, hM, hb0⟩)
theorem pm_a_fload (hx : p.tables.exec = Jvm.exec) (hb : c.code = cc) {n : Nat} {x : UInt32} (hd : decode cc pc = .ok (.fload n, 2)) (hn : pm_ld L n = some (.inr (.inr (.inr (.inl x))))) (k : pm_W p l e R s m args below meth c Q D AC A nL fl M0 bs pcs (pc + 2, L, .inr (.inr (.inr (.inl x))) :: st, me, c0, t0)) (hp : pc + 2 ∈ pcs) : pm_W p l e R s m args below meth c Q D AC A nL fl M0 bs pcs (pc, L, st, me, c0, t0) := by
  intro _ hlc hlt ad H locs ls h
  obtain ⟨hP, hD, hI, hS, hl, hL, hst, hM, hb0⟩ := id h
  exact lv_fload hx hb hd (pm_lv_at hl hn) (k hp hlc hlt ad H locs ls ⟨hP, hD, hI, hS, hl, hL, pm_ok_cons (hL n _ hn) hst, hM, hb0⟩)
theorem pm_a_dload (hx : p.tables.exec = Jvm.exec) (hb : c.code = cc) {n : Nat} {x : UInt64} (hd : decode cc pc = .ok (.dload n, 2)) (hn : pm_ld L n = some (.inr (.inr (.inr (.inr x))))) (k : pm_W p l e R s m args below meth c Q D AC A nL fl M0 bs pcs (pc + 2, L, .inr (.inr (.inr (.inr x))) :: st, me, c0, t0)) (hp : pc + 2 ∈ pcs) : pm_W p l e R s m args below meth c Q D AC A nL fl M0 bs pcs (pc, L, st, me, c0, t0) := by
  intro _ hlc hlt ad H locs ls h
  obtain ⟨hP, hD, hI, hS, hl, hL, hst, hM, hb0⟩ := id h
  exact lv_dload hx hb hd (pm_lv_at hl hn) (k hp hlc hlt ad H locs ls ⟨hP, hD, hI, hS, hl, hL, pm_ok_cons (hL n _ hn) hst, hM, hb0⟩)
theorem pm_a_dload_n (hx : p.tables.exec = Jvm.exec) (hb : c.code = cc) {n : Fin 4} {x : UInt64} (hd : decode cc pc = .ok (.dload_n n, 1)) (hn : pm_ld L n.val = some (.inr (.inr (.inr (.inr x))))) (k : pm_W p l e R s m args below meth c Q D AC A nL fl M0 bs pcs (pc + 1, L, .inr (.inr (.inr (.inr x))) :: st, me, c0, t0)) (hp : pc + 1 ∈ pcs) : pm_W p l e R s m args below meth c Q D AC A nL fl M0 bs pcs (pc, L, st, me, c0, t0) := by
  intro _ hlc hlt ad H locs ls h
  obtain ⟨hP, hD, hI, hS, hl, hL, hst, hM, hb0⟩ := id h
  exact lv_dload_n hx hb hd rfl (pm_lv_at hl hn) (k hp hlc hlt ad H locs ls ⟨hP, hD, hI, hS, hl, hL, pm_ok_cons (hL n.val _ hn) hst, hM, hb0⟩)
theorem pm_a_istore (hx : p.tables.exec = Jvm.exec) (hb : c.code = cc) {n : Nat} {x : Int} (hd : decode cc pc = .ok (.istore n, 2)) (hn : n < nL) (k : pm_W p l e R s m args below meth c Q D AC A nL fl M0 bs pcs (pc + 2, pm_s1 L n (.inl x), st, me, c0, t0)) (hp : pc + 2 ∈ pcs) : pm_W p l e R s m args below meth c Q D AC A nL fl M0 bs pcs (pc, L, (.inl x :: st), me, c0, t0) := by
  intro _ hlc hlt ad H locs ls h
  obtain ⟨hP, hD, hI, hS, hl, hL, hst, hM, hb0⟩ := id h
  exact lv_istore hx hb hd hl hn rfl (fun ls' hl' => k hp hlc hlt ad H locs ls' ⟨hP, hD, hI, hS, pm_lv_s1 (v := .inl x) hl', pm_ok_s1 (pm_ok_hd hst) hL, pm_ok_tl hst, hM, hb0⟩)
theorem pm_a_istore_n (hx : p.tables.exec = Jvm.exec) (hb : c.code = cc) {n : Fin 4} {x : Int} (hd : decode cc pc = .ok (.istore_n n, 1)) (hn : n.val < nL) (k : pm_W p l e R s m args below meth c Q D AC A nL fl M0 bs pcs (pc + 1, pm_s1 L n.val (.inl x), st, me, c0, t0)) (hp : pc + 1 ∈ pcs) : pm_W p l e R s m args below meth c Q D AC A nL fl M0 bs pcs (pc, L, (.inl x :: st), me, c0, t0) := by
  intro _ hlc hlt ad H locs ls h
  obtain ⟨hP, hD, hI, hS, hl, hL, hst, hM, hb0⟩ := id h
  exact lv_istore_n hx hb hd rfl hl hn rfl (fun ls' hl' => k hp hlc hlt ad H locs ls' ⟨hP, hD, hI, hS, pm_lv_s1 (v := .inl x) hl', pm_ok_s1 (pm_ok_hd hst) hL, pm_ok_tl hst, hM, hb0⟩)
theorem pm_a_astore (hx : p.tables.exec = Jvm.exec) (hb : c.code = cc) {n : Nat} {κ q : Nat} (hd : decode cc pc = .ok (.astore n, 2)) (hn : n < nL) (k : pm_W p l e R s m args below meth c Q D AC A nL fl M0 bs pcs (pc + 2, pm_s1 L n (.inr (.inl (κ, q))), st, me, c0, t0)) (hp : pc + 2 ∈ pcs) : pm_W p l e R s m args below meth c Q D AC A nL fl M0 bs pcs (pc, L, (.inr (.inl (κ, q)) :: st), me, c0, t0) := by
  intro _ hlc hlt ad H locs ls h
  obtain ⟨hP, hD, hI, hS, hl, hL, hst, hM, hb0⟩ := id h
  exact lv_astore hx hb hd hl hn rfl (fun ls' hl' => k hp hlc hlt ad H locs ls' ⟨hP, hD, hI, hS, pm_lv_s1 (v := .inr (.inl (κ, q))) hl', pm_ok_s1 (pm_ok_hd hst) hL, pm_ok_tl hst, hM, hb0⟩)
theorem pm_a_astore_n (hx : p.tables.exec = Jvm.exec) (hb : c.code = cc) {n : Fin 4} {κ q : Nat} (hd : decode cc pc = .ok (.astore_n n, 1)) (hn : n.val < nL) (k : pm_W p l e R s m args below meth c Q D AC A nL fl M0 bs pcs (pc + 1, pm_s1 L n.val (.inr (.inl (κ, q))), st, me, c0, t0)) (hp : pc + 1 ∈ pcs) : pm_W p l e R s m args below meth c Q D AC A nL fl M0 bs pcs (pc, L, (.inr (.inl (κ, q)) :: st), me, c0, t0) := by
  intro _ hlc hlt ad H locs ls h
  obtain ⟨hP, hD, hI, hS, hl, hL, hst, hM, hb0⟩ := id h
  exact lv_astore_n hx hb hd rfl hl hn rfl (fun ls' hl' => k hp hlc hlt ad H locs ls' ⟨hP, hD, hI, hS, pm_lv_s1 (v := .inr (.inl (κ, q))) hl', pm_ok_s1 (pm_ok_hd hst) hL, pm_ok_tl hst, hM, hb0⟩)
theorem pm_a_fstore (hx : p.tables.exec = Jvm.exec) (hb : c.code = cc) {n : Nat} {x : UInt32} (hd : decode cc pc = .ok (.fstore n, 2)) (hn : n < nL) (k : pm_W p l e R s m args below meth c Q D AC A nL fl M0 bs pcs (pc + 2, pm_s1 L n (.inr (.inr (.inr (.inl x)))), st, me, c0, t0)) (hp : pc + 2 ∈ pcs) : pm_W p l e R s m args below meth c Q D AC A nL fl M0 bs pcs (pc, L, (.inr (.inr (.inr (.inl x))) :: st), me, c0, t0) := by
  intro _ hlc hlt ad H locs ls h
  obtain ⟨hP, hD, hI, hS, hl, hL, hst, hM, hb0⟩ := id h
  exact lv_fstore hx hb hd hl hn rfl (fun ls' hl' => k hp hlc hlt ad H locs ls' ⟨hP, hD, hI, hS, pm_lv_s1 (v := .inr (.inr (.inr (.inl x)))) hl', pm_ok_s1 (pm_ok_hd hst) hL, pm_ok_tl hst, hM, hb0⟩)
theorem pm_a_dstore (hx : p.tables.exec = Jvm.exec) (hb : c.code = cc) {n : Nat} {x : UInt64} (hd : decode cc pc = .ok (.dstore n, 2)) (hn : n + 1 < nL) (k : pm_W p l e R s m args below meth c Q D AC A nL fl M0 bs pcs (pc + 2, pm_s2 L n (.inr (.inr (.inr (.inr x)))), st, me, c0, t0)) (hp : pc + 2 ∈ pcs) : pm_W p l e R s m args below meth c Q D AC A nL fl M0 bs pcs (pc, L, (.inr (.inr (.inr (.inr x))) :: st), me, c0, t0) := by
  intro _ hlc hlt ad H locs ls h
  obtain ⟨hP, hD, hI, hS, hl, hL, hst, hM, hb0⟩ := id h
  exact lv_dstore hx hb hd hl hn rfl (fun ls' hl' => k hp hlc hlt ad H locs ls' ⟨hP, hD, hI, hS, pm_lv_s2 (v := .inr (.inr (.inr (.inr x)))) hl', pm_ok_s2 (pm_ok_hd hst) hL, pm_ok_tl hst, hM, hb0⟩)
theorem pm_a_dstore_n (hx : p.tables.exec = Jvm.exec) (hb : c.code = cc) {n : Fin 4} {x : UInt64} (hd : decode cc pc = .ok (.dstore_n n, 1)) (hn : n.val + 1 < nL) (k : pm_W p l e R s m args below meth c Q D AC A nL fl M0 bs pcs (pc + 1, pm_s2 L n.val (.inr (.inr (.inr (.inr x)))), st, me, c0, t0)) (hp : pc + 1 ∈ pcs) : pm_W p l e R s m args below meth c Q D AC A nL fl M0 bs pcs (pc, L, (.inr (.inr (.inr (.inr x))) :: st), me, c0, t0) := by
  intro _ hlc hlt ad H locs ls h
  obtain ⟨hP, hD, hI, hS, hl, hL, hst, hM, hb0⟩ := id h
  exact lv_dstore_n hx hb hd rfl hl hn rfl (fun ls' hl' => k hp hlc hlt ad H locs ls' ⟨hP, hD, hI, hS, pm_lv_s2 (v := .inr (.inr (.inr (.inr x)))) hl', pm_ok_s2 (pm_ok_hd hst) hL, pm_ok_tl hst, hM, hb0⟩)
theorem pm_a_iinc (hx : p.tables.exec = Jvm.exec) (hb : c.code = cc) {n : Nat} {z x : Int} (hd : decode cc pc = .ok (.iinc n z, 3)) (hn : n < nL) (hx1 : pm_ld L n = some (.inl x)) (hr : pm_r (x + z)) (k : pm_W p l e R s m args below meth c Q D AC A nL fl M0 bs pcs (pc + 3, pm_s1 L n (.inl (x + z)), st, me, c0, t0)) (hp : pc + 3 ∈ pcs) : pm_W p l e R s m args below meth c Q D AC A nL fl M0 bs pcs (pc, L, st, me, c0, t0) := by
  intro _ hlc hlt ad H locs ls h
  obtain ⟨hP, hD, hI, hS, hl, hL, hst, hM, hb0⟩ := id h
  obtain ⟨k0, hk0⟩ := List.getElem?_of_mem (pm_ll_mem (ad := ad) (q := (n, pm_val ad (.inl x))) (L := L) (i := 0) |>.mpr ⟨n, .inl x, hx1, by rw [Nat.zero_add]⟩)
  exact lv_iinc hx hb hd hl hk0 (pm_i32_add x z) hn rfl (fun ls' hl' => k hp hlc hlt ad H locs ls' ⟨hP, hD, hI, hS, pm_lv_s1 (v := .inl (x + z)) hl', pm_ok_s1 (v := .inl (x + z)) hr hL, hst, hM, hb0⟩)
theorem pm_a_iadd (hx : p.tables.exec = Jvm.exec) (hb : c.code = cc) {x y : Int} (hd : decode cc pc = .ok (.iadd, 1)) (hr : pm_r (x + y)) (k : pm_W p l e R s m args below meth c Q D AC A nL fl M0 bs pcs (pc + 1, L, .inl (x + y) :: st, me, c0, t0)) (hp : pc + 1 ∈ pcs) : pm_W p l e R s m args below meth c Q D AC A nL fl M0 bs pcs (pc, L, (.inl y :: .inl x :: st), me, c0, t0) := by
  intro _ hlc hlt ad H locs ls h
  obtain ⟨hP, hD, hI, hS, hl, hL, hst, hM, hb0⟩ := id h
  refine lv_iadd hx hb hd ?_
  rw [pm_i32_add]
  exact k hp hlc hlt ad H locs ls ⟨hP, hD, hI, hS, hl, hL, pm_ok_cons (v := .inl (x + y)) hr (pm_ok_tl (pm_ok_tl hst)), hM, hb0⟩
theorem pm_a_isub (hx : p.tables.exec = Jvm.exec) (hb : c.code = cc) {x y : Int} (hd : decode cc pc = .ok (.isub, 1)) (hr : pm_r (x - y)) (k : pm_W p l e R s m args below meth c Q D AC A nL fl M0 bs pcs (pc + 1, L, .inl (x - y) :: st, me, c0, t0)) (hp : pc + 1 ∈ pcs) : pm_W p l e R s m args below meth c Q D AC A nL fl M0 bs pcs (pc, L, (.inl y :: .inl x :: st), me, c0, t0) := by
  intro _ hlc hlt ad H locs ls h
  obtain ⟨hP, hD, hI, hS, hl, hL, hst, hM, hb0⟩ := id h
  refine lv_isub hx hb hd ?_
  rw [pm_i32_sub]
  exact k hp hlc hlt ad H locs ls ⟨hP, hD, hI, hS, hl, hL, pm_ok_cons (v := .inl (x - y)) hr (pm_ok_tl (pm_ok_tl hst)), hM, hb0⟩
theorem pm_a_imul (hx : p.tables.exec = Jvm.exec) (hb : c.code = cc) {x y : Int} (hd : decode cc pc = .ok (.imul, 1)) (hr : pm_r (x * y)) (k : pm_W p l e R s m args below meth c Q D AC A nL fl M0 bs pcs (pc + 1, L, .inl (x * y) :: st, me, c0, t0)) (hp : pc + 1 ∈ pcs) : pm_W p l e R s m args below meth c Q D AC A nL fl M0 bs pcs (pc, L, (.inl y :: .inl x :: st), me, c0, t0) := by
  intro _ hlc hlt ad H locs ls h
  obtain ⟨hP, hD, hI, hS, hl, hL, hst, hM, hb0⟩ := id h
  refine lv_imul hx hb hd ?_
  rw [pm_i32_mul]
  exact k hp hlc hlt ad H locs ls ⟨hP, hD, hI, hS, hl, hL, pm_ok_cons (v := .inl (x * y)) hr (pm_ok_tl (pm_ok_tl hst)), hM, hb0⟩
theorem pm_a_iand (hx : p.tables.exec = Jvm.exec) (hb : c.code = cc) {x y : Int} (hd : decode cc pc = .ok (.iand, 1)) (k : pm_W p l e R s m args below meth c Q D AC A nL fl M0 bs pcs (pc + 1, L, .inl (pm_and x y) :: st, me, c0, t0)) (hp : pc + 1 ∈ pcs) : pm_W p l e R s m args below meth c Q D AC A nL fl M0 bs pcs (pc, L, (.inl y :: .inl x :: st), me, c0, t0) := by
  intro _ hlc hlt ad H locs ls h
  obtain ⟨hP, hD, hI, hS, hl, hL, hst, hM, hb0⟩ := id h
  refine lv_iand hx hb hd ?_
  have k2 := k hp hlc hlt ad H locs ls ⟨hP, hD, hI, hS, hl, hL, pm_ok_cons (v := .inl (pm_and x y)) (pm_r_of _) (pm_ok_tl (pm_ok_tl hst)), hM, hb0⟩
  have e2 : pm_val ad (.inl (pm_and x y)) = .int _ := congrArg Value.int (pm_i32_of _)
  rw [List.map_cons, e2] at k2
  exact k2
theorem pm_a_ior (hx : p.tables.exec = Jvm.exec) (hb : c.code = cc) {x y : Int} (hd : decode cc pc = .ok (.ior, 1)) (k : pm_W p l e R s m args below meth c Q D AC A nL fl M0 bs pcs (pc + 1, L, .inl (pm_or x y) :: st, me, c0, t0)) (hp : pc + 1 ∈ pcs) : pm_W p l e R s m args below meth c Q D AC A nL fl M0 bs pcs (pc, L, (.inl y :: .inl x :: st), me, c0, t0) := by
  intro _ hlc hlt ad H locs ls h
  obtain ⟨hP, hD, hI, hS, hl, hL, hst, hM, hb0⟩ := id h
  refine lv_ior hx hb hd ?_
  have k2 := k hp hlc hlt ad H locs ls ⟨hP, hD, hI, hS, hl, hL, pm_ok_cons (v := .inl (pm_or x y)) (pm_r_of _) (pm_ok_tl (pm_ok_tl hst)), hM, hb0⟩
  have e2 : pm_val ad (.inl (pm_or x y)) = .int _ := congrArg Value.int (pm_i32_of _)
  rw [List.map_cons, e2] at k2
  exact k2
theorem pm_a_ixor (hx : p.tables.exec = Jvm.exec) (hb : c.code = cc) {x y : Int} (hd : decode cc pc = .ok (.ixor, 1)) (k : pm_W p l e R s m args below meth c Q D AC A nL fl M0 bs pcs (pc + 1, L, .inl (pm_xor x y) :: st, me, c0, t0)) (hp : pc + 1 ∈ pcs) : pm_W p l e R s m args below meth c Q D AC A nL fl M0 bs pcs (pc, L, (.inl y :: .inl x :: st), me, c0, t0) := by
  intro _ hlc hlt ad H locs ls h
  obtain ⟨hP, hD, hI, hS, hl, hL, hst, hM, hb0⟩ := id h
  refine lv_ixor hx hb hd ?_
  have k2 := k hp hlc hlt ad H locs ls ⟨hP, hD, hI, hS, hl, hL, pm_ok_cons (v := .inl (pm_xor x y)) (pm_r_of _) (pm_ok_tl (pm_ok_tl hst)), hM, hb0⟩
  have e2 : pm_val ad (.inl (pm_xor x y)) = .int _ := congrArg Value.int (pm_i32_of _)
  rw [List.map_cons, e2] at k2
  exact k2
theorem pm_a_ishl (hx : p.tables.exec = Jvm.exec) (hb : c.code = cc) {x y : Int} (hd : decode cc pc = .ok (.ishl, 1)) (k : pm_W p l e R s m args below meth c Q D AC A nL fl M0 bs pcs (pc + 1, L, .inl (pm_shl x y) :: st, me, c0, t0)) (hp : pc + 1 ∈ pcs) : pm_W p l e R s m args below meth c Q D AC A nL fl M0 bs pcs (pc, L, (.inl y :: .inl x :: st), me, c0, t0) := by
  intro _ hlc hlt ad H locs ls h
  obtain ⟨hP, hD, hI, hS, hl, hL, hst, hM, hb0⟩ := id h
  refine lv_ishl hx hb hd ?_
  have k2 := k hp hlc hlt ad H locs ls ⟨hP, hD, hI, hS, hl, hL, pm_ok_cons (v := .inl (pm_shl x y)) (pm_r_of _) (pm_ok_tl (pm_ok_tl hst)), hM, hb0⟩
  have e2 : pm_val ad (.inl (pm_shl x y)) = .int _ := congrArg Value.int (pm_i32_of _)
  rw [List.map_cons, e2] at k2
  exact k2
theorem pm_a_ishr (hx : p.tables.exec = Jvm.exec) (hb : c.code = cc) {x y : Int} (hd : decode cc pc = .ok (.ishr, 1)) (k : pm_W p l e R s m args below meth c Q D AC A nL fl M0 bs pcs (pc + 1, L, .inl (pm_shr x y) :: st, me, c0, t0)) (hp : pc + 1 ∈ pcs) : pm_W p l e R s m args below meth c Q D AC A nL fl M0 bs pcs (pc, L, (.inl y :: .inl x :: st), me, c0, t0) := by
  intro _ hlc hlt ad H locs ls h
  obtain ⟨hP, hD, hI, hS, hl, hL, hst, hM, hb0⟩ := id h
  refine lv_ishr hx hb hd ?_
  have k2 := k hp hlc hlt ad H locs ls ⟨hP, hD, hI, hS, hl, hL, pm_ok_cons (v := .inl (pm_shr x y)) (pm_r_of _) (pm_ok_tl (pm_ok_tl hst)), hM, hb0⟩
  have e2 : pm_val ad (.inl (pm_shr x y)) = .int _ := congrArg Value.int (pm_i32_of _)
  rw [List.map_cons, e2] at k2
  exact k2
theorem pm_a_idiv (hx : p.tables.exec = Jvm.exec) (hb : c.code = cc) {x y : Int} (hd : decode cc pc = .ok (.idiv, 1)) (h0 : 0 ≤ x) (h1 : 0 < y) (k : pm_W p l e R s m args below meth c Q D AC A nL fl M0 bs pcs (pc + 1, L, .inl (x / y) :: st, me, c0, t0)) (hp : pc + 1 ∈ pcs) : pm_W p l e R s m args below meth c Q D AC A nL fl M0 bs pcs (pc, L, (.inl y :: .inl x :: st), me, c0, t0) := by
  intro _ hlc hlt ad H locs ls h
  obtain ⟨hP, hD, hI, hS, hl, hL, hst, hM, hb0⟩ := id h
  have hy := pm_ok_hd hst
  have hxx := pm_ok_hd (pm_ok_tl hst)
  have hr : pm_r (x / y) := pm_idiv_r hxx h0 h1
  refine lv_idiv hx hb hd (fun q => ?_) ?_
  · rw [← pm_i32_0, pm_i32_eq hy pm_r0] at q; omega
  rw [pm_i32_idiv hxx hy h0 h1]
  exact k hp hlc hlt ad H locs ls ⟨hP, hD, hI, hS, hl, hL, pm_ok_cons (v := .inl (x / y)) hr (pm_ok_tl (pm_ok_tl hst)), hM, hb0⟩
theorem pm_a_irem (hx : p.tables.exec = Jvm.exec) (hb : c.code = cc) {x y : Int} (hd : decode cc pc = .ok (.irem, 1)) (h0 : 0 ≤ x) (h1 : 0 < y) (k : pm_W p l e R s m args below meth c Q D AC A nL fl M0 bs pcs (pc + 1, L, .inl (x % y) :: st, me, c0, t0)) (hp : pc + 1 ∈ pcs) : pm_W p l e R s m args below meth c Q D AC A nL fl M0 bs pcs (pc, L, (.inl y :: .inl x :: st), me, c0, t0) := by
  intro _ hlc hlt ad H locs ls h
  obtain ⟨hP, hD, hI, hS, hl, hL, hst, hM, hb0⟩ := id h
  have hy := pm_ok_hd hst
  have hxx := pm_ok_hd (pm_ok_tl hst)
  have hr : pm_r (x % y) := pm_irem_r hxx h0 h1
  refine lv_irem hx hb hd (fun q => ?_) ?_
  · rw [← pm_i32_0, pm_i32_eq hy pm_r0] at q; omega
  rw [pm_i32_irem hxx hy h0 h1]
  exact k hp hlc hlt ad H locs ls ⟨hP, hD, hI, hS, hl, hL, pm_ok_cons (v := .inl (x % y)) hr (pm_ok_tl (pm_ok_tl hst)), hM, hb0⟩
theorem pm_a_i2l (hx : p.tables.exec = Jvm.exec) (hb : c.code = cc) {x : Int} (hd : decode cc pc = .ok (.i2l, 1)) (k : pm_W p l e R s m args below meth c Q D AC A nL fl M0 bs pcs (pc + 1, L, .inr (.inr (.inl x)) :: st, me, c0, t0)) (hp : pc + 1 ∈ pcs) : pm_W p l e R s m args below meth c Q D AC A nL fl M0 bs pcs (pc, L, (.inl x :: st), me, c0, t0) := by
  intro _ hlc hlt ad H locs ls h
  obtain ⟨hP, hD, hI, hS, hl, hL, hst, hM, hb0⟩ := id h
  have hxx : pm_r x := pm_ok_hd hst
  exact lv_i2l hx hb hd (pm_i2l hxx) (k hp hlc hlt ad H locs ls ⟨hP, hD, hI, hS, hl, hL, pm_ok_cons (v := .inr (.inr (.inl x))) (show _ ∧ _ from ⟨by have := hxx.1; omega, by have := hxx.2; omega⟩) (pm_ok_tl hst), hM, hb0⟩)
theorem pm_a_i2f (hx : p.tables.exec = Jvm.exec) (hb : c.code = cc) {x : Int} (hd : decode cc pc = .ok (.i2f, 1)) (k : pm_W p l e R s m args below meth c Q D AC A nL fl M0 bs pcs (pc + 1, L, .inr (.inr (.inr (.inl (FP.i2f (Int32.ofInt x))))) :: st, me, c0, t0)) (hp : pc + 1 ∈ pcs) : pm_W p l e R s m args below meth c Q D AC A nL fl M0 bs pcs (pc, L, (.inl x :: st), me, c0, t0) := by
  intro _ hlc hlt ad H locs ls h
  obtain ⟨hP, hD, hI, hS, hl, hL, hst, hM, hb0⟩ := id h
  exact lv_i2f hx hb hd (k hp hlc hlt ad H locs ls ⟨hP, hD, hI, hS, hl, hL, pm_ok_cons (v := .inr (.inr (.inr (.inl _)))) trivial (pm_ok_tl hst), hM, hb0⟩)
theorem pm_a_i2d (hx : p.tables.exec = Jvm.exec) (hb : c.code = cc) {x : Int} (hd : decode cc pc = .ok (.i2d, 1)) (k : pm_W p l e R s m args below meth c Q D AC A nL fl M0 bs pcs (pc + 1, L, .inr (.inr (.inr (.inr (FP.i2d (Int32.ofInt x))))) :: st, me, c0, t0)) (hp : pc + 1 ∈ pcs) : pm_W p l e R s m args below meth c Q D AC A nL fl M0 bs pcs (pc, L, (.inl x :: st), me, c0, t0) := by
  intro _ hlc hlt ad H locs ls h
  obtain ⟨hP, hD, hI, hS, hl, hL, hst, hM, hb0⟩ := id h
  exact lv_i2d hx hb hd (k hp hlc hlt ad H locs ls ⟨hP, hD, hI, hS, hl, hL, pm_ok_cons (v := .inr (.inr (.inr (.inr _)))) trivial (pm_ok_tl hst), hM, hb0⟩)
theorem pm_a_f2d (hx : p.tables.exec = Jvm.exec) (hb : c.code = cc) {x : UInt32} (hd : decode cc pc = .ok (.f2d, 1)) (hne : vf_n64 (FP.f2d x)) (k : pm_W p l e R s m args below meth c Q D AC A nL fl M0 bs pcs (pc + 1, L, .inr (.inr (.inr (.inr (FP.f2d x)))) :: st, me, c0, t0)) (hp : pc + 1 ∈ pcs) : pm_W p l e R s m args below meth c Q D AC A nL fl M0 bs pcs (pc, L, (.inr (.inr (.inr (.inl x))) :: st), me, c0, t0) := by
  intro _ hlc hlt ad H locs ls h
  obtain ⟨hP, hD, hI, hS, hl, hL, hst, hM, hb0⟩ := id h
  exact lv_f2d hx hb hd hne (k hp hlc hlt ad H locs ls ⟨hP, hD, hI, hS, hl, hL, pm_ok_cons (v := .inr (.inr (.inr (.inr _)))) trivial (pm_ok_tl hst), hM, hb0⟩)
theorem pm_a_fdiv (hx : p.tables.exec = Jvm.exec) (hb : c.code = cc) {x y : UInt32} (hd : decode cc pc = .ok (.fdiv, 1)) (hne : vf_n32 (FP.fdiv x y)) (k : pm_W p l e R s m args below meth c Q D AC A nL fl M0 bs pcs (pc + 1, L, .inr (.inr (.inr (.inl (FP.fdiv x y)))) :: st, me, c0, t0)) (hp : pc + 1 ∈ pcs) : pm_W p l e R s m args below meth c Q D AC A nL fl M0 bs pcs (pc, L, (.inr (.inr (.inr (.inl y))) :: .inr (.inr (.inr (.inl x))) :: st), me, c0, t0) := by
  intro _ hlc hlt ad H locs ls h
  obtain ⟨hP, hD, hI, hS, hl, hL, hst, hM, hb0⟩ := id h
  exact lv_fdiv hx hb hd hne (k hp hlc hlt ad H locs ls ⟨hP, hD, hI, hS, hl, hL, pm_ok_cons (v := .inr (.inr (.inr (.inl _)))) trivial (pm_ok_tl (pm_ok_tl hst)), hM, hb0⟩)
theorem pm_a_ddiv (hx : p.tables.exec = Jvm.exec) (hb : c.code = cc) {x y : UInt64} (hd : decode cc pc = .ok (.ddiv, 1)) (hne : vf_n64 (FP.ddiv x y)) (k : pm_W p l e R s m args below meth c Q D AC A nL fl M0 bs pcs (pc + 1, L, .inr (.inr (.inr (.inr (FP.ddiv x y)))) :: st, me, c0, t0)) (hp : pc + 1 ∈ pcs) : pm_W p l e R s m args below meth c Q D AC A nL fl M0 bs pcs (pc, L, (.inr (.inr (.inr (.inr y))) :: .inr (.inr (.inr (.inr x))) :: st), me, c0, t0) := by
  intro _ hlc hlt ad H locs ls h
  obtain ⟨hP, hD, hI, hS, hl, hL, hst, hM, hb0⟩ := id h
  exact lv_ddiv hx hb hd hne (k hp hlc hlt ad H locs ls ⟨hP, hD, hI, hS, hl, hL, pm_ok_cons (v := .inr (.inr (.inr (.inr _)))) trivial (pm_ok_tl (pm_ok_tl hst)), hM, hb0⟩)
theorem pm_a_dmul (hx : p.tables.exec = Jvm.exec) (hb : c.code = cc) {x y : UInt64} (hd : decode cc pc = .ok (.dmul, 1)) (hne : vf_n64 (FP.dmul x y)) (k : pm_W p l e R s m args below meth c Q D AC A nL fl M0 bs pcs (pc + 1, L, .inr (.inr (.inr (.inr (FP.dmul x y)))) :: st, me, c0, t0)) (hp : pc + 1 ∈ pcs) : pm_W p l e R s m args below meth c Q D AC A nL fl M0 bs pcs (pc, L, (.inr (.inr (.inr (.inr y))) :: .inr (.inr (.inr (.inr x))) :: st), me, c0, t0) := by
  intro _ hlc hlt ad H locs ls h
  obtain ⟨hP, hD, hI, hS, hl, hL, hst, hM, hb0⟩ := id h
  exact lv_dmul hx hb hd hne (k hp hlc hlt ad H locs ls ⟨hP, hD, hI, hS, hl, hL, pm_ok_cons (v := .inr (.inr (.inr (.inr _)))) trivial (pm_ok_tl (pm_ok_tl hst)), hM, hb0⟩)
theorem pm_a_dadd (hx : p.tables.exec = Jvm.exec) (hb : c.code = cc) {x y : UInt64} (hd : decode cc pc = .ok (.dadd, 1)) (hne : vf_n64 (FP.dadd x y)) (k : pm_W p l e R s m args below meth c Q D AC A nL fl M0 bs pcs (pc + 1, L, .inr (.inr (.inr (.inr (FP.dadd x y)))) :: st, me, c0, t0)) (hp : pc + 1 ∈ pcs) : pm_W p l e R s m args below meth c Q D AC A nL fl M0 bs pcs (pc, L, (.inr (.inr (.inr (.inr y))) :: .inr (.inr (.inr (.inr x))) :: st), me, c0, t0) := by
  intro _ hlc hlt ad H locs ls h
  obtain ⟨hP, hD, hI, hS, hl, hL, hst, hM, hb0⟩ := id h
  exact lv_dadd hx hb hd hne (k hp hlc hlt ad H locs ls ⟨hP, hD, hI, hS, hl, hL, pm_ok_cons (v := .inr (.inr (.inr (.inr _)))) trivial (pm_ok_tl (pm_ok_tl hst)), hM, hb0⟩)
theorem pm_a_lcmp (hx : p.tables.exec = Jvm.exec) (hb : c.code = cc) {x y : Int} (hd : decode cc pc = .ok (.lcmp, 1)) (k : pm_W p l e R s m args below meth c Q D AC A nL fl M0 bs pcs (pc + 1, L, .inl (pm_lcmp x y) :: st, me, c0, t0)) (hp : pc + 1 ∈ pcs) : pm_W p l e R s m args below meth c Q D AC A nL fl M0 bs pcs (pc, L, (.inr (.inr (.inl y)) :: .inr (.inr (.inl x)) :: st), me, c0, t0) := by
  intro _ hlc hlt ad H locs ls h
  obtain ⟨hP, hD, hI, hS, hl, hL, hst, hM, hb0⟩ := id h
  have hy := pm_ok_hd hst
  have hxx := pm_ok_hd (pm_ok_tl hst)
  refine W.lcmp hx hb hd ?_
  have k2 := k hp hlc hlt ad H locs ls ⟨hP, hD, hI, hS, hl, hL, pm_ok_cons (v := .inl (pm_lcmp x y)) (pm_lcmp_r x y) (pm_ok_tl (pm_ok_tl hst)), hM, hb0⟩
  have e2 : pm_val ad (.inl (pm_lcmp x y)) = .int (lg_cmp (Int64.ofInt x) (Int64.ofInt y)) := congrArg Value.int (pm_lcmp_eq hxx hy)
  rw [List.map_cons, e2] at k2
  exact k2
theorem pm_a_dcmp (hx : p.tables.exec = Jvm.exec) (hb : c.code = cc) {x y : UInt64} {o : CmpOp} (hd : decode cc pc = .ok (.dcmp o, 1)) (k : pm_W p l e R s m args below meth c Q D AC A nL fl M0 bs pcs (pc + 1, L, .inl (Op.cmpValue (FP.dcmp x y) o).toInt :: st, me, c0, t0)) (hp : pc + 1 ∈ pcs) : pm_W p l e R s m args below meth c Q D AC A nL fl M0 bs pcs (pc, L, (.inr (.inr (.inr (.inr y))) :: .inr (.inr (.inr (.inr x))) :: st), me, c0, t0) := by
  intro _ hlc hlt ad H locs ls h
  obtain ⟨hP, hD, hI, hS, hl, hL, hst, hM, hb0⟩ := id h
  refine lv_dcmp hx hb hd ?_
  have k2 := k hp hlc hlt ad H locs ls ⟨hP, hD, hI, hS, hl, hL, pm_ok_cons (v := .inl (Op.cmpValue (FP.dcmp x y) o).toInt) (pm_r_of _) (pm_ok_tl (pm_ok_tl hst)), hM, hb0⟩
  have e2 : pm_val ad (.inl (Op.cmpValue (FP.dcmp x y) o).toInt) = .int _ := congrArg Value.int (pm_i32_of _)
  rw [List.map_cons, e2] at k2
  exact k2
theorem pm_a_fcmp (hx : p.tables.exec = Jvm.exec) (hb : c.code = cc) {x y : UInt32} {o : CmpOp} (hd : decode cc pc = .ok (.fcmp o, 1)) (k : pm_W p l e R s m args below meth c Q D AC A nL fl M0 bs pcs (pc + 1, L, .inl (Op.cmpValue (FP.fcmp x y) o).toInt :: st, me, c0, t0)) (hp : pc + 1 ∈ pcs) : pm_W p l e R s m args below meth c Q D AC A nL fl M0 bs pcs (pc, L, (.inr (.inr (.inr (.inl y))) :: .inr (.inr (.inr (.inl x))) :: st), me, c0, t0) := by
  intro _ hlc hlt ad H locs ls h
  obtain ⟨hP, hD, hI, hS, hl, hL, hst, hM, hb0⟩ := id h
  refine lv_fcmp hx hb hd ?_
  have k2 := k hp hlc hlt ad H locs ls ⟨hP, hD, hI, hS, hl, hL, pm_ok_cons (v := .inl (Op.cmpValue (FP.fcmp x y) o).toInt) (pm_r_of _) (pm_ok_tl (pm_ok_tl hst)), hM, hb0⟩
  have e2 : pm_val ad (.inl (Op.cmpValue (FP.fcmp x y) o).toInt) = .int _ := congrArg Value.int (pm_i32_of _)
  rw [List.map_cons, e2] at k2
  exact k2
theorem pm_a_dup (hx : p.tables.exec = Jvm.exec) (hb : c.code = cc) {v : pm_V} (hd : decode cc pc = .ok (.dup, 1)) (hv : pm_c2 v = false) (k : pm_W p l e R s m args below meth c Q D AC A nL fl M0 bs pcs (pc + 1, L, v :: v :: st, me, c0, t0)) (hp : pc + 1 ∈ pcs) : pm_W p l e R s m args below meth c Q D AC A nL fl M0 bs pcs (pc, L, (v :: st), me, c0, t0) := by
  intro _ hlc hlt ad H locs ls h
  obtain ⟨hP, hD, hI, hS, hl, hL, hst, hM, hb0⟩ := id h
  exact lv_dup hx hb hd ((pm_cat v).2.mpr hv) (k hp hlc hlt ad H locs ls ⟨hP, hD, hI, hS, hl, hL, pm_ok_cons (pm_ok_hd hst) hst, hM, hb0⟩)
theorem pm_a_dup2 (hx : p.tables.exec = Jvm.exec) (hb : c.code = cc) {v w : pm_V} (hd : decode cc pc = .ok (.dup2, 1)) (hv : pm_c2 v = false) (hw : pm_c2 w = false) (k : pm_W p l e R s m args below meth c Q D AC A nL fl M0 bs pcs (pc + 1, L, v :: w :: v :: w :: st, me, c0, t0)) (hp : pc + 1 ∈ pcs) : pm_W p l e R s m args below meth c Q D AC A nL fl M0 bs pcs (pc, L, (v :: w :: st), me, c0, t0) := by
  intro _ hlc hlt ad H locs ls h
  obtain ⟨hP, hD, hI, hS, hl, hL, hst, hM, hb0⟩ := id h
  exact lv_dup2_11 hx hb hd ((pm_cat v).2.mpr hv) ((pm_cat w).2.mpr hw) (k hp hlc hlt ad H locs ls ⟨hP, hD, hI, hS, hl, hL, pm_ok_cons (pm_ok_hd hst) (pm_ok_cons (pm_ok_hd (pm_ok_tl hst)) hst), hM, hb0⟩)
theorem pm_a_pop (hx : p.tables.exec = Jvm.exec) (hb : c.code = cc) {v : pm_V} (hd : decode cc pc = .ok (.pop, 1)) (hv : pm_c2 v = false) (k : pm_W p l e R s m args below meth c Q D AC A nL fl M0 bs pcs (pc + 1, L, st, me, c0, t0)) (hp : pc + 1 ∈ pcs) : pm_W p l e R s m args below meth c Q D AC A nL fl M0 bs pcs (pc, L, (v :: st), me, c0, t0) := by
  intro _ hlc hlt ad H locs ls h
  obtain ⟨hP, hD, hI, hS, hl, hL, hst, hM, hb0⟩ := id h
  exact lv_pop hx hb hd ((pm_cat v).2.mpr hv) (k hp hlc hlt ad H locs ls ⟨hP, hD, hI, hS, hl, hL, pm_ok_tl hst, hM, hb0⟩)
theorem pm_a_goto (hx : p.tables.exec = Jvm.exec) (hb : c.code = cc) {off : Int} {a : Nat} (hd : decode cc pc = .ok (.goto off, 3)) (ht : (pc : Int) + off = (a : Int)) (k : pm_W p l e R s m args below meth c Q D AC A nL fl M0 bs pcs (a, L, st, me, c0, t0)) (hp : a ∈ pcs) : pm_W p l e R s m args below meth c Q D AC A nL fl M0 bs pcs (pc, L, st, me, c0, t0) := by
  intro _ hlc hlt ad H locs ls h
  obtain ⟨hP, hD, hI, hS, hl, hL, hst, hM, hb0⟩ := id h
  exact lv_goto hx hb hd ht (k hp hlc hlt ad H locs ls h)
end SND

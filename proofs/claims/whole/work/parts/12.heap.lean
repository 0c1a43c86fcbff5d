/-! BRANCHES, FIELDS, ARRAYS, NEW THINGS (laid by wip/whole/gen_heap.py) -/
theorem pm_lt10 {P : Nat → Prop} (h0 : P 0) (h1 : P 1) (h2 : P 2) (h3 : P 3) (h4 : P 4) (h5 : P 5) (h6 : P 6) (h7 : P 7) (h8 : P 8) (h9 : P 9) : ∀ a, a < 10 → P a
  | 0, _ => h0 | 1, _ => h1 | 2, _ => h2 | 3, _ => h3 | 4, _ => h4 | 5, _ => h5 | 6, _ => h6 | 7, _ => h7 | 8, _ => h8 | 9, _ => h9
  | a + 10, h => absurd h (by omega)
theorem pm_C_at : ∀ a, a < 10 → pm_cl[a]? = some ((pm_C a).1, (pm_C a).2.1, (pm_C a).2.2) := pm_lt10 rfl rfl rfl rfl rfl rfl rfl rfl rfl rfl
theorem pm_C_n : ∀ a, a < 10 → (pm_C a).2.2 = pm_nf a := pm_lt10 rfl rfl rfl rfl rfl rfl rfl rfl rfl rfl
theorem pm_C_ty : ∀ a, a < 10 → ∀ k, k < (pm_C a).2.2 → parseFieldDescriptor ((pm_C a).2.1 k).2.2.1 = some (pm_ft a k) := pm_lt10 tyX0_ok tyX1_ok tyX2_ok tyX3_ok tyX4_ok tyX5_ok tyX6_ok tyX7_ok tyX8_ok tyX9_ok
theorem pm_C_nm : ∀ a, a < 10 → ∀ x, x < (pm_C a).2.2 → ∀ y, y < (pm_C a).2.2 → x ≠ y → ((pm_C a).2.1 x).2.1 ≠ ((pm_C a).2.1 y).2.1 := pm_lt10 nmX0 nmX1 nmX2 nmX3 nmX4 nmX5 nmX6 nmX7 nmX8 nmX9
def pm_isR (t : FieldType) : Bool := match t with
  | .object _ => true
  | .array _ => true
  | _ => false
theorem pm_C_fk : ∀ a, a < 10 → ∀ k, k < pm_nf a → (pm_fk a k = 0 → pm_ft a k = .int ∨ pm_ft a k = .boolean) ∧ (pm_fk a k ≠ 0 → pm_isR (pm_ft a k) = true) := by decide +kernel
theorem pm_fits_r {t : FieldType} {q : Nat} (h : pm_isR t = true) : narrow t (.ref q) = .ref q ∧ fits t (.ref q) = true ∧ defaultValue t = .null := by
  cases t <;> first | exact ⟨rfl, rfl, rfl⟩ | cases h
theorem pm_narrow_z {x : Int} (h : x = 0 ∨ x = 1) : narrow .boolean (.int (Int32.ofInt x)) = .int (Int32.ofInt x) ∧ fits .boolean (.int (Int32.ofInt x)) = true ∧ vp_nar .boolean (Int32.ofInt x) = Int32.ofInt x := by
  rcases h with rfl | rfl <;> exact ⟨by decide +kernel, by decide +kernel, by decide +kernel⟩
theorem pm_e_o {AC : Nat → ClassId} {ad : Nat → Nat} {κ k : Nat} {ini : Nat → Bool} {f : Nat → Int} (h : κ < 10) : pm_e AC ad κ k ini f = .inr (κ, (List.range (pm_nf κ)).map (pm_fv ad κ k ini f)) := by
  unfold pm_e
  rw [if_pos (by omega)]
theorem pm_e_i {AC : Nat → ClassId} {ad : Nat → Nat} {κ k : Nat} {ini : Nat → Bool} {f : Nat → Int} (h : 1000 ≤ κ) (h2 : κ ≤ 1999) : pm_e AC ad κ k ini f = .inl (AC 1, κ - 1000, .inl (fun j => Int32.ofInt (f j))) := by
  unfold pm_e
  rw [if_neg (by omega), if_pos (by omega)]
theorem pm_e_b {AC : Nat → ClassId} {ad : Nat → Nat} {κ k : Nat} {ini : Nat → Bool} {f : Nat → Int} (h : 2000 ≤ κ) (h2 : κ ≤ 2999) : pm_e AC ad κ k ini f = .inl (AC 2, κ - 2000, .inl (fun j => Int32.ofInt (f j))) := by
  unfold pm_e
  rw [if_neg (by omega), if_neg (by omega), if_pos (by omega)]
theorem pm_e_l {AC : Nat → ClassId} {ad : Nat → Nat} {κ k : Nat} {ini : Nat → Bool} {f : Nat → Int} (h : 3000 ≤ κ) (h2 : κ ≤ 3999) : pm_e AC ad κ k ini f = .inl (AC 3, κ - 3000, .inr (.inl (fun j => Int64.ofInt (f j)))) := by
  unfold pm_e
  rw [if_neg (by omega), if_neg (by omega), if_neg (by omega), if_pos (by omega)]
theorem pm_e_d {AC : Nat → ClassId} {ad : Nat → Nat} {κ k : Nat} {ini : Nat → Bool} {f : Nat → Int} (h : 4000 ≤ κ) (h2 : κ ≤ 4999) : pm_e AC ad κ k ini f = .inl (AC 4, κ - 4000, .inr (.inr (.inr (.inl (fun j => UInt64.ofNat (f j).toNat))))) := by
  unfold pm_e
  rw [if_neg (by omega), if_neg (by omega), if_neg (by omega), if_neg (by omega), if_pos (by omega)]
theorem pm_e_a {AC : Nat → ClassId} {ad : Nat → Nat} {κ k : Nat} {ini : Nat → Bool} {f : Nat → Int} (h : 5000 ≤ κ) : pm_e AC ad κ k ini f = .inl (AC 5, κ - 5000, .inr (.inr (.inr (.inr (pm_qv ad κ k ini))))) := by
  unfold pm_e
  rw [if_neg (by omega), if_neg (by omega), if_neg (by omega), if_neg (by omega), if_neg (by omega)]
/-- a number is stored -/
theorem pm_inv_up {me : pm_Me} (hI : pm_inv me) {q j : Nat} {x : Int} (h1 : me.1.2.1 q < 3000 → pm_r x) (h2 : 3000 ≤ me.1.2.1 q → me.1.2.1 q < 4000 → -9223372036854775808 ≤ x ∧ x ≤ 9223372036854775807) : pm_inv (me.1, pm_up me.2 q j x) := by
  refine ⟨hI.1, fun k hk => ?_⟩
  obtain ⟨i1, i2, i3, i4, i5⟩ := hI.2 k hk
  refine ⟨i1, fun h z => ?_, fun h h' z => ?_, i4, i5⟩
  · show pm_r (if k = q ∧ z = j then x else me.2 k z)
    split
    · rename_i hh
      exact h1 (by rw [← hh.1]; exact h)
    · exact i2 h z
  · show _ ≤ (if k = q ∧ z = j then x else me.2 k z) ∧ (if k = q ∧ z = j then x else me.2 k z) ≤ _
    split
    · rename_i hh
      exact h2 (by rw [← hh.1]; exact h) (by rw [← hh.1]; exact h')
    · exact i3 h h' z
theorem pm_up_ge {M M0 : Nat → Nat → Int} {q j : Nat} {x : Int} (hM : ∀ a, 9000 ≤ a → M a = M0 a) (hq : q < 9000) : ∀ a, 9000 ≤ a → pm_up M q j x a = M0 a := by
  intro a ha
  rw [← hM a ha]
  funext b
  show (if a = q ∧ b = j then x else M a b) = M a b
  rw [if_neg (by omega)]
theorem pm_up_o {M : Nat → Nat → Int} {q j k : Nat} {x : Int} (h : k ≠ q) : pm_up M q j x k = M k := by
  funext b
  show (if k = q ∧ b = j then x else M k b) = M k b
  rw [if_neg (fun z => h z.1)]
section HPS
variable {p : Program} {l : Launch} {e : Env} {R : Room} {s : State} {m : MethodId} {args : Array Value} {below : List Frame} {meth : Method} {c : Code} {Q : State → Prop}
variable {D : va_G} {AC : Nat → ClassId} {A : Nat → Prop} {cc : ByteArray} {nL : Nat} {fl : Bool} {M0 : Nat → Nat → Int} {bs : Nat × (Nat → Nat) × (Nat → Nat)} {pcs : List Nat}
variable {pc : Nat} {L : List (Option pm_V)} {st : List pm_V} {me : pm_Me} {c0 t0 : Nat}

theorem pm_a_if (hx : p.tables.exec = Jvm.exec) (hb : c.code = cc) {x : Int} {o : Jvm.ClassFile.Cond} {off : Int} {a : Nat} (hd : decode cc pc = .ok (.ifCond o off, 3)) (ht : (pc : Int) + off = (a : Int)) (ha : a ∈ pcs) (hp : pc + 3 ∈ pcs) (kt : pm_cmp o x 0 → pm_W p l e R s m args below meth c Q D AC A nL fl M0 bs pcs (a, L, st, me, c0, t0)) (kf : ¬ pm_cmp o x 0 → pm_W p l e R s m args below meth c Q D AC A nL fl M0 bs pcs (pc + 3, L, st, me, c0, t0)) : pm_W p l e R s m args below meth c Q D AC A nL fl M0 bs pcs (pc, L, .inl x :: st, me, c0, t0) := by
  intro _ hlc hlt ad H locs ls h
  dsimp only at h ⊢
  obtain ⟨hP, hD, hI, hS, hl, hL, hst, hM, hb0⟩ := id h
  have hxx : pm_r x := pm_ok_hd hst
  have hrel : pm_Rel s D AC A nL fl M0 bs ad H locs ls L st me := ⟨hP, hD, hI, hS, hl, hL, pm_ok_tl hst, hM, hb0⟩
  have e1 : Int32.ofInt x = 0 ↔ x = 0 := by rw [← pm_i32_0]; exact pm_i32_eq hxx pm_r0
  have e2 : Int32.ofInt x < 0 ↔ x < 0 := by rw [← pm_i32_0]; exact pm_i32_lt hxx pm_r0
  have e3 : 0 ≤ Int32.ofInt x ↔ 0 ≤ x := by rw [← pm_i32_0]; exact pm_i32_le pm_r0 hxx
  have e4 : 0 < Int32.ofInt x ↔ 0 < x := by rw [← pm_i32_0]; exact pm_i32_lt pm_r0 hxx
  have e5 : Int32.ofInt x ≤ 0 ↔ x ≤ 0 := by rw [← pm_i32_0]; exact pm_i32_le hxx pm_r0
  cases o with
  | eq => exact lv_if_eq hx hb hd ht (fun q => kt (e1.mp q) ha hlc hlt ad H locs ls hrel) (fun q => kf (fun z => q (e1.mpr z)) hp hlc hlt ad H locs ls hrel)
  | ne => exact lv_if_ne hx hb hd ht (fun q => kt (fun z => q (e1.mpr z)) ha hlc hlt ad H locs ls hrel) (fun q => kf (fun z => z (e1.mp q)) hp hlc hlt ad H locs ls hrel)
  | lt => exact lv_if_lt hx hb hd ht (fun q => kt (e2.mp q) ha hlc hlt ad H locs ls hrel) (fun q => kf (fun z => q (e2.mpr z)) hp hlc hlt ad H locs ls hrel)
  | ge => exact lv_if_ge hx hb hd ht (fun q => kt (e3.mp q) ha hlc hlt ad H locs ls hrel) (fun q => kf (fun z => q (e3.mpr z)) hp hlc hlt ad H locs ls hrel)
  | gt => exact lv_if_gt hx hb hd ht (fun q => kt (e4.mp q) ha hlc hlt ad H locs ls hrel) (fun q => kf (fun z => q (e4.mpr z)) hp hlc hlt ad H locs ls hrel)
  | le => exact lv_if_le hx hb hd ht (fun q => kt (e5.mp q) ha hlc hlt ad H locs ls hrel) (fun q => kf (fun z => q (e5.mpr z)) hp hlc hlt ad H locs ls hrel)
theorem pm_a_icmp (hx : p.tables.exec = Jvm.exec) (hb : c.code = cc) {x y : Int} {o : Jvm.ClassFile.Cond} {off : Int} {a : Nat} (hd : decode cc pc = .ok (.if_icmp o off, 3)) (ht : (pc : Int) + off = (a : Int)) (ha : a ∈ pcs) (hp : pc + 3 ∈ pcs) (kt : pm_cmp o x y → pm_W p l e R s m args below meth c Q D AC A nL fl M0 bs pcs (a, L, st, me, c0, t0)) (kf : ¬ pm_cmp o x y → pm_W p l e R s m args below meth c Q D AC A nL fl M0 bs pcs (pc + 3, L, st, me, c0, t0)) : pm_W p l e R s m args below meth c Q D AC A nL fl M0 bs pcs (pc, L, .inl y :: .inl x :: st, me, c0, t0) := by
  intro _ hlc hlt ad H locs ls h
  dsimp only at h ⊢
  obtain ⟨hP, hD, hI, hS, hl, hL, hst, hM, hb0⟩ := id h
  have hy : pm_r y := pm_ok_hd hst
  have hxx : pm_r x := pm_ok_hd (pm_ok_tl hst)
  have hrel : pm_Rel s D AC A nL fl M0 bs ad H locs ls L st me := ⟨hP, hD, hI, hS, hl, hL, pm_ok_tl (pm_ok_tl hst), hM, hb0⟩
  have e1 := pm_i32_eq hxx hy
  have e2 := pm_i32_lt hxx hy
  have e3 := pm_i32_le hy hxx
  have e4 := pm_i32_lt hy hxx
  have e5 := pm_i32_le hxx hy
  cases o with
  | eq => exact lv_icmp_eq hx hb hd ht (fun q => kt (e1.mp q) ha hlc hlt ad H locs ls hrel) (fun q => kf (fun z => q (e1.mpr z)) hp hlc hlt ad H locs ls hrel)
  | ne => exact lv_icmp_ne hx hb hd ht (fun q => kt (fun z => q (e1.mpr z)) ha hlc hlt ad H locs ls hrel) (fun q => kf (fun z => z (e1.mp q)) hp hlc hlt ad H locs ls hrel)
  | lt => exact lv_icmp_lt hx hb hd ht (fun q => kt (e2.mp q) ha hlc hlt ad H locs ls hrel) (fun q => kf (fun z => q (e2.mpr z)) hp hlc hlt ad H locs ls hrel)
  | ge => exact lv_icmp_ge hx hb hd ht (fun q => kt (e3.mp q) ha hlc hlt ad H locs ls hrel) (fun q => kf (fun z => q (e3.mpr z)) hp hlc hlt ad H locs ls hrel)
  | gt => exact lv_icmp_gt hx hb hd ht (fun q => kt (e4.mp q) ha hlc hlt ad H locs ls hrel) (fun q => kf (fun z => q (e4.mpr z)) hp hlc hlt ad H locs ls hrel)
  | le => exact lv_icmp_le hx hb hd ht (fun q => kt (e5.mp q) ha hlc hlt ad H locs ls hrel) (fun q => kf (fun z => q (e5.mpr z)) hp hlc hlt ad H locs ls hrel)
theorem pm_a_table (hx : p.tables.exec = Jvm.exec) (hb : c.code = cc) {x dflt lo hi : Int} {offs : Array Int} {len : Nat} (hd : decode cc pc = .ok (.tableswitch dflt lo hi offs, len)) (h0 : 0 ≤ (pc : Int) + dflt) (hp0 : ((pc : Int) + dflt).toNat ∈ pcs) (h1 : ∀ (j : Nat) (o : Int), offs[j]? = some o → 0 ≤ (pc : Int) + o ∧ ((pc : Int) + o).toNat ∈ pcs) (hsz : offs.size = (hi - lo + 1).toNat) (ko : (x < lo ∨ hi < x) → pm_W p l e R s m args below meth c Q D AC A nL fl M0 bs pcs (((pc : Int) + dflt).toNat, L, st, me, c0, t0)) (ki : ¬ (x < lo ∨ hi < x) → ∀ o, offs[(x - lo).toNat]? = some o → pm_W p l e R s m args below meth c Q D AC A nL fl M0 bs pcs (((pc : Int) + o).toNat, L, st, me, c0, t0)) : pm_W p l e R s m args below meth c Q D AC A nL fl M0 bs pcs (pc, L, .inl x :: st, me, c0, t0) := by
  intro _ hlc hlt ad H locs ls h
  dsimp only at h ⊢
  obtain ⟨hP, hD, hI, hS, hl, hL, hst, hM, hb0⟩ := id h
  have hxx : pm_r x := pm_ok_hd hst
  have hrel : pm_Rel s D AC A nL fl M0 bs ad H locs ls L st me := ⟨hP, hD, hI, hS, hl, hL, pm_ok_tl hst, hM, hb0⟩
  by_cases hc : x < lo ∨ hi < x
  · exact lv_tableOut hx hb hd (by rw [pm_i32_to hxx]; exact hc) (by omega) (ko hc hp0 hlc hlt ad H locs ls hrel)
  · have hl9 : (x - lo).toNat < offs.size := by rw [hsz]; omega
    have ho : offs[(x - lo).toNat]? = some offs[(x - lo).toNat] := Array.getElem?_eq_getElem hl9
    obtain ⟨h2, h3⟩ := h1 _ _ ho
    exact lv_tableIn hx hb hd (by rw [pm_i32_to hxx]; omega) (by rw [pm_i32_to hxx]; omega) (by rw [pm_i32_to hxx]; exact ho) (by omega) (ki hc _ ho h3 hlc hlt ad H locs ls hrel)
def pm_link (own : String) (idx : Nat) (w : String × String × String × Bool) (args : Array Value) (s : State) : Prop := (Cond.fieldLink own idx w.1 w.2.1 w.2.2.1).before args s = true ∨ ∃ host, (Cond.fieldLinkNest own idx w.1 w.2.1 w.2.2.1 host).before args s = true

theorem pm_a_getI (hx : p.tables.exec = Jvm.exec) (hb : c.code = cc) {own : String} {Ts : List Cond} {a b idx q : Nat} (hts : ∀ w ∈ Ts, w.before args s = true) (hCw : ∀ a, a < 10 → ∀ w ∈ u_ws (pm_C a).1 (pm_C a).2.1 (pm_C a).2.2, w ∈ Ts) (hown : s.vm.findClass own = some m.cls) (hK : va_K D pm_cl (pm_tys AC) s) (ha : a < 10) (hbn : b < pm_nf a) (hlink : pm_link own idx ((pm_C a).2.1 b) args s)  (hfk : pm_fk a b = 0) (hd : decode cc pc = .ok (.getfield idx, 3)) (k : pm_W p l e R s m args below meth c Q D AC A nL fl M0 bs pcs (pc + 3, L, .inl (me.2 q b) :: st, me, c0, t0)) (hp : pc + 3 ∈ pcs) : pm_W p l e R s m args below meth c Q D AC A nL fl M0 bs pcs (pc, L, .inr (.inl (a, q)) :: st, me, c0, t0) := by
  intro _ hlc hlt ad H locs ls h
  dsimp only at h ⊢
  obtain ⟨hP, hD, hI, hS, hl, hL, hst, hM, hb0⟩ := id h
  obtain ⟨hq, hkd⟩ : q < me.1.1 ∧ me.1.2.1 q = a := by
    rcases pm_ok_hd hst with z | ⟨-, z, -⟩
    · exact z
    · omega
  have he : (pm_ws AC ad me)[q]? = some (ad q, .inr (a, (List.range (pm_nf a)).map (pm_fv ad a q (me.1.2.2 q) (me.2 q)))) := by rw [pm_ws_get hq, hkd, pm_e_o ha]
  have hv : ((List.range (pm_nf a)).map (pm_fv ad a q (me.1.2.2 q) (me.2 q)))[b]? = some (pm_val ad (.inl (me.2 q b))) := by
    rw [List.getElem?_map, List.getElem?_range hbn]
    exact congrArg some (if_pos hfk)
  have k2 := k hp hlc hlt ad H locs ls ⟨hP, hD, hI, hS, hl, hL, pm_ok_cons (v := .inl (me.2 q b)) (show pm_r (me.2 q b) from (hI.2 q hq).2.1 (by omega) b) (pm_ok_tl hst), hM, hb0⟩
  have hbn2 : b < (pm_C a).2.2 := by rw [pm_C_n a ha]; exact hbn
  rcases hlink with h1 | ⟨host, h1⟩
  · exact va_get hx hb hts (hCw a ha) hown hK hP q he (pm_C_at a ha) b hbn2 h1 (fun _ h9 => h9) hv hd k2
  · exact va_getN hx hb hts (hCw a ha) hown hK hP q he (pm_C_at a ha) b hbn2 h1 (fun _ h9 => h9) hv hd k2
theorem pm_a_getR (hx : p.tables.exec = Jvm.exec) (hb : c.code = cc) {own : String} {Ts : List Cond} {a b idx q : Nat} (hts : ∀ w ∈ Ts, w.before args s = true) (hCw : ∀ a, a < 10 → ∀ w ∈ u_ws (pm_C a).1 (pm_C a).2.1 (pm_C a).2.2, w ∈ Ts) (hown : s.vm.findClass own = some m.cls) (hK : va_K D pm_cl (pm_tys AC) s) (ha : a < 10) (hbn : b < pm_nf a) (hlink : pm_link own idx ((pm_C a).2.1 b) args s)  (hfk : pm_fk a b ≠ 0) (hini : me.1.2.2 q b = true) (hd : decode cc pc = .ok (.getfield idx, 3)) (k : pm_W p l e R s m args below meth c Q D AC A nL fl M0 bs pcs (pc + 3, L, .inr (.inl (pm_fk a b - 1, pm_rf a q b)) :: st, me, c0, t0)) (hp : pc + 3 ∈ pcs) : pm_W p l e R s m args below meth c Q D AC A nL fl M0 bs pcs (pc, L, .inr (.inl (a, q)) :: st, me, c0, t0) := by
  intro _ hlc hlt ad H locs ls h
  dsimp only at h ⊢
  obtain ⟨hP, hD, hI, hS, hl, hL, hst, hM, hb0⟩ := id h
  obtain ⟨hq, hkd⟩ : q < me.1.1 ∧ me.1.2.1 q = a := by
    rcases pm_ok_hd hst with z | ⟨-, z, -⟩
    · exact z
    · omega
  have he : (pm_ws AC ad me)[q]? = some (ad q, .inr (a, (List.range (pm_nf a)).map (pm_fv ad a q (me.1.2.2 q) (me.2 q)))) := by rw [pm_ws_get hq, hkd, pm_e_o ha]
  have hv : ((List.range (pm_nf a)).map (pm_fv ad a q (me.1.2.2 q) (me.2 q)))[b]? = some (pm_val ad (.inr (.inl (pm_fk a b - 1, pm_rf a q b)))) := by
    rw [List.getElem?_map, List.getElem?_range hbn]
    exact congrArg some ((if_neg hfk).trans (if_pos hini))
  have k2 := k hp hlc hlt ad H locs ls ⟨hP, hD, hI, hS, hl, hL, pm_ok_cons (v := .inr (.inl (pm_fk a b - 1, pm_rf a q b))) (Or.inl (by have z := (hI.2 q hq).2.2.2.1 (by omega) b (by rw [hkd]; exact hfk) hini; rw [hkd] at z; exact ⟨z.1, show me.1.2.1 (pm_rf a q b) = pm_fk a b - 1 by omega⟩)) (pm_ok_tl hst), hM, hb0⟩
  have hbn2 : b < (pm_C a).2.2 := by rw [pm_C_n a ha]; exact hbn
  rcases hlink with h1 | ⟨host, h1⟩
  · exact va_get hx hb hts (hCw a ha) hown hK hP q he (pm_C_at a ha) b hbn2 h1 (fun _ h9 => h9) hv hd k2
  · exact va_getN hx hb hts (hCw a ha) hown hK hP q he (pm_C_at a ha) b hbn2 h1 (fun _ h9 => h9) hv hd k2
theorem pm_set_f {ad : Nat → Nat} {q b : Nat} {v : Value} {B B' : Nat → Nat → Bool} {M' : Nat → Nat → Int} (hq : q < me.1.1) (ha : me.1.2.1 q < 10) (hv : pm_fv ad (me.1.2.1 q) q (B' q) (M' q) b = v) (ho : ∀ j, j ≠ b → pm_fv ad (me.1.2.1 q) q (B' q) (M' q) j = pm_fv ad (me.1.2.1 q) q (me.1.2.2 q) (me.2 q) j) (hB : ∀ k, k ≠ q → B' k = me.1.2.2 k) (hM : ∀ k, k ≠ q → M' k = me.2 k) : (pm_ws AC ad me).set q (ad q, .inr (me.1.2.1 q, ((List.range (pm_nf (me.1.2.1 q))).map (pm_fv ad (me.1.2.1 q) q (me.1.2.2 q) (me.2 q))).set b v)) = pm_ws AC ad ((me.1.1, me.1.2.1, B'), M') := by
  refine pm_ws_set (m' := ((me.1.1, me.1.2.1, B'), M')) hq rfl ?_ (fun k _ hkq => ⟨rfl, hB k hkq, hM k hkq⟩)
  show _ = pm_e AC ad (me.1.2.1 q) q (B' q) (M' q)
  rw [pm_e_o ha]
  congr 2
  apply List.ext_getElem?
  intro j
  by_cases hj : j < pm_nf (me.1.2.1 q)
  · by_cases hjb : j = b
    · subst hjb
      rw [List.getElem?_set_self (by rw [List.length_map, List.length_range]; exact hj), List.getElem?_map, List.getElem?_range hj]
      exact (congrArg some hv).symm
    · rw [List.getElem?_set_ne (Ne.symm hjb), List.getElem?_map, List.getElem?_map, List.getElem?_range hj]
      exact (congrArg some (ho j hjb)).symm
  · rw [List.getElem?_eq_none (by rw [List.length_set, List.length_map, List.length_range]; omega), List.getElem?_eq_none (by rw [List.length_map, List.length_range]; omega)]
theorem pm_a_putI (hx : p.tables.exec = Jvm.exec) (hb : c.code = cc) {own : String} {Ts : List Cond} {a b idx q : Nat} (hts : ∀ w ∈ Ts, w.before args s = true) (hCw : ∀ a, a < 10 → ∀ w ∈ u_ws (pm_C a).1 (pm_C a).2.1 (pm_C a).2.2, w ∈ Ts) (hown : s.vm.findClass own = some m.cls) (hK : va_K D pm_cl (pm_tys AC) s) (ha : a < 10) (hbn : b < pm_nf a) (hlink : pm_link own idx ((pm_C a).2.1 b) args s)  (hfk : pm_fk a b = 0) {x : Int} (hfin : ((pm_C a).2.1 b).2.2.2 = false) (hz : pm_ft a b = .int ∨ (x = 0 ∨ x = 1)) (hd : decode cc pc = .ok (.putfield idx, 3)) (k : pm_W p l e R s m args below meth c Q D AC A nL fl M0 bs pcs (pc + 3, L, st, (me.1, pm_up me.2 q b x), c0, t0)) (hp : pc + 3 ∈ pcs) : pm_W p l e R s m args below meth c Q D AC A nL fl M0 bs pcs (pc, L, .inl x :: .inr (.inl (a, q)) :: st, me, c0, t0) := by
  intro _ hlc hlt ad H locs ls h
  dsimp only at h ⊢
  obtain ⟨hP, hD, hI, hS, hl, hL, hst, hM, hb0⟩ := id h
  obtain ⟨hq, hkd⟩ : q < me.1.1 ∧ me.1.2.1 q = a := by
    rcases pm_ok_hd (pm_ok_tl hst) with z | ⟨-, z, -⟩
    · exact z
    · omega
  have hxx : pm_r x := pm_ok_hd hst
  have he : (pm_ws AC ad me)[q]? = some (ad q, .inr (a, (List.range (pm_nf a)).map (pm_fv ad a q (me.1.2.2 q) (me.2 q)))) := by rw [pm_ws_get hq, hkd, pm_e_o ha]
  have hbn2 : b < (pm_C a).2.2 := by rw [pm_C_n a ha]; exact hbn
  have hnf : narrow (pm_ft a b) (.int (Int32.ofInt x)) = .int (Int32.ofInt x) ∧ fits (pm_ft a b) (.int (Int32.ofInt x)) = true := by
    rcases (pm_C_fk a ha b hbn).1 hfk with h1 | h1
    · rw [h1]; exact ⟨rfl, rfl⟩
    · rcases hz with h2 | h2
      · rw [h1] at h2; cases h2
      · rw [h1]; exact ⟨(pm_narrow_z h2).1, (pm_narrow_z h2).2.1⟩
  have hset := pm_set_f (AC := AC) (me := me) (ad := ad) (q := q) (b := b) (v := .int (Int32.ofInt x)) (B := me.1.2.2) (B' := me.1.2.2) (M' := pm_up me.2 q b x) hq (by rw [hkd]; exact ha) (by rw [hkd]; exact (if_pos hfk).trans (by show Value.int (Int32.ofInt (if q = q ∧ b = b then x else _)) = _; rw [if_pos ⟨rfl, rfl⟩])) (fun j hj => by unfold pm_fv; rw [show pm_up me.2 q b x q j = me.2 q j from if_neg (fun z => hj z.2)]) (fun _ _ => rfl) (fun k hk => pm_up_o hk)
  rw [hkd] at hset
  have kk : ∀ (H1 : Heap) (locs1 : List Loc), va_P D pm_cl ((pm_ws AC ad me).set q (ad q, .inr (a, ((List.range (pm_nf a)).map (pm_fv ad a q (me.1.2.2 q) (me.2 q))).set b (.int (Int32.ofInt x))))) H1 → va_D A ((pm_ws AC ad me).set q (ad q, .inr (a, ((List.range (pm_nf a)).map (pm_fv ad a q (me.1.2.2 q) (me.2 q))).set b (.int (Int32.ofInt x))))) → va_S A s.heap H1 locs1 → W p l e R s m args below meth c H1 locs1 c0 t0 Q (F0 m (pc + 3) ls (st.map (pm_val ad))) := by
    intro H1 locs1 hP1 hD1 hS1
    rw [hset] at hP1 hD1
    exact k hp hlc hlt ad H1 locs1 ls ⟨hP1, hD1, pm_inv_up hI (fun _ => hxx) (fun z => by omega), hS1, hl, hL, pm_ok_tl (pm_ok_tl hst), pm_up_ge hM (Nat.lt_of_lt_of_le hq hI.1), hb0⟩
  rcases hlink with h1 | ⟨host, h1⟩
  · exact va_put hx hb hts (hCw a ha) (pm_ft a) (pm_C_ty a ha) (pm_C_nm a ha) hown hK hP hD hS q he (pm_C_at a ha) b hbn2 h1 (fun _ h9 => h9) hfin (pm_C_ty a ha b hbn2) hnf.1 hnf.2 (by rw [List.length_map, List.length_range]; exact hbn) hd kk
  · exact va_putN hx hb hts (hCw a ha) (pm_ft a) (pm_C_ty a ha) (pm_C_nm a ha) hown hK hP hD hS q he (pm_C_at a ha) b hbn2 h1 (fun _ h9 => h9) hfin (pm_C_ty a ha b hbn2) hnf.1 hnf.2 (by rw [List.length_map, List.length_range]; exact hbn) hd kk
theorem pm_a_putR (hx : p.tables.exec = Jvm.exec) (hb : c.code = cc) {own : String} {Ts : List Cond} {a b idx q κ : Nat} (hts : ∀ w ∈ Ts, w.before args s = true) (hCw : ∀ a, a < 10 → ∀ w ∈ u_ws (pm_C a).1 (pm_C a).2.1 (pm_C a).2.2, w ∈ Ts) (hown : s.vm.findClass own = some m.cls) (hK : va_K D pm_cl (pm_tys AC) s) (ha : a < 10) (hbn : b < pm_nf a) (hlink : (Cond.fieldLink own idx ((pm_C a).2.1 b).1 ((pm_C a).2.1 b).2.1 ((pm_C a).2.1 b).2.2.1).before args s = true)  (hfk : pm_fk a b = κ + 1) {q2 : Nat} (hfin : ((pm_C a).2.1 b).2.2.2 = true) (hin : meth.name = "<init>") (hdecl : ((pm_C a).2.1 b).1 = own) (hq2 : q2 = pm_rf a q b) (hd : decode cc pc = .ok (.putfield idx, 3)) (k : pm_W p l e R s m args below meth c Q D AC A nL fl M0 bs pcs (pc + 3, L, st, ((me.1.1, me.1.2.1, pm_ub me.1.2.2 q b), me.2), c0, t0)) (hp : pc + 3 ∈ pcs) : pm_W p l e R s m args below meth c Q D AC A nL fl M0 bs pcs (pc, L, .inr (.inl (κ, q2)) :: .inr (.inl (a, q)) :: st, me, c0, t0) := by
  intro _ hlc hlt ad H locs ls h
  dsimp only at h ⊢
  obtain ⟨hP, hD, hI, hS, hl, hL, hst, hM, hb0⟩ := id h
  obtain ⟨hq, hkd⟩ : q < me.1.1 ∧ me.1.2.1 q = a := by
    rcases pm_ok_hd (pm_ok_tl hst) with z | ⟨-, z, -⟩
    · exact z
    · omega
  have hk999 : κ ≠ 999 := by
    intro z
    have := (by decide +kernel : ∀ a, a < 10 → ∀ b, b < pm_nf a → pm_fk a b ≠ 1000) a ha b hbn
    omega
  obtain ⟨hq2n, hkd2⟩ : q2 < me.1.1 ∧ me.1.2.1 q2 = κ := by
    rcases pm_ok_hd hst with z | ⟨-, z, -⟩
    · exact z
    · exact absurd z hk999
  have he : (pm_ws AC ad me)[q]? = some (ad q, .inr (a, (List.range (pm_nf a)).map (pm_fv ad a q (me.1.2.2 q) (me.2 q)))) := by rw [pm_ws_get hq, hkd, pm_e_o ha]
  have hbn2 : b < (pm_C a).2.2 := by rw [pm_C_n a ha]; exact hbn
  have hf0 : pm_fk a b ≠ 0 := by omega
  have hR := (pm_C_fk a ha b hbn).2 hf0
  have hset := pm_set_f (AC := AC) (me := me) (ad := ad) (q := q) (b := b) (v := .ref (ad q2)) (B := me.1.2.2) (B' := pm_ub me.1.2.2 q b) (M' := me.2) hq (by rw [hkd]; exact ha) (by rw [hkd]; exact (if_neg hf0).trans ((if_pos (by show (if q = q ∧ b = b then true else _) = true; rw [if_pos ⟨rfl, rfl⟩])).trans (by rw [hq2]))) (fun j hj => by unfold pm_fv; rw [show pm_ub me.1.2.2 q b q j = me.1.2.2 q j from if_neg (fun z => hj z.2)]) (fun k hk => by funext z; exact if_neg (fun w => hk w.1)) (fun _ _ => rfl)
  rw [hkd] at hset
  refine va_putF hx hb hts (hCw a ha) (pm_ft a) (pm_C_ty a ha) (pm_C_nm a ha) hown hK hP hD hS q he (pm_C_at a ha) b hbn2 hlink (fun _ h9 => h9) hfin hin hdecl (pm_C_ty a ha b hbn2) (pm_fits_r hR).1 (pm_fits_r hR).2.1 (by rw [List.length_map, List.length_range]; exact hbn) hd (fun H1 locs1 hP1 hD1 hS1 => ?_)
  have hP1 := Eq.mp (congrArg (fun w => va_P D pm_cl w H1) hset) hP1
  have hD1 := Eq.mp (congrArg (fun w => va_D A w) hset) hD1
  refine k hp hlc hlt ad H1 locs1 ls ⟨hP1, hD1, ⟨hI.1, fun k9 hk9 => ?_⟩, hS1, hl, hL, pm_ok_tl (pm_ok_tl hst), hM, hb0⟩
  obtain ⟨i1, i2, i3, i4, i5⟩ := hI.2 k9 hk9
  refine ⟨i1, i2, i3, fun z j hj hini => ?_, fun z j hj hini => ?_⟩
  · by_cases hh : k9 = q ∧ j = b
    · obtain ⟨rfl, rfl⟩ := hh
      show pm_rf (me.1.2.1 k9) k9 j < me.1.1 ∧ me.1.2.1 (pm_rf (me.1.2.1 k9) k9 j) + 1 = pm_fk (me.1.2.1 k9) j
      rw [hkd, ← hq2, hfk]
      exact ⟨hq2n, by rw [hkd2]⟩
    · exact i4 z j hj (by have z2 : (if k9 = q ∧ j = b then true else me.1.2.2 k9 j) = true := hini; rw [if_neg hh] at z2; exact z2)
  · refine i5 z j hj ?_
    have z2 : (if k9 = q ∧ j = b then true else me.1.2.2 k9 j) = true := hini
    have z3 : 5000 ≤ me.1.2.1 k9 := z
    rw [if_neg (fun w => by rw [w.1, hkd] at z3; omega)] at z2
    exact z2
theorem pm_a_iaload (hx : p.tables.exec = Jvm.exec) (hb : c.code = cc) (hK : va_K D pm_cl (pm_tys AC) s) {κ q : Nat} {x : Int} (h1 : 1000 ≤ κ) (h2 : κ ≤ 1999) (h3 : 0 ≤ x) (h4 : x < ((κ - 1000 : Nat) : Int)) (hd : decode cc pc = .ok (.iaload, 1)) (k : pm_W p l e R s m args below meth c Q D AC A nL fl M0 bs pcs (pc + 1, L, .inl (me.2 q x.toNat) :: st, me, c0, t0)) (hp : pc + 1 ∈ pcs) : pm_W p l e R s m args below meth c Q D AC A nL fl M0 bs pcs (pc, L, .inl x :: .inr (.inl (κ, q)) :: st, me, c0, t0) := by
  intro _ hlc hlt ad H locs ls h
  dsimp only at h ⊢
  obtain ⟨hP, hD, hI, hS, hl, hL, hst, hM, hb0⟩ := id h
  obtain ⟨hq, hkd⟩ : q < me.1.1 ∧ me.1.2.1 q = κ := by
    rcases pm_ok_hd (pm_ok_tl hst) with z | ⟨-, z, -⟩
    · exact z
    · omega
  have hxx : pm_r x := pm_ok_hd hst
  refine va_iald hx hb hK hP q 0 (by rw [pm_ws_get hq, hkd, pm_e_i h1 h2]) rfl (pm_vin hxx h3 h4) hd ?_
  rw [pm_clamp hxx h3]
  exact k hp hlc hlt ad H locs ls ⟨hP, hD, hI, hS, hl, hL, pm_ok_cons (v := .inl (me.2 q x.toNat)) (show pm_r _ from (hI.2 q hq).2.1 (by omega) _) (pm_ok_tl (pm_ok_tl hst)), hM, hb0⟩
theorem pm_a_baload (hx : p.tables.exec = Jvm.exec) (hb : c.code = cc) (hK : va_K D pm_cl (pm_tys AC) s) {κ q : Nat} {x : Int} (h1 : 2000 ≤ κ) (h2 : κ ≤ 2999) (h3 : 0 ≤ x) (h4 : x < ((κ - 2000 : Nat) : Int)) (hd : decode cc pc = .ok (.baload, 1)) (k : pm_W p l e R s m args below meth c Q D AC A nL fl M0 bs pcs (pc + 1, L, .inl (me.2 q x.toNat) :: st, me, c0, t0)) (hp : pc + 1 ∈ pcs) : pm_W p l e R s m args below meth c Q D AC A nL fl M0 bs pcs (pc, L, .inl x :: .inr (.inl (κ, q)) :: st, me, c0, t0) := by
  intro _ hlc hlt ad H locs ls h
  dsimp only at h ⊢
  obtain ⟨hP, hD, hI, hS, hl, hL, hst, hM, hb0⟩ := id h
  obtain ⟨hq, hkd⟩ : q < me.1.1 ∧ me.1.2.1 q = κ := by
    rcases pm_ok_hd (pm_ok_tl hst) with z | ⟨-, z, -⟩
    · exact z
    · omega
  have hxx : pm_r x := pm_ok_hd hst
  refine va_zald hx hb hK hP q 1 (by rw [pm_ws_get hq, hkd, pm_e_b h1 h2]) rfl (pm_vin hxx h3 h4) hd ?_
  rw [pm_clamp hxx h3]
  exact k hp hlc hlt ad H locs ls ⟨hP, hD, hI, hS, hl, hL, pm_ok_cons (v := .inl (me.2 q x.toNat)) (show pm_r _ from (hI.2 q hq).2.1 (by omega) _) (pm_ok_tl (pm_ok_tl hst)), hM, hb0⟩
theorem pm_a_laload (hx : p.tables.exec = Jvm.exec) (hb : c.code = cc) (hK : va_K D pm_cl (pm_tys AC) s) {κ q : Nat} {x : Int} (h1 : 3000 ≤ κ) (h2 : κ ≤ 3999) (h3 : 0 ≤ x) (h4 : x < ((κ - 3000 : Nat) : Int)) (hd : decode cc pc = .ok (.laload, 1)) (k : pm_W p l e R s m args below meth c Q D AC A nL fl M0 bs pcs (pc + 1, L, .inr (.inr (.inl (me.2 q x.toNat))) :: st, me, c0, t0)) (hp : pc + 1 ∈ pcs) : pm_W p l e R s m args below meth c Q D AC A nL fl M0 bs pcs (pc, L, .inl x :: .inr (.inl (κ, q)) :: st, me, c0, t0) := by
  intro _ hlc hlt ad H locs ls h
  dsimp only at h ⊢
  obtain ⟨hP, hD, hI, hS, hl, hL, hst, hM, hb0⟩ := id h
  obtain ⟨hq, hkd⟩ : q < me.1.1 ∧ me.1.2.1 q = κ := by
    rcases pm_ok_hd (pm_ok_tl hst) with z | ⟨-, z, -⟩
    · exact z
    · omega
  have hxx : pm_r x := pm_ok_hd hst
  refine va_lald hx hb hK hP q 2 (by rw [pm_ws_get hq, hkd, pm_e_l h1 h2]) rfl (pm_vin hxx h3 h4) hd ?_
  rw [pm_clamp hxx h3]
  exact k hp hlc hlt ad H locs ls ⟨hP, hD, hI, hS, hl, hL, pm_ok_cons (v := .inr (.inr (.inl (me.2 q x.toNat)))) (show _ ∧ _ from (hI.2 q hq).2.2.1 (by omega) (by omega) _) (pm_ok_tl (pm_ok_tl hst)), hM, hb0⟩
theorem pm_a_daload (hx : p.tables.exec = Jvm.exec) (hb : c.code = cc) (hK : va_K D pm_cl (pm_tys AC) s) {κ q : Nat} {x : Int} (h1 : 4000 ≤ κ) (h2 : κ ≤ 4999) (h3 : 0 ≤ x) (h4 : x < ((κ - 4000 : Nat) : Int)) (hd : decode cc pc = .ok (.daload, 1)) (k : pm_W p l e R s m args below meth c Q D AC A nL fl M0 bs pcs (pc + 1, L, .inr (.inr (.inr (.inr (UInt64.ofNat (me.2 q x.toNat).toNat)))) :: st, me, c0, t0)) (hp : pc + 1 ∈ pcs) : pm_W p l e R s m args below meth c Q D AC A nL fl M0 bs pcs (pc, L, .inl x :: .inr (.inl (κ, q)) :: st, me, c0, t0) := by
  intro _ hlc hlt ad H locs ls h
  dsimp only at h ⊢
  obtain ⟨hP, hD, hI, hS, hl, hL, hst, hM, hb0⟩ := id h
  obtain ⟨hq, hkd⟩ : q < me.1.1 ∧ me.1.2.1 q = κ := by
    rcases pm_ok_hd (pm_ok_tl hst) with z | ⟨-, z, -⟩
    · exact z
    · omega
  have hxx : pm_r x := pm_ok_hd hst
  refine va_dald hx hb hK hP q 3 (by rw [pm_ws_get hq, hkd, pm_e_d h1 h2]) rfl (pm_vin hxx h3 h4) hd ?_
  rw [pm_clamp hxx h3]
  exact k hp hlc hlt ad H locs ls ⟨hP, hD, hI, hS, hl, hL, pm_ok_cons (v := .inr (.inr (.inr (.inr (UInt64.ofNat (me.2 q x.toNat).toNat))))) (trivial) (pm_ok_tl (pm_ok_tl hst)), hM, hb0⟩
theorem pm_a_iastore (hx : p.tables.exec = Jvm.exec) (hb : c.code = cc) (hK : va_K D pm_cl (pm_tys AC) s) {κ q : Nat} {x : Int} {v : Int} (h1 : 1000 ≤ κ) (h2 : κ ≤ 1999) (h3 : 0 ≤ x) (h4 : x < ((κ - 1000 : Nat) : Int)) (hd : decode cc pc = .ok (.iastore, 1)) (k : pm_W p l e R s m args below meth c Q D AC A nL fl M0 bs pcs (pc + 1, L, st, (me.1, pm_up me.2 q x.toNat v), c0, t0)) (hp : pc + 1 ∈ pcs) : pm_W p l e R s m args below meth c Q D AC A nL fl M0 bs pcs (pc, L, .inl v :: .inl x :: .inr (.inl (κ, q)) :: st, me, c0, t0) := by
  intro _ hlc hlt ad H locs ls h
  dsimp only at h ⊢
  obtain ⟨hP, hD, hI, hS, hl, hL, hst, hM, hb0⟩ := id h
  obtain ⟨hq, hkd⟩ : q < me.1.1 ∧ me.1.2.1 q = κ := by
    rcases pm_ok_hd (pm_ok_tl (pm_ok_tl hst)) with z | ⟨-, z, -⟩
    · exact z
    · omega
  have hxx : pm_r x := pm_ok_hd (pm_ok_tl hst)
  have hvv := pm_ok_hd hst
  refine va_iast hx hb hK hP hD hS q 0 (by rw [pm_ws_get hq, hkd, pm_e_i h1 h2]) rfl (pm_vin hxx h3 h4) hd (fun H1 locs1 hP1 hD1 hS1 => ?_)
  rw [pm_ws_set (m' := (me.1, pm_up me.2 q x.toNat v)) hq rfl (by
    show _ = pm_e AC ad (me.1.2.1 q) q (me.1.2.2 q) (pm_up me.2 q x.toNat v q)
    rw [hkd, pm_e_i h1 h2, pm_clamp hxx h3]
    congr 4
    funext j
    show _ = Int32.ofInt (if q = q ∧ j = x.toNat then v else me.2 q j)
    by_cases hj : j = x.toNat
    · subst hj
      rw [if_pos ⟨rfl, rfl⟩]
      exact if_pos rfl
    · rw [if_neg (fun z => hj z.2)]
      exact if_neg hj) (fun k9 _ hk9 => ⟨rfl, rfl, pm_up_o hk9⟩)] at hP1 hD1
  exact k hp hlc hlt ad H1 locs1 ls ⟨hP1, hD1, pm_inv_up hI (fun _ => hvv) (fun z => by omega), hS1, hl, hL, pm_ok_tl (pm_ok_tl (pm_ok_tl hst)), pm_up_ge hM (Nat.lt_of_lt_of_le hq hI.1), hb0⟩
theorem pm_a_bastore (hx : p.tables.exec = Jvm.exec) (hb : c.code = cc) (hK : va_K D pm_cl (pm_tys AC) s) {κ q : Nat} {x : Int} {v : Int} (hz : v = 0 ∨ v = 1) (h1 : 2000 ≤ κ) (h2 : κ ≤ 2999) (h3 : 0 ≤ x) (h4 : x < ((κ - 2000 : Nat) : Int)) (hd : decode cc pc = .ok (.bastore, 1)) (k : pm_W p l e R s m args below meth c Q D AC A nL fl M0 bs pcs (pc + 1, L, st, (me.1, pm_up me.2 q x.toNat v), c0, t0)) (hp : pc + 1 ∈ pcs) : pm_W p l e R s m args below meth c Q D AC A nL fl M0 bs pcs (pc, L, .inl v :: .inl x :: .inr (.inl (κ, q)) :: st, me, c0, t0) := by
  intro _ hlc hlt ad H locs ls h
  dsimp only at h ⊢
  obtain ⟨hP, hD, hI, hS, hl, hL, hst, hM, hb0⟩ := id h
  obtain ⟨hq, hkd⟩ : q < me.1.1 ∧ me.1.2.1 q = κ := by
    rcases pm_ok_hd (pm_ok_tl (pm_ok_tl hst)) with z | ⟨-, z, -⟩
    · exact z
    · omega
  have hxx : pm_r x := pm_ok_hd (pm_ok_tl hst)
  have hvv := pm_ok_hd hst
  refine va_zast hx hb hK hP hD hS q 1 (by rw [pm_ws_get hq, hkd, pm_e_b h1 h2]) rfl (pm_vin hxx h3 h4) hd (fun H1 locs1 hP1 hD1 hS1 => ?_)
  rw [pm_ws_set (m' := (me.1, pm_up me.2 q x.toNat v)) hq rfl (by
    show _ = pm_e AC ad (me.1.2.1 q) q (me.1.2.2 q) (pm_up me.2 q x.toNat v q)
    rw [hkd, pm_e_b h1 h2, pm_clamp hxx h3]
    congr 4
    funext j
    show _ = Int32.ofInt (if q = q ∧ j = x.toNat then v else me.2 q j)
    by_cases hj : j = x.toNat
    · subst hj
      rw [if_pos ⟨rfl, rfl⟩]
      exact (if_pos rfl).trans (pm_narrow_z hz).2.2
    · rw [if_neg (fun z => hj z.2)]
      exact if_neg hj) (fun k9 _ hk9 => ⟨rfl, rfl, pm_up_o hk9⟩)] at hP1 hD1
  exact k hp hlc hlt ad H1 locs1 ls ⟨hP1, hD1, pm_inv_up hI (fun _ => hvv) (fun z => by omega), hS1, hl, hL, pm_ok_tl (pm_ok_tl (pm_ok_tl hst)), pm_up_ge hM (Nat.lt_of_lt_of_le hq hI.1), hb0⟩
theorem pm_a_lastore (hx : p.tables.exec = Jvm.exec) (hb : c.code = cc) (hK : va_K D pm_cl (pm_tys AC) s) {κ q : Nat} {x : Int} {v : Int} (h1 : 3000 ≤ κ) (h2 : κ ≤ 3999) (h3 : 0 ≤ x) (h4 : x < ((κ - 3000 : Nat) : Int)) (hd : decode cc pc = .ok (.lastore, 1)) (k : pm_W p l e R s m args below meth c Q D AC A nL fl M0 bs pcs (pc + 1, L, st, (me.1, pm_up me.2 q x.toNat v), c0, t0)) (hp : pc + 1 ∈ pcs) : pm_W p l e R s m args below meth c Q D AC A nL fl M0 bs pcs (pc, L, .inr (.inr (.inl v)) :: .inl x :: .inr (.inl (κ, q)) :: st, me, c0, t0) := by
  intro _ hlc hlt ad H locs ls h
  dsimp only at h ⊢
  obtain ⟨hP, hD, hI, hS, hl, hL, hst, hM, hb0⟩ := id h
  obtain ⟨hq, hkd⟩ : q < me.1.1 ∧ me.1.2.1 q = κ := by
    rcases pm_ok_hd (pm_ok_tl (pm_ok_tl hst)) with z | ⟨-, z, -⟩
    · exact z
    · omega
  have hxx : pm_r x := pm_ok_hd (pm_ok_tl hst)
  have hvv := pm_ok_hd hst
  refine va_last hx hb hK hP hD hS q 2 (by rw [pm_ws_get hq, hkd, pm_e_l h1 h2]) rfl (pm_vin hxx h3 h4) hd (fun H1 locs1 hP1 hD1 hS1 => ?_)
  rw [pm_ws_set (m' := (me.1, pm_up me.2 q x.toNat v)) hq rfl (by
    show _ = pm_e AC ad (me.1.2.1 q) q (me.1.2.2 q) (pm_up me.2 q x.toNat v q)
    rw [hkd, pm_e_l h1 h2, pm_clamp hxx h3]
    congr 5
    funext j
    show _ = Int64.ofInt (if q = q ∧ j = x.toNat then v else me.2 q j)
    by_cases hj : j = x.toNat
    · subst hj
      rw [if_pos ⟨rfl, rfl⟩]
      exact if_pos rfl
    · rw [if_neg (fun z => hj z.2)]
      exact if_neg hj) (fun k9 _ hk9 => ⟨rfl, rfl, pm_up_o hk9⟩)] at hP1 hD1
  exact k hp hlc hlt ad H1 locs1 ls ⟨hP1, hD1, pm_inv_up hI (fun z => by omega) (fun _ _ => hvv), hS1, hl, hL, pm_ok_tl (pm_ok_tl (pm_ok_tl hst)), pm_up_ge hM (Nat.lt_of_lt_of_le hq hI.1), hb0⟩
theorem pm_a_dastore (hx : p.tables.exec = Jvm.exec) (hb : c.code = cc) (hK : va_K D pm_cl (pm_tys AC) s) {κ q : Nat} {x : Int} {v : UInt64} (h1 : 4000 ≤ κ) (h2 : κ ≤ 4999) (h3 : 0 ≤ x) (h4 : x < ((κ - 4000 : Nat) : Int)) (hd : decode cc pc = .ok (.dastore, 1)) (k : pm_W p l e R s m args below meth c Q D AC A nL fl M0 bs pcs (pc + 1, L, st, (me.1, pm_up me.2 q x.toNat (v.toNat : Int)), c0, t0)) (hp : pc + 1 ∈ pcs) : pm_W p l e R s m args below meth c Q D AC A nL fl M0 bs pcs (pc, L, .inr (.inr (.inr (.inr v))) :: .inl x :: .inr (.inl (κ, q)) :: st, me, c0, t0) := by
  intro _ hlc hlt ad H locs ls h
  dsimp only at h ⊢
  obtain ⟨hP, hD, hI, hS, hl, hL, hst, hM, hb0⟩ := id h
  obtain ⟨hq, hkd⟩ : q < me.1.1 ∧ me.1.2.1 q = κ := by
    rcases pm_ok_hd (pm_ok_tl (pm_ok_tl hst)) with z | ⟨-, z, -⟩
    · exact z
    · omega
  have hxx : pm_r x := pm_ok_hd (pm_ok_tl hst)
  have hvv := pm_ok_hd hst
  refine va_dast hx hb hK hP hD hS q 3 (by rw [pm_ws_get hq, hkd, pm_e_d h1 h2]) rfl (pm_vin hxx h3 h4) hd (fun H1 locs1 hP1 hD1 hS1 => ?_)
  rw [pm_ws_set (m' := (me.1, pm_up me.2 q x.toNat (v.toNat : Int))) hq rfl (by
    show _ = pm_e AC ad (me.1.2.1 q) q (me.1.2.2 q) (pm_up me.2 q x.toNat (v.toNat : Int) q)
    rw [hkd, pm_e_d h1 h2, pm_clamp hxx h3]
    congr 7
    funext j
    show _ = UInt64.ofNat (Int.toNat (if q = q ∧ j = x.toNat then (v.toNat : Int) else me.2 q j))
    by_cases hj : j = x.toNat
    · subst hj
      rw [if_pos ⟨rfl, rfl⟩]
      exact (if_pos rfl).trans (by rw [Int.toNat_natCast, UInt64.ofNat_toNat])
    · rw [if_neg (fun z => hj z.2)]
      exact if_neg hj) (fun k9 _ hk9 => ⟨rfl, rfl, pm_up_o hk9⟩)] at hP1 hD1
  exact k hp hlc hlt ad H1 locs1 ls ⟨hP1, hD1, pm_inv_up hI (fun z => by omega) (fun z1 z2 => by omega), hS1, hl, hL, pm_ok_tl (pm_ok_tl (pm_ok_tl hst)), pm_up_ge hM (Nat.lt_of_lt_of_le hq hI.1), hb0⟩
end HPS

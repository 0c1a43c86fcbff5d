/-! ARRAYS OF THINGS, NEW THINGS, THE SCRIPT, NATIVES (laid by wip/whole/gen_new.py) -/
theorem pm_ll_ad {ad ad' : Nat → Nat} : ∀ {L : List (Option pm_V)} {i : Nat}, (∀ j v, pm_ld L j = some v → pm_val ad' v = pm_val ad v) → pm_ll ad' i L = pm_ll ad i L
  | [], _, _ => rfl
  | none :: L, i, h => by
    rw [pm_ll, pm_ll]
    exact pm_ll_ad (fun j v hj => h (j + 1) v hj)
  | some w :: L, i, h => by
    rw [pm_ll, pm_ll, h 0 w rfl, pm_ll_ad (fun j v hj => h (j + 1) v hj)]
theorem pm_ok_grow {fl : Bool} {z : pm_Sh} {κ : Nat} {B : Nat → Nat → Bool} {v : pm_V} (h : pm_ok fl z v) : pm_ok fl (z.1 + 1, pm_kd z.2.1 z.1 κ, B) v := by
  rcases v with x | ⟨k9, q⟩ | x | x | x
  · exact h
  · rcases h with h | h
    · refine Or.inl ⟨Nat.lt_succ_of_lt h.1, ?_⟩
      show (if q = z.1 then κ else z.2.1 q) = k9
      rw [if_neg (Nat.ne_of_lt h.1)]
      exact h.2
    · exact Or.inr h
  · exact h
  · trivial
  · trivial
theorem pm_inv_new {me : pm_Me} (hI : pm_inv me) (hn : me.1.1 < 9000) {κ : Nat} (hκ : κ < 10 ∨ (1000 ≤ κ ∧ κ < 6000)) : pm_inv ((me.1.1 + 1, pm_kd me.1.2.1 me.1.1 κ, pm_nb me.1.2.2 me.1.1), pm_nm me.2 me.1.1) := by
  refine ⟨hn, fun k hk => ?_⟩
  have hk : k < me.1.1 + 1 := hk
  by_cases he : k = me.1.1
  · subst he
    have e1 : pm_kd me.1.2.1 me.1.1 κ me.1.1 = κ := if_pos rfl
    have e2 : ∀ j, pm_nm me.2 me.1.1 me.1.1 j = 0 := fun j => if_pos rfl
    have e3 : ∀ j, pm_nb me.1.2.2 me.1.1 me.1.1 j = false := fun j => if_pos rfl
    refine ⟨?_, fun _ j => ?_, fun _ _ j => ?_, fun _ j _ hini => ?_, fun _ j _ hini => ?_⟩
    · show pm_kd me.1.2.1 me.1.1 κ me.1.1 < 10 ∨ (1000 ≤ pm_kd me.1.2.1 me.1.1 κ me.1.1 ∧ pm_kd me.1.2.1 me.1.1 κ me.1.1 < 6000)
      rw [e1]; exact hκ
    · show pm_r (pm_nm me.2 me.1.1 me.1.1 j)
      rw [e2]; exact pm_r0
    · show _ ≤ pm_nm me.2 me.1.1 me.1.1 j ∧ pm_nm me.2 me.1.1 me.1.1 j ≤ _
      rw [e2]; exact ⟨by decide, by decide⟩
    · have z : pm_nb me.1.2.2 me.1.1 me.1.1 j = true := hini
      rw [e3] at z; cases z
    · have z : pm_nb me.1.2.2 me.1.1 me.1.1 j = true := hini
      rw [e3] at z; cases z
  · have hk2 : k < me.1.1 := by omega
    have e1 : ∀ k, k < me.1.1 → pm_kd me.1.2.1 me.1.1 κ k = me.1.2.1 k := fun k h => if_neg (Nat.ne_of_lt h)
    have e2 : ∀ j, pm_nm me.2 me.1.1 k j = me.2 k j := fun j => if_neg he
    have e3 : ∀ j, pm_nb me.1.2.2 me.1.1 k j = me.1.2.2 k j := fun j => if_neg he
    obtain ⟨i1, i2, i3, i4, i5⟩ := hI.2 k hk2
    refine ⟨?_, fun z j => ?_, fun z z2 j => ?_, fun z j hj hini => ?_, fun z j hj hini => ?_⟩
    · show pm_kd me.1.2.1 me.1.1 κ k < 10 ∨ (1000 ≤ pm_kd me.1.2.1 me.1.1 κ k ∧ pm_kd me.1.2.1 me.1.1 κ k < 6000)
      rw [e1 k hk2]; exact i1
    · have z : pm_kd me.1.2.1 me.1.1 κ k < 3000 := z
      rw [e1 k hk2] at z
      show pm_r (pm_nm me.2 me.1.1 k j)
      rw [e2]; exact i2 z j
    · have z : 3000 ≤ pm_kd me.1.2.1 me.1.1 κ k := z
      have z2 : pm_kd me.1.2.1 me.1.1 κ k < 4000 := z2
      rw [e1 k hk2] at z z2
      show _ ≤ pm_nm me.2 me.1.1 k j ∧ pm_nm me.2 me.1.1 k j ≤ _
      rw [e2]; exact i3 z z2 j
    · have z : pm_kd me.1.2.1 me.1.1 κ k < 10 := z
      have hj : pm_fk (pm_kd me.1.2.1 me.1.1 κ k) j ≠ 0 := hj
      have hini : pm_nb me.1.2.2 me.1.1 k j = true := hini
      rw [e1 k hk2] at z hj
      rw [e3] at hini
      obtain ⟨a1, a2⟩ := i4 z j hj hini
      show pm_rf (pm_kd me.1.2.1 me.1.1 κ k) k j < me.1.1 + 1 ∧ pm_kd me.1.2.1 me.1.1 κ (pm_rf (pm_kd me.1.2.1 me.1.1 κ k) k j) + 1 = pm_fk (pm_kd me.1.2.1 me.1.1 κ k) j
      rw [e1 k hk2, e1 _ a1]
      exact ⟨Nat.lt_succ_of_lt a1, a2⟩
    · have z : 5000 ≤ pm_kd me.1.2.1 me.1.1 κ k := z
      have hj : j < pm_kd me.1.2.1 me.1.1 κ k - 5000 := hj
      have hini : pm_nb me.1.2.2 me.1.1 k j = true := hini
      rw [e1 k hk2] at z hj
      rw [e3] at hini
      obtain ⟨a1, a2⟩ := i5 z j hj hini
      show pm_rf (pm_kd me.1.2.1 me.1.1 κ k) k j < me.1.1 + 1 ∧ pm_kd me.1.2.1 me.1.1 κ (pm_rf (pm_kd me.1.2.1 me.1.1 κ k) k j) = 6
      rw [e1 k hk2, e1 _ a1]
      exact ⟨Nat.lt_succ_of_lt a1, a2⟩
theorem pm_cats {ad ad' : Nat → Nat} : ∀ {st : List pm_V}, ((st.map (pm_val ad)).map fun v => v.category).sum = (st.map fun v => (pm_val ad' v).category).sum
  | [] => rfl
  | v :: st => by
    rw [List.map_cons, List.map_cons, List.map_cons, List.sum_cons, List.sum_cons, pm_cats (st := st)]
    congr 1
    rcases v with x | ⟨κ, q⟩ | x | x | x <;> rfl
section NWS
variable {p : Program} {l : Launch} {e : Env} {R : Room} {s : State} {m : MethodId} {args : Array Value} {below : List Frame} {meth : Method} {c : Code} {Q : State → Prop}
variable {D : va_G} {AC : Nat → ClassId} {A : Nat → Prop} {cc : ByteArray} {nL : Nat} {fl : Bool} {M0 : Nat → Nat → Int} {bs : Nat × (Nat → Nat) × (Nat → Nat)} {pcs : List Nat}
variable {pc : Nat} {L : List (Option pm_V)} {st : List pm_V} {me : pm_Me} {c0 t0 : Nat}
/-- a new thing is there -/
theorem pm_grow {ad : Nat → Nat} {H H1 : Heap} {locs locs1 : List Loc} {ls : Array Slot} {κ qa : Nat} {e9 : va_E} (h : pm_Rel s D AC A nL fl M0 bs ad H locs ls L st me) (hκ : κ < 10 ∨ (1000 ≤ κ ∧ κ < 6000)) (hn : me.1.1 < 9000) (he : e9 = pm_e AC (fun j => if j = me.1.1 then qa else ad j) κ me.1.1 (fun _ => false) (fun _ => 0)) (hP1 : va_P D pm_cl (pm_ws AC ad me ++ [(qa, e9)]) H1) (hD1 : va_D A (pm_ws AC ad me ++ [(qa, e9)])) (hS1 : va_S A s.heap H1 locs1) :
    pm_Rel s D AC A nL fl M0 bs (fun j => if j = me.1.1 then qa else ad j) H1 locs1 ls L (.inr (.inl (κ, me.1.1)) :: st) ((me.1.1 + 1, pm_kd me.1.2.1 me.1.1 κ, pm_nb me.1.2.2 me.1.1), pm_nm me.2 me.1.1) ∧ st.map (pm_val (fun j => if j = me.1.1 then qa else ad j)) = st.map (pm_val ad) := by
  obtain ⟨hP, hD, hI, hS, hl, hL, hst, hM, hb0⟩ := h
  have e1 : ∀ q, q < me.1.1 → (fun j => if j = me.1.1 then qa else ad j) q = ad q := fun q hq => if_neg (Nat.ne_of_lt hq)
  have e2 : (fun j => if j = me.1.1 then qa else ad j) 9999 = ad 9999 := if_neg (by omega)
  have hws := pm_ws_push (AC := AC) (ad := ad) (m := me) (a := qa) (κ := κ) (e := e9) (M' := pm_nm me.2 me.1.1) (B' := pm_nb me.1.2.2 me.1.1) hI (by rw [he]; congr 1 <;> (funext j; exact (if_pos rfl).symm)) (fun k hk => by funext j; exact if_neg (Nat.ne_of_lt hk)) (fun k hk => by funext j; exact if_neg (Nat.ne_of_lt hk))
  rw [hws] at hP1 hD1
  refine ⟨⟨hP1, hD1, pm_inv_new hI hn hκ, hS1, ?_, fun j v hj => pm_ok_grow (hL j v hj), pm_ok_cons (Or.inl ⟨Nat.lt_succ_self _, if_pos rfl⟩) (fun v hv => pm_ok_grow (hst v hv)), fun a ha => ?_, ⟨Nat.le_succ_of_le hb0.1, fun q hq => ⟨(if_neg (Nat.ne_of_lt (Nat.lt_of_lt_of_le hq hb0.1))).trans (hb0.2.1 q hq).1, (e1 q (Nat.lt_of_lt_of_le hq hb0.1)).trans (hb0.2.1 q hq).2⟩, e2.trans hb0.2.2⟩⟩, ?_⟩
  · rw [pm_ll_ad (fun j v hj => pm_val_ad (hL j v hj) e1 e2)]
    exact hl
  · rw [← hM a ha]
    funext b
    exact if_neg (by omega)
  · apply List.map_congr_left
    intro v hv
    exact pm_val_ad (hst v hv) e1 e2
theorem pm_a_aaload (hx : p.tables.exec = Jvm.exec) (hb : c.code = cc) (hK : va_K D pm_cl (pm_tys AC) s) {κ q : Nat} {x : Int} (h1 : 5000 ≤ κ) (h3 : 0 ≤ x) (h4 : x < ((κ - 5000 : Nat) : Int)) (hini : me.1.2.2 q x.toNat = true) (hd : decode cc pc = .ok (.aaload, 1)) (k : pm_W p l e R s m args below meth c Q D AC A nL fl M0 bs pcs (pc + 1, L, .inr (.inl (6, pm_rf κ q x.toNat)) :: st, me, c0, t0)) (hp : pc + 1 ∈ pcs) : pm_W p l e R s m args below meth c Q D AC A nL fl M0 bs pcs (pc, L, .inl x :: .inr (.inl (κ, q)) :: st, me, c0, t0) := by
  intro _ hlc hlt ad H locs ls h
  dsimp only at h hlc hlt ⊢
  obtain ⟨hP, hD, hI, hS, hl, hL, hst, hM, hb0⟩ := id h
  obtain ⟨hq, hkd⟩ : q < me.1.1 ∧ me.1.2.1 q = κ := by
    rcases pm_ok_hd (pm_ok_tl hst) with z | ⟨-, z, -⟩
    · exact z
    · omega
  have hxx : pm_r x := pm_ok_hd hst
  refine va_aldq hx hb hK hP q 4 (by rw [pm_ws_get hq, hkd, pm_e_a h1]) rfl (pm_vin hxx h3 h4) hd ?_
  rw [pm_clamp hxx h3]
  have e1 : va_rf (pm_qv ad κ q (me.1.2.2 q) x.toNat) = .ref (ad (pm_rf κ q x.toNat)) := by
    unfold pm_qv
    rw [if_pos ⟨by omega, hini⟩]
    rfl
  rw [e1]
  have z := (hI.2 q hq).2.2.2.2 (by rw [hkd]; exact h1) x.toNat (by rw [hkd]; omega) hini
  rw [hkd] at z
  exact k hp hlc hlt ad H locs ls ⟨hP, hD, hI, hS, hl, hL, pm_ok_cons (v := .inr (.inl (6, pm_rf κ q x.toNat))) (Or.inl z) (pm_ok_tl (pm_ok_tl hst)), hM, hb0⟩
theorem pm_a_aastore (hx : p.tables.exec = Jvm.exec) (hb : c.code = cc) (hK : va_K D pm_cl (pm_tys AC) s) {κ q q2 : Nat} {x : Int} (h1 : 5000 ≤ κ) (h3 : 0 ≤ x) (h4 : x < ((κ - 5000 : Nat) : Int)) (hq2 : q2 = pm_rf κ q x.toNat) (hd : decode cc pc = .ok (.aastore, 1)) (k : pm_W p l e R s m args below meth c Q D AC A nL fl M0 bs pcs (pc + 1, L, st, ((me.1.1, me.1.2.1, pm_ub me.1.2.2 q x.toNat), me.2), c0, t0)) (hp : pc + 1 ∈ pcs) : pm_W p l e R s m args below meth c Q D AC A nL fl M0 bs pcs (pc, L, .inr (.inl (6, q2)) :: .inl x :: .inr (.inl (κ, q)) :: st, me, c0, t0) := by
  intro _ hlc hlt ad H locs ls h
  dsimp only at h hlc hlt ⊢
  obtain ⟨hP, hD, hI, hS, hl, hL, hst, hM, hb0⟩ := id h
  obtain ⟨hq, hkd⟩ : q < me.1.1 ∧ me.1.2.1 q = κ := by
    rcases pm_ok_hd (pm_ok_tl (pm_ok_tl hst)) with z | ⟨-, z, -⟩
    · exact z
    · omega
  obtain ⟨hq2n, hkd2⟩ : q2 < me.1.1 ∧ me.1.2.1 q2 = 6 := by
    rcases pm_ok_hd hst with z | ⟨-, z, -⟩
    · exact z
    · omega
  have hxx : pm_r x := pm_ok_hd (pm_ok_tl hst)
  have hset : (pm_ws AC ad me).set q (ad q, .inl (AC 5, κ - 5000, .inr (.inr (.inr (.inr (va_up (pm_qv ad κ q (me.1.2.2 q)) x.toNat (some (ad q2)))))))) = pm_ws AC ad ((me.1.1, me.1.2.1, pm_ub me.1.2.2 q x.toNat), me.2) := by
    refine pm_ws_set (m' := ((me.1.1, me.1.2.1, pm_ub me.1.2.2 q x.toNat), me.2)) hq rfl ?_ (fun k9 _ hk9 => ⟨rfl, by funext z; exact if_neg (fun w => hk9 w.1), rfl⟩)
    show _ = pm_e AC ad (me.1.2.1 q) q (pm_ub me.1.2.2 q x.toNat q) (me.2 q)
    rw [hkd, pm_e_a h1]
    have e2 : va_up (pm_qv ad κ q (me.1.2.2 q)) x.toNat (some (ad q2)) = pm_qv ad κ q (pm_ub me.1.2.2 q x.toNat q) := by
      funext j
      unfold va_up pm_qv
      by_cases hj : j = x.toNat
      · subst hj
        rw [if_pos rfl, if_pos ⟨by omega, by show (if q = q ∧ x.toNat = x.toNat then true else _) = true; rw [if_pos ⟨rfl, rfl⟩]⟩, hq2]
      · rw [if_neg hj, show pm_ub me.1.2.2 q x.toNat q j = me.1.2.2 q j from if_neg (fun z => hj z.2)]
    rw [e2]
  refine va_astq hx hb hK hP hD hS q 4 q2 6 (r := (RX6, TX6, 2)) (by rw [pm_ws_get hq, hkd, pm_e_a h1]) rfl (by rw [pm_ws_get hq2n, hkd2, pm_e_o (by decide)]) rfl (pm_vin hxx h3 h4) hd (fun H1 locs1 hP1 hD1 hS1 => ?_)
  rw [pm_clamp hxx h3] at hP1 hD1
  have hP1 := Eq.mp (congrArg (fun w => va_P D pm_cl w H1) hset) hP1
  have hD1 := Eq.mp (congrArg (fun w => va_D A w) hset) hD1
  refine k hp hlc hlt ad H1 locs1 ls ⟨hP1, hD1, ⟨hI.1, fun k9 hk9 => ?_⟩, hS1, hl, hL, pm_ok_tl (pm_ok_tl (pm_ok_tl hst)), hM, hb0⟩
  obtain ⟨i1, i2, i3, i4, i5⟩ := hI.2 k9 hk9
  refine ⟨i1, i2, i3, fun z j hj hini => ?_, fun z j hj hini => ?_⟩
  · refine i4 z j hj ?_
    have z2 : (if k9 = q ∧ j = x.toNat then true else me.1.2.2 k9 j) = true := hini
    have z3 : me.1.2.1 k9 < 10 := z
    rw [if_neg (fun w => by rw [w.1, hkd] at z3; omega)] at z2
    exact z2
  · by_cases hh : k9 = q ∧ j = x.toNat
    · obtain ⟨rfl, rfl⟩ := hh
      show pm_rf (me.1.2.1 k9) k9 x.toNat < me.1.1 ∧ me.1.2.1 (pm_rf (me.1.2.1 k9) k9 x.toNat) = 6
      rw [hkd, ← hq2]
      exact ⟨hq2n, hkd2⟩
    · exact i5 z j hj (by have z2 : (if k9 = q ∧ j = x.toNat then true else me.1.2.2 k9 j) = true := hini; rw [if_neg hh] at z2; exact z2)
theorem pm_a_new (hx : p.tables.exec = Jvm.exec) (hb : c.code = cc) {own : String} {Ts : List Cond} {a idx : Nat} (hts : ∀ w ∈ Ts, w.before args s = true) (hCw : ∀ a, a < 10 → ∀ w ∈ u_ws (pm_C a).1 (pm_C a).2.1 (pm_C a).2.2, w ∈ Ts) (hown : s.vm.findClass own = some m.cls) (hK : va_K D pm_cl (pm_tys AC) s) (hA : ∀ q, s.heap.size ≤ q → A q) (ha : a < 10) (hcl : (Cond.classLink own idx (pm_C a).1).before args s = true) (hinst : (Cond.instantiable (pm_C a).1 (pm_C a).2.2).before args s = true) (hini : (Cond.initialized (pm_C a).1).before args s = true) (hc1 : c0 + 1 ≤ R.cells) (ht1 : t0 + pm_nf a ≤ R.slots) (hn : me.1.1 < 9000) (hd : decode cc pc = .ok (.new idx, 3)) (k : pm_W p l e R s m args below meth c Q D AC A nL fl M0 bs pcs (pc + 3, L, .inr (.inl (a, me.1.1)) :: st, ((me.1.1 + 1, pm_kd me.1.2.1 me.1.1 a, pm_nb me.1.2.2 me.1.1), pm_nm me.2 me.1.1), c0 + 1, t0 + pm_nf a)) (hp : pc + 3 ∈ pcs) : pm_W p l e R s m args below meth c Q D AC A nL fl M0 bs pcs (pc, L, st, me, c0, t0) := by
  intro _ hlc hlt ad H locs ls h
  dsimp only at h hlc hlt ⊢
  obtain ⟨hP, hD, hI, hS, hl, hL, hst, hM, hb0⟩ := id h
  have hN := pm_C_n a ha
  refine va_new (fs := (List.range (pm_nf a)).map (pm_fv ad a me.1.1 (fun _ => false) (fun _ => 0))) hx hb hts (hCw a ha) (pm_ft a) (pm_C_ty a ha) hown hcl hinst hini hK hP hD hS hA (pm_C_at a ha) (fun j hj => ?_) hc1 (by rw [hN]; exact ht1) hd (fun qa H1 hP1 hD1 hS1 => ?_)
  · rw [hN] at hj
    show _ = ((List.range (pm_nf a)).map (pm_fv ad a me.1.1 (fun _ => false) (fun _ => 0))).getD j Value.null
    rw [List.getD_eq_getElem?_getD, List.getElem?_map, List.getElem?_range hj]
    show _ = pm_fv ad a me.1.1 (fun _ => false) (fun _ => 0) j
    unfold pm_fv
    by_cases hf : pm_fk a j = 0
    · rw [if_pos hf]
      rcases (pm_C_fk a ha j hj).1 hf with z | z <;> rw [z] <;> rfl
    · rw [if_neg hf, if_neg Bool.false_ne_true]
      exact (pm_fits_r (q := 0) ((pm_C_fk a ha j hj).2 hf)).2.2
  · have he : (.inr (a, (List.range (pm_nf a)).map (pm_fv ad a me.1.1 (fun _ => false) (fun _ => 0))) : va_E) = pm_e AC (fun j => if j = me.1.1 then qa else ad j) a me.1.1 (fun _ => false) (fun _ => 0) := by
      rw [pm_e_o ha]
      congr 2
    obtain ⟨r1, r2⟩ := pm_grow h (Or.inl ha) hn he hP1 hD1 hS1
    have k2 := k hp hc1 ht1 _ H1 locs ls r1
    rw [hN]
    rw [List.map_cons] at k2
    dsimp only at k2
    rw [r2] at k2
    have e3 : pm_val (fun j => if j = me.1.1 then qa else ad j) (.inr (.inl (a, me.1.1))) = .ref qa := congrArg Value.ref (if_pos rfl)
    rw [e3] at k2
    exact k2
theorem pm_a_newarray_int (hx : p.tables.exec = Jvm.exec) (hb : c.code = cc) (harr : (Cond.arrayClass .int).before args s = true) (hK : va_K D pm_cl (pm_tys AC) s) (hA : ∀ q, s.heap.size ≤ q → A q) {x : Int} (h3 : 0 ≤ x) (h4 : x < 1000) (hc1 : c0 + 1 ≤ R.cells) (ht1 : t0 + x.toNat ≤ R.slots) (hn : me.1.1 < 9000) (hd : decode cc pc = .ok (.newarray .int, 2)) (k : pm_W p l e R s m args below meth c Q D AC A nL fl M0 bs pcs (pc + 2, L, .inr (.inl (1000 + x.toNat, me.1.1)) :: st, ((me.1.1 + 1, pm_kd me.1.2.1 me.1.1 (1000 + x.toNat), pm_nb me.1.2.2 me.1.1), pm_nm me.2 me.1.1), c0 + 1, t0 + x.toNat)) (hp : pc + 2 ∈ pcs) : pm_W p l e R s m args below meth c Q D AC A nL fl M0 bs pcs (pc, L, .inl x :: st, me, c0, t0) := by
  intro _ hlc hlt ad H locs ls h
  dsimp only at h hlc hlt ⊢
  obtain ⟨hP, hD, hI, hS, hl, hL, hst, hM, hb0⟩ := id h
  have hxx : pm_r x := pm_ok_hd hst
  refine va_newa (atype := .int) (a0 := (x.toNat, .inl (fun _ => 0))) hx hb harr rfl hK hP hD hS hA (fun cA => rfl) (fun q => ?_) (pm_clamp hxx h3) ?_ hc1 ht1 hd (fun qa cA H1 hK1 hP1 hD1 hS1 => ?_)
  · rw [← pm_i32_0, pm_i32_lt hxx pm_r0] at q; omega
  · have : componentBytes .int ≤ 8 := by decide
    have h5 : x.toNat ≤ 1000 := by omega
    exact Nat.le_trans (Nat.mul_le_mul h5 this) (by decide)
  · have hcA : cA = AC 1 := by
      have z1 := (hK1.2 5 (cA, .int) rfl).2
      have z2 := (hK.2 0 (AC 1, .int) rfl).2
      exact Option.some.inj (z1.symm.trans z2)
    subst hcA
    have he : (.inl (AC 1, x.toNat, .inl (fun _ => 0)) : va_E) = pm_e AC (fun j => if j = me.1.1 then qa else ad j) (1000 + x.toNat) me.1.1 (fun _ => false) (fun _ => 0) := by
      rw [pm_e_i (by omega) (by omega), show 1000 + x.toNat - 1000 = x.toNat by omega]
      rfl
    obtain ⟨r1, r2⟩ := pm_grow (st := st) (κ := 1000 + x.toNat) ⟨hP, hD, hI, hS, hl, hL, pm_ok_tl hst, hM, hb0⟩ (Or.inr ⟨by omega, by omega⟩) hn he hP1 hD1 hS1
    have k2 := k hp hc1 ht1 _ H1 locs ls r1
    rw [List.map_cons] at k2
    dsimp only at k2
    rw [r2] at k2
    have e3 : pm_val (fun j => if j = me.1.1 then qa else ad j) (.inr (.inl (1000 + x.toNat, me.1.1))) = .ref qa := congrArg Value.ref (if_pos rfl)
    rw [e3] at k2
    exact k2
theorem pm_a_newarray_boolean (hx : p.tables.exec = Jvm.exec) (hb : c.code = cc) (harr : (Cond.arrayClass .boolean).before args s = true) (hK : va_K D pm_cl (pm_tys AC) s) (hA : ∀ q, s.heap.size ≤ q → A q) {x : Int} (h3 : 0 ≤ x) (h4 : x < 1000) (hc1 : c0 + 1 ≤ R.cells) (ht1 : t0 + x.toNat ≤ R.slots) (hn : me.1.1 < 9000) (hd : decode cc pc = .ok (.newarray .boolean, 2)) (k : pm_W p l e R s m args below meth c Q D AC A nL fl M0 bs pcs (pc + 2, L, .inr (.inl (2000 + x.toNat, me.1.1)) :: st, ((me.1.1 + 1, pm_kd me.1.2.1 me.1.1 (2000 + x.toNat), pm_nb me.1.2.2 me.1.1), pm_nm me.2 me.1.1), c0 + 1, t0 + x.toNat)) (hp : pc + 2 ∈ pcs) : pm_W p l e R s m args below meth c Q D AC A nL fl M0 bs pcs (pc, L, .inl x :: st, me, c0, t0) := by
  intro _ hlc hlt ad H locs ls h
  dsimp only at h hlc hlt ⊢
  obtain ⟨hP, hD, hI, hS, hl, hL, hst, hM, hb0⟩ := id h
  have hxx : pm_r x := pm_ok_hd hst
  refine va_newa (atype := .boolean) (a0 := (x.toNat, .inl (fun _ => 0))) hx hb harr rfl hK hP hD hS hA (fun cA => rfl) (fun q => ?_) (pm_clamp hxx h3) ?_ hc1 ht1 hd (fun qa cA H1 hK1 hP1 hD1 hS1 => ?_)
  · rw [← pm_i32_0, pm_i32_lt hxx pm_r0] at q; omega
  · have : componentBytes .boolean ≤ 8 := by decide
    have h5 : x.toNat ≤ 1000 := by omega
    exact Nat.le_trans (Nat.mul_le_mul h5 this) (by decide)
  · have hcA : cA = AC 2 := by
      have z1 := (hK1.2 5 (cA, .boolean) rfl).2
      have z2 := (hK.2 1 (AC 2, .boolean) rfl).2
      exact Option.some.inj (z1.symm.trans z2)
    subst hcA
    have he : (.inl (AC 2, x.toNat, .inl (fun _ => 0)) : va_E) = pm_e AC (fun j => if j = me.1.1 then qa else ad j) (2000 + x.toNat) me.1.1 (fun _ => false) (fun _ => 0) := by
      rw [pm_e_b (by omega) (by omega), show 2000 + x.toNat - 2000 = x.toNat by omega]
      rfl
    obtain ⟨r1, r2⟩ := pm_grow (st := st) (κ := 2000 + x.toNat) ⟨hP, hD, hI, hS, hl, hL, pm_ok_tl hst, hM, hb0⟩ (Or.inr ⟨by omega, by omega⟩) hn he hP1 hD1 hS1
    have k2 := k hp hc1 ht1 _ H1 locs ls r1
    rw [List.map_cons] at k2
    dsimp only at k2
    rw [r2] at k2
    have e3 : pm_val (fun j => if j = me.1.1 then qa else ad j) (.inr (.inl (2000 + x.toNat, me.1.1))) = .ref qa := congrArg Value.ref (if_pos rfl)
    rw [e3] at k2
    exact k2
theorem pm_a_newarray_long (hx : p.tables.exec = Jvm.exec) (hb : c.code = cc) (harr : (Cond.arrayClass .long).before args s = true) (hK : va_K D pm_cl (pm_tys AC) s) (hA : ∀ q, s.heap.size ≤ q → A q) {x : Int} (h3 : 0 ≤ x) (h4 : x < 1000) (hc1 : c0 + 1 ≤ R.cells) (ht1 : t0 + x.toNat ≤ R.slots) (hn : me.1.1 < 9000) (hd : decode cc pc = .ok (.newarray .long, 2)) (k : pm_W p l e R s m args below meth c Q D AC A nL fl M0 bs pcs (pc + 2, L, .inr (.inl (3000 + x.toNat, me.1.1)) :: st, ((me.1.1 + 1, pm_kd me.1.2.1 me.1.1 (3000 + x.toNat), pm_nb me.1.2.2 me.1.1), pm_nm me.2 me.1.1), c0 + 1, t0 + x.toNat)) (hp : pc + 2 ∈ pcs) : pm_W p l e R s m args below meth c Q D AC A nL fl M0 bs pcs (pc, L, .inl x :: st, me, c0, t0) := by
  intro _ hlc hlt ad H locs ls h
  dsimp only at h hlc hlt ⊢
  obtain ⟨hP, hD, hI, hS, hl, hL, hst, hM, hb0⟩ := id h
  have hxx : pm_r x := pm_ok_hd hst
  refine va_newa (atype := .long) (a0 := (x.toNat, .inr (.inl (fun _ => 0)))) hx hb harr rfl hK hP hD hS hA (fun cA => rfl) (fun q => ?_) (pm_clamp hxx h3) ?_ hc1 ht1 hd (fun qa cA H1 hK1 hP1 hD1 hS1 => ?_)
  · rw [← pm_i32_0, pm_i32_lt hxx pm_r0] at q; omega
  · have : componentBytes .long ≤ 8 := by decide
    have h5 : x.toNat ≤ 1000 := by omega
    exact Nat.le_trans (Nat.mul_le_mul h5 this) (by decide)
  · have hcA : cA = AC 3 := by
      have z1 := (hK1.2 5 (cA, .long) rfl).2
      have z2 := (hK.2 2 (AC 3, .long) rfl).2
      exact Option.some.inj (z1.symm.trans z2)
    subst hcA
    have he : (.inl (AC 3, x.toNat, .inr (.inl (fun _ => 0))) : va_E) = pm_e AC (fun j => if j = me.1.1 then qa else ad j) (3000 + x.toNat) me.1.1 (fun _ => false) (fun _ => 0) := by
      rw [pm_e_l (by omega) (by omega), show 3000 + x.toNat - 3000 = x.toNat by omega]
      rfl
    obtain ⟨r1, r2⟩ := pm_grow (st := st) (κ := 3000 + x.toNat) ⟨hP, hD, hI, hS, hl, hL, pm_ok_tl hst, hM, hb0⟩ (Or.inr ⟨by omega, by omega⟩) hn he hP1 hD1 hS1
    have k2 := k hp hc1 ht1 _ H1 locs ls r1
    rw [List.map_cons] at k2
    dsimp only at k2
    rw [r2] at k2
    have e3 : pm_val (fun j => if j = me.1.1 then qa else ad j) (.inr (.inl (3000 + x.toNat, me.1.1))) = .ref qa := congrArg Value.ref (if_pos rfl)
    rw [e3] at k2
    exact k2
theorem pm_a_newarray_double (hx : p.tables.exec = Jvm.exec) (hb : c.code = cc) (harr : (Cond.arrayClass .double).before args s = true) (hK : va_K D pm_cl (pm_tys AC) s) (hA : ∀ q, s.heap.size ≤ q → A q) {x : Int} (h3 : 0 ≤ x) (h4 : x < 1000) (hc1 : c0 + 1 ≤ R.cells) (ht1 : t0 + x.toNat ≤ R.slots) (hn : me.1.1 < 9000) (hd : decode cc pc = .ok (.newarray .double, 2)) (k : pm_W p l e R s m args below meth c Q D AC A nL fl M0 bs pcs (pc + 2, L, .inr (.inl (4000 + x.toNat, me.1.1)) :: st, ((me.1.1 + 1, pm_kd me.1.2.1 me.1.1 (4000 + x.toNat), pm_nb me.1.2.2 me.1.1), pm_nm me.2 me.1.1), c0 + 1, t0 + x.toNat)) (hp : pc + 2 ∈ pcs) : pm_W p l e R s m args below meth c Q D AC A nL fl M0 bs pcs (pc, L, .inl x :: st, me, c0, t0) := by
  intro _ hlc hlt ad H locs ls h
  dsimp only at h hlc hlt ⊢
  obtain ⟨hP, hD, hI, hS, hl, hL, hst, hM, hb0⟩ := id h
  have hxx : pm_r x := pm_ok_hd hst
  refine va_newa (atype := .double) (a0 := (x.toNat, .inr (.inr (.inr (.inl (fun _ => 0)))))) hx hb harr rfl hK hP hD hS hA (fun cA => rfl) (fun q => ?_) (pm_clamp hxx h3) ?_ hc1 ht1 hd (fun qa cA H1 hK1 hP1 hD1 hS1 => ?_)
  · rw [← pm_i32_0, pm_i32_lt hxx pm_r0] at q; omega
  · have : componentBytes .double ≤ 8 := by decide
    have h5 : x.toNat ≤ 1000 := by omega
    exact Nat.le_trans (Nat.mul_le_mul h5 this) (by decide)
  · have hcA : cA = AC 4 := by
      have z1 := (hK1.2 5 (cA, .double) rfl).2
      have z2 := (hK.2 3 (AC 4, .double) rfl).2
      exact Option.some.inj (z1.symm.trans z2)
    subst hcA
    have he : (.inl (AC 4, x.toNat, .inr (.inr (.inr (.inl (fun _ => 0))))) : va_E) = pm_e AC (fun j => if j = me.1.1 then qa else ad j) (4000 + x.toNat) me.1.1 (fun _ => false) (fun _ => 0) := by
      rw [pm_e_d (by omega) (by omega), show 4000 + x.toNat - 4000 = x.toNat by omega]
      rfl
    obtain ⟨r1, r2⟩ := pm_grow (st := st) (κ := 4000 + x.toNat) ⟨hP, hD, hI, hS, hl, hL, pm_ok_tl hst, hM, hb0⟩ (Or.inr ⟨by omega, by omega⟩) hn he hP1 hD1 hS1
    have k2 := k hp hc1 ht1 _ H1 locs ls r1
    rw [List.map_cons] at k2
    dsimp only at k2
    rw [r2] at k2
    have e3 : pm_val (fun j => if j = me.1.1 then qa else ad j) (.inr (.inl (4000 + x.toNat, me.1.1))) = .ref qa := congrArg Value.ref (if_pos rfl)
    rw [e3] at k2
    exact k2
theorem pm_a_anewarray (hx : p.tables.exec = Jvm.exec) (hb : c.code = cc) {own : String} {idx : Nat} (hown : s.vm.findClass own = some m.cls) (hcl : (Cond.classLink own idx "PatternLaboratory$Row").before args s = true) (hAO : va_AO "PatternLaboratory$Row" s) (hK : va_K D pm_cl (pm_tys AC) s) (hA : ∀ q, s.heap.size ≤ q → A q) {x : Int} (h3 : 0 ≤ x) (h4 : x < 1000) (hc1 : c0 + 1 ≤ R.cells) (ht1 : t0 + x.toNat ≤ R.slots) (hn : me.1.1 < 9000) (hd : decode cc pc = .ok (.anewarray idx, 3)) (k : pm_W p l e R s m args below meth c Q D AC A nL fl M0 bs pcs (pc + 3, L, .inr (.inl (5000 + x.toNat, me.1.1)) :: st, ((me.1.1 + 1, pm_kd me.1.2.1 me.1.1 (5000 + x.toNat), pm_nb me.1.2.2 me.1.1), pm_nm me.2 me.1.1), c0 + 1, t0 + x.toNat)) (hp : pc + 3 ∈ pcs) : pm_W p l e R s m args below meth c Q D AC A nL fl M0 bs pcs (pc, L, .inl x :: st, me, c0, t0) := by
  intro _ hlc hlt ad H locs ls h
  dsimp only at h hlc hlt ⊢
  obtain ⟨hP, hD, hI, hS, hl, hL, hst, hM, hb0⟩ := id h
  have hxx : pm_r x := pm_ok_hd hst
  refine va_newq hx hb hown hcl hAO hK hP hD hS hA (fun q => ?_) (pm_clamp hxx h3) (by omega) hc1 ht1 hd (fun qa cA H1 hK1 hP1 hD1 hS1 => ?_)
  · rw [← pm_i32_0, pm_i32_lt hxx pm_r0] at q; omega
  · have hcA : cA = AC 5 := by
      obtain ⟨_, _, _, _, _, z1⟩ := (hK1.2 5 (cA, .object "PatternLaboratory$Row") rfl).2
      obtain ⟨_, _, _, _, _, z2⟩ := (hK.2 4 (AC 5, .object "PatternLaboratory$Row") rfl).2
      exact Option.some.inj (z1.symm.trans z2)
    subst hcA
    have he : (.inl (AC 5, x.toNat, .inr (.inr (.inr (.inr (fun _ => none))))) : va_E) = pm_e AC (fun j => if j = me.1.1 then qa else ad j) (5000 + x.toNat) me.1.1 (fun _ => false) (fun _ => 0) := by
      rw [pm_e_a (by omega), show 5000 + x.toNat - 5000 = x.toNat by omega]
      have e9 : (fun _ => none : Nat → Option Nat) = pm_qv (fun j => if j = me.1.1 then qa else ad j) (5000 + x.toNat) me.1.1 (fun _ => false) := by
        funext j
        unfold pm_qv
        rw [if_neg (fun z => by cases z.2)]
      rw [e9]
    obtain ⟨r1, r2⟩ := pm_grow (st := st) (κ := 5000 + x.toNat) ⟨hP, hD, hI, hS, hl, hL, pm_ok_tl hst, hM, hb0⟩ (Or.inr ⟨by omega, by omega⟩) hn he hP1 hD1 hS1
    have k2 := k hp hc1 ht1 _ H1 locs ls r1
    rw [List.map_cons] at k2
    dsimp only at k2
    rw [r2] at k2
    have e3 : pm_val (fun j => if j = me.1.1 then qa else ad j) (.inr (.inl (5000 + x.toNat, me.1.1))) = .ref qa := congrArg Value.ref (if_pos rfl)
    rw [e3] at k2
    exact k2
/-- the law's script -/
def pm_scr (s : State) (A : Nat → Prop) (M0 : Nat → Nat → Int) (b0 : Nat) : Prop := ∃ (Ln : Nat) (xs : Nat → Int32), va_X b0 Ln xs s s.heap ∧ b0 < s.heap.size ∧ ¬ A b0 ∧ M0 9998 0 = (Ln : Int) ∧ (Ln : Int) ≤ 2147483647 ∧ ∀ j, j < Ln → M0 9999 j = (xs j).toInt
theorem pm_a_sload (hx : p.tables.exec = Jvm.exec) (hb : c.code = cc) (hscr : pm_scr s A M0 (bs.2.2 9999)) {q : Nat} {x : Int} (h3 : 0 ≤ x) (h4 : x < me.2 9998 0) (hq9 : q = 9999) (hd : decode cc pc = .ok (.iaload, 1)) (k : pm_W p l e R s m args below meth c Q D AC A nL fl M0 bs pcs (pc + 1, L, .inl (me.2 9999 x.toNat) :: st, me, c0, t0)) (hp : pc + 1 ∈ pcs) : pm_W p l e R s m args below meth c Q D AC A nL fl M0 bs pcs (pc, L, .inl x :: .inr (.inl (999, q)) :: st, me, c0, t0) := by
  intro _ hlc hlt ad H locs ls h
  dsimp only at h hlc hlt ⊢
  obtain ⟨hP, hD, hI, hS, hl, hL, hst, hM, hb0⟩ := id h
  obtain ⟨Ln, xs, s1, s2, s3, s4, -, s5⟩ := hscr
  have hxx : pm_r x := pm_ok_hd hst
  rw [hM 9998 (by decide), s4] at h4
  subst hq9
  have e0 : pm_val ad (.inr (.inl (999, 9999))) = .ref (bs.2.2 9999) := congrArg Value.ref hb0.2.2
  show W p l e R s m args below meth c H locs c0 t0 Q (F0 m pc ls (pm_val ad (.inl x) :: pm_val ad (.inr (.inl (999, 9999))) :: st.map (pm_val ad)))
  rw [e0]
  refine va_sld hx hb s1 s2 s3 hS (pm_vin hxx h3 h4) hd ?_
  rw [pm_clamp hxx h3]
  have e1 : me.2 9999 x.toNat = (xs x.toNat).toInt := by rw [hM 9999 (by decide)]; exact s5 _ (by omega)
  have k2 := k hp hlc hlt ad H locs ls ⟨hP, hD, hI, hS, hl, hL, pm_ok_cons (v := .inl (me.2 9999 x.toNat)) (by rw [e1]; exact pm_r_of _) (pm_ok_tl (pm_ok_tl hst)), hM, hb0⟩
  have e2 : pm_val ad (.inl (me.2 9999 x.toNat)) = .int (xs x.toNat) := by rw [e1]; exact congrArg Value.int (pm_i32_of _)
  rw [List.map_cons] at k2
  rw [e2] at k2
  exact k2
theorem pm_a_slen (hx : p.tables.exec = Jvm.exec) (hb : c.code = cc) (hscr : pm_scr s A M0 (bs.2.2 9999)) {q : Nat} (hq9 : q = 9999) (hd : decode cc pc = .ok (.arraylength, 1)) (k : pm_W p l e R s m args below meth c Q D AC A nL fl M0 bs pcs (pc + 1, L, .inl (me.2 9998 0) :: st, me, c0, t0)) (hp : pc + 1 ∈ pcs) : pm_W p l e R s m args below meth c Q D AC A nL fl M0 bs pcs (pc, L, .inr (.inl (999, q)) :: st, me, c0, t0) := by
  intro _ hlc hlt ad H locs ls h
  dsimp only at h hlc hlt ⊢
  obtain ⟨hP, hD, hI, hS, hl, hL, hst, hM, hb0⟩ := id h
  obtain ⟨Ln, xs, s1, s2, s3, s4, s6, s5⟩ := hscr
  subst hq9
  have e0 : pm_val ad (.inr (.inl (999, 9999))) = .ref (bs.2.2 9999) := congrArg Value.ref hb0.2.2
  show W p l e R s m args below meth c H locs c0 t0 Q (F0 m pc ls (pm_val ad (.inr (.inl (999, 9999))) :: st.map (pm_val ad)))
  rw [e0]
  refine va_slen hx hb s1 s2 s3 hS hd ?_
  have e1 : me.2 9998 0 = (Ln : Int) := by rw [hM 9998 (by decide)]; exact s4
  have k2 := k hp hlc hlt ad H locs ls ⟨hP, hD, hI, hS, hl, hL, pm_ok_cons (v := .inl (me.2 9998 0)) (by rw [e1]; exact ⟨by omega, s6⟩) (pm_ok_tl hst), hM, hb0⟩
  have e2 : pm_val ad (.inl (me.2 9998 0)) = .int (Int32.ofNat Ln) := by rw [e1]; exact congrArg Value.int (Int32.ofInt_eq_ofNat)
  rw [List.map_cons] at k2
  rw [e2] at k2
  exact k2
theorem pm_a_max (hx : p.tables.exec = Jvm.exec) (hb : c.code = cc) (hml : c.maxLocals = nL) {own : String} {idx : Nat} {x y : Int} (hown : s.vm.findClass own = some m.cls) (hlink : (Cond.methodLink own idx Lib.Math.max.name).before args s = true) (hstat : (Cond.static Lib.Math.max.name).before args s = true) (hini : (Cond.initialized "java/lang/Math").before args s = true) (hcode : (Cond.code Lib.Math.max.name Lib.Math.max.code 2 (some .int)).before args s = true) (hf : 1 ≤ R.frames) (hlo : (st.map fun v => (pm_val (fun _ => 0) v).category).sum + 13 ≤ R.locals) (hd : decode cc pc = .ok (.invokestatic idx, 3)) (k : pm_W p l e R s m args below meth c Q D AC A nL fl M0 bs pcs (pc + 3, L, .inl (max x y) :: st, me, c0, t0)) (hp : pc + 3 ∈ pcs) : pm_W p l e R s m args below meth c Q D AC A nL fl M0 bs pcs (pc, L, .inl y :: .inl x :: st, me, c0, t0) := by
  intro _ hlc hlt ad H locs ls h
  dsimp only at h hlc hlt ⊢
  obtain ⟨hP, hD, hI, hS, hl, hL, hst, hM, hb0⟩ := id h
  have hy : pm_r y := pm_ok_hd hst
  have hxx : pm_r x := pm_ok_hd (pm_ok_tl hst)
  refine va_mmax hx hb (hml.trans hl.1.symm) hown hlink hstat hini hcode hf (by rw [pm_cats (ad' := fun _ => 0)]; exact hlo) hlc hlt hd ?_
  have hm : pm_r (max x y) := by
    rcases Int.le_total x y with z | z
    · rw [Int.max_eq_right z]; exact hy
    · rw [Int.max_eq_left z]; exact hxx
  have k2 := k hp hlc hlt ad H locs ls ⟨hP, hD, hI, hS, hl, hL, pm_ok_cons (v := .inl (max x y)) hm (pm_ok_tl (pm_ok_tl hst)), hM, hb0⟩
  have e2 : pm_val ad (.inl (max x y)) = .int (if Int32.ofInt x < Int32.ofInt y then Int32.ofInt y else Int32.ofInt x) := by
    refine congrArg Value.int ?_
    by_cases z : x < y
    · rw [if_pos ((pm_i32_lt hxx hy).mpr z), Int.max_eq_right (by omega)]
    · rw [if_neg (fun w => z ((pm_i32_lt hxx hy).mp w)), Int.max_eq_left (by omega)]
  rw [List.map_cons] at k2
  rw [e2] at k2
  exact k2
theorem pm_a_copy (hx : p.tables.exec = Jvm.exec) (hb : c.code = cc) (hK : va_K D pm_cl (pm_tys AC) s) (hml : c.maxLocals = nL) {own : String} {idx : Nat} {x y n : Int} {κ q k1 q1 : Nat} (hown : s.vm.findClass own = some m.cls) (hlink : (Cond.methodLink own idx arraycopyName).before args s = true) (hnat : (Cond.native arraycopyName).before args s = true) (hstat : (Cond.static arraycopyName).before args s = true) (hini : (Cond.initialized "java/lang/System").before args s = true) (h1 : 1000 ≤ κ) (h2 : κ ≤ 1999) (h11 : 1000 ≤ k1) (h12 : k1 ≤ 1999) (n0 : 0 ≤ n) (x0 : 0 ≤ x) (y0 : 0 ≤ y) (hxn : x + n ≤ ((κ - 1000 : Nat) : Int)) (hyn : y + n ≤ ((k1 - 1000 : Nat) : Int)) (hne : q ≠ q1) (hf : 1 ≤ R.frames) (hlo : (st.map fun v => (pm_val (fun _ => 0) v).category).sum + (nativeFrameWords "java/lang/System" "arraycopy" 5 + 11) ≤ R.locals) (hd : decode cc pc = .ok (.invokestatic idx, 3)) (k : pm_W p l e R s m args below meth c Q D AC A nL fl M0 bs pcs (pc + 3, L, st, (me.1, pm_cp me.2 q x.toNat q1 y.toNat n.toNat), c0, t0)) (hp : pc + 3 ∈ pcs) : pm_W p l e R s m args below meth c Q D AC A nL fl M0 bs pcs (pc, L, .inl n :: .inl y :: .inr (.inl (k1, q1)) :: .inl x :: .inr (.inl (κ, q)) :: st, me, c0, t0) := by
  intro _ hlc hlt ad H locs ls h
  dsimp only at h hlc hlt ⊢
  obtain ⟨hP, hD, hI, hS, hl, hL, hst, hM, hb0⟩ := id h
  have hn : pm_r n := pm_ok_hd hst
  have hy : pm_r y := pm_ok_hd (pm_ok_tl hst)
  have hxx : pm_r x := pm_ok_hd (pm_ok_tl (pm_ok_tl (pm_ok_tl hst)))
  obtain ⟨hq1, hkd1⟩ : q1 < me.1.1 ∧ me.1.2.1 q1 = k1 := by
    rcases pm_ok_hd (pm_ok_tl (pm_ok_tl hst)) with z | ⟨-, z, -⟩
    · exact z
    · omega
  obtain ⟨hq, hkd⟩ : q < me.1.1 ∧ me.1.2.1 q = κ := by
    rcases pm_ok_hd (pm_ok_tl (pm_ok_tl (pm_ok_tl (pm_ok_tl hst)))) with z | ⟨-, z, -⟩
    · exact z
    · omega
  have hneg : ∀ z : Int, pm_r z → 0 ≤ z → ¬ Int32.ofInt z < 0 := fun z hz h0 w => by rw [← pm_i32_0, pm_i32_lt hz pm_r0] at w; omega
  refine va_copyi (ty := .int) hx hb (hml.trans hl.1.symm) hown hlink hnat hstat hini hK hP hD hS q q1 0 0 (by rw [pm_ws_get hq, hkd, pm_e_i h1 h2]) (by rw [pm_ws_get hq1, hkd1, pm_e_i h11 h12]) rfl rfl rfl (hneg x hxx x0) (hneg y hy y0) (hneg n hn n0) (by rw [pm_clamp hxx x0, pm_clamp hn n0]; omega) (by rw [pm_clamp hy y0, pm_clamp hn n0]; omega) (fun _ _ => rfl) hf (by rw [pm_cats (ad' := fun _ => 0)]; exact hlo) hd (fun H1 locs1 hP1 hD1 hS1 => ?_)
  rw [pm_clamp hxx x0, pm_clamp hy y0, pm_clamp hn n0] at hP1 hD1
  have hset : (pm_ws AC ad me).set q1 (ad q1, .inl (AC 1, k1 - 1000, .inl (va_cpy (fun j => Int32.ofInt (me.2 q j)) (fun j => Int32.ofInt (me.2 q1 j)) x.toNat y.toNat n.toNat))) = pm_ws AC ad (me.1, pm_cp me.2 q x.toNat q1 y.toNat n.toNat) := by
    refine pm_ws_set (m' := (me.1, pm_cp me.2 q x.toNat q1 y.toNat n.toNat)) hq1 rfl ?_ (fun k9 _ hk9 => ⟨rfl, rfl, by funext z; exact if_neg (fun w => hk9 w.1)⟩)
    show _ = pm_e AC ad (me.1.2.1 q1) q1 (me.1.2.2 q1) (pm_cp me.2 q x.toNat q1 y.toNat n.toNat q1)
    rw [hkd1, pm_e_i h11 h12]
    congr 4
    funext j
    unfold va_cpy pm_cp
    by_cases hj : y.toNat ≤ j ∧ j < y.toNat + n.toNat
    · rw [if_pos hj, if_pos ⟨rfl, hj.1, hj.2⟩]
    · rw [if_neg hj, if_neg (fun z => hj z.2)]
  have hP1 := Eq.mp (congrArg (fun w => va_P D pm_cl w H1) hset) hP1
  have hD1 := Eq.mp (congrArg (fun w => va_D A w) hset) hD1
  refine k hp hlc hlt ad H1 locs1 ls ⟨hP1, hD1, ⟨hI.1, fun k9 hk9 => ?_⟩, hS1, hl, hL, pm_ok_tl (pm_ok_tl (pm_ok_tl (pm_ok_tl (pm_ok_tl hst)))), fun a ha => ?_, hb0⟩
  · obtain ⟨i1, i2, i3, i4, i5⟩ := hI.2 k9 hk9
    refine ⟨i1, fun z j => ?_, fun z z2 j => ?_, i4, i5⟩
    · show pm_r (if _ then _ else _)
      split
      · exact (hI.2 q hq).2.1 (by omega) _
      · exact i2 z j
    · have z : 3000 ≤ me.1.2.1 k9 := z
      have e9 : pm_cp me.2 q x.toNat q1 y.toNat n.toNat k9 j = me.2 k9 j := if_neg (fun w => by rw [w.1, hkd1] at z; omega)
      show _ ≤ pm_cp me.2 q x.toNat q1 y.toNat n.toNat k9 j ∧ pm_cp me.2 q x.toNat q1 y.toNat n.toNat k9 j ≤ _
      rw [e9]; exact i3 z z2 j
  · rw [← hM a ha]
    funext b
    exact if_neg (fun w => by have := hI.1; omega)
theorem pm_a_obj (hx : p.tables.exec = Jvm.exec) (hb : c.code = cc) (hml : c.maxLocals = nL) {own : String} {idx κ q : Nat} (hown : s.vm.findClass own = some m.cls) (hlink : (Cond.methodLink own idx Lib.objectInit).before args s = true) (hinst : (Cond.instanceMethod Lib.objectInit).before args s = true) (hcode : (Cond.code Lib.objectInit ⟨#[0xb1]⟩ 1 none).before args s = true) (hf : 1 ≤ R.frames) (hlo : (st.map fun v => (pm_val (fun _ => 0) v).category).sum + 12 ≤ R.locals) (hd : decode cc pc = .ok (.invokespecial idx, 3)) (k : pm_W p l e R s m args below meth c Q D AC A nL fl M0 bs pcs (pc + 3, L, st, me, c0, t0)) (hp : pc + 3 ∈ pcs) : pm_W p l e R s m args below meth c Q D AC A nL fl M0 bs pcs (pc, L, .inr (.inl (κ, q)) :: st, me, c0, t0) := by
  intro _ hlc hlt ad H locs ls h
  dsimp only at h hlc hlt ⊢
  obtain ⟨hP, hD, hI, hS, hl, hL, hst, hM, hb0⟩ := id h
  exact W.objInit (rest := st.map (pm_val ad)) hx hb hown hlink hinst hcode rfl (by rw [hml]; exact hl.1) rfl hd hf (by show 2 * 0 + _ + 12 ≤ _; rw [pm_cats (ad' := fun _ => 0)]; omega) (k hp hlc hlt ad H locs ls ⟨hP, hD, hI, hS, hl, hL, pm_ok_tl hst, hM, hb0⟩)
end NWS

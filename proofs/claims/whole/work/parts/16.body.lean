/-! ONE STEP OF THE PURE MACHINE, WHATEVER IT IS; THEN ANY RUN OF A BODY (laid by wip/whole/gen_arm.py) -/
theorem pm_words_fixed : (∀ a, a < 10 → ∀ w ∈ u_ws (pm_C a).1 (pm_C a).2.1 (pm_C a).2.2, w ∈ lw_tbl ∧ goodWord w = true) := by decide +kernel
theorem pm_C_ws : ∀ a, a < 10 → ∀ w ∈ u_ws (pm_C a).1 (pm_C a).2.1 (pm_C a).2.2, w ∈ pm_gw := fun a ha w hw => List.mem_filter.mpr (pm_words_fixed a ha w hw)
theorem pm_C_in : ∀ a, a < 10 → Cond.instantiable (pm_C a).1 (pm_C a).2.2 ∈ pm_gw ∧ Cond.initialized (pm_C a).1 ∈ pm_gw := by decide +kernel
theorem pm_W_fixed : Cond.arrayClass .int ∈ pm_gw ∧ Cond.arrayClass .boolean ∈ pm_gw ∧ Cond.arrayClass .long ∈ pm_gw ∧ Cond.arrayClass .double ∈ pm_gw ∧ Cond.static Lib.Math.max.name ∈ pm_gw ∧ Cond.initialized "java/lang/Math" ∈ pm_gw ∧ Cond.native arraycopyName ∈ pm_gw ∧ Cond.static arraycopyName ∈ pm_gw ∧ Cond.initialized "java/lang/System" ∈ pm_gw ∧ Cond.instanceMethod Lib.objectInit ∈ pm_gw := by decide +kernel
theorem pm_W_fixed2 : Cond.code Lib.Math.max.name Lib.Math.max.code 2 (some .int) ∈ pm_gw ∧ Cond.code Lib.objectInit ⟨#[0xb1]⟩ 1 none ∈ pm_gw := by decide +kernel
section BDY
variable {p : Program} {l : Launch} {e : Env} {R : Room} {s : State} {m : MethodId} {args : Array Value} {below : List Frame} {meth : Method} {c : Code} {Q : State → Prop}
variable {D : va_G} {AC : Nat → ClassId} {A : Nat → Prop} {fl : Bool} {M0 : Nat → Nat → Int} {bs : Nat × (Nat → Nat) × (Nat → Nat)}
variable {d mi : Nat} {cal : Nat → List pm_V → pm_Me → (Option pm_V → pm_Me → Prop) → (Nat → pm_Me → Prop) → Prop} {Qr : Option pm_V → pm_Me → Prop} {Qx : Nat → pm_Me → Prop}
/-- all that holds things holds them -/
theorem pm_full {ad : Nat → Nat} {me : pm_Me} (hI : pm_inv me) (h : ∀ q, q < me.1.1 → ∀ j, pm_nd (me.1.2.1 q) j = true → me.1.2.2 q j = true) : pm_ws AC ad ((me.1.1, me.1.2.1, fun _ _ => true), me.2) = pm_ws AC ad me ∧ pm_inv ((me.1.1, me.1.2.1, fun _ _ => true), me.2) := by
  have hnd : ∀ q, q < me.1.1 → (∀ j, me.1.2.1 q < 10 → pm_fk (me.1.2.1 q) j ≠ 0 → me.1.2.2 q j = true) ∧ (∀ j, 5000 ≤ me.1.2.1 q → j < me.1.2.1 q - 5000 → me.1.2.2 q j = true) := by
    intro q hq
    refine ⟨fun j h1 h2 => h q hq j ?_, fun j h1 h2 => h q hq j ?_⟩
    · unfold pm_nd
      have z : Nat.ble 1000 (me.1.2.1 q) = false := by
        cases z : Nat.ble 1000 (me.1.2.1 q)
        · rfl
        · exact absurd (Nat.le_of_ble_eq_true z) (by omega)
      rw [z]
      show (!(Nat.beq (pm_fk (me.1.2.1 q) j) 0)) = true
      cases z2 : Nat.beq (pm_fk (me.1.2.1 q) j) 0
      · rfl
      · exact absurd (Nat.eq_of_beq_eq_true z2) h2
    · unfold pm_nd
      rw [Nat.ble_eq_true_of_le (show 1000 ≤ me.1.2.1 q by omega)]
      show (Nat.ble 5000 (me.1.2.1 q) && Nat.blt j (me.1.2.1 q - 5000)) = true
      rw [Nat.ble_eq_true_of_le h1, show Nat.blt j (me.1.2.1 q - 5000) = true from Nat.ble_eq_true_of_le h2]
      rfl
  refine ⟨?_, hI.1, fun k hk => ?_⟩
  · unfold pm_ws
    apply List.map_congr_left
    intro k hk
    have hk := List.mem_range.mp hk
    obtain ⟨n1, n2⟩ := hnd k hk
    refine congrArg (Prod.mk (ad k)) ?_
    show pm_e AC ad (me.1.2.1 k) k (fun _ => true) (me.2 k) = pm_e AC ad (me.1.2.1 k) k (me.1.2.2 k) (me.2 k)
    unfold pm_e
    split
    · rename_i h1
      congr 2
      apply List.map_congr_left
      intro j _
      unfold pm_fv
      split
      · rfl
      · rename_i h2
        have h9 : me.1.2.1 k < 10 := by
          rcases (hI.2 k hk).1 with z | z
          · exact z
          · omega
        rw [if_pos rfl, if_pos (n1 j h9 h2)]
    · split
      · rfl
      · split
        · rfl
        · split
          · rfl
          · split
            · rfl
            · rename_i h1 h2 h3 h4 h5
              have e9 : pm_qv ad (me.1.2.1 k) k (fun _ => true) = pm_qv ad (me.1.2.1 k) k (me.1.2.2 k) := by
                funext j
                unfold pm_qv
                by_cases hj : j < me.1.2.1 k - 5000
                · rw [if_pos ⟨hj, rfl⟩, if_pos ⟨hj, n2 j (by omega) hj⟩]
                · rw [if_neg (fun z => hj z.1), if_neg (fun z => hj z.1)]
              rw [e9]
  · obtain ⟨i1, i2, i3, i4, i5⟩ := hI.2 k hk
    obtain ⟨n1, n2⟩ := hnd k hk
    exact ⟨i1, i2, i3, fun z j hj _ => i4 z j hj (n1 j z hj), fun z j hj _ => i5 z j hj (n2 j z hj)⟩
/-- what a call throws: out of this method, or to its handler -/
theorem pm_kx (hx : p.tables.exec = Jvm.exec) (hb : c.code = pm_b mi) (hown : s.vm.findClass (pm_ow mi) = some m.cls) (hts : ∀ w ∈ pm_gw, w.before args s = true) (hKx : pm_Kx D AC s) (htab : pm_hb mi = true → c.exceptionTable.toList = tableOf (pm_hh mi)) (hQh : pm_hb mi = true → ∀ en me', ¬ Qx en me')
    (hexc : ∀ pc L st en me c0 t0, en < 6 → pm_hb mi = false → Qx en me → pm_X p l e R s m args below meth c Q D AC A (pm_ml mi) fl M0 bs pc L st en me c0 t0) {Rr : pm_St → Prop} (hR : ∀ S', Rr S' → pm_W p l e R s m args below meth c Q D AC A (pm_ml mi) fl M0 bs ((pm_p mi).map Prod.fst) S') {pc k : Nat} {L : List (Option pm_V)} {st : List pm_V} {c0 t0 : Nat} (hokH : pm_okH mi ((pm_p mi).map Prod.fst) pc = true) (hk : Nat.ble 2 k = false) (hpc : pc ∈ (pm_p mi).map Prod.fst) (hm241 : pm_hb mi = true → mi < 241) :
    ∀ en me', en < 6 → (bif Nat.ble 2 k then False else bif Nat.beq (pm_hd mi pc en) 0 then Qx en me' else pm_hs (pm_cd mi (pm_hd mi pc en)) fun n j => Rr (pm_hd mi pc en + j, pm_s0 L n, [], me', c0, t0)) → pm_X p l e R s m args below meth c Q D AC A (pm_ml mi) fl M0 bs pc L st en me' c0 t0 := by
  intro en me' hen z
  rw [hk] at z
  have hh := List.all_eq_true.mp hokH en (List.mem_range.mpr hen)
  rw [Bool.or_eq_true, Bool.and_eq_true, decide_eq_true_eq, decide_eq_true_eq] at hh
  rcases hh with ⟨q1, q2⟩ | ⟨q1, q2⟩
  · rw [q1] at z
    exact hexc pc L st en me' _ _ hen q2 z
  · have z : (bif Nat.beq (pm_hd mi pc en) 0 then Qx en me' else pm_hs (pm_cd mi (pm_hd mi pc en)) fun n j => Rr (pm_hd mi pc en + j, pm_s0 L n, [], me', c0, t0)) := z
    rcases hcd2 : pm_cd mi (pm_hd mi pc en) with ⟨i2, r2⟩
    rw [hcd2] at q2 z
    cases i2 with
    | astore_n n =>
      simp only [Bool.and_eq_true, decide_eq_true_eq] at q2
      obtain ⟨⟨⟨⟨s1, s2⟩, s3⟩, s4⟩, s5⟩ := q2
      cases q3 : Nat.beq (pm_hd mi pc en) 0 with
      | true => rw [q3] at z; exact absurd z (hQh q1 en me')
      | false =>
        rw [q3] at z
        exact pm_catch hx hb hown hts hKx (htab q1) hen s4 (fun q hq => of_decide_eq_true (List.all_eq_true.mp s5 q hq)) s1 s2 s3 (hR _ z)
    | astore n =>
      have q4 := pm_okA_at (hm241 q1) q1 hpc hen
      unfold pm_okA at q4
      rw [hcd2] at q4
      simp only [Bool.and_eq_true, decide_eq_true_eq] at q4
      obtain ⟨⟨⟨⟨s1, s2⟩, s3⟩, s4⟩, s5⟩ := q4
      cases q3 : Nat.beq (pm_hd mi pc en) 0 with
      | true => rw [q3] at z; exact absurd z (hQh q1 en me')
      | false =>
        rw [q3] at z
        exact pm_catch2 hx hb hown hts hKx (htab q1) hen s4 (fun q hq => of_decide_eq_true (List.all_eq_true.mp s5 q hq)) s1 s2 s3 (hR _ z)
    | _ =>
      cases q3 : Nat.beq (pm_hd mi pc en) 0 with
      | true => rw [q3] at z; exact absurd z (hQh q1 en me')
      | false => rw [q3] at z; exact z.elim
set_option maxHeartbeats 4000000 in
set_option maxRecDepth 100000 in
theorem pm_arm (hx : p.tables.exec = Jvm.exec) (hb : c.code = pm_b mi) (hml : c.maxLocals = pm_ml mi) (hown : s.vm.findClass (pm_ow mi) = some m.cls) (hts : ∀ w ∈ pm_gw, w.before args s = true) (hKx : pm_Kx D AC s) (hA : ∀ q, s.heap.size ≤ q → A q) (hZx : pm_Zx A s s.heap) (hRf : d + 11 ≤ R.frames) (hRl : 40 * (d + 1) + 200 ≤ R.locals) (hMO : ∀ a, a < 241 → pm_MOk a) (htab : pm_hb mi = true → c.exceptionTable.toList = tableOf (pm_hh mi)) (hnm : (pm_y mi).name = "<init>" → meth.name = "<init>") (hscr : fl = true → pm_scr s A M0 (bs.2.2 9999))
    (hOK : ∀ pc ∈ (pm_p mi).map Prod.fst, ∃ pl, pm_okI mi ((pm_p mi).map Prod.fst) pc pl = true)
    (hcal : ∀ a as me Qr' Qx', a < 241 → (pm_hb a = true → ∀ en me', ¬ Qx' en me') → cal a as me Qr' Qx' → pm_Met l D AC d a as me Qr' Qx') (h241 : mi = 241 → ∀ en me', ¬ Qx en me') (hQh : pm_hb mi = true → ∀ en me', ¬ Qx en me') (hm241 : pm_hb mi = true → mi < 241)
    (hret : ∀ pc L r me c0 t0 i, pm_rti mi i r → decode (pm_b mi) pc = .ok (i, 1) → Qr r me → pm_W p l e R s m args below meth c Q D AC A (pm_ml mi) fl M0 bs ((pm_p mi).map Prod.fst) (pc, L, pm_lst r, me, c0, t0))
    (hthr : ∀ pc L st me c0 t0 a pl, pm_okT mi pc a pl = true → c0 + 1 ≤ R.cells → t0 + 6 ≤ R.slots → st.length ≤ 8 → Qx a me → pm_W p l e R s m args below meth c Q D AC A (pm_ml mi) fl M0 bs ((pm_p mi).map Prod.fst) (pc, L, st, me, c0, t0))
    (hexc : ∀ pc L st en me c0 t0, en < 6 → pm_hb mi = false → Qx en me → pm_X p l e R s m args below meth c Q D AC A (pm_ml mi) fl M0 bs pc L st en me c0 t0)
    {S : pm_St} {Rr : pm_St → Prop} (hR : ∀ S', Rr S' → pm_W p l e R s m args below meth c Q D AC A (pm_ml mi) fl M0 bs ((pm_p mi).map Prod.fst) S') (h : pm_stp (pm_cd mi) (pm_hd mi) R.cells R.slots pm_mc pm_ms pm_kc cal Qr Qx S Rr) : pm_W p l e R s m args below meth c Q D AC A (pm_ml mi) fl M0 bs ((pm_p mi).map Prod.fst) S := by
  obtain ⟨pc, L, st, me, c0, t0⟩ := S
  intro hpc
  revert hpc
  by_cases hpc : pc ∈ (pm_p mi).map Prod.fst
  case neg => exact fun z => absurd z hpc
  obtain ⟨pl, hok⟩ := hOK pc hpc
  unfold pm_okI at hok
  unfold pm_stp at h
  rcases hcd : pm_cd mi pc with ⟨i, a, b, k⟩
  rw [hcd] at hok
  simp only [hcd] at h
  simp only [Bool.and_eq_true, decide_eq_true_eq] at hok
  obtain ⟨hd, hok⟩ := hok
  have hnL : pm_ml mi = pm_ml mi := rfl
  cases i with
  | iconst n =>
    simp only [Bool.and_eq_true, decide_eq_true_eq] at hok
    cases hz : Nat.beq a 77 with
    | false =>
      rw [hz] at h
      exact pm_a_iconst hx hb hd ⟨by omega, by omega⟩ (hR _ h) hok.2
    | true =>
      rw [hz] at h
      obtain ⟨h1, h2⟩ := h
      intro z0 hlc hlt ad H locs ls hr
      dsimp only at hr hlc hlt h1 ⊢
      obtain ⟨hP, hD, hI, hS, hl, hL, hst, hM, hb0⟩ := hr
      obtain ⟨f1, f2⟩ := pm_full (AC := AC) (ad := ad) hI h1
      exact lv_iconst hx hb hd rfl (hR _ h2 hok.2 hlc hlt ad H locs ls ⟨by rw [f1]; exact hP, by rw [f1]; exact hD, f2, hS, hl, hL, pm_ok_cons (v := .inl n) (show pm_r n from ⟨by omega, by omega⟩) hst, hM, hb0⟩)
  | bipush n =>
    simp only [Bool.and_eq_true, decide_eq_true_eq] at hok
    exact pm_a_bipush hx hb hd hok.1.1 ⟨by omega, by omega⟩ (hR _ h) hok.2
  | sipush n =>
    simp only [Bool.and_eq_true, decide_eq_true_eq] at hok
    exact pm_a_sipush hx hb hd hok.1.1 ⟨by omega, by omega⟩ (hR _ h) hok.2
  | lconst n =>
    simp only [Bool.and_eq_true, decide_eq_true_eq] at hok
    exact pm_a_lconst hx hb hd (hR _ h) hok
  | fconst f =>
    simp only [Bool.and_eq_true, decide_eq_true_eq] at hok
    obtain ⟨h1, h2⟩ := hok
    subst h1
    exact pm_a_fconst hx hb hd (hR _ h) h2
  | dconst f =>
    simp only [Bool.and_eq_true, decide_eq_true_eq] at hok
    obtain ⟨⟨rfl, rfl⟩ | ⟨rfl, rfl⟩, h2⟩ := hok
    · exact pm_a_dconst0 hx hb hd (hR _ h) h2
    · exact pm_a_dconst1 hx hb hd (hR _ h) h2
  | ldc2_w idx =>
    simp only [Bool.and_eq_true, decide_eq_true_eq] at hok
    exact pm_a_ldc2 hx hb hown (hts _ (pm_wd_in hok.1)) hd (hR _ h) hok.2
  | iload n =>
    simp only [Bool.and_eq_true, decide_eq_true_eq] at hok
    obtain ⟨x, h1, h2⟩ := pm_li_spec h
    exact pm_a_iload hx hb hd h1 (hR _ h2) hok
  | iload_n n =>
    simp only [Bool.and_eq_true, decide_eq_true_eq] at hok
    obtain ⟨x, h1, h2⟩ := pm_li_spec h
    exact pm_a_iload_n hx hb hd h1 (hR _ h2) hok
  | aload n =>
    simp only [Bool.and_eq_true, decide_eq_true_eq] at hok
    obtain ⟨κ, q, h1, h2⟩ := pm_la_spec h
    exact pm_a_aload hx hb hd h1 (hR _ h2) hok
  | aload_n n =>
    simp only [Bool.and_eq_true, decide_eq_true_eq] at hok
    obtain ⟨κ, q, h1, h2⟩ := pm_la_spec h
    exact pm_a_aload_n hx hb hd h1 (hR _ h2) hok
  | fload n =>
    simp only [Bool.and_eq_true, decide_eq_true_eq] at hok
    obtain ⟨x, h1, h2⟩ := pm_lf_spec h
    exact pm_a_fload hx hb hd h1 (hR _ h2) hok
  | dload n =>
    simp only [Bool.and_eq_true, decide_eq_true_eq] at hok
    obtain ⟨x, h1, h2⟩ := pm_ldd_spec h
    exact pm_a_dload hx hb hd h1 (hR _ h2) hok
  | dload_n n =>
    simp only [Bool.and_eq_true, decide_eq_true_eq] at hok
    obtain ⟨x, h1, h2⟩ := pm_ldd_spec h
    exact pm_a_dload_n hx hb hd h1 (hR _ h2) hok
  | istore n =>
    simp only [Bool.and_eq_true, decide_eq_true_eq] at hok
    obtain ⟨x, r, rfl, h2⟩ := pm_i_spec h
    exact pm_a_istore hx hb hd hok.1 (hR _ h2) hok.2
  | istore_n n =>
    simp only [Bool.and_eq_true, decide_eq_true_eq] at hok
    obtain ⟨x, r, rfl, h2⟩ := pm_i_spec h
    exact pm_a_istore_n hx hb hd hok.1 (hR _ h2) hok.2
  | astore n =>
    simp only [Bool.and_eq_true, decide_eq_true_eq] at hok
    obtain ⟨κ, q, r, rfl, h2⟩ := pm_a_spec h
    exact pm_a_astore hx hb hd hok.1 (hR _ h2) hok.2
  | astore_n n =>
    simp only [Bool.and_eq_true, decide_eq_true_eq] at hok
    obtain ⟨κ, q, r, rfl, h2⟩ := pm_a_spec h
    exact pm_a_astore_n hx hb hd hok.1 (hR _ h2) hok.2
  | fstore n =>
    simp only [Bool.and_eq_true, decide_eq_true_eq] at hok
    obtain ⟨x, r, rfl, h2⟩ := pm_f_spec h
    exact pm_a_fstore hx hb hd hok.1 (hR _ h2) hok.2
  | dstore n =>
    simp only [Bool.and_eq_true, decide_eq_true_eq] at hok
    obtain ⟨x, r, rfl, h2⟩ := pm_d_spec h
    exact pm_a_dstore hx hb hd hok.1 (hR _ h2) hok.2
  | dstore_n n =>
    simp only [Bool.and_eq_true, decide_eq_true_eq] at hok
    obtain ⟨x, r, rfl, h2⟩ := pm_d_spec h
    exact pm_a_dstore_n hx hb hd hok.1 (hR _ h2) hok.2
  | iinc n z =>
    simp only [Bool.and_eq_true, decide_eq_true_eq] at hok
    obtain ⟨x, h1, h2⟩ := pm_li_spec h
    exact pm_a_iinc hx hb hd hok.1 h1 h2.1 (hR _ h2.2) hok.2
  | iadd =>
    simp only [Bool.and_eq_true, decide_eq_true_eq] at hok
    replace h := pm_i_spec h
    obtain ⟨y, r, rfl, h⟩ := h
    replace h := pm_i_spec h
    obtain ⟨x, r, rfl, h⟩ := h
    exact pm_a_iadd hx hb hd h.1 (hR _ h.2) hok
  | isub =>
    simp only [Bool.and_eq_true, decide_eq_true_eq] at hok
    replace h := pm_i_spec h
    obtain ⟨y, r, rfl, h⟩ := h
    replace h := pm_i_spec h
    obtain ⟨x, r, rfl, h⟩ := h
    exact pm_a_isub hx hb hd h.1 (hR _ h.2) hok
  | imul =>
    simp only [Bool.and_eq_true, decide_eq_true_eq] at hok
    replace h := pm_i_spec h
    obtain ⟨y, r, rfl, h⟩ := h
    replace h := pm_i_spec h
    obtain ⟨x, r, rfl, h⟩ := h
    exact pm_a_imul hx hb hd h.1 (hR _ h.2) hok
  | idiv =>
    simp only [Bool.and_eq_true, decide_eq_true_eq] at hok
    replace h := pm_i_spec h
    obtain ⟨y, r, rfl, h⟩ := h
    replace h := pm_i_spec h
    obtain ⟨x, r, rfl, h⟩ := h
    exact pm_a_idiv hx hb hd h.1.1 h.1.2 (hR _ h.2) hok
  | irem =>
    simp only [Bool.and_eq_true, decide_eq_true_eq] at hok
    replace h := pm_i_spec h
    obtain ⟨y, r, rfl, h⟩ := h
    replace h := pm_i_spec h
    obtain ⟨x, r, rfl, h⟩ := h
    exact pm_a_irem hx hb hd h.1.1 h.1.2 (hR _ h.2) hok
  | iand =>
    simp only [Bool.and_eq_true, decide_eq_true_eq] at hok
    replace h := pm_i_spec h
    obtain ⟨y, r, rfl, h⟩ := h
    replace h := pm_i_spec h
    obtain ⟨x, r, rfl, h⟩ := h
    exact pm_a_iand hx hb hd (hR _ h) hok
  | ior =>
    simp only [Bool.and_eq_true, decide_eq_true_eq] at hok
    replace h := pm_i_spec h
    obtain ⟨y, r, rfl, h⟩ := h
    replace h := pm_i_spec h
    obtain ⟨x, r, rfl, h⟩ := h
    exact pm_a_ior hx hb hd (hR _ h) hok
  | ixor =>
    simp only [Bool.and_eq_true, decide_eq_true_eq] at hok
    replace h := pm_i_spec h
    obtain ⟨y, r, rfl, h⟩ := h
    replace h := pm_i_spec h
    obtain ⟨x, r, rfl, h⟩ := h
    exact pm_a_ixor hx hb hd (hR _ h) hok
  | ishl =>
    simp only [Bool.and_eq_true, decide_eq_true_eq] at hok
    replace h := pm_i_spec h
    obtain ⟨y, r, rfl, h⟩ := h
    replace h := pm_i_spec h
    obtain ⟨x, r, rfl, h⟩ := h
    exact pm_a_ishl hx hb hd (hR _ h) hok
  | ishr =>
    simp only [Bool.and_eq_true, decide_eq_true_eq] at hok
    replace h := pm_i_spec h
    obtain ⟨y, r, rfl, h⟩ := h
    replace h := pm_i_spec h
    obtain ⟨x, r, rfl, h⟩ := h
    exact pm_a_ishr hx hb hd (hR _ h) hok
  | i2l =>
    simp only [Bool.and_eq_true, decide_eq_true_eq] at hok
    replace h := pm_i_spec h
    obtain ⟨x, r, rfl, h⟩ := h
    exact pm_a_i2l hx hb hd (hR _ h) hok
  | i2f =>
    simp only [Bool.and_eq_true, decide_eq_true_eq] at hok
    replace h := pm_i_spec h
    obtain ⟨x, r, rfl, h⟩ := h
    exact pm_a_i2f hx hb hd (hR _ h) hok
  | i2d =>
    simp only [Bool.and_eq_true, decide_eq_true_eq] at hok
    replace h := pm_i_spec h
    obtain ⟨x, r, rfl, h⟩ := h
    exact pm_a_i2d hx hb hd (hR _ h) hok
  | f2d =>
    simp only [Bool.and_eq_true, decide_eq_true_eq] at hok
    replace h := pm_f_spec h
    obtain ⟨x, r, rfl, h⟩ := h
    exact pm_a_f2d hx hb hd h.1 (hR _ h.2) hok
  | fdiv =>
    simp only [Bool.and_eq_true, decide_eq_true_eq] at hok
    replace h := pm_f_spec h
    obtain ⟨y, r, rfl, h⟩ := h
    replace h := pm_f_spec h
    obtain ⟨x, r, rfl, h⟩ := h
    exact pm_a_fdiv hx hb hd h.1 (hR _ h.2) hok
  | ddiv =>
    simp only [Bool.and_eq_true, decide_eq_true_eq] at hok
    replace h := pm_d_spec h
    obtain ⟨y, r, rfl, h⟩ := h
    replace h := pm_d_spec h
    obtain ⟨x, r, rfl, h⟩ := h
    exact pm_a_ddiv hx hb hd h.1 (hR _ h.2) hok
  | dmul =>
    simp only [Bool.and_eq_true, decide_eq_true_eq] at hok
    replace h := pm_d_spec h
    obtain ⟨y, r, rfl, h⟩ := h
    replace h := pm_d_spec h
    obtain ⟨x, r, rfl, h⟩ := h
    exact pm_a_dmul hx hb hd h.1 (hR _ h.2) hok
  | dadd =>
    simp only [Bool.and_eq_true, decide_eq_true_eq] at hok
    replace h := pm_d_spec h
    obtain ⟨y, r, rfl, h⟩ := h
    replace h := pm_d_spec h
    obtain ⟨x, r, rfl, h⟩ := h
    exact pm_a_dadd hx hb hd h.1 (hR _ h.2) hok
  | lcmp =>
    simp only [Bool.and_eq_true, decide_eq_true_eq] at hok
    replace h := pm_l_spec h
    obtain ⟨y, r, rfl, h⟩ := h
    replace h := pm_l_spec h
    obtain ⟨x, r, rfl, h⟩ := h
    exact pm_a_lcmp hx hb hd (hR _ h) hok
  | dcmp o =>
    simp only [Bool.and_eq_true, decide_eq_true_eq] at hok
    replace h := pm_d_spec h
    obtain ⟨y, r, rfl, h⟩ := h
    replace h := pm_d_spec h
    obtain ⟨x, r, rfl, h⟩ := h
    exact pm_a_dcmp hx hb hd (hR _ h) hok
  | fcmp o =>
    simp only [Bool.and_eq_true, decide_eq_true_eq] at hok
    replace h := pm_f_spec h
    obtain ⟨y, r, rfl, h⟩ := h
    replace h := pm_f_spec h
    obtain ⟨x, r, rfl, h⟩ := h
    exact pm_a_fcmp hx hb hd (hR _ h) hok
  | dup =>
    simp only [Bool.and_eq_true, decide_eq_true_eq] at hok
    rcases st with _ | ⟨v, st⟩
    · exact h.elim
    · cases hv : pm_c2 v with
      | true => simp only [hv] at h; exact h.elim
      | false => simp only [hv] at h; exact pm_a_dup hx hb hd hv (hR _ h) hok
  | pop =>
    simp only [Bool.and_eq_true, decide_eq_true_eq] at hok
    rcases st with _ | ⟨v, st⟩
    · exact h.elim
    · cases hv : pm_c2 v with
      | true => simp only [hv] at h; exact h.elim
      | false => simp only [hv] at h; exact pm_a_pop hx hb hd hv (hR _ h) hok
  | dup2 =>
    simp only [Bool.and_eq_true, decide_eq_true_eq] at hok
    rcases st with _ | ⟨v, _ | ⟨w, st⟩⟩
    · exact h.elim
    · exact h.elim
    · cases hv : pm_c2 v with
      | true => simp only [hv] at h; exact h.elim
      | false =>
        cases hw : pm_c2 w with
        | true => simp only [hv, hw] at h; exact h.elim
        | false => simp only [hv, hw] at h; exact pm_a_dup2 hx hb hd hv hw (hR _ h) hok
  | ifCond o off =>
    simp only [Bool.and_eq_true, decide_eq_true_eq] at hok
    replace h := pm_i_spec h
    obtain ⟨x, r, rfl, h⟩ := h
    exact pm_a_if hx hb hd hok.1.1 hok.1.2 hok.2 (fun z => hR _ (h.1 z)) (fun z => hR _ (h.2 z))
  | if_icmp o off =>
    simp only [Bool.and_eq_true, decide_eq_true_eq] at hok
    replace h := pm_i_spec h
    obtain ⟨y, r, rfl, h⟩ := h
    replace h := pm_i_spec h
    obtain ⟨x, r, rfl, h⟩ := h
    exact pm_a_icmp hx hb hd hok.1.1 hok.1.2 hok.2 (fun z => hR _ (h.1 z)) (fun z => hR _ (h.2 z))
  | goto off =>
    simp only [Bool.and_eq_true, decide_eq_true_eq] at hok
    exact pm_a_goto hx hb hd hok.1 (hR _ h) hok.2
  | tableswitch dflt lo hi offs =>
    simp only [Bool.and_eq_true, decide_eq_true_eq] at hok
    replace h := pm_i_spec h
    obtain ⟨x, r, rfl, h⟩ := h
    refine pm_a_table hx hb hd hok.1.1.1 hok.1.1.2 (fun j o ho => ?_) hok.2 (fun z => hR _ (h.1 z)) (fun z o ho => hR _ (h.2 z o ho))
    have z := List.all_eq_true.mp hok.1.2 o (Array.mem_toList_iff.mpr (Array.mem_of_getElem? ho))
    exact of_decide_eq_true z
  | getfield idx =>
    simp only [Bool.and_eq_true, decide_eq_true_eq] at hok
    replace h := pm_a_spec h
    obtain ⟨κ, q, r, rfl, h⟩ := h
    replace h := pm_bif h
    obtain ⟨hk, h⟩ := h
    have hk := Nat.eq_of_beq_eq_true hk
    subst hk
    obtain ⟨⟨⟨ha, hbn⟩, hlk⟩, hp⟩ := hok
    have hlink : pm_link (pm_ow mi) idx ((pm_C κ).2.1 b) args s := by
      simp only [Bool.or_eq_true] at hlk
      rcases hlk with z | z
      · exact Or.inl (hts _ (pm_wd_in z))
      · exact Or.inr ⟨_, va_Nw.use rfl (hKx.2.2.1 _ (pm_wn_in z))⟩
    cases hf : Nat.beq (pm_fk κ b) 0 with
    | true =>
      rw [hf] at h
      exact pm_a_getI hx hb hts pm_C_ws hown hKx.1 ha hbn hlink (Nat.eq_of_beq_eq_true hf) hd (hR _ h) hp
    | false =>
      rw [hf] at h
      replace h := pm_bif h
      obtain ⟨hi, h⟩ := h
      exact pm_a_getR hx hb hts pm_C_ws hown hKx.1 ha hbn hlink (fun z => by rw [z] at hf; cases hf) hi hd (hR _ h) hp
  | putfield idx =>
    simp only [Bool.and_eq_true, decide_eq_true_eq] at hok
    obtain ⟨⟨⟨⟨ha, hbn⟩, hlk⟩, hp⟩, hrest⟩ := hok
    cases hf : Nat.beq (pm_fk a b) 0 with
    | true =>
      rw [hf] at h hrest
      have hrest := of_decide_eq_true hrest
      replace h := pm_i_spec h
      obtain ⟨x, r, rfl, h⟩ := h
      replace h := pm_a_spec h
      obtain ⟨κ, q, r, rfl, h⟩ := h
      replace h := pm_bif h
      obtain ⟨hk, h⟩ := h
      have hk := Nat.eq_of_beq_eq_true hk
      subst hk
      have hlink : pm_link (pm_ow mi) idx ((pm_C κ).2.1 b) args s := by
        simp only [Bool.or_eq_true, Bool.and_eq_true] at hlk
        rcases hlk with z | ⟨-, z⟩
        · exact Or.inl (hts _ (pm_wd_in z))
        · exact Or.inr ⟨_, va_Nw.use rfl (hKx.2.2.1 _ (pm_wn_in z))⟩
      unfold pm_z at h
      cases hz : Nat.beq k 1 with
      | true =>
        rw [hz] at h
        exact pm_a_putI hx hb hts pm_C_ws hown hKx.1 ha hbn hlink (Nat.eq_of_beq_eq_true hf) hrest.1 (Or.inr h.1) hd (hR _ h.2) hp
      | false =>
        rw [hz] at h
        have hk1 : k ≠ 1 := fun z => by rw [z] at hz; cases hz
        exact pm_a_putI hx hb hts pm_C_ws hown hKx.1 ha hbn hlink (Nat.eq_of_beq_eq_true hf) hrest.1 (Or.inl (hrest.2.resolve_left hk1)) hd (hR _ h) hp
    | false =>
      rw [hf] at h hrest
      have hrest := of_decide_eq_true hrest
      have hf0 : pm_fk a b ≠ 0 := fun z => by rw [z] at hf; cases hf
      replace h := pm_a_spec h
      obtain ⟨κ', q', r, rfl, h⟩ := h
      replace h := pm_a_spec h
      obtain ⟨κ, q, r, rfl, h⟩ := h
      replace h := pm_bif h
      obtain ⟨hk, h⟩ := h
      simp only [Bool.and_eq_true] at hk
      have hk1 := Nat.eq_of_beq_eq_true hk.1
      have hk2 := Nat.eq_of_beq_eq_true hk.2
      subst hk1
      have hlink : (Cond.fieldLink (pm_ow mi) idx ((pm_C κ).2.1 b).1 ((pm_C κ).2.1 b).2.1 ((pm_C κ).2.1 b).2.2.1).before args s = true := by
        simp only [Bool.or_eq_true, Bool.and_eq_true, decide_eq_true_eq] at hlk
        rcases hlk with z | ⟨z, -⟩
        · exact hts _ (pm_wd_in z)
        · exact absurd z hf0
      exact pm_a_putR hx hb hts pm_C_ws hown hKx.1 ha hbn hlink hk2 hrest.1 (hnm hrest.2.2) hrest.2.1 h.1 hd (hR _ h.2) hp
  | iaload =>
    simp only [Bool.and_eq_true, decide_eq_true_eq] at hok
    replace h := pm_i_spec h
    obtain ⟨x, r, rfl, h⟩ := h
    replace h := pm_a_spec h
    obtain ⟨κ, q, r, rfl, h⟩ := h
    cases hk : Nat.beq κ 999 with
    | true =>
      rw [hk] at h
      have hk := Nat.eq_of_beq_eq_true hk
      subst hk
      intro z0 hlc hlt ad H locs ls hr
      have z := pm_ok_hd (pm_ok_tl hr.2.2.2.2.2.2.1)
      have z9 : fl = true ∧ q = 9999 := by
        rcases z with ⟨z1, z2⟩ | z
        · exfalso
          have z3 := (hr.2.2.1.2 q z1).1
          have z2 : me.1.2.1 q = 999 := z2
          have z3 : me.1.2.1 q < 10 ∨ (1000 ≤ me.1.2.1 q ∧ me.1.2.1 q < 6000) := z3
          omega
        · exact ⟨z.1, z.2.2⟩
      exact pm_a_sload hx hb (hscr z9.1) h.1.1 h.1.2 z9.2 hd (hR _ h.2) hok z0 hlc hlt ad H locs ls hr
    | false =>
      rw [hk] at h
      replace h := pm_bif h
      obtain ⟨hk, h⟩ := h
      obtain ⟨h1, h2⟩ := pm_rng hk
      exact pm_a_iaload hx hb hKx.1 h1 h2 h.1.1 h.1.2 hd (hR _ h.2) hok
  | baload =>
    simp only [Bool.and_eq_true, decide_eq_true_eq] at hok
    replace h := pm_i_spec h
    obtain ⟨x, r, rfl, h⟩ := h
    replace h := pm_a_spec h
    obtain ⟨κ, q, r, rfl, h⟩ := h
    replace h := pm_bif h
    obtain ⟨hk, h⟩ := h
    obtain ⟨h1, h2⟩ := pm_rng hk
    exact pm_a_baload hx hb hKx.1 h1 h2 h.1.1 h.1.2 hd (hR _ h.2) hok
  | laload =>
    simp only [Bool.and_eq_true, decide_eq_true_eq] at hok
    replace h := pm_i_spec h
    obtain ⟨x, r, rfl, h⟩ := h
    replace h := pm_a_spec h
    obtain ⟨κ, q, r, rfl, h⟩ := h
    replace h := pm_bif h
    obtain ⟨hk, h⟩ := h
    obtain ⟨h1, h2⟩ := pm_rng hk
    exact pm_a_laload hx hb hKx.1 h1 h2 h.1.1 h.1.2 hd (hR _ h.2) hok
  | daload =>
    simp only [Bool.and_eq_true, decide_eq_true_eq] at hok
    replace h := pm_i_spec h
    obtain ⟨x, r, rfl, h⟩ := h
    replace h := pm_a_spec h
    obtain ⟨κ, q, r, rfl, h⟩ := h
    replace h := pm_bif h
    obtain ⟨hk, h⟩ := h
    obtain ⟨h1, h2⟩ := pm_rng hk
    exact pm_a_daload hx hb hKx.1 h1 h2 h.1.1 h.1.2 hd (hR _ h.2) hok
  | aaload =>
    simp only [Bool.and_eq_true, decide_eq_true_eq] at hok
    replace h := pm_i_spec h
    obtain ⟨x, r, rfl, h⟩ := h
    replace h := pm_a_spec h
    obtain ⟨κ, q, r, rfl, h⟩ := h
    replace h := pm_bif h
    obtain ⟨hk, h⟩ := h
    obtain ⟨h1, h2⟩ := pm_rng hk
    obtain ⟨h3, h4⟩ := h
    obtain ⟨h5, h6⟩ := pm_bif h4
    exact pm_a_aaload hx hb hKx.1 h1 h3.1 h3.2 h5 hd (hR _ h6) hok
  | iastore =>
    simp only [Bool.and_eq_true, decide_eq_true_eq] at hok
    replace h := pm_i_spec h
    obtain ⟨v, r, rfl, h⟩ := h
    replace h := pm_i_spec h
    obtain ⟨x, r, rfl, h⟩ := h
    replace h := pm_a_spec h
    obtain ⟨κ, q, r, rfl, h⟩ := h
    replace h := pm_bif h
    obtain ⟨hk, h⟩ := h
    obtain ⟨h1, h2⟩ := pm_rng hk
    exact pm_a_iastore hx hb hKx.1 h1 h2 h.1.1 h.1.2 hd (hR _ h.2) hok
  | bastore =>
    simp only [Bool.and_eq_true, decide_eq_true_eq] at hok
    replace h := pm_i_spec h
    obtain ⟨v, r, rfl, h⟩ := h
    replace h := pm_i_spec h
    obtain ⟨x, r, rfl, h⟩ := h
    replace h := pm_a_spec h
    obtain ⟨κ, q, r, rfl, h⟩ := h
    replace h := pm_bif h
    obtain ⟨hk, h⟩ := h
    obtain ⟨h1, h2⟩ := pm_rng hk
    exact pm_a_bastore hx hb hKx.1 h.1 h1 h2 h.2.1.1 h.2.1.2 hd (hR _ h.2.2) hok
  | lastore =>
    simp only [Bool.and_eq_true, decide_eq_true_eq] at hok
    replace h := pm_l_spec h
    obtain ⟨v, r, rfl, h⟩ := h
    replace h := pm_i_spec h
    obtain ⟨x, r, rfl, h⟩ := h
    replace h := pm_a_spec h
    obtain ⟨κ, q, r, rfl, h⟩ := h
    replace h := pm_bif h
    obtain ⟨hk, h⟩ := h
    obtain ⟨h1, h2⟩ := pm_rng hk
    exact pm_a_lastore hx hb hKx.1 h1 h2 h.1.1 h.1.2 hd (hR _ h.2) hok
  | dastore =>
    simp only [Bool.and_eq_true, decide_eq_true_eq] at hok
    replace h := pm_d_spec h
    obtain ⟨v, r, rfl, h⟩ := h
    replace h := pm_i_spec h
    obtain ⟨x, r, rfl, h⟩ := h
    replace h := pm_a_spec h
    obtain ⟨κ, q, r, rfl, h⟩ := h
    replace h := pm_bif h
    obtain ⟨hk, h⟩ := h
    obtain ⟨h1, h2⟩ := pm_rng hk
    exact pm_a_dastore hx hb hKx.1 h1 h2 h.1.1 h.1.2 hd (hR _ h.2) hok
  | aastore =>
    simp only [Bool.and_eq_true, decide_eq_true_eq] at hok
    replace h := pm_a_spec h
    obtain ⟨κ', q', r, rfl, h⟩ := h
    replace h := pm_i_spec h
    obtain ⟨x, r, rfl, h⟩ := h
    replace h := pm_a_spec h
    obtain ⟨κ, q, r, rfl, h⟩ := h
    replace h := pm_bif h
    obtain ⟨hk, h⟩ := h
    rw [Bool.and_eq_true] at hk
    have hk6 := Nat.eq_of_beq_eq_true hk.1
    subst hk6
    obtain ⟨h1, h2⟩ := pm_rng hk.2
    exact pm_a_aastore hx hb hKx.1 h1 h.1.1 h.1.2 h.2.1 hd (hR _ h.2.2) hok
  | arraylength =>
    simp only [Bool.and_eq_true, decide_eq_true_eq] at hok
    replace h := pm_a_spec h
    obtain ⟨κ, q, r, rfl, h⟩ := h
    replace h := pm_bif h
    obtain ⟨hk, h⟩ := h
    have hk := Nat.eq_of_beq_eq_true hk
    subst hk
    intro z0 hlc hlt ad H locs ls hr
    have z := pm_ok_hd hr.2.2.2.2.2.2.1
    have z9 : fl = true ∧ q = 9999 := by
      rcases z with ⟨z1, z2⟩ | z
      · exfalso
        have z3 := (hr.2.2.1.2 q z1).1
        have z2 : me.1.2.1 q = 999 := z2
        have z3 : me.1.2.1 q < 10 ∨ (1000 ≤ me.1.2.1 q ∧ me.1.2.1 q < 6000) := z3
        omega
      · exact ⟨z.1, z.2.2⟩
    exact pm_a_slen hx hb (hscr z9.1) z9.2 hd (hR _ h) hok z0 hlc hlt ad H locs ls hr
  | new idx =>
    cases hk : Nat.beq k 1 with
    | true =>
      rw [hk] at h hok
      obtain ⟨h1, h2⟩ := pm_bif h
      rw [Bool.and_eq_true] at h1
      obtain ⟨h3, h4⟩ := pm_lim h1.1
      exact hthr pc L st me c0 t0 a pl hok h3 h4 (Nat.le_of_ble_eq_true h1.2) h2
    | false =>
      rw [hk] at h hok
      simp only [cond_false, Bool.and_eq_true, decide_eq_true_eq] at hok
      obtain ⟨h1, h2⟩ := pm_bif h
      obtain ⟨h3, h4⟩ := pm_lim h1
      exact pm_a_new hx hb hts pm_C_ws hown hKx.1 hA hok.1.1 (hts _ (pm_wd_in hok.1.2)) (hts _ (pm_C_in a hok.1.1).1) (hts _ (pm_C_in a hok.1.1).2) h3 h4 h2.1 hd (hR _ h2.2) hok.2
  | newarray t =>
    simp only [Bool.and_eq_true, decide_eq_true_eq] at hok
    replace h := pm_i_spec h
    obtain ⟨x, r, rfl, h⟩ := h
    obtain ⟨h1, h2⟩ := pm_bif h
    obtain ⟨h3, h4⟩ := pm_lim h1
    obtain ⟨h5, hp⟩ := hok
    obtain ⟨w1, w2, w3, w4, -⟩ := pm_W_fixed
    rcases h5 with ⟨rfl, rfl⟩ | ⟨rfl, rfl⟩ | ⟨rfl, rfl⟩ | ⟨rfl, rfl⟩
    · exact pm_a_newarray_int hx hb (hts _ w1) hKx.1 hA h2.1.1 h2.1.2.1 h3 h4 h2.1.2.2 hd (hR _ h2.2) hp
    · exact pm_a_newarray_boolean hx hb (hts _ w2) hKx.1 hA h2.1.1 h2.1.2.1 h3 h4 h2.1.2.2 hd (hR _ h2.2) hp
    · exact pm_a_newarray_long hx hb (hts _ w3) hKx.1 hA h2.1.1 h2.1.2.1 h3 h4 h2.1.2.2 hd (hR _ h2.2) hp
    · exact pm_a_newarray_double hx hb (hts _ w4) hKx.1 hA h2.1.1 h2.1.2.1 h3 h4 h2.1.2.2 hd (hR _ h2.2) hp
  | anewarray idx =>
    simp only [Bool.and_eq_true, decide_eq_true_eq] at hok
    replace h := pm_i_spec h
    obtain ⟨x, r, rfl, h⟩ := h
    obtain ⟨h1, h2⟩ := pm_bif h
    obtain ⟨h3, h4⟩ := pm_lim h1
    exact pm_a_anewarray hx hb hown (hts _ (pm_wd_in hok.1)) hKx.2.1 hKx.1 hA h2.1.1 h2.1.2.1 h3 h4 h2.1.2.2 hd (hR _ h2.2) hok.2
  | invokevirtual idx =>
    simp only [Bool.and_eq_true, decide_eq_true_eq] at hok
    obtain ⟨⟨hb0, hkk, hsc, hni, hhb, hkc, how⟩, hokc⟩ := hok
    unfold pm_okC at hokc
    simp only [Bool.and_eq_true, decide_eq_true_eq] at hokc
    obtain ⟨⟨⟨⟨hlk, hpd⟩, ha⟩, hp⟩, hokH⟩ := hokc
    replace h := pm_bif h
    obtain ⟨h1, h⟩ := h
    rw [Bool.and_eq_true, Bool.and_eq_true (Nat.ble _ _) (pm_ag _ _ _)] at h1
    have hlim := pm_lim h1.1
    have h4 := Nat.le_of_ble_eq_true h1.2.1
    have hag := h1.2.2
    rcases hkk with rfl | rfl
    · exact pm_c_V hx hb hml hown hts hKx hA hZx hRf hRl hMO htab ha hsc hni hhb hkc how (pm_wd_in hlk) hpd hb0 hd hlim h4 hag (hcal a _ _ _ _ ha (fun z => by rw [hhb] at z; cases z) h) hp (fun r me' z => hR _ z) (pm_kx hx hb hown hts hKx htab hQh hexc hR hokH (by decide) hpc hm241)
    · exact pm_c_VN hx hb hml hown hts hKx hA hZx hRf hRl hMO htab ha hsc hni hhb hkc how (hKx.2.2.1 _ (pm_wn_in hlk)) hpd hb0 hd hlim h4 hag (hcal a _ _ _ _ ha (fun z => by rw [hhb] at z; cases z) h) hp (fun r me' z => hR _ z)
  | invokestatic idx =>
    cases hk7 : Nat.beq k 7 with
    | true =>
      rw [hk7] at h hok
      simp only [cond_true, Bool.and_eq_true, decide_eq_true_eq] at hok
      replace h := pm_i_spec h
      obtain ⟨y, r, rfl, h⟩ := h
      replace h := pm_i_spec h
      obtain ⟨x, r, rfl, h⟩ := h
      replace h := pm_bif h
      obtain ⟨h4, h⟩ := h
      have h4 := Nat.le_of_ble_eq_true h4
      obtain ⟨-, -, -, -, w5, w6, -⟩ := pm_W_fixed
      have hs := pm_sum4 (st := r) (ad := fun _ => 0)
      exact pm_a_max hx hb hml hown (hts _ (pm_wd_in hok.1)) (hts _ w5) (hts _ w6) (hts _ pm_W_fixed2.1) (by omega) (by omega) hd (hR _ h) hok.2
    | false =>
      rw [hk7] at h hok
      cases hk8 : Nat.beq k 8 with
      | true =>
        rw [hk8] at h hok
        simp only [cond_true, cond_false, Bool.and_eq_true, decide_eq_true_eq] at hok
        replace h := pm_i_spec h
        obtain ⟨n, r, rfl, h⟩ := h
        replace h := pm_i_spec h
        obtain ⟨y, r, rfl, h⟩ := h
        replace h := pm_a_spec h
        obtain ⟨κ', q', r, rfl, h⟩ := h
        replace h := pm_i_spec h
        obtain ⟨x, r, rfl, h⟩ := h
        replace h := pm_a_spec h
        obtain ⟨κ, q, r, rfl, h⟩ := h
        replace h := pm_bif h
        obtain ⟨h4, h⟩ := h
        rw [Bool.and_eq_true, Bool.and_eq_true] at h4
        have h40 := Nat.le_of_ble_eq_true h4.1
        obtain ⟨h41, h42⟩ := pm_rng h4.2.1
        obtain ⟨h43, h44⟩ := pm_rng h4.2.2
        obtain ⟨⟨g1, g2, g3, g4, g5, g6⟩, h⟩ := h
        obtain ⟨-, -, -, -, -, -, w7, w8, w9, -⟩ := pm_W_fixed
        have hs := pm_sum4 (st := r) (ad := fun _ => 0)
        have hnf : nativeFrameWords "java/lang/System" "arraycopy" 5 = 7 := by decide
        exact pm_a_copy hx hb hKx.1 hml hown (hts _ (pm_wd_in hok.1)) (hts _ w7) (hts _ w8) (hts _ w9) h41 h42 h43 h44 g1 g2 g3 g4 g5 g6 (by omega) (by rw [hnf]; omega) hd (hR _ h) hok.2
      | false =>
        rw [hk8] at h hok
        simp only [cond_false, Bool.and_eq_true, decide_eq_true_eq] at hok
        obtain ⟨⟨hkk, hsc⟩, hokc⟩ := hok
        unfold pm_okC at hokc
        simp only [Bool.and_eq_true, decide_eq_true_eq] at hokc
        obtain ⟨⟨⟨⟨hlk, hpd⟩, ha⟩, hp⟩, hokH⟩ := hokc
        replace h := pm_bif h
        obtain ⟨h1, h⟩ := h
        rw [Bool.and_eq_true, Bool.and_eq_true (Nat.ble _ _) (pm_ag _ _ _)] at h1
        have hlim := pm_lim h1.1
        have h4 := Nat.le_of_ble_eq_true h1.2.1
        have hag := h1.2.2
        rcases hkk with ⟨rfl, hhb⟩ | ⟨rfl, hhb⟩
        · refine pm_c_S hx hb hml hown hts hKx hA hZx hRf hRl hMO htab ha hsc (pm_wd_in hlk) hpd hd hlim h4 hag (hcal a _ _ _ _ ha (fun z => ?_) h) hp (fun r me' z => hR _ z) (pm_kx hx hb hown hts hKx htab hQh hexc hR hokH (by decide) hpc hm241)
          intro en me' z2
          have hm241 : mi = 241 := hhb.resolve_left (fun q => by rw [q] at z; cases z)
          subst hm241
          exact h241 rfl en me' z2
        · exact pm_c_SN hx hb hml hown hts hKx hA hZx hRf hRl hMO htab ha hsc hhb (hKx.2.2.1 _ (pm_wn_in hlk)) hpd hd hlim h4 hag (hcal a _ _ _ _ ha (fun z => by rw [hhb] at z; cases z) h) hp (fun r me' z => hR _ z)
  | invokespecial idx =>
    cases hk9 : Nat.beq k 9 with
    | true =>
      rw [hk9] at h hok
      simp only [cond_true, Bool.and_eq_true, decide_eq_true_eq] at hok
      replace h := pm_a_spec h
      obtain ⟨κ, q, r, rfl, h⟩ := h
      replace h := pm_bif h
      obtain ⟨h4, h⟩ := h
      have h4 := Nat.le_of_ble_eq_true h4
      obtain ⟨-, -, -, -, -, -, -, -, -, w10⟩ := pm_W_fixed
      have hs := pm_sum4 (st := r) (ad := fun _ => 0)
      exact pm_a_obj hx hb hml hown (hts _ (pm_wd_in hok.1)) (hts _ w10) (hts _ pm_W_fixed2.2) (by omega) (by omega) hd (hR _ h) hok.2
    | false =>
      rw [hk9] at h hok
      simp only [cond_false, Bool.and_eq_true, decide_eq_true_eq] at hok
      obtain ⟨⟨hb0, hkk, hsc, hni, hhb, hrt, hkc⟩, hokc⟩ := hok
      unfold pm_okC at hokc
      simp only [Bool.and_eq_true, decide_eq_true_eq] at hokc
      obtain ⟨⟨⟨⟨hlk, hpd⟩, ha⟩, hp⟩, hokH⟩ := hokc
      replace h := pm_bif h
      obtain ⟨h1, h⟩ := h
      rw [Bool.and_eq_true, Bool.and_eq_true (Nat.ble _ _) (pm_ag _ _ _)] at h1
      have hlim := pm_lim h1.1
      have h4 := Nat.le_of_ble_eq_true h1.2.1
      have hag := h1.2.2
      rcases hkk with rfl | rfl
      · exact pm_c_I hx hb hml hown hts hKx hA hZx hRf hRl hMO htab ha hsc hni hhb hrt hkc (pm_wd_in hlk) hpd hb0 hd hlim h4 hag (hcal a _ _ _ _ ha (fun z => by rw [hhb] at z; cases z) h) hp (fun r me' z => hR _ z)
      · exact pm_c_IN hx hb hml hown hts hKx hA hZx hRf hRl hMO htab ha hsc hni hhb hrt hkc (hKx.2.2.1 _ (pm_wn_in hlk)) hpd hb0 hd hlim h4 hag (hcal a _ _ _ _ ha (fun z => by rw [hhb] at z; cases z) h) hp (fun r me' z => hR _ z)
  | ireturn =>
    simp only [Bool.and_eq_true, decide_eq_true_eq] at hok
    rcases st with _ | ⟨v, _ | ⟨w, st⟩⟩
    · exact False.elim h
    · rcases v with x | ⟨κ, q⟩ | x | x | x
      · replace h : pm_z a x (Qr (some (.inl x)) me) := h
        unfold pm_z at h
        rcases hok with ⟨rfl, q2⟩ | ⟨rfl, q2⟩
        · exact hret pc L (some (.inl x)) me c0 t0 .ireturn ⟨rfl, Or.inl q2⟩ hd h
        · exact hret pc L (some (.inl x)) me c0 t0 .ireturn ⟨rfl, Or.inr ⟨q2, h.1⟩⟩ hd h.2
      · exact False.elim h
      · exact False.elim h
      · exact False.elim h
      · exact False.elim h
    · rcases v with x | ⟨κ, q⟩ | x | x | x <;> exact False.elim h
  | freturn =>
    simp only [Bool.and_eq_true, decide_eq_true_eq] at hok
    rcases st with _ | ⟨v, _ | ⟨w, st⟩⟩
    · exact False.elim h
    · rcases v with x | ⟨κ, q⟩ | x | x | x
      · exact False.elim h
      · exact False.elim h
      · exact False.elim h
      · exact hret pc L (some (.inr (.inr (.inr (.inl x))))) me c0 t0 .freturn ⟨rfl, hok⟩ hd h
      · exact False.elim h
    · rcases v with x | ⟨κ, q⟩ | x | x | x <;> exact False.elim h
  | dreturn =>
    simp only [Bool.and_eq_true, decide_eq_true_eq] at hok
    rcases st with _ | ⟨v, _ | ⟨w, st⟩⟩
    · exact False.elim h
    · rcases v with x | ⟨κ, q⟩ | x | x | x
      · exact False.elim h
      · exact False.elim h
      · exact False.elim h
      · exact False.elim h
      · exact hret pc L (some (.inr (.inr (.inr (.inr x))))) me c0 t0 .dreturn ⟨rfl, hok⟩ hd h
    · rcases v with x | ⟨κ, q⟩ | x | x | x <;> exact False.elim h
  | return_ =>
    simp only [Bool.and_eq_true, decide_eq_true_eq] at hok
    rcases st with _ | ⟨v, st⟩
    · exact hret pc L none me c0 t0 .return_ ⟨rfl, hok⟩ hd h
    · exact False.elim h
  | _ => exact h.elim
set_option maxHeartbeats 4000000 in
theorem pm_body (hx : p.tables.exec = Jvm.exec) (hb : c.code = pm_b mi) (hml : c.maxLocals = pm_ml mi) (hown : s.vm.findClass (pm_ow mi) = some m.cls) (hts : ∀ w ∈ pm_gw, w.before args s = true) (hKx : pm_Kx D AC s) (hA : ∀ q, s.heap.size ≤ q → A q) (hZx : pm_Zx A s s.heap) (hRf : d + 11 ≤ R.frames) (hRl : 40 * (d + 1) + 200 ≤ R.locals) (hMO : ∀ a, a < 241 → pm_MOk a) (htab : pm_hb mi = true → c.exceptionTable.toList = tableOf (pm_hh mi)) (hnm : (pm_y mi).name = "<init>" → meth.name = "<init>") (hscr : fl = true → pm_scr s A M0 (bs.2.2 9999))
    (hOK : ∀ pc ∈ (pm_p mi).map Prod.fst, ∃ pl, pm_okI mi ((pm_p mi).map Prod.fst) pc pl = true)
    (hcal : ∀ a as me Qr' Qx', a < 241 → (pm_hb a = true → ∀ en me', ¬ Qx' en me') → cal a as me Qr' Qx' → pm_Met l D AC d a as me Qr' Qx') (h241 : mi = 241 → ∀ en me', ¬ Qx en me') (hQh : pm_hb mi = true → ∀ en me', ¬ Qx en me') (hm241 : pm_hb mi = true → mi < 241)
    (hret : ∀ pc L r me c0 t0 i, pm_rti mi i r → decode (pm_b mi) pc = .ok (i, 1) → Qr r me → pm_W p l e R s m args below meth c Q D AC A (pm_ml mi) fl M0 bs ((pm_p mi).map Prod.fst) (pc, L, pm_lst r, me, c0, t0))
    (hthr : ∀ pc L st me c0 t0 a pl, pm_okT mi pc a pl = true → c0 + 1 ≤ R.cells → t0 + 6 ≤ R.slots → st.length ≤ 8 → Qx a me → pm_W p l e R s m args below meth c Q D AC A (pm_ml mi) fl M0 bs ((pm_p mi).map Prod.fst) (pc, L, st, me, c0, t0))
    (hexc : ∀ pc L st en me c0 t0, en < 6 → pm_hb mi = false → Qx en me → pm_X p l e R s m args below meth c Q D AC A (pm_ml mi) fl M0 bs pc L st en me c0 t0)
    {S : pm_St} (h : pm_wp R.cells R.slots (pm_stp (pm_cd mi) (pm_hd mi) R.cells R.slots pm_mc pm_ms pm_kc cal Qr Qx) S) : pm_W p l e R s m args below meth c Q D AC A (pm_ml mi) fl M0 bs ((pm_p mi).map Prod.fst) S := by
  refine h (pm_W p l e R s m args below meth c Q D AC A (pm_ml mi) fl M0 bs ((pm_p mi).map Prod.fst)) (fun S Rr hR hs => pm_arm hx hb hml hown hts hKx hA hZx hRf hRl hMO htab hnm hscr hOK hcal h241 hQh hm241 hret hthr hexc hR hs) ?_
  intro pc L L' st me c0 t0 c1 t1 hfg h1 h2 h3 h4 k hpc hlc hlt ad H locs ls hr
  obtain ⟨hP, hD, hI, hS, hl, hL, hst, hM, hb0⟩ := hr
  refine W.widen h1 h2 (k hpc h3 h4 ad H locs ls ⟨hP, hD, hI, hS, pm_lv_weak hl (fun q hq => ?_), fun j v hj => hL j v (pm_fg_ld hfg hj), hst, hM, hb0⟩)
  obtain ⟨j, v, hj, rfl⟩ := pm_ll_mem.mp hq
  exact pm_ll_mem.mpr ⟨j, v, pm_fg_ld hfg hj, rfl⟩
end BDY

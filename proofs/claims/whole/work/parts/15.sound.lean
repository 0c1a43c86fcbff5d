/-! EVERY RUN OF THE PURE MACHINE IS ONE OF THE MACHINE (laid by wip/whole/gen_sound.py) -/
theorem pm_i_spec {st : List pm_V} {k : Int → List pm_V → Prop} (h : pm_i st k) : ∃ x r, st = .inl x :: r ∧ k x r := by
  unfold pm_i at h
  split at h
  · exact ⟨_, _, rfl, h⟩
  · exact h.elim
theorem pm_a_spec {st : List pm_V} {k : Nat → Nat → List pm_V → Prop} (h : pm_a st k) : ∃ κ q r, st = .inr (.inl (κ, q)) :: r ∧ k κ q r := by
  unfold pm_a at h
  split at h
  · exact ⟨_, _, _, rfl, h⟩
  · exact h.elim
theorem pm_l_spec {st : List pm_V} {k : Int → List pm_V → Prop} (h : pm_l st k) : ∃ x r, st = .inr (.inr (.inl x)) :: r ∧ k x r := by
  unfold pm_l at h
  split at h
  · exact ⟨_, _, rfl, h⟩
  · exact h.elim
theorem pm_f_spec {st : List pm_V} {k : UInt32 → List pm_V → Prop} (h : pm_f st k) : ∃ x r, st = .inr (.inr (.inr (.inl x))) :: r ∧ k x r := by
  unfold pm_f at h
  split at h
  · exact ⟨_, _, rfl, h⟩
  · exact h.elim
theorem pm_d_spec {st : List pm_V} {k : UInt64 → List pm_V → Prop} (h : pm_d st k) : ∃ x r, st = .inr (.inr (.inr (.inr x))) :: r ∧ k x r := by
  unfold pm_d at h
  split at h
  · exact ⟨_, _, rfl, h⟩
  · exact h.elim
theorem pm_li_spec {o : Option pm_V} {k : Int → List pm_V → Prop} (h : pm_i (pm_lst o) k) : ∃ x, o = some (.inl x) ∧ k x [] := by
  rcases o with _ | x | ⟨κ, q⟩ | x | x | x
  · exact h.elim
  · exact ⟨x, rfl, h⟩
  all_goals exact h.elim
theorem pm_la_spec {o : Option pm_V} {k : Nat → Nat → List pm_V → Prop} (h : pm_a (pm_lst o) k) : ∃ κ q, o = some (.inr (.inl (κ, q))) ∧ k κ q [] := by
  rcases o with _ | x | ⟨κ, q⟩ | x | x | x
  · exact h.elim
  · exact h.elim
  · exact ⟨κ, q, rfl, h⟩
  all_goals exact h.elim
theorem pm_lf_spec {o : Option pm_V} {k : UInt32 → List pm_V → Prop} (h : pm_f (pm_lst o) k) : ∃ x, o = some (.inr (.inr (.inr (.inl x)))) ∧ k x [] := by
  rcases o with _ | x | ⟨κ, q⟩ | x | x | x
  · exact h.elim
  · exact h.elim
  · exact h.elim
  · exact h.elim
  · exact ⟨x, rfl, h⟩
  · exact h.elim
theorem pm_ldd_spec {o : Option pm_V} {k : UInt64 → List pm_V → Prop} (h : pm_d (pm_lst o) k) : ∃ x, o = some (.inr (.inr (.inr (.inr x)))) ∧ k x [] := by
  rcases o with _ | x | ⟨κ, q⟩ | x | x | x
  · exact h.elim
  · exact h.elim
  · exact h.elim
  · exact h.elim
  · exact h.elim
  · exact ⟨x, rfl, h⟩
theorem pm_bif {b : Bool} {P : Prop} (h : bif b then P else False) : b = true ∧ P := by
  cases b
  · exact h.elim
  · exact ⟨rfl, h⟩
theorem pm_rng {lo κ hi : Nat} (h : (Nat.ble lo κ && Nat.ble κ hi) = true) : lo ≤ κ ∧ κ ≤ hi := by
  simp only [Bool.and_eq_true] at h
  exact ⟨Nat.le_of_ble_eq_true h.1, Nat.le_of_ble_eq_true h.2⟩
theorem pm_lim {a b x y : Nat} (h : (Nat.ble a x && Nat.ble b y) = true) : a ≤ x ∧ b ≤ y := by
  simp only [Bool.and_eq_true] at h
  exact ⟨Nat.le_of_ble_eq_true h.1, Nat.le_of_ble_eq_true h.2⟩
theorem pm_sum4 {st : List pm_V} {ad : Nat → Nat} : (st.map fun v => (pm_val ad v).category).sum ≤ 2 * st.length := by
  induction st with
  | nil => exact Nat.le_refl _
  | cons v st ih =>
    rw [List.map_cons, List.sum_cons, List.length_cons]
    have h1 : (pm_val ad v).category ≤ 2 := by rcases v with x | ⟨κ, q⟩ | x | x | x <;> exact Nat.le_of_ble_eq_true rfl
    omega
/-- which return an answer is given by -/
def pm_rti (mi : Nat) (i : Instr) (r : Option pm_V) : Prop := match r with
  | some (.inl x) => i = .ireturn ∧ (pm_rt mi = some .int ∨ (pm_rt mi = some .boolean ∧ (x = 0 ∨ x = 1)))
  | some (.inr (.inr (.inr (.inl _)))) => i = .freturn ∧ pm_rt mi = some .float
  | some (.inr (.inr (.inr (.inr _)))) => i = .dreturn ∧ pm_rt mi = some .double
  | none => i = .return_ ∧ pm_rt mi = none
  | _ => False
theorem pm_fd_spec {pc en hp : Nat} : ∀ {hh : List (Nat × Nat × Nat × Nat)}, pm_fd pc en hh = some hp → ∃ pre q suf, hh = pre ++ q :: suf ∧ (q.1 ≤ pc ∧ pc < q.2.1) ∧ pm_ct q.2.2.2 = en ∧ q.2.2.1 = hp ∧ ∀ z ∈ pre, ¬ (z.1 ≤ pc ∧ pc < z.2.1) ∨ pm_ct z.2.2.2 ≠ en
  | [], h => by cases h
  | q :: r, h => by
    unfold pm_fd at h
    cases hc : (decide (q.1 ≤ pc ∧ pc < q.2.1) && Nat.beq (pm_ct q.2.2.2) en) with
    | true =>
      rw [hc] at h
      simp only [Bool.and_eq_true, decide_eq_true_eq] at hc
      have h : some q.2.2.1 = some hp := h
      exact ⟨[], q, r, rfl, hc.1, Nat.eq_of_beq_eq_true hc.2, Option.some.inj h, fun z hz => by cases hz⟩
    | false =>
      rw [hc] at h
      have h : pm_fd pc en r = some hp := h
      obtain ⟨pre, q2, suf, e1, e2, e3, e4, e5⟩ := pm_fd_spec h
      refine ⟨q :: pre, q2, suf, by rw [e1]; rfl, e2, e3, e4, fun z hz => ?_⟩
      rcases List.mem_cons.mp hz with rfl | hz
      · by_cases h1 : z.1 ≤ pc ∧ pc < z.2.1
        · right
          intro h2
          rw [decide_eq_true h1, h2] at hc
          have : Nat.beq en en = true := Nat.beq_refl en
          rw [this] at hc
          cases hc
        · exact Or.inl h1
      · exact e5 z hz
theorem pm_cast6 : ∀ e, e < 6 → Cond.castable (pm_exn e) (pm_exn e) ∈ pm_nw := by decide +kernel
section SNS
variable {p : Program} {l : Launch} {e : Env} {R : Room} {s : State} {m : MethodId} {args : Array Value} {below : List Frame} {meth : Method} {c : Code} {Q : State → Prop}
variable {D : va_G} {AC : Nat → ClassId} {A : Nat → Prop} {fl : Bool} {M0 : Nat → Nat → Int} {bs : Nat × (Nat → Nat) × (Nat → Nat)}
variable {d mi pc : Nat} {L : List (Option pm_V)} {st : List pm_V} {me : pm_Me} {c0 t0 : Nat}

/-- caught here -/
theorem pm_catch (hx : p.tables.exec = Jvm.exec) (hb : c.code = pm_b mi) (hown : s.vm.findClass (pm_ow mi) = some m.cls) (hts : ∀ w ∈ pm_gw, w.before args s = true) (hKx : pm_Kx D AC s) (htab : c.exceptionTable.toList = tableOf (pm_hh mi)) {en : Nat} (hen : en < 6) (hfd : pm_fd pc en (pm_hh mi) = some (pm_hd mi pc en)) (hall : ∀ q ∈ pm_hh mi, pm_ct q.2.2.2 < 6 ∧ q.2.2.2 ≠ 0 ∧ Cond.classLink (pm_ow mi) q.2.2.2 (pm_exn (pm_ct q.2.2.2)) ∈ lw_tbl) {n : Fin 4} (hd : decode (pm_b mi) (pm_hd mi pc en) = .ok (.astore_n n, 1)) (hn : n.val < pm_ml mi) (hp : pm_hd mi pc en + 1 ∈ (pm_p mi).map Prod.fst) (k : pm_W p l e R s m args below meth c Q D AC A (pm_ml mi) fl M0 bs ((pm_p mi).map Prod.fst) (pm_hd mi pc en + 1, pm_s0 L n.val, [], me, c0, t0)) : pm_X p l e R s m args below meth c Q D AC A (pm_ml mi) fl M0 bs pc L st en me c0 t0 := by
  intro hlc hlt ad H locs ls q ce h hce hcv hcl
  obtain ⟨hP, hD, hI, hS, hl, hL, hst, hM, hb0⟩ := id h
  obtain ⟨pre, x, suf, e1, e2, e3, e4, e5⟩ := pm_fd_spec hfd
  have hmem : x ∈ pm_hh mi := by rw [e1]; exact List.mem_append_right _ List.mem_cons_self
  have good : ∀ q ∈ pm_hh mi, (Cond.classLink (pm_ow mi) q.2.2.2 (pm_exn (pm_ct q.2.2.2))).before args s = true := fun q hq => hts _ (List.mem_filter.mpr ⟨(hall q hq).2.2, rfl⟩)
  refine vx_catch (E := pm_exn en) (name := pm_exn (pm_ct x.2.2.2)) hown (pre.map fun q => ⟨q.1, q.2.1, q.2.2.1, q.2.2.2⟩) ⟨x.1, x.2.1, x.2.2.1, x.2.2.2⟩ (suf.map fun q => ⟨q.1, q.2.1, q.2.2.1, q.2.2.2⟩) (by rw [htab, e1]; simp [tableOf]) (fun z hz => ?_) ?_ (hall x hmem).2.1 (good x hmem) ?_ hce hcv hcl ?_
  · obtain ⟨w, hw, rfl⟩ := List.mem_map.mp hz
    have hwm : w ∈ pm_hh mi := by rw [e1]; exact List.mem_append_left _ hw
    rcases e5 w hw with h1 | h1
    · left
      show (decide (w.1 ≤ pc) && decide (pc < w.2.1)) = false
      rw [← Bool.decide_and]
      exact decide_eq_false h1
    · exact Or.inr ⟨(hall w hwm).2.1, _, good w hwm, hKx.2.2.2.2 en hen _ (hall w hwm).1 (Ne.symm h1)⟩
  · show (decide (x.1 ≤ pc) && decide (pc < x.2.1)) = true
    rw [← Bool.decide_and]
    exact decide_eq_true e2
  · rw [e3]
    exact va_Nw.use rfl (hKx.2.2.1 _ (pm_cast6 en hen))
  · show W p l e R s m args below meth c H locs c0 t0 Q (F0 m x.2.2.1 ls [.ref q])
    rw [e4]
    exact lv_astore_n (rest := []) hx hb hd rfl hl hn rfl (fun ls' hl' => k hp hlc hlt ad H locs ls' ⟨hP, hD, hI, hS, pm_lv_s0 hl', pm_ok_s0 hL, (fun v hv => nomatch hv), hM, hb0⟩)
/-- .. by a handler that begins with a longer astore -/
theorem pm_catch2 (hx : p.tables.exec = Jvm.exec) (hb : c.code = pm_b mi) (hown : s.vm.findClass (pm_ow mi) = some m.cls) (hts : ∀ w ∈ pm_gw, w.before args s = true) (hKx : pm_Kx D AC s) (htab : c.exceptionTable.toList = tableOf (pm_hh mi)) {en : Nat} (hen : en < 6) (hfd : pm_fd pc en (pm_hh mi) = some (pm_hd mi pc en)) (hall : ∀ q ∈ pm_hh mi, pm_ct q.2.2.2 < 6 ∧ q.2.2.2 ≠ 0 ∧ Cond.classLink (pm_ow mi) q.2.2.2 (pm_exn (pm_ct q.2.2.2)) ∈ lw_tbl) {n : Nat} (hd : decode (pm_b mi) (pm_hd mi pc en) = .ok (.astore n, 2)) (hn : n < pm_ml mi) (hp : pm_hd mi pc en + 2 ∈ (pm_p mi).map Prod.fst) (k : pm_W p l e R s m args below meth c Q D AC A (pm_ml mi) fl M0 bs ((pm_p mi).map Prod.fst) (pm_hd mi pc en + 2, pm_s0 L n, [], me, c0, t0)) : pm_X p l e R s m args below meth c Q D AC A (pm_ml mi) fl M0 bs pc L st en me c0 t0 := by
  intro hlc hlt ad H locs ls q ce h hce hcv hcl
  obtain ⟨hP, hD, hI, hS, hl, hL, hst, hM, hb0⟩ := id h
  obtain ⟨pre, x, suf, e1, e2, e3, e4, e5⟩ := pm_fd_spec hfd
  have hmem : x ∈ pm_hh mi := by rw [e1]; exact List.mem_append_right _ List.mem_cons_self
  have good : ∀ q ∈ pm_hh mi, (Cond.classLink (pm_ow mi) q.2.2.2 (pm_exn (pm_ct q.2.2.2))).before args s = true := fun q hq => hts _ (List.mem_filter.mpr ⟨(hall q hq).2.2, rfl⟩)
  refine vx_catch (E := pm_exn en) (name := pm_exn (pm_ct x.2.2.2)) hown (pre.map fun q => ⟨q.1, q.2.1, q.2.2.1, q.2.2.2⟩) ⟨x.1, x.2.1, x.2.2.1, x.2.2.2⟩ (suf.map fun q => ⟨q.1, q.2.1, q.2.2.1, q.2.2.2⟩) (by rw [htab, e1]; simp [tableOf]) (fun z hz => ?_) ?_ (hall x hmem).2.1 (good x hmem) ?_ hce hcv hcl ?_
  · obtain ⟨w, hw, rfl⟩ := List.mem_map.mp hz
    have hwm : w ∈ pm_hh mi := by rw [e1]; exact List.mem_append_left _ hw
    rcases e5 w hw with h1 | h1
    · left
      show (decide (w.1 ≤ pc) && decide (pc < w.2.1)) = false
      rw [← Bool.decide_and]
      exact decide_eq_false h1
    · exact Or.inr ⟨(hall w hwm).2.1, _, good w hwm, hKx.2.2.2.2 en hen _ (hall w hwm).1 (Ne.symm h1)⟩
  · show (decide (x.1 ≤ pc) && decide (pc < x.2.1)) = true
    rw [← Bool.decide_and]
    exact decide_eq_true e2
  · rw [e3]
    exact va_Nw.use rfl (hKx.2.2.1 _ (pm_cast6 en hen))
  · show W p l e R s m args below meth c H locs c0 t0 Q (F0 m x.2.2.1 ls [.ref q])
    rw [e4]
    exact lv_astore (rest := []) hx hb hd hl hn rfl (fun ls' hl' => k hp hlc hlt ad H locs ls' ⟨hP, hD, hI, hS, pm_lv_s0 hl', pm_ok_s0 hL, (fun v hv => nomatch hv), hM, hb0⟩)
/-- the callee's words among the caller's -/
theorem pm_good {a : Nat} (hM : pm_MOk a) : GoodIn pm_gw (pm_cw a :: pm_gw) := by
  obtain ⟨p1, p2, p3, p4, h⟩ := hM
  obtain ⟨h1, -⟩ := pm_okM_spec h
  intro w hw
  rcases List.mem_cons.mp hw with rfl | hw
  · exact ⟨h1, pm_good_gw h1⟩
  · exact ⟨hw, pm_good_gw hw⟩
theorem pm_take {b : Nat} {st : List pm_V} {ad : Nat → Nat} : st.map (pm_val ad) = ((st.take b).reverse.map (pm_val ad)).reverse ++ (st.drop b).map (pm_val ad) := by
  rw [← List.map_reverse, List.reverse_reverse, ← List.map_append, List.take_append_drop]
theorem pm_pre {ad : Nat → Nat} {H : Heap} {locs : List Loc} {ls : Array Slot} {as : List pm_V} (hKx : pm_Kx D AC s) (hA : ∀ q, s.heap.size ≤ q → A q) (hZx : pm_Zx A s s.heap) (h : pm_Rel s D AC A (pm_ml mi) fl M0 bs ad H locs ls L st me) (U : State) (hU : U.heap = H) (hW : s.WarmedH U.vm) : pm_Pc D AC ad me as H.size (as.map (pm_val ad)).toArray U := by
  obtain ⟨hP, hD, hI, hS, hl, hL, hst, hM, hb0⟩ := h
  have hAA : ∀ q, va_A (pm_ws AC ad me) H.size q → A q := by
    intro q hq
    rcases hq with ⟨k2, e9, h9⟩ | h9
    · exact hD.2 k2 _ h9
    · exact hA _ (Nat.le_trans hS.1 h9)
  have hz : pm_Zx (va_A (pm_ws AC ad me) H.size) U U.heap := by
    rw [hU]
    exact ⟨vx_Zq.moved hW.alike (vx_Zq.narrow (vx_Zq.kept hZx.1 hS.2.1) hAA), vx_Zq.moved hW.alike (vx_Zq.narrow (vx_Zq.kept hZx.2 hS.2.1) hAA)⟩
  exact ⟨rfl, by rw [hU], by rw [hU]; exact hP, hD.weaken (fun _ _ _ _ => trivial), pm_Kx.warm hW hKx, hz⟩
theorem pm_c_V (hx : p.tables.exec = Jvm.exec) (hb : c.code = pm_b mi) (hml : c.maxLocals = pm_ml mi) (hown : s.vm.findClass (pm_ow mi) = some m.cls) (hts : ∀ w ∈ pm_gw, w.before args s = true) (hKx : pm_Kx D AC s) (hA : ∀ q, s.heap.size ≤ q → A q) (hZx : pm_Zx A s s.heap) (hRf : d + 11 ≤ R.frames) (hRl : 40 * (d + 1) + 200 ≤ R.locals) (hMO : ∀ a, a < 241 → pm_MOk a) (htab : pm_hb mi = true → c.exceptionTable.toList = tableOf (pm_hh mi)) {a b idx : Nat} {Qr' : Option pm_V → pm_Me → Prop} {Qx' : Nat → pm_Me → Prop} (ha : a < 241) (hst2 : pm_sc a = false) (hni : (pm_y a).name ≠ "<init>") (hhb : pm_hb a = false) (hkc : pm_kc a < 10) (howc : pm_ow a = (pm_C (pm_kc a)).1) (hlink : Cond.methodLink (pm_ow mi) idx (pm_y a) ∈ pm_gw) (hpd : (parseMethodDescriptor (pm_y a).desc).map (fun d => d.parameters.length) = some (b - 1)) (hb0 : b ≠ 0) (hd : decode (pm_b mi) pc = .ok (.invokevirtual idx, 3)) (hlim : c0 + pm_mc a ≤ R.cells ∧ t0 + pm_ms a ≤ R.slots) (h4 : (st.drop b).length ≤ 4) (hag : pm_ag (pm_kc a) b (st.take b) = true) (hM : pm_Met l D AC d a (st.take b).reverse me Qr' Qx') (hp : pc + 3 ∈ (pm_p mi).map Prod.fst) (kr : ∀ r me', Qr' r me' → pm_W p l e R s m args below meth c Q D AC A (pm_ml mi) fl M0 bs ((pm_p mi).map Prod.fst) (pc + 3, L, pm_lst r ++ st.drop b, me', c0 + pm_mc a, t0 + pm_ms a)) (kx : ∀ en me', en < 6 → Qx' en me' → pm_X p l e R s m args below meth c Q D AC A (pm_ml mi) fl M0 bs pc L (st.drop b) en me' (c0 + pm_mc a) (t0 + pm_ms a)) : pm_W p l e R s m args below meth c Q D AC A (pm_ml mi) fl M0 bs ((pm_p mi).map Prod.fst) (pc, L, st, me, c0, t0) := by
  intro _ hlc hlt ad H locs ls h
  dsimp only at h hlc hlt ⊢
  obtain ⟨hP, hD, hI, hS, hl, hL, hst, hMM, hbs⟩ := id h
  have hag2 := hag
  unfold pm_ag at hag2
  simp only [Bool.and_eq_true] at hag2
  obtain ⟨⟨hln, hn9⟩, hrv⟩ := hag2
  have hln := Nat.eq_of_beq_eq_true hln
  have hrest : pm_Rel s D AC A (pm_ml mi) fl M0 bs ad H locs ls L (st.drop b) me := ⟨hP, hD, hI, hS, hl, hL, fun v hv => hst v (List.mem_of_mem_drop hv), hMM, hbs⟩
  have hasok : ∀ v ∈ (st.take b).reverse, pm_ok false me.1 v := fun v hv => by
    have hv := List.mem_reverse.mp hv
    exact pm_ok_n9 (hst v (List.mem_of_mem_take hv)) (List.all_eq_true.mp hn9 v hv)
  have hMet := hM ad H.size hI hasok
  obtain ⟨p1, p2, p3, p4, hmo⟩ := hMO a ha
  obtain ⟨m1, m2, m3, m4, m5, m6, m7, m8⟩ := pm_okM_spec hmo
  have hGd := pm_good (hMO a ha)
  have hroom : (pm_rm d a).frames + 1 ≤ R.frames ∧ 8 + (pm_ml a + 11) + (pm_rm d a).locals ≤ R.locals := ⟨by show d + 10 + 1 ≤ _; omega, by show 8 + (pm_ml a + 11) + (40 * d + 200) ≤ _; omega⟩
  have hsm : 2 * (F0 m pc ls (st.map (pm_val ad))).monitorRoom + ((st.drop b).map (pm_val ad) |>.map fun v => v.category).sum ≤ 8 := by
    show 2 * 0 + _ ≤ 8
    rw [pm_cats (ad' := fun _ => 0)]
    have := pm_sum4 (st := st.drop b) (ad := fun _ => 0)
    omega
  have hini : (Cond.initialized (pm_y a).cls).before args s = true := by rw [m5]; exact hts _ m2
  have hcw : pm_cw a :: pm_gw = Cond.code (pm_y a) (pm_b a) (pm_ml a) (pm_rt a) :: pm_gw := by
    unfold pm_cw
    rw [hhb]
    rfl
  obtain ⟨κ, q, as, has⟩ : ∃ κ q as, (st.take b).reverse = .inr (.inl (κ, q)) :: as ∧ κ = pm_kc a := by
    have z := hrv
    unfold pm_rv at z
    have hk100 : Nat.beq (pm_kc a) 100 = false := by
      cases hq : Nat.beq (pm_kc a) 100
      · rfl
      · exact absurd (Nat.eq_of_beq_eq_true hq) (by omega)
    rw [hk100] at z
    simp only [cond_false] at z
    split at z
    · rename_i κ2 q2 r2 hr2
      exact ⟨κ2, q2, r2, hr2, (Nat.eq_of_beq_eq_true z).symm⟩
    · cases z
  obtain ⟨has, hκ⟩ := has
  subst hκ
  have hlen : as.length = b - 1 := by
    have z : (st.take b).reverse.length = as.length + 1 := by rw [has]; rfl
    rw [List.length_reverse, hln] at z
    omega
  obtain ⟨hq, hkd⟩ : q < me.1.1 ∧ me.1.2.1 q = pm_kc a := by
    rcases hasok (.inr (.inl (pm_kc a, q))) (by rw [has]; exact List.mem_cons_self) with z | ⟨z, -⟩
    · exact z
    · cases z
  have hstk : st.map (pm_val ad) = (as.map (pm_val ad)).reverse ++ .ref (ad q) :: (st.drop b).map (pm_val ad) := by
    rw [pm_take (b := b), has, List.map_cons, List.reverse_cons, List.append_assoc]
    rfl
  have hpre : ∀ U : State, U.heap = H → s.WarmedH U.vm → pm_Pc D AC ad me (st.take b).reverse H.size (Value.ref (ad q) :: as.map (pm_val ad)).toArray U := fun U hU hW => by
    have z := pm_pre (as := (st.take b).reverse) hKx hA hZx h U hU hW
    rw [has, List.map_cons] at z
    rw [has]
    exact z
  have hrecv : ∃ cellB : Cell, H[ad q]? = some cellB ∧ cellB.vm.isStatics = false ∧ s.vm.findClass (pm_ow a) = some cellB.cls := by
    rw [howc]
    exact va_recv (q := ((pm_C (pm_kc a)).1, (pm_C (pm_kc a)).2.1, (pm_C (pm_kc a)).2.2)) (q0 := q) hKx.1 hP (pm_C_at _ hkc) (by rw [pm_ws_get hq, hkd, pm_e_o hkc])
  rw [hcw] at hMet hGd
  have hgd2 : GoodIn pm_gw (wsV (pm_ow mi) idx (pm_ow a) (pm_y a) (Cond.code (pm_y a) (pm_b a) (pm_ml a) (pm_rt a) :: pm_gw)) := by
    intro w hw
    rcases List.mem_append.mp hw with hw | hw
    · simp only [List.mem_cons, List.not_mem_nil, or_false] at hw
      rcases hw with rfl | rfl | rfl | rfl
      · exact ⟨hlink, pm_good_gw hlink⟩
      · exact ⟨(m4 hst2).1, pm_good_gw (m4 hst2).1⟩
      · exact ⟨(m4 hst2).2 hni, pm_good_gw ((m4 hst2).2 hni)⟩
      · exact ⟨m2, pm_good_gw m2⟩
    · exact hGd w hw
  refine pm_callX (vx_runV (As := as.map (pm_val ad)) (b := ad q) (C := pm_ow a) ⟨hx, hb, hml, hown, hts⟩ hMet (cwV (b - 1) hts hgd2 rfl rfl rfl ⟨m5, m6.1, m6.2, hpd⟩ hroom) ⟨pm_Pc_blind, hrecv, hpre⟩ rfl (by rw [List.length_map]; exact hlen) hl.1 hstk hsm hd hlim) hA hrest hlim.1 hlim.2 hp kr kx
theorem pm_c_VN (hx : p.tables.exec = Jvm.exec) (hb : c.code = pm_b mi) (hml : c.maxLocals = pm_ml mi) (hown : s.vm.findClass (pm_ow mi) = some m.cls) (hts : ∀ w ∈ pm_gw, w.before args s = true) (hKx : pm_Kx D AC s) (hA : ∀ q, s.heap.size ≤ q → A q) (hZx : pm_Zx A s s.heap) (hRf : d + 11 ≤ R.frames) (hRl : 40 * (d + 1) + 200 ≤ R.locals) (hMO : ∀ a, a < 241 → pm_MOk a) (htab : pm_hb mi = true → c.exceptionTable.toList = tableOf (pm_hh mi)) {a b idx : Nat} {Qr' : Option pm_V → pm_Me → Prop} (ha : a < 241) (hst2 : pm_sc a = false) (hni : (pm_y a).name ≠ "<init>") (hhb : pm_hb a = false) (hkc : pm_kc a < 10) (howc : pm_ow a = (pm_C (pm_kc a)).1) (hlink : va_Nw (.methodLinkNest (pm_ow mi) idx (pm_y a) "PatternLaboratory") s) (hpd : (parseMethodDescriptor (pm_y a).desc).map (fun d => d.parameters.length) = some (b - 1)) (hb0 : b ≠ 0) (hd : decode (pm_b mi) pc = .ok (.invokevirtual idx, 3)) (hlim : c0 + pm_mc a ≤ R.cells ∧ t0 + pm_ms a ≤ R.slots) (h4 : (st.drop b).length ≤ 4) (hag : pm_ag (pm_kc a) b (st.take b) = true) (hM : pm_Met l D AC d a (st.take b).reverse me Qr' (fun _ _ => False)) (hp : pc + 3 ∈ (pm_p mi).map Prod.fst) (kr : ∀ r me', Qr' r me' → pm_W p l e R s m args below meth c Q D AC A (pm_ml mi) fl M0 bs ((pm_p mi).map Prod.fst) (pc + 3, L, pm_lst r ++ st.drop b, me', c0 + pm_mc a, t0 + pm_ms a)) : pm_W p l e R s m args below meth c Q D AC A (pm_ml mi) fl M0 bs ((pm_p mi).map Prod.fst) (pc, L, st, me, c0, t0) := by
  intro _ hlc hlt ad H locs ls h
  dsimp only at h hlc hlt ⊢
  obtain ⟨hP, hD, hI, hS, hl, hL, hst, hMM, hbs⟩ := id h
  have hag2 := hag
  unfold pm_ag at hag2
  simp only [Bool.and_eq_true] at hag2
  obtain ⟨⟨hln, hn9⟩, hrv⟩ := hag2
  have hln := Nat.eq_of_beq_eq_true hln
  have hrest : pm_Rel s D AC A (pm_ml mi) fl M0 bs ad H locs ls L (st.drop b) me := ⟨hP, hD, hI, hS, hl, hL, fun v hv => hst v (List.mem_of_mem_drop hv), hMM, hbs⟩
  have hasok : ∀ v ∈ (st.take b).reverse, pm_ok false me.1 v := fun v hv => by
    have hv := List.mem_reverse.mp hv
    exact pm_ok_n9 (hst v (List.mem_of_mem_take hv)) (List.all_eq_true.mp hn9 v hv)
  have hMet := hM ad H.size hI hasok
  obtain ⟨p1, p2, p3, p4, hmo⟩ := hMO a ha
  obtain ⟨m1, m2, m3, m4, m5, m6, m7, m8⟩ := pm_okM_spec hmo
  have hGd := pm_good (hMO a ha)
  have hroom : (pm_rm d a).frames + 1 ≤ R.frames ∧ 8 + (pm_ml a + 11) + (pm_rm d a).locals ≤ R.locals := ⟨by show d + 10 + 1 ≤ _; omega, by show 8 + (pm_ml a + 11) + (40 * d + 200) ≤ _; omega⟩
  have hsm : 2 * (F0 m pc ls (st.map (pm_val ad))).monitorRoom + ((st.drop b).map (pm_val ad) |>.map fun v => v.category).sum ≤ 8 := by
    show 2 * 0 + _ ≤ 8
    rw [pm_cats (ad' := fun _ => 0)]
    have := pm_sum4 (st := st.drop b) (ad := fun _ => 0)
    omega
  have hini : (Cond.initialized (pm_y a).cls).before args s = true := by rw [m5]; exact hts _ m2
  have hcw : pm_cw a :: pm_gw = Cond.code (pm_y a) (pm_b a) (pm_ml a) (pm_rt a) :: pm_gw := by
    unfold pm_cw
    rw [hhb]
    rfl
  obtain ⟨κ, q, as, has⟩ : ∃ κ q as, (st.take b).reverse = .inr (.inl (κ, q)) :: as ∧ κ = pm_kc a := by
    have z := hrv
    unfold pm_rv at z
    have hk100 : Nat.beq (pm_kc a) 100 = false := by
      cases hq : Nat.beq (pm_kc a) 100
      · rfl
      · exact absurd (Nat.eq_of_beq_eq_true hq) (by omega)
    rw [hk100] at z
    simp only [cond_false] at z
    split at z
    · rename_i κ2 q2 r2 hr2
      exact ⟨κ2, q2, r2, hr2, (Nat.eq_of_beq_eq_true z).symm⟩
    · cases z
  obtain ⟨has, hκ⟩ := has
  subst hκ
  have hlen : as.length = b - 1 := by
    have z : (st.take b).reverse.length = as.length + 1 := by rw [has]; rfl
    rw [List.length_reverse, hln] at z
    omega
  obtain ⟨hq, hkd⟩ : q < me.1.1 ∧ me.1.2.1 q = pm_kc a := by
    rcases hasok (.inr (.inl (pm_kc a, q))) (by rw [has]; exact List.mem_cons_self) with z | ⟨z, -⟩
    · exact z
    · cases z
  have hstk : st.map (pm_val ad) = (as.map (pm_val ad)).reverse ++ .ref (ad q) :: (st.drop b).map (pm_val ad) := by
    rw [pm_take (b := b), has, List.map_cons, List.reverse_cons, List.append_assoc]
    rfl
  have hpre : ∀ U : State, U.heap = H → s.WarmedH U.vm → pm_Pc D AC ad me (st.take b).reverse H.size (Value.ref (ad q) :: as.map (pm_val ad)).toArray U := fun U hU hW => by
    have z := pm_pre (as := (st.take b).reverse) hKx hA hZx h U hU hW
    rw [has, List.map_cons] at z
    rw [has]
    exact z
  have hrecv : ∃ cellB : Cell, H[ad q]? = some cellB ∧ cellB.vm.isStatics = false ∧ s.vm.findClass (pm_ow a) = some cellB.cls := by
    rw [howc]
    exact va_recv (q := ((pm_C (pm_kc a)).1, (pm_C (pm_kc a)).2.1, (pm_C (pm_kc a)).2.2)) (q0 := q) hKx.1 hP (pm_C_at _ hkc) (by rw [pm_ws_get hq, hkd, pm_e_o hkc])
  rw [hcw] at hMet hGd
  have hMet2 := pm_met_of hMet (fun E st9 t9 z => by obtain ⟨⟨e9, ad9, me9, -, -, z9, -⟩, -⟩ := z; exact z9)
  refine pm_callX (Qx' := fun _ _ => False) (pm_run_of (va_runVN (As := as.map (pm_val ad)) (b := ad q) (C := pm_ow a) ⟨hx, hb, hml, hown, hts⟩ hMet2 ⟨va_cnB (b - 1) hts hGd rfl rfl rfl hlink hini ⟨m6.1, m6.2, hpd⟩ hroom, hts _ (m4 hst2).1, hts _ ((m4 hst2).2 hni)⟩ ⟨pm_Pc_blind, hrecv, hpre⟩ rfl (by rw [List.length_map]; exact hlen) hl.1 hstk hsm hd hlim)) hA hrest hlim.1 hlim.2 hp kr (fun en me' _ z => False.elim z)
theorem pm_c_S (hx : p.tables.exec = Jvm.exec) (hb : c.code = pm_b mi) (hml : c.maxLocals = pm_ml mi) (hown : s.vm.findClass (pm_ow mi) = some m.cls) (hts : ∀ w ∈ pm_gw, w.before args s = true) (hKx : pm_Kx D AC s) (hA : ∀ q, s.heap.size ≤ q → A q) (hZx : pm_Zx A s s.heap) (hRf : d + 11 ≤ R.frames) (hRl : 40 * (d + 1) + 200 ≤ R.locals) (hMO : ∀ a, a < 241 → pm_MOk a) (htab : pm_hb mi = true → c.exceptionTable.toList = tableOf (pm_hh mi)) {a b idx : Nat} {Qr' : Option pm_V → pm_Me → Prop} {Qx' : Nat → pm_Me → Prop} (ha : a < 241) (hst2 : pm_sc a = true) (hlink : Cond.methodLink (pm_ow mi) idx (pm_y a) ∈ pm_gw) (hpd : (parseMethodDescriptor (pm_y a).desc).map (fun d => d.parameters.length) = some (b)) (hd : decode (pm_b mi) pc = .ok (.invokestatic idx, 3)) (hlim : c0 + pm_mc a ≤ R.cells ∧ t0 + pm_ms a ≤ R.slots) (h4 : (st.drop b).length ≤ 4) (hag : pm_ag (100) b (st.take b) = true) (hM : pm_Met l D AC d a (st.take b).reverse me Qr' Qx') (hp : pc + 3 ∈ (pm_p mi).map Prod.fst) (kr : ∀ r me', Qr' r me' → pm_W p l e R s m args below meth c Q D AC A (pm_ml mi) fl M0 bs ((pm_p mi).map Prod.fst) (pc + 3, L, pm_lst r ++ st.drop b, me', c0 + pm_mc a, t0 + pm_ms a)) (kx : ∀ en me', en < 6 → Qx' en me' → pm_X p l e R s m args below meth c Q D AC A (pm_ml mi) fl M0 bs pc L (st.drop b) en me' (c0 + pm_mc a) (t0 + pm_ms a)) : pm_W p l e R s m args below meth c Q D AC A (pm_ml mi) fl M0 bs ((pm_p mi).map Prod.fst) (pc, L, st, me, c0, t0) := by
  intro _ hlc hlt ad H locs ls h
  dsimp only at h hlc hlt ⊢
  obtain ⟨hP, hD, hI, hS, hl, hL, hst, hMM, hbs⟩ := id h
  have hag2 := hag
  unfold pm_ag at hag2
  simp only [Bool.and_eq_true] at hag2
  obtain ⟨⟨hln, hn9⟩, hrv⟩ := hag2
  have hln := Nat.eq_of_beq_eq_true hln
  have hrest : pm_Rel s D AC A (pm_ml mi) fl M0 bs ad H locs ls L (st.drop b) me := ⟨hP, hD, hI, hS, hl, hL, fun v hv => hst v (List.mem_of_mem_drop hv), hMM, hbs⟩
  have hasok : ∀ v ∈ (st.take b).reverse, pm_ok false me.1 v := fun v hv => by
    have hv := List.mem_reverse.mp hv
    exact pm_ok_n9 (hst v (List.mem_of_mem_take hv)) (List.all_eq_true.mp hn9 v hv)
  have hMet := hM ad H.size hI hasok
  obtain ⟨p1, p2, p3, p4, hmo⟩ := hMO a ha
  obtain ⟨m1, m2, m3, m4, m5, m6, m7, m8⟩ := pm_okM_spec hmo
  have hGd := pm_good (hMO a ha)
  have hroom : (pm_rm d a).frames + 1 ≤ R.frames ∧ 8 + (pm_ml a + 11) + (pm_rm d a).locals ≤ R.locals := ⟨by show d + 10 + 1 ≤ _; omega, by show 8 + (pm_ml a + 11) + (40 * d + 200) ≤ _; omega⟩
  have hsm : 2 * (F0 m pc ls (st.map (pm_val ad))).monitorRoom + ((st.drop b).map (pm_val ad) |>.map fun v => v.category).sum ≤ 8 := by
    show 2 * 0 + _ ≤ 8
    rw [pm_cats (ad' := fun _ => 0)]
    have := pm_sum4 (st := st.drop b) (ad := fun _ => 0)
    omega
  have hini : (Cond.initialized (pm_y a).cls).before args s = true := by rw [m5]; exact hts _ m2
  have hlen : ((st.take b).reverse.map (pm_val ad)).length = b := by rw [List.length_map, List.length_reverse]; exact hln
  have hpre : ∀ U : State, U.heap = H → s.WarmedH U.vm → pm_Pc D AC ad me (st.take b).reverse H.size ((st.take b).reverse.map (pm_val ad)).toArray U := fun U hU hW => pm_pre hKx hA hZx h U hU hW
  have hgd2 : GoodIn pm_gw (va_wsS (pm_ow mi) idx (pm_y a) (pm_cw a :: pm_gw)) := by
    intro w hw
    rcases List.mem_append.mp hw with hw | hw
    · simp only [List.mem_cons, List.not_mem_nil, or_false] at hw
      rcases hw with rfl | rfl | rfl
      · exact ⟨hlink, pm_good_gw hlink⟩
      · exact ⟨m3 hst2, pm_good_gw (m3 hst2)⟩
      · rw [m5]; exact ⟨m2, pm_good_gw m2⟩
    · exact hGd w hw
  cases hhb : pm_hb a with
  | false =>
    have hcw : pm_cw a :: pm_gw = Cond.code (pm_y a) (pm_b a) (pm_ml a) (pm_rt a) :: pm_gw := by
      unfold pm_cw
      rw [hhb]
      rfl
    rw [hcw] at hMet hGd hgd2
    refine pm_callX (vx_runS (As := (st.take b).reverse.map (pm_val ad)) ⟨hx, hb, hml, hown, hts⟩ hMet ⟨callB_of b hts hGd rfl rfl rfl hini (hts _ hlink) ⟨m6.1, m6.2, hpd⟩ hroom, hts _ (m3 hst2)⟩ ⟨pm_Pc_blind, hpre⟩ rfl hlen hl.1 pm_take hsm hd hlim) hA hrest hlim.1 hlim.2 hp kr kx
  | true =>
    have hcw : pm_cw a :: pm_gw = Cond.codeWith (pm_y a) (pm_b a) (pm_ml a) (pm_rt a) (pm_hh a) :: pm_gw := by
      unfold pm_cw
      rw [hhb]
      rfl
    rw [hcw] at hMet hGd hgd2
    refine pm_callX (vx_runSX (As := (st.take b).reverse.map (pm_val ad)) ⟨hx, hb, hml, hown, hts⟩ hMet (vx_cwSW b hts hgd2 rfl rfl rfl ⟨m6.1, m6.2, hpd⟩ hroom) ⟨pm_Pc_blind, hpre⟩ rfl hlen hl.1 pm_take hsm hd hlim) hA hrest hlim.1 hlim.2 hp kr kx
theorem pm_c_SN (hx : p.tables.exec = Jvm.exec) (hb : c.code = pm_b mi) (hml : c.maxLocals = pm_ml mi) (hown : s.vm.findClass (pm_ow mi) = some m.cls) (hts : ∀ w ∈ pm_gw, w.before args s = true) (hKx : pm_Kx D AC s) (hA : ∀ q, s.heap.size ≤ q → A q) (hZx : pm_Zx A s s.heap) (hRf : d + 11 ≤ R.frames) (hRl : 40 * (d + 1) + 200 ≤ R.locals) (hMO : ∀ a, a < 241 → pm_MOk a) (htab : pm_hb mi = true → c.exceptionTable.toList = tableOf (pm_hh mi)) {a b idx : Nat} {Qr' : Option pm_V → pm_Me → Prop} (ha : a < 241) (hst2 : pm_sc a = true) (hhb : pm_hb a = false) (hlink : va_Nw (.methodLinkNest (pm_ow mi) idx (pm_y a) "PatternLaboratory") s) (hpd : (parseMethodDescriptor (pm_y a).desc).map (fun d => d.parameters.length) = some (b)) (hd : decode (pm_b mi) pc = .ok (.invokestatic idx, 3)) (hlim : c0 + pm_mc a ≤ R.cells ∧ t0 + pm_ms a ≤ R.slots) (h4 : (st.drop b).length ≤ 4) (hag : pm_ag (100) b (st.take b) = true) (hM : pm_Met l D AC d a (st.take b).reverse me Qr' (fun _ _ => False)) (hp : pc + 3 ∈ (pm_p mi).map Prod.fst) (kr : ∀ r me', Qr' r me' → pm_W p l e R s m args below meth c Q D AC A (pm_ml mi) fl M0 bs ((pm_p mi).map Prod.fst) (pc + 3, L, pm_lst r ++ st.drop b, me', c0 + pm_mc a, t0 + pm_ms a)) : pm_W p l e R s m args below meth c Q D AC A (pm_ml mi) fl M0 bs ((pm_p mi).map Prod.fst) (pc, L, st, me, c0, t0) := by
  intro _ hlc hlt ad H locs ls h
  dsimp only at h hlc hlt ⊢
  obtain ⟨hP, hD, hI, hS, hl, hL, hst, hMM, hbs⟩ := id h
  have hag2 := hag
  unfold pm_ag at hag2
  simp only [Bool.and_eq_true] at hag2
  obtain ⟨⟨hln, hn9⟩, hrv⟩ := hag2
  have hln := Nat.eq_of_beq_eq_true hln
  have hrest : pm_Rel s D AC A (pm_ml mi) fl M0 bs ad H locs ls L (st.drop b) me := ⟨hP, hD, hI, hS, hl, hL, fun v hv => hst v (List.mem_of_mem_drop hv), hMM, hbs⟩
  have hasok : ∀ v ∈ (st.take b).reverse, pm_ok false me.1 v := fun v hv => by
    have hv := List.mem_reverse.mp hv
    exact pm_ok_n9 (hst v (List.mem_of_mem_take hv)) (List.all_eq_true.mp hn9 v hv)
  have hMet := hM ad H.size hI hasok
  obtain ⟨p1, p2, p3, p4, hmo⟩ := hMO a ha
  obtain ⟨m1, m2, m3, m4, m5, m6, m7, m8⟩ := pm_okM_spec hmo
  have hGd := pm_good (hMO a ha)
  have hroom : (pm_rm d a).frames + 1 ≤ R.frames ∧ 8 + (pm_ml a + 11) + (pm_rm d a).locals ≤ R.locals := ⟨by show d + 10 + 1 ≤ _; omega, by show 8 + (pm_ml a + 11) + (40 * d + 200) ≤ _; omega⟩
  have hsm : 2 * (F0 m pc ls (st.map (pm_val ad))).monitorRoom + ((st.drop b).map (pm_val ad) |>.map fun v => v.category).sum ≤ 8 := by
    show 2 * 0 + _ ≤ 8
    rw [pm_cats (ad' := fun _ => 0)]
    have := pm_sum4 (st := st.drop b) (ad := fun _ => 0)
    omega
  have hini : (Cond.initialized (pm_y a).cls).before args s = true := by rw [m5]; exact hts _ m2
  have hcw : pm_cw a :: pm_gw = Cond.code (pm_y a) (pm_b a) (pm_ml a) (pm_rt a) :: pm_gw := by
    unfold pm_cw
    rw [hhb]
    rfl
  have hlen : ((st.take b).reverse.map (pm_val ad)).length = b := by rw [List.length_map, List.length_reverse]; exact hln
  have hpre : ∀ U : State, U.heap = H → s.WarmedH U.vm → pm_Pc D AC ad me (st.take b).reverse H.size ((st.take b).reverse.map (pm_val ad)).toArray U := fun U hU hW => pm_pre hKx hA hZx h U hU hW
  rw [hcw] at hMet hGd
  have hMet2 := pm_met_of hMet (fun E st9 t9 z => by obtain ⟨⟨e9, ad9, me9, -, -, z9, -⟩, -⟩ := z; exact z9)
  refine pm_callX (Qx' := fun _ _ => False) (pm_run_of (va_runSN (As := (st.take b).reverse.map (pm_val ad)) ⟨hx, hb, hml, hown, hts⟩ hMet2 ⟨va_cnB b hts hGd rfl rfl rfl hlink hini ⟨m6.1, m6.2, hpd⟩ hroom, hts _ (m3 hst2), trivial⟩ ⟨pm_Pc_blind, hpre⟩ rfl hlen hl.1 pm_take hsm hd hlim)) hA hrest hlim.1 hlim.2 hp kr (fun en me' _ z => False.elim z)
theorem pm_c_I (hx : p.tables.exec = Jvm.exec) (hb : c.code = pm_b mi) (hml : c.maxLocals = pm_ml mi) (hown : s.vm.findClass (pm_ow mi) = some m.cls) (hts : ∀ w ∈ pm_gw, w.before args s = true) (hKx : pm_Kx D AC s) (hA : ∀ q, s.heap.size ≤ q → A q) (hZx : pm_Zx A s s.heap) (hRf : d + 11 ≤ R.frames) (hRl : 40 * (d + 1) + 200 ≤ R.locals) (hMO : ∀ a, a < 241 → pm_MOk a) (htab : pm_hb mi = true → c.exceptionTable.toList = tableOf (pm_hh mi)) {a b idx : Nat} {Qr' : Option pm_V → pm_Me → Prop} (ha : a < 241) (hst2 : pm_sc a = false) (hni : (pm_y a).name = "<init>") (hhb : pm_hb a = false) (hrt : pm_rt a = none) (hkc : pm_kc a < 10) (hlink : Cond.methodLink (pm_ow mi) idx (pm_y a) ∈ pm_gw) (hpd : (parseMethodDescriptor (pm_y a).desc).map (fun d => d.parameters.length) = some (b - 1)) (hb0 : b ≠ 0) (hd : decode (pm_b mi) pc = .ok (.invokespecial idx, 3)) (hlim : c0 + pm_mc a ≤ R.cells ∧ t0 + pm_ms a ≤ R.slots) (h4 : (st.drop b).length ≤ 4) (hag : pm_ag (pm_kc a) b (st.take b) = true) (hM : pm_Met l D AC d a (st.take b).reverse me Qr' (fun _ _ => False)) (hp : pc + 3 ∈ (pm_p mi).map Prod.fst) (kr : ∀ r me', Qr' r me' → pm_W p l e R s m args below meth c Q D AC A (pm_ml mi) fl M0 bs ((pm_p mi).map Prod.fst) (pc + 3, L, pm_lst r ++ st.drop b, me', c0 + pm_mc a, t0 + pm_ms a)) : pm_W p l e R s m args below meth c Q D AC A (pm_ml mi) fl M0 bs ((pm_p mi).map Prod.fst) (pc, L, st, me, c0, t0) := by
  intro _ hlc hlt ad H locs ls h
  dsimp only at h hlc hlt ⊢
  obtain ⟨hP, hD, hI, hS, hl, hL, hst, hMM, hbs⟩ := id h
  have hag2 := hag
  unfold pm_ag at hag2
  simp only [Bool.and_eq_true] at hag2
  obtain ⟨⟨hln, hn9⟩, hrv⟩ := hag2
  have hln := Nat.eq_of_beq_eq_true hln
  have hrest : pm_Rel s D AC A (pm_ml mi) fl M0 bs ad H locs ls L (st.drop b) me := ⟨hP, hD, hI, hS, hl, hL, fun v hv => hst v (List.mem_of_mem_drop hv), hMM, hbs⟩
  have hasok : ∀ v ∈ (st.take b).reverse, pm_ok false me.1 v := fun v hv => by
    have hv := List.mem_reverse.mp hv
    exact pm_ok_n9 (hst v (List.mem_of_mem_take hv)) (List.all_eq_true.mp hn9 v hv)
  have hMet := hM ad H.size hI hasok
  obtain ⟨p1, p2, p3, p4, hmo⟩ := hMO a ha
  obtain ⟨m1, m2, m3, m4, m5, m6, m7, m8⟩ := pm_okM_spec hmo
  have hGd := pm_good (hMO a ha)
  have hroom : (pm_rm d a).frames + 1 ≤ R.frames ∧ 8 + (pm_ml a + 11) + (pm_rm d a).locals ≤ R.locals := ⟨by show d + 10 + 1 ≤ _; omega, by show 8 + (pm_ml a + 11) + (40 * d + 200) ≤ _; omega⟩
  have hsm : 2 * (F0 m pc ls (st.map (pm_val ad))).monitorRoom + ((st.drop b).map (pm_val ad) |>.map fun v => v.category).sum ≤ 8 := by
    show 2 * 0 + _ ≤ 8
    rw [pm_cats (ad' := fun _ => 0)]
    have := pm_sum4 (st := st.drop b) (ad := fun _ => 0)
    omega
  have hini : (Cond.initialized (pm_y a).cls).before args s = true := by rw [m5]; exact hts _ m2
  have hcw : pm_cw a :: pm_gw = Cond.code (pm_y a) (pm_b a) (pm_ml a) (pm_rt a) :: pm_gw := by
    unfold pm_cw
    rw [hhb]
    rfl
  obtain ⟨κ, q, as, has⟩ : ∃ κ q as, (st.take b).reverse = .inr (.inl (κ, q)) :: as ∧ κ = pm_kc a := by
    have z := hrv
    unfold pm_rv at z
    have hk100 : Nat.beq (pm_kc a) 100 = false := by
      cases hq : Nat.beq (pm_kc a) 100
      · rfl
      · exact absurd (Nat.eq_of_beq_eq_true hq) (by omega)
    rw [hk100] at z
    simp only [cond_false] at z
    split at z
    · rename_i κ2 q2 r2 hr2
      exact ⟨κ2, q2, r2, hr2, (Nat.eq_of_beq_eq_true z).symm⟩
    · cases z
  obtain ⟨has, hκ⟩ := has
  subst hκ
  have hlen : as.length = b - 1 := by
    have z : (st.take b).reverse.length = as.length + 1 := by rw [has]; rfl
    rw [List.length_reverse, hln] at z
    omega
  obtain ⟨hq, hkd⟩ : q < me.1.1 ∧ me.1.2.1 q = pm_kc a := by
    rcases hasok (.inr (.inl (pm_kc a, q))) (by rw [has]; exact List.mem_cons_self) with z | ⟨z, -⟩
    · exact z
    · cases z
  have hstk : st.map (pm_val ad) = (as.map (pm_val ad)).reverse ++ .ref (ad q) :: (st.drop b).map (pm_val ad) := by
    rw [pm_take (b := b), has, List.map_cons, List.reverse_cons, List.append_assoc]
    rfl
  have hpre : ∀ U : State, U.heap = H → s.WarmedH U.vm → pm_Pc D AC ad me (st.take b).reverse H.size (Value.ref (ad q) :: as.map (pm_val ad)).toArray U := fun U hU hW => by
    have z := pm_pre (as := (st.take b).reverse) hKx hA hZx h U hU hW
    rw [has, List.map_cons] at z
    rw [has]
    exact z
  rw [hcw, hrt] at hMet hGd
  have hMet2 := pm_met_of hMet (fun E st9 t9 z => by obtain ⟨⟨e9, ad9, me9, -, -, z9, -⟩, -⟩ := z; exact z9)
  refine pm_callX (Qx' := fun _ _ => False) (pm_run_of (va_runI (As := as.map (pm_val ad)) (b := ad q) ⟨hx, hb, hml, hown, hts⟩ hMet2 (cwI (b - 1) hts hGd rfl rfl rfl hini (hts _ hlink) (hts _ (m4 hst2).1) hni ⟨m6.1, m6.2, hpd⟩ hroom) ⟨pm_Pc_blind, hpre⟩ rfl (by rw [List.length_map]; exact hlen) hl.1 hstk hsm hd hlim)) hA hrest hlim.1 hlim.2 hp kr (fun en me' _ z => False.elim z)
theorem pm_c_IN (hx : p.tables.exec = Jvm.exec) (hb : c.code = pm_b mi) (hml : c.maxLocals = pm_ml mi) (hown : s.vm.findClass (pm_ow mi) = some m.cls) (hts : ∀ w ∈ pm_gw, w.before args s = true) (hKx : pm_Kx D AC s) (hA : ∀ q, s.heap.size ≤ q → A q) (hZx : pm_Zx A s s.heap) (hRf : d + 11 ≤ R.frames) (hRl : 40 * (d + 1) + 200 ≤ R.locals) (hMO : ∀ a, a < 241 → pm_MOk a) (htab : pm_hb mi = true → c.exceptionTable.toList = tableOf (pm_hh mi)) {a b idx : Nat} {Qr' : Option pm_V → pm_Me → Prop} (ha : a < 241) (hst2 : pm_sc a = false) (hni : (pm_y a).name = "<init>") (hhb : pm_hb a = false) (hrt : pm_rt a = none) (hkc : pm_kc a < 10) (hlink : va_Nw (.methodLinkNest (pm_ow mi) idx (pm_y a) "PatternLaboratory") s) (hpd : (parseMethodDescriptor (pm_y a).desc).map (fun d => d.parameters.length) = some (b - 1)) (hb0 : b ≠ 0) (hd : decode (pm_b mi) pc = .ok (.invokespecial idx, 3)) (hlim : c0 + pm_mc a ≤ R.cells ∧ t0 + pm_ms a ≤ R.slots) (h4 : (st.drop b).length ≤ 4) (hag : pm_ag (pm_kc a) b (st.take b) = true) (hM : pm_Met l D AC d a (st.take b).reverse me Qr' (fun _ _ => False)) (hp : pc + 3 ∈ (pm_p mi).map Prod.fst) (kr : ∀ r me', Qr' r me' → pm_W p l e R s m args below meth c Q D AC A (pm_ml mi) fl M0 bs ((pm_p mi).map Prod.fst) (pc + 3, L, pm_lst r ++ st.drop b, me', c0 + pm_mc a, t0 + pm_ms a)) : pm_W p l e R s m args below meth c Q D AC A (pm_ml mi) fl M0 bs ((pm_p mi).map Prod.fst) (pc, L, st, me, c0, t0) := by
  intro _ hlc hlt ad H locs ls h
  dsimp only at h hlc hlt ⊢
  obtain ⟨hP, hD, hI, hS, hl, hL, hst, hMM, hbs⟩ := id h
  have hag2 := hag
  unfold pm_ag at hag2
  simp only [Bool.and_eq_true] at hag2
  obtain ⟨⟨hln, hn9⟩, hrv⟩ := hag2
  have hln := Nat.eq_of_beq_eq_true hln
  have hrest : pm_Rel s D AC A (pm_ml mi) fl M0 bs ad H locs ls L (st.drop b) me := ⟨hP, hD, hI, hS, hl, hL, fun v hv => hst v (List.mem_of_mem_drop hv), hMM, hbs⟩
  have hasok : ∀ v ∈ (st.take b).reverse, pm_ok false me.1 v := fun v hv => by
    have hv := List.mem_reverse.mp hv
    exact pm_ok_n9 (hst v (List.mem_of_mem_take hv)) (List.all_eq_true.mp hn9 v hv)
  have hMet := hM ad H.size hI hasok
  obtain ⟨p1, p2, p3, p4, hmo⟩ := hMO a ha
  obtain ⟨m1, m2, m3, m4, m5, m6, m7, m8⟩ := pm_okM_spec hmo
  have hGd := pm_good (hMO a ha)
  have hroom : (pm_rm d a).frames + 1 ≤ R.frames ∧ 8 + (pm_ml a + 11) + (pm_rm d a).locals ≤ R.locals := ⟨by show d + 10 + 1 ≤ _; omega, by show 8 + (pm_ml a + 11) + (40 * d + 200) ≤ _; omega⟩
  have hsm : 2 * (F0 m pc ls (st.map (pm_val ad))).monitorRoom + ((st.drop b).map (pm_val ad) |>.map fun v => v.category).sum ≤ 8 := by
    show 2 * 0 + _ ≤ 8
    rw [pm_cats (ad' := fun _ => 0)]
    have := pm_sum4 (st := st.drop b) (ad := fun _ => 0)
    omega
  have hini : (Cond.initialized (pm_y a).cls).before args s = true := by rw [m5]; exact hts _ m2
  have hcw : pm_cw a :: pm_gw = Cond.code (pm_y a) (pm_b a) (pm_ml a) (pm_rt a) :: pm_gw := by
    unfold pm_cw
    rw [hhb]
    rfl
  obtain ⟨κ, q, as, has⟩ : ∃ κ q as, (st.take b).reverse = .inr (.inl (κ, q)) :: as ∧ κ = pm_kc a := by
    have z := hrv
    unfold pm_rv at z
    have hk100 : Nat.beq (pm_kc a) 100 = false := by
      cases hq : Nat.beq (pm_kc a) 100
      · rfl
      · exact absurd (Nat.eq_of_beq_eq_true hq) (by omega)
    rw [hk100] at z
    simp only [cond_false] at z
    split at z
    · rename_i κ2 q2 r2 hr2
      exact ⟨κ2, q2, r2, hr2, (Nat.eq_of_beq_eq_true z).symm⟩
    · cases z
  obtain ⟨has, hκ⟩ := has
  subst hκ
  have hlen : as.length = b - 1 := by
    have z : (st.take b).reverse.length = as.length + 1 := by rw [has]; rfl
    rw [List.length_reverse, hln] at z
    omega
  obtain ⟨hq, hkd⟩ : q < me.1.1 ∧ me.1.2.1 q = pm_kc a := by
    rcases hasok (.inr (.inl (pm_kc a, q))) (by rw [has]; exact List.mem_cons_self) with z | ⟨z, -⟩
    · exact z
    · cases z
  have hstk : st.map (pm_val ad) = (as.map (pm_val ad)).reverse ++ .ref (ad q) :: (st.drop b).map (pm_val ad) := by
    rw [pm_take (b := b), has, List.map_cons, List.reverse_cons, List.append_assoc]
    rfl
  have hpre : ∀ U : State, U.heap = H → s.WarmedH U.vm → pm_Pc D AC ad me (st.take b).reverse H.size (Value.ref (ad q) :: as.map (pm_val ad)).toArray U := fun U hU hW => by
    have z := pm_pre (as := (st.take b).reverse) hKx hA hZx h U hU hW
    rw [has, List.map_cons] at z
    rw [has]
    exact z
  rw [hcw, hrt] at hMet hGd
  have hMet2 := pm_met_of hMet (fun E st9 t9 z => by obtain ⟨⟨e9, ad9, me9, -, -, z9, -⟩, -⟩ := z; exact z9)
  refine pm_callX (Qx' := fun _ _ => False) (pm_run_of (va_runIN (As := as.map (pm_val ad)) (b := ad q) ⟨hx, hb, hml, hown, hts⟩ hMet2 ⟨va_cnB (b - 1) hts hGd rfl rfl rfl hlink hini ⟨m6.1, m6.2, hpd⟩ hroom, hni, hts _ (m4 hst2).1⟩ ⟨pm_Pc_blind, hpre⟩ rfl (by rw [List.length_map]; exact hlen) hl.1 hstk hsm hd hlim)) hA hrest hlim.1 hlim.2 hp kr (fun en me' _ z => False.elim z)
end SNS

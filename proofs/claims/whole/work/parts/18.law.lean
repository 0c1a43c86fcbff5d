/-! THE CLAIM OUT OF ONE WALK OF THE LAW'S BODY. Your part is whole_start (and what it stands on); all else here is the same for every law, but numbers. -/
def R_law : String := "PatternLaboratoryLaw"
def lw_P (b : Addr) (xs : List Int32) (args : Array Value) (s : State) : Prop := args = #[.ref b] ∧ s.IntsAt b xs ∧ xs.length ≤ 1536 ∧ (Jvm.Cond.and given_1 narrow_1).before args s = true
/-- what a walk over the start with the record d0 says of its end, said of the start itself -/
theorem lw_closed {s t : State} {o : Outcome} {d0 : Drawn} {L : List Loc} {k n : Nat} (hd0 : s.drawn.sameBut d0 lw_cs) (hv : ∃ v, o = .returned v) (hW : (s.setDrawn d0).WarmedH t.vm) (hs : (s.setDrawn d0).sameButNew ({ t with vm := s.vm } : State) L k n) : State.butDraws s t lw_cs (fun t1 => Framed s o t1 L k n) := by
  have h2 : t.drawn = d0 := congrArg State.drawn hs.1
  refine ⟨⟨hv, hW, State.sameButNew.setDrawn hs s.drawn⟩, ?_, by decide⟩
  rw [h2]
  exact hd0
def lw_Q (_ : Array Value) (s : State) (o : Outcome) (t : State) : Prop := o = .returned (some (.int 1)) ∧ State.butDraws s t lw_cs (fun t1 => Framed s o t1 [] 603072 7174250)
def lw_Z (below : List Frame) (a : Array Value) (s : State) : State → Prop := fun t => ∃ o, t.status = .running ∧ Ended t below o ∧ lw_Q a s o t
/-- the law's own end, with 1 on the stack, nothing written that was there before, its room as the claim has it; d0: the record of draws at this point (at the entry s.drawn: begin with 'refine W.base ?_' and 'have hd0 := Drawn.sameBut.refl s.drawn lw_cs') -/
theorem lw_ret {p : Program} {l : Launch} {e : Env} {s : State} {m : MethodId} {below : List Frame} {meth : Method} {c : Code} {b : Nat} {d0 : Drawn} (hd0 : s.drawn.sameBut d0 lw_cs) (hx : p.tables.exec = Jvm.exec) (hb : c.code = code) (hr : meth.sig.returnType = ret) (hlocks : meth.locks = false) {pc : Nat} {H : Heap} {ls : Array Slot} (hdg : decode code pc = .ok (.ireturn, 1)) : W p l e room_1 (s.setDrawn d0) m #[Value.ref b] below meth c H [] 603072 7174250 (lw_Z below #[Value.ref b] s) (F0 m pc ls [.int 1]) := by
  intro T hT X
  obtain ⟨fs, hret, hrun, hended, hW, hframe⟩ := X.leave (v := some (.int 1)) (hlocks := hlocks) (fun h => by rw [hr] at h; cases h)
  have hmeth' : T.vm.method? m = some meth := X.method'
  refine ⟨T.setFrames fs, ?_, .returned (some (.int 1)), hrun, hended, rfl, lw_closed hd0 ⟨_, rfl⟩ hW hframe⟩
  jvm_step X.here [X.here.top, hx, hb, hdg, hmeth', hr, ret, narrow_b1]
  (try refine ⟨rfl, ?_⟩); (try refine ⟨rfl, ?_⟩)
  first | (intro acts; rw [hret _ acts rfl rfl rfl]) | rw [hret _ _ rfl rfl rfl]
  exact Steps.refl _
/-- what holds at the law's entry: the machine, the code, the tables' words (any of lw_tbl by 'hts w (by decide +kernel)'), the script of L ints xs at the cell b, what the Statement gives of the start (any of its parts by flat_of_before) -/
def lw_At (p : Program) (s : State) (m : MethodId) (meth : Method) (c : Code) (b L : Nat) (xs : Nat → Int32) : Prop :=
  p.tables.exec = Jvm.exec ∧ c.code = code ∧ meth.sig.returnType = ret ∧ c.maxLocals = 9 ∧ s.vm.findClass R_law = some m.cls ∧ (∀ w ∈ lw_tbl, w.before #[Value.ref b] s = true) ∧ va_X b L xs s s.heap ∧ b < s.heap.size ∧ meth.locks = false ∧ (Jvm.Cond.and given_1 narrow_1).before #[Value.ref b] s = true
/-! THE LAW'S OWN START AND END, OUT OF A RUN OF THE PURE MACHINE -/
set_option maxRecDepth 100000 in
theorem pm_law_strs : ∀ q ∈ pm_strs, Cond.stringRef RX8 q.1 q.2 ∈ lw_tbl ∧ Cond.exactly (.string RX8 q.1) "java/lang/String" ∈ flatC (Jvm.Cond.and given_1 narrow_1) := by decide +kernel
set_option maxRecDepth 100000 in
theorem pm_law_ncs : ∀ e1, e1 < 6 → ∀ e2, e2 < 6 → e1 ≠ e2 → Cond.not (.castable (pm_exn e1) (pm_exn e2)) ∈ flatC (Jvm.Cond.and given_1 narrow_1) := by decide +kernel
set_option maxRecDepth 100000 in
theorem pm_law_sts : Cond.laysStatic Bundle.tN "UNASSIGNED_STACK" Bundle.steD ∈ lw_tbl ∧ Cond.laysStatic Bundle.tN "SUPPRESSED_SENTINEL" Bundle.listD ∈ lw_tbl ∧ Cond.initialized Bundle.tN ∈ lw_tbl ∧ Cond.isRef (.static Bundle.tN "UNASSIGNED_STACK" Bundle.steD) ∈ flatC (Jvm.Cond.and given_1 narrow_1) ∧ Cond.isRef (.static Bundle.tN "SUPPRESSED_SENTINEL" Bundle.listD) ∈ flatC (Jvm.Cond.and given_1 narrow_1) ∧ Cond.arrayOver (.object "PatternLaboratory$Row") ∈ lw_tbl := by decide +kernel
/-- what the tables say at the law's entry -/
theorem pm_Kx_start {s : State} {args : Array Value} (hts : ∀ w ∈ lw_tbl, w.before args s = true) (hgv : (Jvm.Cond.and given_1 narrow_1).before args s = true) : ∃ (D : va_G) (AC : Nat → ClassId), pm_Kx D AC s := by
  have hfl := flat_of_before _ hgv
  have hg : ∀ w ∈ pm_gw, w.before args s = true := fun w hw => hts w (List.mem_filter.mp hw).1
  have hc : ∀ a : Nat, ∃ q : ClassId × (Nat → Nat), a < 10 → u_Kn s (pm_C a).1 (pm_C a).2.1 (pm_C a).2.2 q.1 q.2 := by
    intro a
    by_cases ha : a < 10
    · obtain ⟨cC, iS, h⟩ := u_known (C := (pm_C a).1) (T := (pm_C a).2.1) (N := (pm_C a).2.2) (n := (pm_C a).2.2) hg (pm_C_ws a ha) (hg _ (pm_C_in a ha).1)
      exact ⟨(cC, iS), fun _ => h⟩
    · exact ⟨(0, fun _ => 0), fun h => absurd h ha⟩
  obtain ⟨f, hf⟩ := Classical.axiomOfChoice hc
  obtain ⟨w1, w2, w3, w4, -⟩ := pm_W_fixed
  have harr : ∀ ty : FieldType, (Cond.arrayClass ty).before args s = true → pm_isR ty = false → ∃ cA, ArrOfT s cA ty ∧ va_RA s cA ty := by
    intro ty h hn
    obtain ⟨cA, kA, comp, h1, h2, h3⟩ := Cond.arrayClass_spec h
    refine ⟨cA, fun n z => ⟨fun k h => (by cases h), kA, h2, comp, h3⟩, ?_⟩
    cases ty <;> first | exact h1 | cases hn
  obtain ⟨c1, a1⟩ := harr .int (hg _ w1) rfl
  obtain ⟨c2, a2⟩ := harr .boolean (hg _ w2) rfl
  obtain ⟨c3, a3⟩ := harr .long (hg _ w3) rfl
  obtain ⟨c4, a4⟩ := harr .double (hg _ w4) rfl
  obtain ⟨-, -, -, -, -, hAO⟩ := pm_law_sts
  obtain ⟨comp, c5, k5, o1, o2, o3, o4, o5⟩ := Cond.arrayOver_spec (hts _ hAO)
  have a5 : ArrOfT s c5 (.object "PatternLaboratory$Row") ∧ va_RA s c5 (.object "PatternLaboratory$Row") := ⟨fun n z => ⟨fun k h => (by cases h), k5, o3, comp, o4⟩, k5, comp, o3, o4, o1, o5⟩
  refine ⟨(fun a => (f a).1, fun a => (f a).2), fun i => if i = 1 then c1 else if i = 2 then c2 else if i = 3 then c3 else if i = 4 then c4 else c5, ⟨fun a q hq => ?_, fun k q hk => ?_⟩, hts _ hAO, fun w hw => ?_, fun q hq => ?_, fun e1 h1 e2 h2 hne => va_Nc.of (hfl _ (pm_law_ncs e1 h1 e2 h2 hne))⟩
  · have ha : a < 10 := (List.getElem?_eq_some_iff.mp hq).1
    rw [pm_C_at a ha] at hq
    cases hq
    exact hf a ha
  · have hk5 : k < 5 := (List.getElem?_eq_some_iff.mp hk).1
    rcases (show k = 0 ∨ k = 1 ∨ k = 2 ∨ k = 3 ∨ k = 4 by omega) with rfl | rfl | rfl | rfl | rfl <;> cases hk
    · exact a1
    · exact a2
    · exact a3
    · exact a4
    · exact a5
  · have h := List.mem_filter.mp hw
    have h1 : w.onTables = true := by
      have h2 := h.2
      cases w <;> first | rfl | cases h2
    exact va_Nw.of h1 (hts w h.1)
  · obtain ⟨h1, h2⟩ := pm_law_strs q hq
    obtain ⟨a, -, -, -, q1, -⟩ := Cond.exactly_spec (hfl _ h2)
    exact ⟨a, vk_R.of (hts _ h1) q1⟩
theorem pm_Zx_start {s : State} {args : Array Value} (hts : ∀ w ∈ lw_tbl, w.before args s = true) (hgv : (Jvm.Cond.and given_1 narrow_1).before args s = true) : pm_Zx (fun q => s.heap.size ≤ q) s s.heap := by
  have hfl := flat_of_before _ hgv
  obtain ⟨h1, h2, h3, h4, h5, -⟩ := pm_law_sts
  have hA : ∀ a : Nat, a < s.heap.size → ¬ (s.heap.size ≤ a) := fun a h => Nat.not_le.mpr h
  exact ⟨vx_Zqof (hts _ h1) (hts _ h3) (hfl _ h4) hA, vx_Zqof (hts _ h2) (hts _ h3) (hfl _ h5) hA⟩
theorem pm_all_chunks {α : Type} {l : List α} {f : α → Bool} (h : ∀ j, j < 37 → ((l.drop (40 * j)).take 40).all f = true) (hl : l.length ≤ 1480) : ∀ q ∈ l, f q = true := by
  intro q hq
  obtain ⟨i, hi⟩ := List.getElem?_of_mem hq
  have hil : i < l.length := (List.getElem?_eq_some_iff.mp hi).1
  refine List.all_eq_true.mp (h (i / 40) (by omega)) q (List.mem_of_getElem? (i := i % 40) ?_)
  rw [List.getElem?_take, if_pos (Nat.mod_lt _ (by decide)), List.getElem?_drop, Nat.div_add_mod]
  exact hi
theorem pm_law_chunks : ∀ j, j < 37 → ((pm_p241.drop (40 * j)).take 40).all (fun q => pm_okI 241 (pm_p241.map Prod.fst) q.1 q.2) = true
  | 0, _ => pm_ki241_0
  | 1, _ => pm_ki241_1
  | 2, _ => pm_ki241_2
  | 3, _ => pm_ki241_3
  | 4, _ => pm_ki241_4
  | 5, _ => pm_ki241_5
  | 6, _ => pm_ki241_6
  | 7, _ => pm_ki241_7
  | 8, _ => pm_ki241_8
  | 9, _ => pm_ki241_9
  | 10, _ => pm_ki241_10
  | 11, _ => pm_ki241_11
  | 12, _ => pm_ki241_12
  | 13, _ => pm_ki241_13
  | 14, _ => pm_ki241_14
  | 15, _ => pm_ki241_15
  | 16, _ => pm_ki241_16
  | 17, _ => pm_ki241_17
  | 18, _ => pm_ki241_18
  | 19, _ => pm_ki241_19
  | 20, _ => pm_ki241_20
  | 21, _ => pm_ki241_21
  | 22, _ => pm_ki241_22
  | 23, _ => pm_ki241_23
  | 24, _ => pm_ki241_24
  | 25, _ => pm_ki241_25
  | 26, _ => pm_ki241_26
  | 27, _ => pm_ki241_27
  | 28, _ => pm_ki241_28
  | 29, _ => pm_ki241_29
  | 30, _ => pm_ki241_30
  | 31, _ => pm_ki241_31
  | 32, _ => pm_ki241_32
  | 33, _ => pm_ki241_33
  | 34, _ => pm_ki241_34
  | 35, _ => pm_ki241_35
  | 36, _ => pm_ki241_36
  | j + 37, h => absurd h (by omega)
theorem pm_law_ok : ∀ pc ∈ (pm_p 241).map Prod.fst, ∃ pl, pm_okI 241 ((pm_p 241).map Prod.fst) pc pl = true := by
  intro pc hp
  obtain ⟨q, hq, rfl⟩ := List.mem_map.mp hp
  exact ⟨q.2, pm_all_chunks (l := pm_p241) pm_law_chunks (by decide +kernel) q hq⟩
theorem pm_law_0 : 0 ∈ (pm_p 241).map Prod.fst := by decide +kernel
/-- the memory with which the law begins -/
def pm_M0 (L : Nat) (xs : Nat → Int32) : Nat → Nat → Int := fun a b => if a = 9998 then (L : Int) else if a = 9999 then (xs b).toInt else 0
def pm_me0 (L : Nat) (xs : Nat → Int32) : pm_Me := ((0, fun _ => 0, fun _ _ => false), pm_M0 L xs)
/-- the law on the pure machine: it ends, and answers 1 -/
def pm_Law (L : Nat) (xs : Nat → Int32) : Prop := pm_wp 603072 7174250 (pm_stp (pm_cd 241) (pm_hd 241) 603072 7174250 pm_mc pm_ms pm_kc (pm_run 1000) (fun r _ => r = some (.inl 1)) (fun _ _ => False)) (0, [some (.inr (.inl (999, 9999))), none, none, none, none, none, none, none, none], [], pm_me0 L xs, 0, 0)
set_option maxHeartbeats 4000000 in
set_option maxRecDepth 100000 in
theorem pm_law_walk {p : Program} {e : Env} {s : State} {m : MethodId} {below : List Frame} {meth : Method} {c : Code} (l : Launch) (hflags : l.flags = flags0) {b L : Nat} {xs : Nat → Int32} (hL : L ≤ 1536) (C0 : lw_At p s m meth c b L xs) (hLaw : pm_Law L xs) : W p l e room_1 s m #[Value.ref b] below meth c s.heap [] 0 0 (lw_Z below #[Value.ref b] s) (entryFrame m ([Value.ref b] : List Value).toArray 9) := by
  obtain ⟨hx, hb, hr, hml, hown, hts, hX, hbl, hlocks, hgv⟩ := C0
  obtain ⟨D, AC, hKx⟩ := pm_Kx_start hts hgv
  have hZx := pm_Zx_start hts hgv
  have hl0 : l.stackTraces = false := by
    unfold Launch.stackTraces
    rw [hflags]
    decide +kernel
  have hg : ∀ w ∈ pm_gw, w.before #[Value.ref b] s = true := fun w hw => hts w (List.mem_filter.mp hw).1
  have hscr : pm_scr s (fun q => s.heap.size ≤ q) (pm_M0 L xs) b := ⟨L, xs, hX, hbl, Nat.not_le.mpr hbl, rfl, by omega, fun j hj => rfl⟩
  have hlv := lv_entry ([Value.ref b]) (n := 9) (Nat.le_of_ble_eq_true rfl)
  rw [lg_entry_eq]
  generalize (lg_sl ([Value.ref b]) ++ List.replicate (9 - (lg_sl ([Value.ref b])).length) Slot.unset).toArray = ls at hlv ⊢
  have hlv2 : lv_has ls 9 [(0, Value.ref b)] := hlv
  have hrel : pm_Rel s D AC (fun q => s.heap.size ≤ q) (pm_ml 241) true (pm_M0 L xs) (0, fun _ => 0, fun _ => b) (fun _ => b) s.heap [] ls [some (.inr (.inl (999, 9999))), none, none, none, none, none, none, none, none] [] (pm_me0 L xs) := by
    refine ⟨fun k q hk => (by cases hk), ⟨fun i j x y hi => (by cases hi), fun k q hk => (by cases hk)⟩, ⟨Nat.zero_le _, fun k hk => absurd hk (Nat.not_lt_zero k)⟩, va_S.rf, hlv2, fun j v hj => ?_, fun v hv => (by cases hv), fun _ _ => rfl, ⟨Nat.le_refl _, fun q hq => absurd hq (Nat.not_lt_zero q), rfl⟩⟩
    match j, hj with
    | 0, hj =>
      have hj : some (.inr (.inl (999, 9999))) = some v := hj
      cases hj
      exact Or.inr ⟨rfl, rfl, rfl⟩
    | 1, hj | 2, hj | 3, hj | 4, hj | 5, hj | 6, hj | 7, hj | 8, hj => cases hj
    | j + 9, hj => cases hj
  have key := pm_body (p := p) (l := l) (e := e) (R := room_1) (s := s) (m := m) (args := #[Value.ref b]) (below := below) (meth := meth) (c := c) (Q := lw_Z below #[Value.ref b] s) (D := D) (AC := AC) (A := fun q => s.heap.size ≤ q) (fl := true) (M0 := pm_M0 L xs) (bs := (0, fun _ => 0, fun _ => b)) (d := 1000) (mi := 241) (cal := pm_run 1000) (Qr := fun r _ => r = some (.inl 1)) (Qx := fun _ _ => False) (S := (0, [some (.inr (.inl (999, 9999))), none, none, none, none, none, none, none, none], [], pm_me0 L xs, 0, 0))
    hx hb hml hown hg hKx (fun q h => h) hZx (by decide) (by decide) (fun a ha => (pm_all_ok a ha).1) (fun z => by cases z) (fun z => absurd z (by decide)) (fun _ => hscr) pm_law_ok
    (fun a as' me' Qr' Qx' ha hq hrun => pm_sound hl0 D AC 1000 a as' me' Qr' Qx' ha hq hrun) (fun _ _ _ z => z) (fun z => by cases z) (fun z => by cases z) ?_ (fun _ _ _ _ _ _ _ _ _ _ _ _ z => z.elim) (fun _ _ _ _ _ _ _ _ _ z => z.elim) hLaw
  · exact key pm_law_0 (Nat.zero_le _) (Nat.zero_le _) (fun _ => b) s.heap [] ls hrel
  · intro pc L1 r me1 c0 t0 i hrti hd hQ hpc hlc hlt ad1 H locs ls1 hr1
    obtain ⟨hP1, hD1, hI1, hS1, hl1, hL1, hst1, hM1, hb1⟩ := hr1
    subst hQ
    obtain ⟨rfl, -⟩ := hrti
    refine va_forget (fun q hq => hS1.2.2 q hq) (W.widen (k := 603072) (n := 7174250) hlc hlt ?_)
    exact lw_ret (Drawn.sameBut.refl s.drawn lw_cs) hx hb hr hlocks hd

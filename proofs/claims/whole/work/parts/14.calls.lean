/-! CONTRACTS OF THE PURE MACHINE'S CALLS -/
theorem pm_isn_warm {w : Cond} (h : pm_isn w = true) {s U : State} (hW : s.WarmedH U.vm) (hZ : va_Nw w s) : va_Nw w U := by
  cases w <;> first | exact va_Nw.warmF hW hZ | exact va_Nw.warmM hW hZ | exact va_Nw.warmC hW hZ | exact va_Nw.warmD hW hZ | cases h
theorem pm_isn_same {w : Cond} (h : pm_isn w = true) {u U : State} (hv : u.vm = U.vm) (hZ : va_Nw w u) : va_Nw w U := by
  cases w <;> first | exact va_Nw.same rfl hv hZ | cases h
/-- what of the tables the words don't say -/
def pm_Kx (D : va_G) (AC : Nat → ClassId) (U : State) : Prop := va_K D pm_cl (pm_tys AC) U ∧ va_AO "PatternLaboratory$Row" U ∧ (∀ w ∈ pm_nw, va_Nw w U) ∧ (∀ q ∈ pm_strs, ∃ sa, vk_R RX8 q.1 q.2 sa U) ∧ ∀ e1, e1 < 6 → ∀ e2, e2 < 6 → e1 ≠ e2 → va_Nc (pm_exn e1) (pm_exn e2) U
theorem pm_Kx.warm {D : va_G} {AC : Nat → ClassId} {s U : State} (hW : s.WarmedH U.vm) (h : pm_Kx D AC s) : pm_Kx D AC U := by
  obtain ⟨h1, h2, h3, h4, h5⟩ := h
  refine ⟨va_K.moved hW.alike h1, va_AO.moved hW.alike h2, fun w hw => pm_isn_warm (List.mem_filter.mp hw).2 hW (h3 w hw), fun q hq => ?_, fun e1 he1 e2 he2 hne => va_Nc.moved hW.alike (h5 e1 he1 e2 he2 hne)⟩
  obtain ⟨sa, h⟩ := h4 q hq
  exact ⟨sa, vk_R.warm hW h⟩
theorem pm_Kx.same {D : va_G} {AC : Nat → ClassId} {u U : State} (hv : u.vm = U.vm) (h : pm_Kx D AC u) : pm_Kx D AC U := by
  obtain ⟨h1, h2, h3, h4, h5⟩ := h
  have hal : u.vm.Alike U.vm := by rw [hv]; exact Vm.Alike.refl _
  refine ⟨va_K.moved hal h1, va_AO.moved hal h2, fun w hw => pm_isn_same (List.mem_filter.mp hw).2 hv (h3 w hw), fun q hq => ?_, fun e1 he1 e2 he2 hne => va_Nc.moved hal (h5 e1 he1 e2 he2 hne)⟩
  obtain ⟨sa, h⟩ := h4 q hq
  exact ⟨sa, vk_R.same hv.symm h⟩
/-- two statics of Throwable lie where nothing is written -/
def pm_Zx (A : Nat → Prop) (U : State) (H : Heap) : Prop := vx_Zq Bundle.tN "UNASSIGNED_STACK" Bundle.steD A U H ∧ vx_Zq Bundle.tN "SUPPRESSED_SENTINEL" Bundle.listD A U H
def pm_Pt (D : va_G) (AC : Nat → ClassId) (ad : Nat → Nat) (me : pm_Me) (sz : Nat) (ad' : Nat → Nat) (me' : pm_Me) (H : Heap) : Prop :=
  va_P D pm_cl (pm_ws AC ad' me') H ∧ va_D (va_A (pm_ws AC ad me) sz) (pm_ws AC ad' me') ∧ pm_inv me' ∧ pm_bs (me.1.1, me.1.2.1, ad) ad' me'.1.1 me'.1.2.1 ∧ ∀ a, 9000 ≤ a → me'.2 a = me.2 a
def pm_Pc (D : va_G) (AC : Nat → ClassId) (ad : Nat → Nat) (me : pm_Me) (as : List pm_V) (sz : Nat) : Array Value → State → Prop := va_Pc (as.map (pm_val ad)) (fun U => U.heap.size = sz ∧ va_P D pm_cl (pm_ws AC ad me) U.heap ∧ va_D (fun _ => True) (pm_ws AC ad me) ∧ pm_Kx D AC U ∧ pm_Zx (va_A (pm_ws AC ad me) sz) U U.heap)
def pm_Qc (D : va_G) (AC : Nat → ClassId) (ad : Nat → Nat) (me : pm_Me) (sz : Nat) (Qr : Option pm_V → pm_Me → Prop) : Array Value → State → Outcome → State → Prop := fun _ st oc t =>
  (∃ (r : Option pm_V) (ad' : Nat → Nat) (me' : pm_Me), oc = .returned (r.map (pm_val ad')) ∧ Qr r me' ∧ (∀ v, r = some v → pm_ok false me'.1 v) ∧ pm_Pt D AC ad me sz ad' me' t.heap) ∧ va_F (va_A (pm_ws AC ad me) sz) st t
def pm_XC (D : va_G) (AC : Nat → ClassId) (ad : Nat → Nat) (me : pm_Me) (sz : Nat) (Qx : Nat → pm_Me → Prop) : String → State → State → Prop := fun E st t =>
  (∃ (e : Nat) (ad' : Nat → Nat) (me' : pm_Me), e < 6 ∧ E = pm_exn e ∧ Qx e me' ∧ pm_Pt D AC ad me sz ad' me' t.heap) ∧ va_F (va_A (pm_ws AC ad me) sz) st t
abbrev pm_rm (d mi : Nat) : Room := { frames := d + 10, cells := pm_mc mi, slots := pm_ms mi, locals := 40 * d + 200 }
def pm_Met (l : Launch) (D : va_G) (AC : Nat → ClassId) (d mi : Nat) (as : List pm_V) (me : pm_Me) (Qr : Option pm_V → pm_Me → Prop) (Qx : Nat → pm_Me → Prop) : Prop :=
  ∀ (ad : Nat → Nat) (sz : Nat), pm_inv me → (∀ v ∈ as, pm_ok false me.1 v) → vx_Met l (pm_y mi) (pm_cw mi :: pm_gw) (pm_rm d mi) (pm_Pc D AC ad me as sz) (pm_Qc D AC ad me sz Qr) (pm_XC D AC ad me sz Qx) (pm_mc mi) (pm_ms mi) (va_A (pm_ws AC ad me) sz)
theorem pm_Pc_blind {D : va_G} {AC : Nat → ClassId} {ad : Nat → Nat} {me : pm_Me} {as : List pm_V} {sz : Nat} : FrameBlind (pm_Pc D AC ad me as sz) := by
  intro a U g mk h
  obtain ⟨h1, h2, h3, h4, h5, h6⟩ := h
  exact ⟨h1, h2, h3, h4, pm_Kx.same (u := U) (U := U.calling g mk a) rfl h5, vx_Zq.moved (u := U) (U := U.calling g mk a) (Vm.Alike.refl U.vm) h6.1, vx_Zq.moved (u := U) (U := U.calling g mk a) (Vm.Alike.refl U.vm) h6.2⟩
theorem pm_met_of {l : Launch} {y : MethodName} {ws : List Cond} {rm : Room} {Pc : Array Value → State → Prop} {Qc : Array Value → State → Outcome → State → Prop} {XC : String → State → State → Prop} {mc ms : Nat} {free : Addr → Prop} (h : vx_Met l y ws rm Pc Qc XC mc ms free) (hx : ∀ E st t, ¬ XC E st t) : Met l y ws rm Pc Qc mc ms free := by
  intro p e a1 a2 a3 s m args below h1 h2 h3 h4
  obtain ⟨n, o, b1, b2, b3, b4⟩ := h p e a1 a2 a3 s m args below h1 h2 h3 h4
  refine ⟨n, o, b1, b2, b3, ?_⟩
  rcases b4 with b4 | ⟨q, -, E, ce, L, hX, -⟩
  · exact b4
  · exact absurd hX (hx _ _ _)
theorem pm_good_gw {w : Cond} (h : w ∈ pm_gw) : (w.onTables && w.keeps) = true ∨ ∃ ty, w = .arrayClass ty := good_of_word (List.mem_filter.mp h).2
/-- what is checked of a method, told apart -/
theorem pm_okM_spec {mi p1 p2 p3 p4 : Nat} (h : pm_okM mi p1 p2 p3 p4 = true) : pm_cw mi ∈ pm_gw ∧ Cond.initialized (pm_ow mi) ∈ pm_gw ∧ (pm_sc mi = true → Cond.static (pm_y mi) ∈ pm_gw) ∧ (pm_sc mi = false → Cond.instanceMethod (pm_y mi) ∈ pm_gw ∧ ((pm_y mi).name ≠ "<init>" → Cond.selects (pm_ow mi) (pm_y mi) (pm_y mi) ∈ pm_gw)) ∧ (pm_y mi).cls = pm_ow mi ∧ ((pm_y mi).cls ≠ "java/lang/invoke/MethodHandle" ∧ (pm_y mi).cls ≠ "java/lang/invoke/VarHandle") ∧ plainName (pm_y mi).cls = true ∧ pm_ml mi ≤ 20 := by
  unfold pm_okM at h
  simp only [Bool.and_eq_true, decide_eq_true_eq] at h
  obtain ⟨⟨⟨⟨⟨⟨h1, h2⟩, h3⟩, h4⟩, h5⟩, h6⟩, h7⟩ := h
  refine ⟨pm_wd_in h1, pm_wd_in h2, fun z => ?_, fun z => ?_, h4, h5, h6, h7⟩
  · rw [z] at h3; exact pm_wd_in h3
  · rw [z] at h3
    simp only [cond_false, Bool.and_eq_true, Bool.or_eq_true, decide_eq_true_eq] at h3
    exact ⟨pm_wd_in h3.1, fun z2 => h3.2.elim (fun q => absurd q z2) pm_wd_in⟩
def pm_MOk (mi : Nat) : Prop := ∃ p1 p2 p3 p4, pm_okM mi p1 p2 p3 p4 = true
section CLS
variable {p : Program} {l : Launch} {e : Env} {R : Room} {s : State} {m : MethodId} {args : Array Value} {below : List Frame} {meth : Method} {c : Code} {Q : State → Prop}
variable {D : va_G} {AC : Nat → ClassId} {A : Nat → Prop} {cc : ByteArray} {nL : Nat} {fl : Bool} {M0 : Nat → Nat → Int} {bs : Nat × (Nat → Nat) × (Nat → Nat)} {pcs : List Nat}
variable {pc : Nat} {L : List (Option pm_V)} {st : List pm_V} {me : pm_Me} {c0 t0 : Nat}
/-- something was thrown over this frame -/
def pm_X (p : Program) (l : Launch) (e : Env) (R : Room) (s : State) (m : MethodId) (args : Array Value) (below : List Frame) (meth : Method) (c : Code) (Q : State → Prop) (D : va_G) (AC : Nat → ClassId) (A : Nat → Prop) (nL : Nat) (fl : Bool) (M0 : Nat → Nat → Int) (bs : Nat × (Nat → Nat) × (Nat → Nat)) (pc : Nat) (L : List (Option pm_V)) (st : List pm_V) (en : Nat) (me : pm_Me) (c0 t0 : Nat) : Prop :=
  c0 ≤ R.cells → t0 ≤ R.slots → ∀ (ad : Nat → Nat) (H : Heap) (locs : List Loc) (ls : Array Slot) (q : Addr) (ce : Cell), pm_Rel s D AC A nL fl M0 bs ad H locs ls L st me → H[q]? = some ce → ce.vm = .none → s.vm.findClass (pm_exn en) = some ce.cls → vx_W p l e R s m args below meth c H locs c0 t0 Q (F0 m pc ls (st.map (pm_val ad))) q
theorem pm_ok_mono {z z' : pm_Sh} {v : pm_V} (h : pm_ok fl z v) (h1 : z.1 ≤ z'.1) (h2 : ∀ q, q < z.1 → z'.2.1 q = z.2.1 q) : pm_ok fl z' v := by
  rcases v with x | ⟨k9, q⟩ | x | x | x
  · exact h
  · rcases h with h | h
    · exact Or.inl ⟨Nat.lt_of_lt_of_le h.1 h1, (h2 q h.1).trans h.2⟩
    · exact Or.inr h
  · exact h
  · trivial
  · trivial
theorem pm_ok_fl {z : pm_Sh} {v : pm_V} (h : pm_ok false z v) : pm_ok fl z v := by
  rcases v with x | ⟨k9, q⟩ | x | x | x
  · exact h
  · rcases h with h | ⟨h, -⟩
    · exact Or.inl h
    · cases h
  · exact h
  · trivial
  · trivial
theorem pm_ok_n9 {z : pm_Sh} {v : pm_V} (h : pm_ok fl z v) (h9 : pm_n9 v = true) : pm_ok false z v := by
  rcases v with x | ⟨k9, q⟩ | x | x | x
  · exact h
  · rcases h with h | ⟨-, h, -⟩
    · exact Or.inl h
    · subst h
      cases h9
  · exact h
  · trivial
  · trivial
/-- behind a call the world is the callee's -/
theorem pm_back {ad ad' : Nat → Nat} {me' : pm_Me} {H H1 : Heap} {locs locs1 : List Loc} {ls : Array Slot} (h : pm_Rel s D AC A nL fl M0 bs ad H locs ls L st me) (hA : ∀ q, s.heap.size ≤ q → A q) (hPt : pm_Pt D AC ad me H.size ad' me' H1) (hS1 : va_S A s.heap H1 locs1) : pm_Rel s D AC A nL fl M0 bs ad' H1 locs1 ls L st me' ∧ st.map (pm_val ad') = st.map (pm_val ad) := by
  obtain ⟨hP, hD, hI, hS, hl, hL, hst, hM, hb0⟩ := h
  obtain ⟨q1, q2, q3, q4, q5⟩ := hPt
  have e1 : ∀ q, q < me.1.1 → ad' q = ad q := fun q hq => (q4.2.1 q hq).2
  have e2 : ad' 9999 = ad 9999 := q4.2.2
  have e3 : ∀ q, q < me.1.1 → me'.1.2.1 q = me.1.2.1 q := fun q hq => (q4.2.1 q hq).1
  refine ⟨⟨q1, q2.weaken (fun k q _ hq => ?_), q3, hS1, ?_, fun j v hj => pm_ok_mono (hL j v hj) q4.1 e3, fun v hv => pm_ok_mono (hst v hv) q4.1 e3, fun a ha => (q5 a ha).trans (hM a ha), ⟨Nat.le_trans hb0.1 q4.1, fun q hq => ?_, e2.trans hb0.2.2⟩⟩, ?_⟩
  · rcases hq with ⟨k2, e9, h9⟩ | h9
    · exact hD.2 k2 (q.1, e9) h9
    · exact hA _ (Nat.le_trans hS.1 h9)
  · rw [pm_ll_ad (fun j v hj => pm_val_ad (hL j v hj) e1 e2)]
    exact hl
  · have hq2 := Nat.lt_of_lt_of_le hq hb0.1
    exact ⟨(e3 q hq2).trans (hb0.2.1 q hq).1, (e1 q hq2).trans (hb0.2.1 q hq).2⟩
  · apply List.map_congr_left
    intro v hv
    exact pm_val_ad (hst v hv) e1 e2
/-- a call: what comes behind it, and what is thrown by it -/
theorem pm_callX {ad : Nat → Nat} {H : Heap} {locs : List Loc} {ls : Array Slot} {mcx msx : Nat} {stk : List Value} {Qr' : Option pm_V → pm_Me → Prop} {Qx' : Nat → pm_Me → Prop} {aa : Array Value}
    (hr : vx_Run p l e R s m args below meth c H locs c0 t0 mcx msx (F0 m pc ls stk) (st.map (pm_val ad)) (pm_Qc D AC ad me H.size Qr' aa) (pm_XC D AC ad me H.size Qx') (va_A (pm_ws AC ad me) H.size)) (hA : ∀ q, s.heap.size ≤ q → A q) (h : pm_Rel s D AC A nL fl M0 bs ad H locs ls L st me) (hlc : c0 + mcx ≤ R.cells) (hlt : t0 + msx ≤ R.slots) (hp : pc + 3 ∈ pcs)
    (kr : ∀ r me', Qr' r me' → pm_W p l e R s m args below meth c Q D AC A nL fl M0 bs pcs (pc + 3, L, pm_lst r ++ st, me', c0 + mcx, t0 + msx))
    (kx : ∀ en me', en < 6 → Qx' en me' → pm_X p l e R s m args below meth c Q D AC A nL fl M0 bs pc L st en me' (c0 + mcx) (t0 + msx)) : W p l e R s m args below meth c H locs c0 t0 Q (F0 m pc ls stk) := by
  have hAA : ∀ q, va_A (pm_ws AC ad me) H.size q → A q := by
    intro q hq
    rcases hq with ⟨k2, e9, h9⟩ | h9
    · exact h.2.1.2 k2 _ h9
    · exact hA _ (Nat.le_trans h.2.2.2.1.1 h9)
  intro T hT X
  rcases hr T hT X with ⟨v, st₀, t, T', Lc, h0, X', hL, e1, e2, ⟨⟨r, ad', me', hv, hQ, hok, hPt⟩, hF⟩, stt⟩ | ⟨q, st₀, t, T', Lc, E, ce, h0, X', hL, e1, e2, ⟨⟨en, ad', me', hen, hE, hQ, hPt⟩, hF⟩, hce, hcv, hcl, stt⟩
  · cases hv
    obtain ⟨k1, k2, k3⟩ := vx_keep h0 e1 h.2.2.2.1 (fun q _ hq => hAA q hq) hAA hL hF
    rw [← e1] at hPt
    obtain ⟨r1, r2⟩ := pm_back h hA hPt k3
    have r3 : pm_Rel s D AC A nL fl M0 bs ad' T'.heap (locs ++ Lc) ls L (pm_lst r ++ st) me' := by
      obtain ⟨g1, g2, g3, g4, g5, g6, g7, g8, g9⟩ := r1
      refine ⟨g1, g2, g3, g4, g5, g6, fun v hv => ?_, g8, g9⟩
      rcases List.mem_append.mp hv with hv | hv
      · cases r with
        | none => cases hv
        | some w =>
          rw [List.mem_singleton.mp hv]
          exact pm_ok_fl (hok w rfl)
      · exact g7 v hv
    obtain ⟨t2, a1, b1⟩ := kr r me' hQ hp hlc hlt ad' T'.heap (locs ++ Lc) ls r3 T' rfl X'
    refine ⟨t2, stt t2 ?_, b1⟩
    have e4 : (pm_lst r ++ st).map (pm_val ad') = (r.map (pm_val ad')).toList ++ st.map (pm_val ad) := by
      rw [List.map_append, r2]
      cases r <;> rfl
    dsimp only at a1
    rw [e4] at a1
    exact a1
  · subst hE
    obtain ⟨k1, k2, k3⟩ := vx_keep h0 e1 h.2.2.2.1 (fun q _ hq => hAA q hq) hAA hL hF
    rw [← e1] at hPt
    obtain ⟨r1, r2⟩ := pm_back h hA hPt k3
    obtain ⟨t2, a1, b1⟩ := kx en me' hen hQ hlc hlt ad' T'.heap (locs ++ Lc) ls q ce r1 (by rw [e1]; exact hce) hcv hcl T' rfl X'
    rw [r2] at a1
    exact ⟨t2, stt.trans a1, b1⟩
theorem pm_run_of {H : Heap} {locs : List Loc} {mcx msx : Nat} {g : JFrame} {rest : List Value} {Qa : State → Outcome → State → Prop} {XC : String → State → State → Prop} {free : Addr → Prop} (h : va_Run p l e R s m args below meth c H locs c0 t0 mcx msx g rest Qa free) : vx_Run p l e R s m args below meth c H locs c0 t0 mcx msx g rest Qa XC free := by
  intro T hT X
  obtain ⟨v, st₀, t, T', L, h0, X', hL, e1, e2, hq, stt⟩ := h T hT X
  exact Or.inl ⟨v, st₀, t, T', L, h0, X', hL, e1, e2, hq, stt⟩
end CLS

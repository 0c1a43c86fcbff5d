section
-- ===== PART A: goes FIRST, ahead of the names: the tables' words, and 'selects' of the private methods out of them =====
/-- a private method of a class that the tables say can be made, by its rows of tables_1 -/
def lw_okq (q : MethodName × Nat) : Prop := (q.1.cls ≠ "java/lang/invoke/MethodHandle" ∧ q.1.cls ≠ "java/lang/invoke/VarHandle") ∧ Cond.instantiable q.1.cls q.2 ∈ tables_1 ∧ Cond.privateMethod q.1 ∈ tables_1 ∧ Cond.instanceMethod q.1 ∈ tables_1
theorem lw_p0 : lw_okq (⟨"PatternLaboratory$Row", "clear", "()V"⟩, 2) := ⟨⟨by decide +kernel, by decide +kernel⟩, List.mem_of_getElem? (i := 39) (by decide +kernel), List.mem_of_getElem? (i := 261) (by decide +kernel), List.mem_of_getElem? (i := 262) (by decide +kernel)⟩
theorem lw_p1 : lw_okq (⟨"PatternLaboratory$Row", "members", "()I"⟩, 2) := ⟨⟨by decide +kernel, by decide +kernel⟩, List.mem_of_getElem? (i := 39) (by decide +kernel), List.mem_of_getElem? (i := 273) (by decide +kernel), List.mem_of_getElem? (i := 274) (by decide +kernel)⟩
theorem lw_p2 : lw_okq (⟨"PatternLaboratory$Row", "becomeCanonical", "(LPatternLaboratory$Row;)V"⟩, 2) := ⟨⟨by decide +kernel, by decide +kernel⟩, List.mem_of_getElem? (i := 39) (by decide +kernel), List.mem_of_getElem? (i := 281) (by decide +kernel), List.mem_of_getElem? (i := 282) (by decide +kernel)⟩
theorem lw_p3 : lw_okq (⟨"PatternLaboratory$Row", "get", "(I)I"⟩, 2) := ⟨⟨by decide +kernel, by decide +kernel⟩, List.mem_of_getElem? (i := 39) (by decide +kernel), List.mem_of_getElem? (i := 286) (by decide +kernel), List.mem_of_getElem? (i := 287) (by decide +kernel)⟩
theorem lw_p4 : lw_okq (⟨"PatternLaboratory$Row", "has", "(I)Z"⟩, 2) := ⟨⟨by decide +kernel, by decide +kernel⟩, List.mem_of_getElem? (i := 39) (by decide +kernel), List.mem_of_getElem? (i := 290) (by decide +kernel), List.mem_of_getElem? (i := 291) (by decide +kernel)⟩
theorem lw_p5 : lw_okq (⟨"PatternLaboratory$Row", "indexOf", "(I)I"⟩, 2) := ⟨⟨by decide +kernel, by decide +kernel⟩, List.mem_of_getElem? (i := 39) (by decide +kernel), List.mem_of_getElem? (i := 294) (by decide +kernel), List.mem_of_getElem? (i := 295) (by decide +kernel)⟩
theorem lw_p6 : lw_okq (⟨"PatternLaboratory$Row", "add", "(I)V"⟩, 2) := ⟨⟨by decide +kernel, by decide +kernel⟩, List.mem_of_getElem? (i := 39) (by decide +kernel), List.mem_of_getElem? (i := 298) (by decide +kernel), List.mem_of_getElem? (i := 299) (by decide +kernel)⟩
theorem lw_p7 : lw_okq (⟨"PatternLaboratory", "changePattern", "(LPatternLaboratory$Row;)Z"⟩, 13) := ⟨⟨by decide +kernel, by decide +kernel⟩, List.mem_of_getElem? (i := 25) (by decide +kernel), List.mem_of_getElem? (i := 302) (by decide +kernel), List.mem_of_getElem? (i := 303) (by decide +kernel)⟩
theorem lw_p8 : lw_okq (⟨"PatternLaboratory$Row", "isSame", "(LPatternLaboratory$Row;)Z"⟩, 2) := ⟨⟨by decide +kernel, by decide +kernel⟩, List.mem_of_getElem? (i := 39) (by decide +kernel), List.mem_of_getElem? (i := 306) (by decide +kernel), List.mem_of_getElem? (i := 307) (by decide +kernel)⟩
theorem lw_p9 : lw_okq (⟨"PatternLaboratory$Row", "become", "(LPatternLaboratory$Row;)V"⟩, 2) := ⟨⟨by decide +kernel, by decide +kernel⟩, List.mem_of_getElem? (i := 39) (by decide +kernel), List.mem_of_getElem? (i := 310) (by decide +kernel), List.mem_of_getElem? (i := 311) (by decide +kernel)⟩
theorem lw_p10 : lw_okq (⟨"PatternLaboratory$Row", "becomeReverse", "(LPatternLaboratory$Row;)V"⟩, 2) := ⟨⟨by decide +kernel, by decide +kernel⟩, List.mem_of_getElem? (i := 39) (by decide +kernel), List.mem_of_getElem? (i := 321) (by decide +kernel), List.mem_of_getElem? (i := 322) (by decide +kernel)⟩
theorem lw_p11 : lw_okq (⟨"PatternLaboratory$Reducer", "countLoose", "(LPatternLaboratory$Row;)I"⟩, 3) := ⟨⟨by decide +kernel, by decide +kernel⟩, List.mem_of_getElem? (i := 180) (by decide +kernel), List.mem_of_getElem? (i := 337) (by decide +kernel), List.mem_of_getElem? (i := 338) (by decide +kernel)⟩
theorem lw_p12 : lw_okq (⟨"PatternLaboratory$Reducer", "link", "(LPatternLaboratory$Row;I)V"⟩, 3) := ⟨⟨by decide +kernel, by decide +kernel⟩, List.mem_of_getElem? (i := 180) (by decide +kernel), List.mem_of_getElem? (i := 342) (by decide +kernel), List.mem_of_getElem? (i := 343) (by decide +kernel)⟩
theorem lw_p13 : lw_okq (⟨"PatternLaboratory$Reducer", "joinAt", "(I)V"⟩, 3) := ⟨⟨by decide +kernel, by decide +kernel⟩, List.mem_of_getElem? (i := 180) (by decide +kernel), List.mem_of_getElem? (i := 350) (by decide +kernel), List.mem_of_getElem? (i := 351) (by decide +kernel)⟩
theorem lw_p14 : lw_okq (⟨"PatternLaboratory$Reducer", "isLoose", "(I)Z"⟩, 3) := ⟨⟨by decide +kernel, by decide +kernel⟩, List.mem_of_getElem? (i := 180) (by decide +kernel), List.mem_of_getElem? (i := 354) (by decide +kernel), List.mem_of_getElem? (i := 355) (by decide +kernel)⟩
theorem lw_p15 : lw_okq (⟨"PatternLaboratory$Reducer", "countSteps", "(LPatternLaboratory$Row;)I"⟩, 3) := ⟨⟨by decide +kernel, by decide +kernel⟩, List.mem_of_getElem? (i := 180) (by decide +kernel), List.mem_of_getElem? (i := 362) (by decide +kernel), List.mem_of_getElem? (i := 363) (by decide +kernel)⟩
def lw_privs_1 : List (MethodName × Nat) := [(⟨"PatternLaboratory$Row", "clear", "()V"⟩, 2), (⟨"PatternLaboratory$Row", "members", "()I"⟩, 2), (⟨"PatternLaboratory$Row", "becomeCanonical", "(LPatternLaboratory$Row;)V"⟩, 2), (⟨"PatternLaboratory$Row", "get", "(I)I"⟩, 2), (⟨"PatternLaboratory$Row", "has", "(I)Z"⟩, 2), (⟨"PatternLaboratory$Row", "indexOf", "(I)I"⟩, 2), (⟨"PatternLaboratory$Row", "add", "(I)V"⟩, 2), (⟨"PatternLaboratory", "changePattern", "(LPatternLaboratory$Row;)Z"⟩, 13), (⟨"PatternLaboratory$Row", "isSame", "(LPatternLaboratory$Row;)Z"⟩, 2), (⟨"PatternLaboratory$Row", "become", "(LPatternLaboratory$Row;)V"⟩, 2), (⟨"PatternLaboratory$Row", "becomeReverse", "(LPatternLaboratory$Row;)V"⟩, 2), (⟨"PatternLaboratory$Reducer", "countLoose", "(LPatternLaboratory$Row;)I"⟩, 3), (⟨"PatternLaboratory$Reducer", "link", "(LPatternLaboratory$Row;I)V"⟩, 3), (⟨"PatternLaboratory$Reducer", "joinAt", "(I)V"⟩, 3), (⟨"PatternLaboratory$Reducer", "isLoose", "(I)Z"⟩, 3), (⟨"PatternLaboratory$Reducer", "countSteps", "(LPatternLaboratory$Row;)I"⟩, 3)]
theorem lw_r1 : ∀ q ∈ lw_privs_1, lw_okq q := List.forall_mem_cons.mpr ⟨lw_p0, List.forall_mem_cons.mpr ⟨lw_p1, List.forall_mem_cons.mpr ⟨lw_p2, List.forall_mem_cons.mpr ⟨lw_p3, List.forall_mem_cons.mpr ⟨lw_p4, List.forall_mem_cons.mpr ⟨lw_p5, List.forall_mem_cons.mpr ⟨lw_p6, List.forall_mem_cons.mpr ⟨lw_p7, List.forall_mem_cons.mpr ⟨lw_p8, List.forall_mem_cons.mpr ⟨lw_p9, List.forall_mem_cons.mpr ⟨lw_p10, List.forall_mem_cons.mpr ⟨lw_p11, List.forall_mem_cons.mpr ⟨lw_p12, List.forall_mem_cons.mpr ⟨lw_p13, List.forall_mem_cons.mpr ⟨lw_p14, List.forall_mem_cons.mpr ⟨lw_p15, fun _ h => absurd h List.not_mem_nil⟩⟩⟩⟩⟩⟩⟩⟩⟩⟩⟩⟩⟩⟩⟩⟩
theorem lw_p16 : lw_okq (⟨"PatternLaboratory$Reducer", "chooseFirst", "(I)V"⟩, 3) := ⟨⟨by decide +kernel, by decide +kernel⟩, List.mem_of_getElem? (i := 180) (by decide +kernel), List.mem_of_getElem? (i := 366) (by decide +kernel), List.mem_of_getElem? (i := 367) (by decide +kernel)⟩
theorem lw_p17 : lw_okq (⟨"PatternLaboratory$Desk", "become", "(LPatternLaboratory$Desk;)V"⟩, 4) := ⟨⟨by decide +kernel, by decide +kernel⟩, List.mem_of_getElem? (i := 33) (by decide +kernel), List.mem_of_getElem? (i := 374) (by decide +kernel), List.mem_of_getElem? (i := 375) (by decide +kernel)⟩
theorem lw_p18 : lw_okq (⟨"PatternLaboratory$Morphism", "become", "(LPatternLaboratory$Morphism;)V"⟩, 1) := ⟨⟨by decide +kernel, by decide +kernel⟩, List.mem_of_getElem? (i := 60) (by decide +kernel), List.mem_of_getElem? (i := 379) (by decide +kernel), List.mem_of_getElem? (i := 380) (by decide +kernel)⟩
theorem lw_p19 : lw_okq (⟨"java/lang/Throwable", "fillInStackTrace", "(I)Ljava/lang/Throwable;"⟩, 6) := ⟨⟨by decide +kernel, by decide +kernel⟩, List.mem_of_getElem? (i := 438) (by decide +kernel), List.mem_of_getElem? (i := 436) (by decide +kernel), List.mem_of_getElem? (i := 437) (by decide +kernel)⟩
theorem lw_p20 : lw_okq (⟨"PatternLaboratory$Row", "becomeZimin", "(I)V"⟩, 2) := ⟨⟨by decide +kernel, by decide +kernel⟩, List.mem_of_getElem? (i := 39) (by decide +kernel), List.mem_of_getElem? (i := 542) (by decide +kernel), List.mem_of_getElem? (i := 543) (by decide +kernel)⟩
theorem lw_p21 : lw_okq (⟨"PatternLaboratory", "requirePattern", "()V"⟩, 13) := ⟨⟨by decide +kernel, by decide +kernel⟩, List.mem_of_getElem? (i := 25) (by decide +kernel), List.mem_of_getElem? (i := 553) (by decide +kernel), List.mem_of_getElem? (i := 554) (by decide +kernel)⟩
theorem lw_p22 : lw_okq (⟨"PatternLaboratory", "occurs", "(LPatternLaboratory$Row;LPatternLaboratory$Row;)Z"⟩, 13) := ⟨⟨by decide +kernel, by decide +kernel⟩, List.mem_of_getElem? (i := 25) (by decide +kernel), List.mem_of_getElem? (i := 558) (by decide +kernel), List.mem_of_getElem? (i := 559) (by decide +kernel)⟩
theorem lw_p23 : lw_okq (⟨"PatternLaboratory$Matcher", "setPattern", "(LPatternLaboratory$Row;)V"⟩, 7) := ⟨⟨by decide +kernel, by decide +kernel⟩, List.mem_of_getElem? (i := 111) (by decide +kernel), List.mem_of_getElem? (i := 562) (by decide +kernel), List.mem_of_getElem? (i := 563) (by decide +kernel)⟩
theorem lw_p24 : lw_okq (⟨"PatternLaboratory$Row", "countOf", "(I)I"⟩, 2) := ⟨⟨by decide +kernel, by decide +kernel⟩, List.mem_of_getElem? (i := 39) (by decide +kernel), List.mem_of_getElem? (i := 567) (by decide +kernel), List.mem_of_getElem? (i := 568) (by decide +kernel)⟩
theorem lw_p25 : lw_okq (⟨"PatternLaboratory$Matcher", "limitLengths", "()V"⟩, 7) := ⟨⟨by decide +kernel, by decide +kernel⟩, List.mem_of_getElem? (i := 111) (by decide +kernel), List.mem_of_getElem? (i := 572) (by decide +kernel), List.mem_of_getElem? (i := 573) (by decide +kernel)⟩
theorem lw_p26 : lw_okq (⟨"PatternLaboratory$Matcher", "setText", "(LPatternLaboratory$Row;)V"⟩, 7) := ⟨⟨by decide +kernel, by decide +kernel⟩, List.mem_of_getElem? (i := 111) (by decide +kernel), List.mem_of_getElem? (i := 576) (by decide +kernel), List.mem_of_getElem? (i := 577) (by decide +kernel)⟩
theorem lw_p27 : lw_okq (⟨"PatternLaboratory$Matcher", "firstStart", "()I"⟩, 7) := ⟨⟨by decide +kernel, by decide +kernel⟩, List.mem_of_getElem? (i := 111) (by decide +kernel), List.mem_of_getElem? (i := 580) (by decide +kernel), List.mem_of_getElem? (i := 581) (by decide +kernel)⟩
theorem lw_p28 : lw_okq (⟨"PatternLaboratory$Matcher", "standsAt", "(I)Z"⟩, 7) := ⟨⟨by decide +kernel, by decide +kernel⟩, List.mem_of_getElem? (i := 111) (by decide +kernel), List.mem_of_getElem? (i := 584) (by decide +kernel), List.mem_of_getElem? (i := 585) (by decide +kernel)⟩
theorem lw_p29 : lw_okq (⟨"PatternLaboratory$Matcher", "forgetLengths", "()V"⟩, 7) := ⟨⟨by decide +kernel, by decide +kernel⟩, List.mem_of_getElem? (i := 111) (by decide +kernel), List.mem_of_getElem? (i := 588) (by decide +kernel), List.mem_of_getElem? (i := 589) (by decide +kernel)⟩
theorem lw_p30 : lw_okq (⟨"PatternLaboratory$Matcher", "fits", "(III)Z"⟩, 7) := ⟨⟨by decide +kernel, by decide +kernel⟩, List.mem_of_getElem? (i := 111) (by decide +kernel), List.mem_of_getElem? (i := 592) (by decide +kernel), List.mem_of_getElem? (i := 593) (by decide +kernel)⟩
theorem lw_p31 : lw_okq (⟨"PatternLaboratory$Matcher", "repeats", "(II)Z"⟩, 7) := ⟨⟨by decide +kernel, by decide +kernel⟩, List.mem_of_getElem? (i := 111) (by decide +kernel), List.mem_of_getElem? (i := 596) (by decide +kernel), List.mem_of_getElem? (i := 597) (by decide +kernel)⟩
def lw_privs_2 : List (MethodName × Nat) := [(⟨"PatternLaboratory$Reducer", "chooseFirst", "(I)V"⟩, 3), (⟨"PatternLaboratory$Desk", "become", "(LPatternLaboratory$Desk;)V"⟩, 4), (⟨"PatternLaboratory$Morphism", "become", "(LPatternLaboratory$Morphism;)V"⟩, 1), (⟨"java/lang/Throwable", "fillInStackTrace", "(I)Ljava/lang/Throwable;"⟩, 6), (⟨"PatternLaboratory$Row", "becomeZimin", "(I)V"⟩, 2), (⟨"PatternLaboratory", "requirePattern", "()V"⟩, 13), (⟨"PatternLaboratory", "occurs", "(LPatternLaboratory$Row;LPatternLaboratory$Row;)Z"⟩, 13), (⟨"PatternLaboratory$Matcher", "setPattern", "(LPatternLaboratory$Row;)V"⟩, 7), (⟨"PatternLaboratory$Row", "countOf", "(I)I"⟩, 2), (⟨"PatternLaboratory$Matcher", "limitLengths", "()V"⟩, 7), (⟨"PatternLaboratory$Matcher", "setText", "(LPatternLaboratory$Row;)V"⟩, 7), (⟨"PatternLaboratory$Matcher", "firstStart", "()I"⟩, 7), (⟨"PatternLaboratory$Matcher", "standsAt", "(I)Z"⟩, 7), (⟨"PatternLaboratory$Matcher", "forgetLengths", "()V"⟩, 7), (⟨"PatternLaboratory$Matcher", "fits", "(III)Z"⟩, 7), (⟨"PatternLaboratory$Matcher", "repeats", "(II)Z"⟩, 7)]
theorem lw_r2 : ∀ q ∈ lw_privs_2, lw_okq q := List.forall_mem_cons.mpr ⟨lw_p16, List.forall_mem_cons.mpr ⟨lw_p17, List.forall_mem_cons.mpr ⟨lw_p18, List.forall_mem_cons.mpr ⟨lw_p19, List.forall_mem_cons.mpr ⟨lw_p20, List.forall_mem_cons.mpr ⟨lw_p21, List.forall_mem_cons.mpr ⟨lw_p22, List.forall_mem_cons.mpr ⟨lw_p23, List.forall_mem_cons.mpr ⟨lw_p24, List.forall_mem_cons.mpr ⟨lw_p25, List.forall_mem_cons.mpr ⟨lw_p26, List.forall_mem_cons.mpr ⟨lw_p27, List.forall_mem_cons.mpr ⟨lw_p28, List.forall_mem_cons.mpr ⟨lw_p29, List.forall_mem_cons.mpr ⟨lw_p30, List.forall_mem_cons.mpr ⟨lw_p31, fun _ h => absurd h List.not_mem_nil⟩⟩⟩⟩⟩⟩⟩⟩⟩⟩⟩⟩⟩⟩⟩⟩
theorem lw_p32 : lw_okq (⟨"PatternLaboratory", "requireFilled", "(I)V"⟩, 13) := ⟨⟨by decide +kernel, by decide +kernel⟩, List.mem_of_getElem? (i := 25) (by decide +kernel), List.mem_of_getElem? (i := 618) (by decide +kernel), List.mem_of_getElem? (i := 619) (by decide +kernel)⟩
theorem lw_p33 : lw_okq (⟨"PatternLaboratory$Morphism", "clear", "()V"⟩, 1) := ⟨⟨by decide +kernel, by decide +kernel⟩, List.mem_of_getElem? (i := 60) (by decide +kernel), List.mem_of_getElem? (i := 646) (by decide +kernel), List.mem_of_getElem? (i := 647) (by decide +kernel)⟩
theorem lw_p34 : lw_okq (⟨"PatternLaboratory", "requireLetter", "(I)V"⟩, 13) := ⟨⟨by decide +kernel, by decide +kernel⟩, List.mem_of_getElem? (i := 25) (by decide +kernel), List.mem_of_getElem? (i := 658) (by decide +kernel), List.mem_of_getElem? (i := 659) (by decide +kernel)⟩
theorem lw_p35 : lw_okq (⟨"PatternLaboratory", "requireWord", "()V"⟩, 13) := ⟨⟨by decide +kernel, by decide +kernel⟩, List.mem_of_getElem? (i := 25) (by decide +kernel), List.mem_of_getElem? (i := 713) (by decide +kernel), List.mem_of_getElem? (i := 714) (by decide +kernel)⟩
theorem lw_p36 : lw_okq (⟨"PatternLaboratory$Repetition", "seek", "(LPatternLaboratory$Row;)V"⟩, 3) := ⟨⟨by decide +kernel, by decide +kernel⟩, List.mem_of_getElem? (i := 196) (by decide +kernel), List.mem_of_getElem? (i := 717) (by decide +kernel), List.mem_of_getElem? (i := 718) (by decide +kernel)⟩
theorem lw_p37 : lw_okq (⟨"PatternLaboratory$Occurrence", "take", "(LPatternLaboratory$Matcher;)V"⟩, 2) := ⟨⟨by decide +kernel, by decide +kernel⟩, List.mem_of_getElem? (i := 93) (by decide +kernel), List.mem_of_getElem? (i := 761) (by decide +kernel), List.mem_of_getElem? (i := 762) (by decide +kernel)⟩
theorem lw_p38 : lw_okq (⟨"PatternLaboratory", "requireRemembered", "(I)V"⟩, 13) := ⟨⟨by decide +kernel, by decide +kernel⟩, List.mem_of_getElem? (i := 25) (by decide +kernel), List.mem_of_getElem? (i := 775) (by decide +kernel), List.mem_of_getElem? (i := 776) (by decide +kernel)⟩
theorem lw_p39 : lw_okq (⟨"PatternLaboratory$Matcher", "countAll", "()I"⟩, 7) := ⟨⟨by decide +kernel, by decide +kernel⟩, List.mem_of_getElem? (i := 111) (by decide +kernel), List.mem_of_getElem? (i := 795) (by decide +kernel), List.mem_of_getElem? (i := 796) (by decide +kernel)⟩
theorem lw_p40 : lw_okq (⟨"PatternLaboratory$Matcher", "countFrom", "(III)I"⟩, 7) := ⟨⟨by decide +kernel, by decide +kernel⟩, List.mem_of_getElem? (i := 111) (by decide +kernel), List.mem_of_getElem? (i := 799) (by decide +kernel), List.mem_of_getElem? (i := 800) (by decide +kernel)⟩
theorem lw_p41 : lw_okq (⟨"PatternLaboratory$Matcher", "countRun", "(III)I"⟩, 7) := ⟨⟨by decide +kernel, by decide +kernel⟩, List.mem_of_getElem? (i := 111) (by decide +kernel), List.mem_of_getElem? (i := 803) (by decide +kernel), List.mem_of_getElem? (i := 804) (by decide +kernel)⟩
theorem lw_p42 : lw_okq (⟨"PatternLaboratory$Reducer", "isLinked", "(II)Z"⟩, 3) := ⟨⟨by decide +kernel, by decide +kernel⟩, List.mem_of_getElem? (i := 180) (by decide +kernel), List.mem_of_getElem? (i := 820) (by decide +kernel), List.mem_of_getElem? (i := 821) (by decide +kernel)⟩
theorem lw_p43 : lw_okq (⟨"PatternLaboratory", "requireSet", "(I)V"⟩, 13) := ⟨⟨by decide +kernel, by decide +kernel⟩, List.mem_of_getElem? (i := 25) (by decide +kernel), List.mem_of_getElem? (i := 831) (by decide +kernel), List.mem_of_getElem? (i := 832) (by decide +kernel)⟩
theorem lw_p44 : lw_okq (⟨"PatternLaboratory$Reducer", "looseSet", "(LPatternLaboratory$Row;I)I"⟩, 3) := ⟨⟨by decide +kernel, by decide +kernel⟩, List.mem_of_getElem? (i := 180) (by decide +kernel), List.mem_of_getElem? (i := 844) (by decide +kernel), List.mem_of_getElem? (i := 845) (by decide +kernel)⟩
theorem lw_p45 : lw_okq (⟨"PatternLaboratory$Row", "removeAll", "(I)V"⟩, 2) := ⟨⟨by decide +kernel, by decide +kernel⟩, List.mem_of_getElem? (i := 39) (by decide +kernel), List.mem_of_getElem? (i := 857) (by decide +kernel), List.mem_of_getElem? (i := 858) (by decide +kernel)⟩
theorem lw_p46 : lw_okq (⟨"PatternLaboratory", "requireReduction", "()I"⟩, 13) := ⟨⟨by decide +kernel, by decide +kernel⟩, List.mem_of_getElem? (i := 25) (by decide +kernel), List.mem_of_getElem? (i := 869) (by decide +kernel), List.mem_of_getElem? (i := 870) (by decide +kernel)⟩
theorem lw_p47 : lw_okq (⟨"PatternLaboratory$Reducer", "step", "(II)I"⟩, 3) := ⟨⟨by decide +kernel, by decide +kernel⟩, List.mem_of_getElem? (i := 180) (by decide +kernel), List.mem_of_getElem? (i := 882) (by decide +kernel), List.mem_of_getElem? (i := 883) (by decide +kernel)⟩
def lw_privs_3 : List (MethodName × Nat) := [(⟨"PatternLaboratory", "requireFilled", "(I)V"⟩, 13), (⟨"PatternLaboratory$Morphism", "clear", "()V"⟩, 1), (⟨"PatternLaboratory", "requireLetter", "(I)V"⟩, 13), (⟨"PatternLaboratory", "requireWord", "()V"⟩, 13), (⟨"PatternLaboratory$Repetition", "seek", "(LPatternLaboratory$Row;)V"⟩, 3), (⟨"PatternLaboratory$Occurrence", "take", "(LPatternLaboratory$Matcher;)V"⟩, 2), (⟨"PatternLaboratory", "requireRemembered", "(I)V"⟩, 13), (⟨"PatternLaboratory$Matcher", "countAll", "()I"⟩, 7), (⟨"PatternLaboratory$Matcher", "countFrom", "(III)I"⟩, 7), (⟨"PatternLaboratory$Matcher", "countRun", "(III)I"⟩, 7), (⟨"PatternLaboratory$Reducer", "isLinked", "(II)Z"⟩, 3), (⟨"PatternLaboratory", "requireSet", "(I)V"⟩, 13), (⟨"PatternLaboratory$Reducer", "looseSet", "(LPatternLaboratory$Row;I)I"⟩, 3), (⟨"PatternLaboratory$Row", "removeAll", "(I)V"⟩, 2), (⟨"PatternLaboratory", "requireReduction", "()I"⟩, 13), (⟨"PatternLaboratory$Reducer", "step", "(II)I"⟩, 3)]
theorem lw_r3 : ∀ q ∈ lw_privs_3, lw_okq q := List.forall_mem_cons.mpr ⟨lw_p32, List.forall_mem_cons.mpr ⟨lw_p33, List.forall_mem_cons.mpr ⟨lw_p34, List.forall_mem_cons.mpr ⟨lw_p35, List.forall_mem_cons.mpr ⟨lw_p36, List.forall_mem_cons.mpr ⟨lw_p37, List.forall_mem_cons.mpr ⟨lw_p38, List.forall_mem_cons.mpr ⟨lw_p39, List.forall_mem_cons.mpr ⟨lw_p40, List.forall_mem_cons.mpr ⟨lw_p41, List.forall_mem_cons.mpr ⟨lw_p42, List.forall_mem_cons.mpr ⟨lw_p43, List.forall_mem_cons.mpr ⟨lw_p44, List.forall_mem_cons.mpr ⟨lw_p45, List.forall_mem_cons.mpr ⟨lw_p46, List.forall_mem_cons.mpr ⟨lw_p47, fun _ h => absurd h List.not_mem_nil⟩⟩⟩⟩⟩⟩⟩⟩⟩⟩⟩⟩⟩⟩⟩⟩
theorem lw_p48 : lw_okq (⟨"PatternLaboratory$Search", "begin", "(LPatternLaboratory$Row;ILPatternLaboratory$Row;)V"⟩, 7) := ⟨⟨by decide +kernel, by decide +kernel⟩, List.mem_of_getElem? (i := 145) (by decide +kernel), List.mem_of_getElem? (i := 896) (by decide +kernel), List.mem_of_getElem? (i := 897) (by decide +kernel)⟩
theorem lw_p49 : lw_okq (⟨"PatternLaboratory$Row", "becomeZeros", "(I)V"⟩, 2) := ⟨⟨by decide +kernel, by decide +kernel⟩, List.mem_of_getElem? (i := 39) (by decide +kernel), List.mem_of_getElem? (i := 902) (by decide +kernel), List.mem_of_getElem? (i := 903) (by decide +kernel)⟩
theorem lw_p50 : lw_okq (⟨"PatternLaboratory$Search", "put", "(I)V"⟩, 7) := ⟨⟨by decide +kernel, by decide +kernel⟩, List.mem_of_getElem? (i := 145) (by decide +kernel), List.mem_of_getElem? (i := 908) (by decide +kernel), List.mem_of_getElem? (i := 909) (by decide +kernel)⟩
theorem lw_p51 : lw_okq (⟨"PatternLaboratory$Row", "set", "(II)V"⟩, 2) := ⟨⟨by decide +kernel, by decide +kernel⟩, List.mem_of_getElem? (i := 39) (by decide +kernel), List.mem_of_getElem? (i := 913) (by decide +kernel), List.mem_of_getElem? (i := 914) (by decide +kernel)⟩
theorem lw_p52 : lw_okq (⟨"PatternLaboratory$Search", "next", "(I)Z"⟩, 7) := ⟨⟨by decide +kernel, by decide +kernel⟩, List.mem_of_getElem? (i := 145) (by decide +kernel), List.mem_of_getElem? (i := 917) (by decide +kernel), List.mem_of_getElem? (i := 918) (by decide +kernel)⟩
theorem lw_p53 : lw_okq (⟨"PatternLaboratory$Row", "dropLast", "()V"⟩, 2) := ⟨⟨by decide +kernel, by decide +kernel⟩, List.mem_of_getElem? (i := 39) (by decide +kernel), List.mem_of_getElem? (i := 921) (by decide +kernel), List.mem_of_getElem? (i := 922) (by decide +kernel)⟩
theorem lw_p54 : lw_okq (⟨"PatternLaboratory", "beginWithNothing", "()V"⟩, 13) := ⟨⟨by decide +kernel, by decide +kernel⟩, List.mem_of_getElem? (i := 25) (by decide +kernel), List.mem_of_getElem? (i := 951) (by decide +kernel), List.mem_of_getElem? (i := 952) (by decide +kernel)⟩
theorem lw_p55 : lw_okq (⟨"PatternLaboratory", "countWords", "(I)I"⟩, 13) := ⟨⟨by decide +kernel, by decide +kernel⟩, List.mem_of_getElem? (i := 25) (by decide +kernel), List.mem_of_getElem? (i := 968) (by decide +kernel), List.mem_of_getElem? (i := 969) (by decide +kernel)⟩
theorem lw_p56 : lw_okq (⟨"PatternLaboratory$Morphism", "change", "(LPatternLaboratory$Row;LPatternLaboratory$Row;)Z"⟩, 1) := ⟨⟨by decide +kernel, by decide +kernel⟩, List.mem_of_getElem? (i := 60) (by decide +kernel), List.mem_of_getElem? (i := 1002) (by decide +kernel), List.mem_of_getElem? (i := 1003) (by decide +kernel)⟩
theorem lw_p57 : lw_okq (⟨"PatternLaboratory$Morphism", "becomeFirst", "(II)V"⟩, 1) := ⟨⟨by decide +kernel, by decide +kernel⟩, List.mem_of_getElem? (i := 60) (by decide +kernel), List.mem_of_getElem? (i := 1026) (by decide +kernel), List.mem_of_getElem? (i := 1027) (by decide +kernel)⟩
theorem lw_p58 : lw_okq (⟨"PatternLaboratory", "countSpoiledBy", "(LPatternLaboratory$Morphism;I)I"⟩, 13) := ⟨⟨by decide +kernel, by decide +kernel⟩, List.mem_of_getElem? (i := 25) (by decide +kernel), List.mem_of_getElem? (i := 1031) (by decide +kernel), List.mem_of_getElem? (i := 1032) (by decide +kernel)⟩
theorem lw_p59 : lw_okq (⟨"PatternLaboratory", "spoils", "(LPatternLaboratory$Morphism;LPatternLaboratory$Row;)Z"⟩, 13) := ⟨⟨by decide +kernel, by decide +kernel⟩, List.mem_of_getElem? (i := 25) (by decide +kernel), List.mem_of_getElem? (i := 1035) (by decide +kernel), List.mem_of_getElem? (i := 1036) (by decide +kernel)⟩
theorem lw_p60 : lw_okq (⟨"PatternLaboratory$Morphism", "becomeNext", "(I)Z"⟩, 1) := ⟨⟨by decide +kernel, by decide +kernel⟩, List.mem_of_getElem? (i := 60) (by decide +kernel), List.mem_of_getElem? (i := 1040) (by decide +kernel), List.mem_of_getElem? (i := 1041) (by decide +kernel)⟩
theorem lw_p61 : lw_okq (⟨"PatternLaboratoryModel", "fails", "(I)I"⟩, 45) := ⟨⟨by decide +kernel, by decide +kernel⟩, List.mem_of_getElem? (i := 1062) (by decide +kernel), List.mem_of_getElem? (i := 1215) (by decide +kernel), List.mem_of_getElem? (i := 1216) (by decide +kernel)⟩
theorem lw_p62 : lw_okq (⟨"PatternLaboratoryModel", "done", "(I)I"⟩, 45) := ⟨⟨by decide +kernel, by decide +kernel⟩, List.mem_of_getElem? (i := 1062) (by decide +kernel), List.mem_of_getElem? (i := 1219) (by decide +kernel), List.mem_of_getElem? (i := 1220) (by decide +kernel)⟩
theorem lw_p63 : lw_okq (⟨"PatternLaboratoryModel", "variablesOf", "()I"⟩, 45) := ⟨⟨by decide +kernel, by decide +kernel⟩, List.mem_of_getElem? (i := 1062) (by decide +kernel), List.mem_of_getElem? (i := 1239) (by decide +kernel), List.mem_of_getElem? (i := 1240) (by decide +kernel)⟩
def lw_privs_4 : List (MethodName × Nat) := [(⟨"PatternLaboratory$Search", "begin", "(LPatternLaboratory$Row;ILPatternLaboratory$Row;)V"⟩, 7), (⟨"PatternLaboratory$Row", "becomeZeros", "(I)V"⟩, 2), (⟨"PatternLaboratory$Search", "put", "(I)V"⟩, 7), (⟨"PatternLaboratory$Row", "set", "(II)V"⟩, 2), (⟨"PatternLaboratory$Search", "next", "(I)Z"⟩, 7), (⟨"PatternLaboratory$Row", "dropLast", "()V"⟩, 2), (⟨"PatternLaboratory", "beginWithNothing", "()V"⟩, 13), (⟨"PatternLaboratory", "countWords", "(I)I"⟩, 13), (⟨"PatternLaboratory$Morphism", "change", "(LPatternLaboratory$Row;LPatternLaboratory$Row;)Z"⟩, 1), (⟨"PatternLaboratory$Morphism", "becomeFirst", "(II)V"⟩, 1), (⟨"PatternLaboratory", "countSpoiledBy", "(LPatternLaboratory$Morphism;I)I"⟩, 13), (⟨"PatternLaboratory", "spoils", "(LPatternLaboratory$Morphism;LPatternLaboratory$Row;)Z"⟩, 13), (⟨"PatternLaboratory$Morphism", "becomeNext", "(I)Z"⟩, 1), (⟨"PatternLaboratoryModel", "fails", "(I)I"⟩, 45), (⟨"PatternLaboratoryModel", "done", "(I)I"⟩, 45), (⟨"PatternLaboratoryModel", "variablesOf", "()I"⟩, 45)]
theorem lw_r4 : ∀ q ∈ lw_privs_4, lw_okq q := List.forall_mem_cons.mpr ⟨lw_p48, List.forall_mem_cons.mpr ⟨lw_p49, List.forall_mem_cons.mpr ⟨lw_p50, List.forall_mem_cons.mpr ⟨lw_p51, List.forall_mem_cons.mpr ⟨lw_p52, List.forall_mem_cons.mpr ⟨lw_p53, List.forall_mem_cons.mpr ⟨lw_p54, List.forall_mem_cons.mpr ⟨lw_p55, List.forall_mem_cons.mpr ⟨lw_p56, List.forall_mem_cons.mpr ⟨lw_p57, List.forall_mem_cons.mpr ⟨lw_p58, List.forall_mem_cons.mpr ⟨lw_p59, List.forall_mem_cons.mpr ⟨lw_p60, List.forall_mem_cons.mpr ⟨lw_p61, List.forall_mem_cons.mpr ⟨lw_p62, List.forall_mem_cons.mpr ⟨lw_p63, fun _ h => absurd h List.not_mem_nil⟩⟩⟩⟩⟩⟩⟩⟩⟩⟩⟩⟩⟩⟩⟩⟩
theorem lw_p64 : lw_okq (⟨"PatternLaboratoryModel", "tellNames", "([III)V"⟩, 45) := ⟨⟨by decide +kernel, by decide +kernel⟩, List.mem_of_getElem? (i := 1062) (by decide +kernel), List.mem_of_getElem? (i := 1254) (by decide +kernel), List.mem_of_getElem? (i := 1255) (by decide +kernel)⟩
theorem lw_p65 : lw_okq (⟨"PatternLaboratoryModel", "so", "(Z)Z"⟩, 45) := ⟨⟨by decide +kernel, by decide +kernel⟩, List.mem_of_getElem? (i := 1062) (by decide +kernel), List.mem_of_getElem? (i := 1258) (by decide +kernel), List.mem_of_getElem? (i := 1259) (by decide +kernel)⟩
theorem lw_p66 : lw_okq (⟨"PatternLaboratoryModel", "not", "(I)Z"⟩, 45) := ⟨⟨by decide +kernel, by decide +kernel⟩, List.mem_of_getElem? (i := 1062) (by decide +kernel), List.mem_of_getElem? (i := 1270) (by decide +kernel), List.mem_of_getElem? (i := 1271) (by decide +kernel)⟩
theorem lw_p67 : lw_okq (⟨"PatternLaboratoryModel", "seek", "([III)V"⟩, 45) := ⟨⟨by decide +kernel, by decide +kernel⟩, List.mem_of_getElem? (i := 1062) (by decide +kernel), List.mem_of_getElem? (i := 1274) (by decide +kernel), List.mem_of_getElem? (i := 1275) (by decide +kernel)⟩
theorem lw_p68 : lw_okq (⟨"PatternLaboratoryModel", "first", "(I)I"⟩, 45) := ⟨⟨by decide +kernel, by decide +kernel⟩, List.mem_of_getElem? (i := 1062) (by decide +kernel), List.mem_of_getElem? (i := 1278) (by decide +kernel), List.mem_of_getElem? (i := 1279) (by decide +kernel)⟩
theorem lw_p69 : lw_okq (⟨"PatternLaboratoryModel", "standsAgain", "(II)Z"⟩, 45) := ⟨⟨by decide +kernel, by decide +kernel⟩, List.mem_of_getElem? (i := 1062) (by decide +kernel), List.mem_of_getElem? (i := 1285) (by decide +kernel), List.mem_of_getElem? (i := 1286) (by decide +kernel)⟩
theorem lw_p70 : lw_okq (⟨"PatternLaboratoryModel", "isLetter", "(I)Z"⟩, 45) := ⟨⟨by decide +kernel, by decide +kernel⟩, List.mem_of_getElem? (i := 1062) (by decide +kernel), List.mem_of_getElem? (i := 1313) (by decide +kernel), List.mem_of_getElem? (i := 1314) (by decide +kernel)⟩
theorem lw_p71 : lw_okq (⟨"PatternLaboratoryModel", "tellStrongest", "()V"⟩, 45) := ⟨⟨by decide +kernel, by decide +kernel⟩, List.mem_of_getElem? (i := 1062) (by decide +kernel), List.mem_of_getElem? (i := 1342) (by decide +kernel), List.mem_of_getElem? (i := 1343) (by decide +kernel)⟩
theorem lw_p72 : lw_okq (⟨"PatternLaboratoryModel", "period", "(II)I"⟩, 45) := ⟨⟨by decide +kernel, by decide +kernel⟩, List.mem_of_getElem? (i := 1062) (by decide +kernel), List.mem_of_getElem? (i := 1346) (by decide +kernel), List.mem_of_getElem? (i := 1347) (by decide +kernel)⟩
theorem lw_p73 : lw_okq (⟨"PatternLaboratoryModel", "doesAvoid", "()Z"⟩, 45) := ⟨⟨by decide +kernel, by decide +kernel⟩, List.mem_of_getElem? (i := 1062) (by decide +kernel), List.mem_of_getElem? (i := 1358) (by decide +kernel), List.mem_of_getElem? (i := 1359) (by decide +kernel)⟩
theorem lw_p74 : lw_okq (⟨"PatternLaboratoryModel", "layWord", "()V"⟩, 45) := ⟨⟨by decide +kernel, by decide +kernel⟩, List.mem_of_getElem? (i := 1062) (by decide +kernel), List.mem_of_getElem? (i := 1362) (by decide +kernel), List.mem_of_getElem? (i := 1363) (by decide +kernel)⟩
theorem lw_p75 : lw_okq (⟨"PatternLaboratoryModel", "isOfPattern", "(I)Z"⟩, 45) := ⟨⟨by decide +kernel, by decide +kernel⟩, List.mem_of_getElem? (i := 1062) (by decide +kernel), List.mem_of_getElem? (i := 1386) (by decide +kernel), List.mem_of_getElem? (i := 1387) (by decide +kernel)⟩
theorem lw_p76 : lw_okq (⟨"PatternLaboratoryModel", "tellGroups", "(I)V"⟩, 45) := ⟨⟨by decide +kernel, by decide +kernel⟩, List.mem_of_getElem? (i := 1062) (by decide +kernel), List.mem_of_getElem? (i := 1390) (by decide +kernel), List.mem_of_getElem? (i := 1391) (by decide +kernel)⟩
theorem lw_p77 : lw_okq (⟨"PatternLaboratoryModel", "joins", "(II)V"⟩, 45) := ⟨⟨by decide +kernel, by decide +kernel⟩, List.mem_of_getElem? (i := 1062) (by decide +kernel), List.mem_of_getElem? (i := 1394) (by decide +kernel), List.mem_of_getElem? (i := 1395) (by decide +kernel)⟩
theorem lw_p78 : lw_okq (⟨"PatternLaboratoryModel", "isFreeSet", "(I)Z"⟩, 45) := ⟨⟨by decide +kernel, by decide +kernel⟩, List.mem_of_getElem? (i := 1062) (by decide +kernel), List.mem_of_getElem? (i := 1402) (by decide +kernel), List.mem_of_getElem? (i := 1403) (by decide +kernel)⟩
theorem lw_p79 : lw_okq (⟨"PatternLaboratoryModel", "tellReductions", "()V"⟩, 45) := ⟨⟨by decide +kernel, by decide +kernel⟩, List.mem_of_getElem? (i := 1062) (by decide +kernel), List.mem_of_getElem? (i := 1422) (by decide +kernel), List.mem_of_getElem? (i := 1423) (by decide +kernel)⟩
def lw_privs_5 : List (MethodName × Nat) := [(⟨"PatternLaboratoryModel", "tellNames", "([III)V"⟩, 45), (⟨"PatternLaboratoryModel", "so", "(Z)Z"⟩, 45), (⟨"PatternLaboratoryModel", "not", "(I)Z"⟩, 45), (⟨"PatternLaboratoryModel", "seek", "([III)V"⟩, 45), (⟨"PatternLaboratoryModel", "first", "(I)I"⟩, 45), (⟨"PatternLaboratoryModel", "standsAgain", "(II)Z"⟩, 45), (⟨"PatternLaboratoryModel", "isLetter", "(I)Z"⟩, 45), (⟨"PatternLaboratoryModel", "tellStrongest", "()V"⟩, 45), (⟨"PatternLaboratoryModel", "period", "(II)I"⟩, 45), (⟨"PatternLaboratoryModel", "doesAvoid", "()Z"⟩, 45), (⟨"PatternLaboratoryModel", "layWord", "()V"⟩, 45), (⟨"PatternLaboratoryModel", "isOfPattern", "(I)Z"⟩, 45), (⟨"PatternLaboratoryModel", "tellGroups", "(I)V"⟩, 45), (⟨"PatternLaboratoryModel", "joins", "(II)V"⟩, 45), (⟨"PatternLaboratoryModel", "isFreeSet", "(I)Z"⟩, 45), (⟨"PatternLaboratoryModel", "tellReductions", "()V"⟩, 45)]
theorem lw_r5 : ∀ q ∈ lw_privs_5, lw_okq q := List.forall_mem_cons.mpr ⟨lw_p64, List.forall_mem_cons.mpr ⟨lw_p65, List.forall_mem_cons.mpr ⟨lw_p66, List.forall_mem_cons.mpr ⟨lw_p67, List.forall_mem_cons.mpr ⟨lw_p68, List.forall_mem_cons.mpr ⟨lw_p69, List.forall_mem_cons.mpr ⟨lw_p70, List.forall_mem_cons.mpr ⟨lw_p71, List.forall_mem_cons.mpr ⟨lw_p72, List.forall_mem_cons.mpr ⟨lw_p73, List.forall_mem_cons.mpr ⟨lw_p74, List.forall_mem_cons.mpr ⟨lw_p75, List.forall_mem_cons.mpr ⟨lw_p76, List.forall_mem_cons.mpr ⟨lw_p77, List.forall_mem_cons.mpr ⟨lw_p78, List.forall_mem_cons.mpr ⟨lw_p79, fun _ h => absurd h List.not_mem_nil⟩⟩⟩⟩⟩⟩⟩⟩⟩⟩⟩⟩⟩⟩⟩⟩
theorem lw_p80 : lw_okq (⟨"PatternLaboratoryModel", "begins", "()V"⟩, 45) := ⟨⟨by decide +kernel, by decide +kernel⟩, List.mem_of_getElem? (i := 1062) (by decide +kernel), List.mem_of_getElem? (i := 1438) (by decide +kernel), List.mem_of_getElem? (i := 1439) (by decide +kernel)⟩
theorem lw_p81 : lw_okq (⟨"PatternLaboratoryModel", "tries", "(I)Z"⟩, 45) := ⟨⟨by decide +kernel, by decide +kernel⟩, List.mem_of_getElem? (i := 1062) (by decide +kernel), List.mem_of_getElem? (i := 1445) (by decide +kernel), List.mem_of_getElem? (i := 1446) (by decide +kernel)⟩
theorem lw_p82 : lw_okq (⟨"PatternLaboratoryModel", "countAll", "(IZ)V"⟩, 45) := ⟨⟨by decide +kernel, by decide +kernel⟩, List.mem_of_getElem? (i := 1062) (by decide +kernel), List.mem_of_getElem? (i := 1457) (by decide +kernel), List.mem_of_getElem? (i := 1458) (by decide +kernel)⟩
theorem lw_p83 : lw_okq (⟨"PatternLaboratoryModel", "isSpoiled", "()Z"⟩, 45) := ⟨⟨by decide +kernel, by decide +kernel⟩, List.mem_of_getElem? (i := 1062) (by decide +kernel), List.mem_of_getElem? (i := 1464) (by decide +kernel), List.mem_of_getElem? (i := 1465) (by decide +kernel)⟩
theorem lw_p84 : lw_okq (⟨"PatternLaboratoryModel", "applies", "()Z"⟩, 45) := ⟨⟨by decide +kernel, by decide +kernel⟩, List.mem_of_getElem? (i := 1062) (by decide +kernel), List.mem_of_getElem? (i := 1484) (by decide +kernel), List.mem_of_getElem? (i := 1485) (by decide +kernel)⟩
theorem lw_p85 : lw_okq (⟨"PatternLaboratoryModel", "wordIsText", "()I"⟩, 45) := ⟨⟨by decide +kernel, by decide +kernel⟩, List.mem_of_getElem? (i := 1062) (by decide +kernel), List.mem_of_getElem? (i := 1488) (by decide +kernel), List.mem_of_getElem? (i := 1489) (by decide +kernel)⟩
theorem lw_p86 : lw_okq (⟨"PatternLaboratoryModel", "copyImages", "([I[I[I[I)V"⟩, 45) := ⟨⟨by decide +kernel, by decide +kernel⟩, List.mem_of_getElem? (i := 1062) (by decide +kernel), List.mem_of_getElem? (i := 1500) (by decide +kernel), List.mem_of_getElem? (i := 1501) (by decide +kernel)⟩
theorem lw_p87 : lw_okq (⟨"PatternLaboratoryModel", "setImages", "(II)V"⟩, 45) := ⟨⟨by decide +kernel, by decide +kernel⟩, List.mem_of_getElem? (i := 1062) (by decide +kernel), List.mem_of_getElem? (i := 1504) (by decide +kernel), List.mem_of_getElem? (i := 1505) (by decide +kernel)⟩
def lw_privs_6 : List (MethodName × Nat) := [(⟨"PatternLaboratoryModel", "begins", "()V"⟩, 45), (⟨"PatternLaboratoryModel", "tries", "(I)Z"⟩, 45), (⟨"PatternLaboratoryModel", "countAll", "(IZ)V"⟩, 45), (⟨"PatternLaboratoryModel", "isSpoiled", "()Z"⟩, 45), (⟨"PatternLaboratoryModel", "applies", "()Z"⟩, 45), (⟨"PatternLaboratoryModel", "wordIsText", "()I"⟩, 45), (⟨"PatternLaboratoryModel", "copyImages", "([I[I[I[I)V"⟩, 45), (⟨"PatternLaboratoryModel", "setImages", "(II)V"⟩, 45)]
theorem lw_r6 : ∀ q ∈ lw_privs_6, lw_okq q := List.forall_mem_cons.mpr ⟨lw_p80, List.forall_mem_cons.mpr ⟨lw_p81, List.forall_mem_cons.mpr ⟨lw_p82, List.forall_mem_cons.mpr ⟨lw_p83, List.forall_mem_cons.mpr ⟨lw_p84, List.forall_mem_cons.mpr ⟨lw_p85, List.forall_mem_cons.mpr ⟨lw_p86, List.forall_mem_cons.mpr ⟨lw_p87, fun _ h => absurd h List.not_mem_nil⟩⟩⟩⟩⟩⟩⟩⟩
def lw_privs : List (MethodName × Nat) := lw_privs_1 ++ (lw_privs_2 ++ (lw_privs_3 ++ (lw_privs_4 ++ (lw_privs_5 ++ (lw_privs_6)))))
def lw_tbl : List Cond := k2_sels lw_privs ++ tables_1
theorem lw_privs_ok : ∀ q ∈ lw_privs, lw_okq q := by
  show ∀ q ∈ lw_privs_1 ++ (lw_privs_2 ++ (lw_privs_3 ++ (lw_privs_4 ++ (lw_privs_5 ++ (lw_privs_6))))), lw_okq q
  exact List.forall_mem_append.mpr ⟨lw_r1, List.forall_mem_append.mpr ⟨lw_r2, List.forall_mem_append.mpr ⟨lw_r3, List.forall_mem_append.mpr ⟨lw_r4, List.forall_mem_append.mpr ⟨lw_r5, lw_r6⟩⟩⟩⟩⟩
/-- the streams that the claim lets the run draw from -/
abbrev lw_cs : List Choice := [Jvm.Choice.named "NaN.bits"]
theorem lw_bits : nanBits ∈ lw_cs := by first | decide | exact List.mem_cons_self | simp [lw_cs, nanBits]
end
section
/-! ===== BEGIN words of one list among another's, by their places ===== -/
theorem goodIn_r {big : List Cond} (ws : List Cond) (ps : List Nat) (hp : ws = ps.filterMap (fun i => big[i]?)) (h : ws.all goodWord = true) : GoodIn big ws := by
  intro w hw
  have h1 := List.all_eq_true.mp h w hw
  rw [hp] at hw
  obtain ⟨i, -, hi⟩ := List.mem_filterMap.mp hw
  have hm : w ∈ big := by first | exact List.mem_of_getElem? hi | exact List.getElem?_mem hi
  exact ⟨hm, good_of_word h1⟩
theorem goodIn_app {big a b : List Cond} (ha : GoodIn big a) (hb : GoodIn big b) : GoodIn big (a ++ b) := fun w h => (List.mem_append.mp h).elim (ha w) (hb w)
theorem goodIn_ca {big a b : List Cond} {c : Cond} (ha : GoodIn big (c :: a)) (hb : GoodIn big b) : GoodIn big (c :: (a ++ b)) := fun w h => (List.mem_cons.mp h).elim (fun e => ha w (List.mem_cons.mpr (Or.inl e))) (fun h => (List.mem_append.mp h).elim (fun h => ha w (List.mem_cons.mpr (Or.inr h))) (hb w))
theorem goodIn_sub {big ws : List Cond} (hm : ∀ w ∈ ws, w ∈ big) (h : ws.all goodWord = true) : GoodIn big ws := fun w hw => ⟨hm w hw, good_of_word (List.all_eq_true.mp h w hw)⟩
/-! ===== END ===== -/

/-! ===== BEGIN exceptions that leave a method, and their catching by the caller (launches without stack traces) ===== -/
section VXA
/-! The laws vx_back, vx_callV, vx_callS, vx_callSW, vx_throw0, vx_throwS follow proofs of the library, with one case more: JvmDerived/Free/Laws.lean (Back.of_free), Shelf42/LK1.lean (callV, callS), Shelf/KitTraced.lean (throwNew0V, throwNewS). -/
/-- where a method has thrown q: the class by its name, the cell, what was written, the world -/
def vx_T (XC : String → State → State → Prop) (st : State) (q : Addr) (t : State) (mc ms : Nat) (free : Addr → Prop) : Prop :=
  ∃ (E : String) (ce : Cell) (L : List Loc), XC E st t ∧ t.heap[q]? = some ce ∧ ce.vm = .none ∧ st.vm.findClass E = some ce.cls ∧ st.WarmedH t.vm ∧ st.sameButNew ({ t with vm := st.vm } : State) L mc ms ∧ ∀ z ∈ L, free z.base
def vx_Q (Qc : Array Value → State → Outcome → State → Prop) (XC : String → State → State → Prop) (mc ms : Nat) (free : Addr → Prop) : Array Value → State → Outcome → State → Prop := fun a st o t =>
  (Qc a st o t ∧ ∃ L, FrameEnd st o t L mc ms ∧ ∀ q ∈ L, free q.base) ∨ ∃ q, o = .threw q ∧ vx_T XC st q t mc ms free
/-- a callee that returns or throws -/
def vx_Met (l : Launch) (y : MethodName) (ws : List Cond) (rm : Room) (Pc : Array Value → State → Prop) (Qc : Array Value → State → Outcome → State → Prop) (XC : String → State → State → Prop) (mc ms : Nat) (free : Addr → Prop) : Prop :=
  MetFree l y (headSpec ws rm) Pc (fun _ _ _ _ _ => True) (vx_Q Qc XC mc ms free)
def vx_Post (XC : String → State → State → Prop) (mc ms : Nat) (free : Addr → Prop) : Pt → Array Value → Addr → Pt → Prop := fun A a q B =>
  ∃ (g : JFrame) (mk : MethodId) (t : State) (L : List Loc) (E : String) (ce : Cell), B.U.heap = t.heap ∧ B.U.vm = t.vm ∧ XC E (A.U.calling g mk a) t ∧ t.heap[q]? = some ce ∧ ce.vm = .none ∧ A.U.vm.findClass E = some ce.cls ∧ B.locs = A.locs ++ L ∧ (∀ z ∈ L, free z.base) ∧ B.cells = A.cells + mc ∧ B.slots = A.slots + ms
def vx_Back (l : Launch) (R : Room) (p : Program) (e : Env) (below : List Frame) (s : State) (sargs : Array Value) (y : MethodName) (len W9 : Nat)
    (Pre : Pt → Array Value → Prop) (Post : Pt → Array Value → Option Value → Pt → Prop) (PostX : Pt → Array Value → Addr → Pt → Prop) : Prop :=
  ∀ (m : MethodId) (meth : Method) (c : Code) (A : Pt) (g : JFrame) (ig : Instr) (mk : MethodId) (a : Array Value),
    Stand p l e R s m sargs below meth c A.U A.locs A.cells A.slots → g.method = m → g.locals.size = c.maxLocals → decode c.code g.pc = .ok (ig, len) →
    2 * g.monitorRoom + (g.stack.map fun v => v.category).sum ≤ W9 → A.U.methodNamed? y = some mk → Pre A a →
    (∃ (v : Option Value) (B : Pt), Stand p l e R s m sargs below meth c B.U B.locs B.cells B.slots ∧ Post A a v B ∧
      Steps p.tables e below (doInvoke e (A.U.setTop g) [] mk a).1 (B.U.setTop { g with pc := g.pc + len, stack := v.toList ++ g.stack })) ∨
    (∃ (q : Addr) (B : Pt), Stand p l e R s m sargs below meth c B.U B.locs B.cells B.slots ∧ PostX A a q B ∧
      Steps p.tables e below (doInvoke e (A.U.setTop g) [] mk a).1 ((B.U.setTop g).pushFrame (.throwing q)))
section Payer
variable {l : Launch} {R : Room} {p : Program} {e : Env} {below : List Frame} {s : State} {sargs : Array Value} {y : MethodName} {len W9 : Nat}
theorem vx_back {ws : List Cond} {rm : Room} {Pc : Array Value → State → Prop} {Qc : Array Value → State → Outcome → State → Prop} {XC : String → State → State → Prop} {mc ms : Nat} {free : Addr → Prop} {bytes : ByteArray} {maxL : Nat} {ret : Option FieldType}
    (hM : vx_Met l y ws rm Pc Qc XC mc ms free) (hblind : FrameBlind Pc) (hrc : rm.cells = mc) (hrs : rm.slots = ms)
    (hframes : rm.frames + 1 ≤ R.frames) (hlocals : W9 + (maxL + 11) + rm.locals ≤ R.locals)
    (hws : ∀ w ∈ ws, ∀ a' U, s.WarmedH U.vm → w.before a' U = true) (hcode : Cond.code y bytes maxL ret ∈ ws) (hinit : ∀ a' U, s.WarmedH U.vm → (Cond.initialized y.cls).before a' U = true) :
    vx_Back l R p e below s sargs y len W9 (PreOf R mc ms Pc) (PostOf Qc mc ms free) (vx_Post XC mc ms free) := by
  intro m meth c A g ig mk a X hg hsize hdg hW hn hp
  have h1 : (headSpec ws rm).pre.before a A.U = true := atoms_intro fun w hw => hws w hw _ _ X.warmed
  have h2 : (Cond.code y bytes maxL ret).before a A.U = true := hws _ hcode _ _ X.warmed
  have h3 : (Cond.initialized y.cls).before a A.U = true := hinit _ _ X.warmed
  have h4 : A.cells + (headSpec ws rm).room.cells ≤ R.cells := by rw [show (headSpec ws rm).room.cells = mc from hrc]; exact hp.1
  have h5 : A.slots + (headSpec ws rm).room.slots ≤ R.slots := by rw [show (headSpec ws rm).room.slots = ms from hrs]; exact hp.2.1
  have hPc : Pc a (A.U.calling g mk a) := hblind _ _ _ _ hp.2.2
  obtain ⟨U, Ls, c0, s0⟩ := A
  dsimp only [Pt.U, Pt.locs, Pt.cells, Pt.slots] at h1 h2 h3 h4 h5 X hn hPc ⊢
  obtain ⟨methY, cY, hmY, hcY, -, hlY, -, -, -, -⟩ := Cond.code_spec hn h2
  obtain ⟨kY, hkY, -⟩ := className_of_methodNamed hn
  have hinitY : kY.init = .initialized := Cond.initialized_spec (findClass_of_methodNamed hn) hkY h3
  have h : At U g.method c below := by rw [hg]; exact X.here
  have hlocals9 : W9 + (maxL + 11) + (headSpec ws rm).room.locals ≤ R.locals := hlocals
  have happ : (headSpec ws rm).appliesLoose y e.platform (U.calling g mk a) = true :=
    Spec.appliesLoose_calling (g := g) h hdg hn hkY hinitY
      (X.room_calling (g := g) (R' := (headSpec ws rm).room) hsize hmY hcY hframes (by rw [hlY]; omega) h4 h5) h1
  obtain ⟨mid, hmid⟩ := h.above
  have hfr : (U.setTop g).frames = (.java g :: mid) ++ below := by rw [State.frames_setTop' g h.top, hmid]; rfl
  obtain ⟨o, s₂, hsteps, -, hend, hq⟩ := Steps.callFree hM p X.admits X.cas X.clock (acts := []) hfr happ hPc trivial
  have hq' : vx_Q Qc XC mc ms free a (U.calling g mk a) o s₂ := hq
  rw [State.frames_setTop' g h.top] at hend
  obtain ⟨g₀, hg0⟩ := Option.isSome_iff_exists.mp h.top
  obtain ⟨r, hr⟩ := State.topJava?_eq_some.mp hg0
  have hr' : (({ U with heap := s₂.heap, slotsUsed := s₂.slotsUsed } : State).setVm s₂.vm).frames = .java g₀ :: r := hr
  rcases hq' with ⟨hqc, L, hfe, hL⟩ | ⟨q, rfl, E, ce, L, hx, hce, hcv, hcl, hW₂, hsm, hL⟩
  · obtain ⟨⟨v, rfl⟩, hW₂, e2, q2, q3, q4, q5, q6⟩ := id hfe
    have e3 : s₂ = ({ (U.calling g mk a).setFrames s₂.frames with heap := s₂.heap, slotsUsed := s₂.slotsUsed } : State).setVm s₂.vm := by
      have : s₂ = ({ s₂ with vm := (U.calling g mk a).vm } : State).setVm s₂.vm := rfl
      rw [e2] at this
      exact this
    obtain ⟨c₂, i₂, len₂, hc₂, hd₂, hf₂⟩ := hend
    have hW' : U.WarmedH s₂.vm := hW₂
    have hcc : c₂ = c := by
      have h1 : s₂.code? g.method = U.code? g.method := by
        rw [State.code?_eq, State.code?_eq, hW'.alike.method?]
      exact Option.some.inj (hc₂.symm.trans (h1.trans h.code))
    subst hcc
    have hlen : len₂ = len := by rw [hdg] at hd₂; cases hd₂; rfl
    subst hlen
    have hs₂ : s₂ = (({ U with heap := s₂.heap, slotsUsed := s₂.slotsUsed } : State).setVm s₂.vm).setTop { g with pc := g.pc + len₂, stack := v.toList ++ g.stack } := by
      refine e3.trans ?_
      rw [hf₂, State.calling_eq h.top, State.setFrames_setFrames, State.setTop_of_frames _ hr', hr]
      rfl
    have hsame : U.sameButNew ({ U with heap := s₂.heap, slotsUsed := s₂.slotsUsed } : State) L mc ms := by
      refine ⟨?_, q2, q3, q4, q5, q6⟩
      obtain ⟨t, ht, -⟩ := State.frames_cons hr
      show ({ U with heap := s₂.heap, slotsUsed := s₂.slotsUsed } : State) = { U.setFrames U.frames with heap := s₂.heap, slotsUsed := s₂.slotsUsed }
      rw [State.setFrames_self ht]
    subst hg
    refine Or.inl ⟨v, ⟨(({ U with heap := s₂.heap, slotsUsed := s₂.slotsUsed } : State).setVm s₂.vm), Ls ++ L, c0 + mc, s0 + ms⟩,
      ⟨X.admits, X.cas, X.clock, X.frames, X.room, X.hears, X.method, X.code, (X.here.setHeapUsed s₂.heap s₂.slotsUsed).setVm hW'.alike, X.tail, State.WarmedH.trans X.warmed hW', X.limits, X.bytes, X.same.trans (hsame.setVm s.vm)⟩,
      ⟨g, mk, s₂, L, rfl, rfl, hqc, rfl, hL, rfl, rfl⟩, ?_⟩
    show Steps p.tables e below _ ((({ U with heap := s₂.heap, slotsUsed := s₂.slotsUsed } : State).setVm s₂.vm).setTop { g with pc := g.pc + len₂, stack := v.toList ++ g.stack })
    rw [← hs₂]
    exact hsteps
  · obtain ⟨e2, q2, q3, q4, q5, q6⟩ := id hsm
    have e3 : s₂ = ({ (U.calling g mk a).setFrames s₂.frames with heap := s₂.heap, slotsUsed := s₂.slotsUsed } : State).setVm s₂.vm := by
      have : s₂ = ({ s₂ with vm := (U.calling g mk a).vm } : State).setVm s₂.vm := rfl
      rw [e2] at this
      exact this
    have hf₂ : s₂.frames = .throwing q :: .java g :: U.frames.tail := hend
    have hW' : U.WarmedH s₂.vm := hW₂
    have hs₂ : s₂ = ((({ U with heap := s₂.heap, slotsUsed := s₂.slotsUsed } : State).setVm s₂.vm).setTop g).pushFrame (.throwing q) := by
      refine e3.trans ?_
      rw [hf₂, State.calling_eq h.top, State.setFrames_setFrames, State.pushFrame, State.frames_setTop _ hr', State.setTop_of_frames _ hr', State.setFrames_setFrames, hr]
      rfl
    have hsame : U.sameButNew ({ U with heap := s₂.heap, slotsUsed := s₂.slotsUsed } : State) L mc ms := by
      refine ⟨?_, q2, q3, q4, q5, q6⟩
      obtain ⟨t, ht, -⟩ := State.frames_cons hr
      show ({ U with heap := s₂.heap, slotsUsed := s₂.slotsUsed } : State) = { U.setFrames U.frames with heap := s₂.heap, slotsUsed := s₂.slotsUsed }
      rw [State.setFrames_self ht]
    subst hg
    refine Or.inr ⟨q, ⟨(({ U with heap := s₂.heap, slotsUsed := s₂.slotsUsed } : State).setVm s₂.vm), Ls ++ L, c0 + mc, s0 + ms⟩,
      ⟨X.admits, X.cas, X.clock, X.frames, X.room, X.hears, X.method, X.code, (X.here.setHeapUsed s₂.heap s₂.slotsUsed).setVm hW'.alike, X.tail, State.WarmedH.trans X.warmed hW', X.limits, X.bytes, X.same.trans (hsame.setVm s.vm)⟩,
      ⟨g, mk, s₂, L, E, ce, rfl, rfl, hx, hce, hcv, hcl, rfl, hL, rfl, rfl⟩, ?_⟩
    show Steps p.tables e below _ (((({ U with heap := s₂.heap, slotsUsed := s₂.slotsUsed } : State).setVm s₂.vm).setTop g).pushFrame (.throwing q))
    rw [← hs₂]
    exact hsteps
end Payer
section Calls
variable {p : Program} {l : Launch} {e : Env} {R : Room} {s : State} {m : MethodId} {args : Array Value} {below : List Frame} {meth : Method} {c : Code} {T : State} {locs : List Loc} {cells slots : Nat}
theorem vx_callV (X : Stand p l e R s m args below meth c T locs cells slots) (hexec : p.tables.exec = Jvm.exec) {own C : String} {index : Nat} {y : MethodName} {bytes : ByteArray} {maxL : Nat} {ret : Option FieldType}
    (hown : s.vm.findClass own = some m.cls) (hlink : (Cond.methodLink own index y).before args s = true) (hinst : (Cond.instanceMethod y).before args s = true) (hsel : (Cond.selects C y y).before args s = true)
    (hcode : (Cond.code y bytes maxL ret).before args s = true) (hy : y.cls ≠ "java/lang/invoke/MethodHandle" ∧ y.cls ≠ "java/lang/invoke/VarHandle")
    {W9 : Nat} {Pre : Pt → Array Value → Prop} {Post : Pt → Array Value → Option Value → Pt → Prop} {PostX : Pt → Array Value → Addr → Pt → Prop} (hK : vx_Back l R p e below s args y 3 W9 Pre Post PostX)
    {b : Addr} {cellB : Cell} (hcell : T.heap[b]? = some cellB) (hobj : cellB.vm.isStatics = false) (hcls : s.vm.findClass C = some cellB.cls)
    {g : JFrame} (hg : g.method = m) (hsize : g.locals.size = c.maxLocals) {argsL rest : List Value} (hlen : ∀ sig, parseMethodDescriptor y.desc = some sig → argsL.length = sig.parameters.length)
    (hstack : g.stack = argsL.reverse ++ .ref b :: rest) (hW : 2 * g.monitorRoom + (rest.map fun v => v.category).sum ≤ W9) (hdg : decode c.code g.pc = .ok (.invokevirtual index, 3))
    (hpre : ∀ vm₁, s.WarmedH vm₁ → Pre ⟨T.setVm vm₁, locs, cells, slots⟩ (Value.ref b :: argsL).toArray) :
    (∃ (v : Option Value) (vm₁ : Vm) (B : Pt), s.WarmedH vm₁ ∧ Stand p l e R s m args below meth c B.U B.locs B.cells B.slots ∧ Post ⟨T.setVm vm₁, locs, cells, slots⟩ (Value.ref b :: argsL).toArray v B ∧
      ∀ target, Steps p.tables e below (B.U.setTop { g with pc := g.pc + 3, stack := v.toList ++ rest }) target → Steps p.tables e below (T.setTop g) target) ∨
    (∃ (q : Addr) (vm₁ : Vm) (B : Pt), s.WarmedH vm₁ ∧ Stand p l e R s m args below meth c B.U B.locs B.cells B.slots ∧ PostX ⟨T.setVm vm₁, locs, cells, slots⟩ (Value.ref b :: argsL).toArray q B ∧
      Steps p.tables e below (T.setTop g) ((B.U.setTop { g with stack := rest }).pushFrame (.throwing q))) := by
  obtain ⟨mk, methM, hnamed, hmethM, hstM, habM⟩ := Cond.instanceMethod_spec hinst
  obtain ⟨methM', cM, hmethM', -, -, -, -, -, -, hsigM⟩ := Cond.code_spec hnamed hcode
  cases hmethM.symm.trans hmethM'
  obtain ⟨c2, r2, m2, q1, q2, q3, q4, kP, hkP, hkPi⟩ := Cond.selects_spec hsel
  cases hcls.symm.trans q1
  cases (State.methodFound?_of_named hnamed hy).symm.trans q2
  cases hnamed.symm.trans q3
  have hselP : selectMethod e.platform s.vm cellB.cls mk = .method mk := by rw [Launch.admits_selectMethod X.admits]; exact q4
  obtain ⟨vm₁, X₁, hstep₁⟩ := X.invokevirtual hexec hown hlink hnamed hmethM hstM hkP hkPi hy (a := b) (cell := cellB) hcell
    (fun z h => by rw [h] at hobj; cases hobj) hselP hmethM habM hkP hkPi (g := g) hg (argsL := argsL) (rest := rest) (hlen _ hsigM) hstack hdg
  rcases hK m meth c ⟨T.setVm vm₁, locs, cells, slots⟩ { g with stack := rest } (.invokevirtual index) mk (Value.ref b :: argsL).toArray X₁ hg hsize hdg hW (X₁.named hnamed) (hpre vm₁ X₁.warmed) with ⟨v, B, X', hpost, hsteps⟩ | ⟨q, B, X', hpost, hsteps⟩
  · exact Or.inl ⟨v, vm₁, B, X₁.warmed, X', hpost, fun target h => hstep₁ _ fun acts => by rw [doInvoke_state]; exact hsteps.trans h⟩
  · exact Or.inr ⟨q, vm₁, B, X₁.warmed, X', hpost, hstep₁ _ fun acts => by rw [doInvoke_state]; exact hsteps⟩
theorem vx_callS (X : Stand p l e R s m args below meth c T locs cells slots) (hexec : p.tables.exec = Jvm.exec) {own : String} {index : Nat} {y : MethodName} {bytes : ByteArray} {maxL : Nat} {ret : Option FieldType}
    (hown : s.vm.findClass own = some m.cls) (hlink : (Cond.methodLink own index y).before args s = true) (hstat : (Cond.static y).before args s = true) (hinit : (Cond.initialized y.cls).before args s = true)
    (hcode : (Cond.code y bytes maxL ret).before args s = true) (hy : y.cls ≠ "java/lang/invoke/MethodHandle" ∧ y.cls ≠ "java/lang/invoke/VarHandle")
    {W9 : Nat} {Pre : Pt → Array Value → Prop} {Post : Pt → Array Value → Option Value → Pt → Prop} {PostX : Pt → Array Value → Addr → Pt → Prop} (hK : vx_Back l R p e below s args y 3 W9 Pre Post PostX)
    {g : JFrame} (hg : g.method = m) (hsize : g.locals.size = c.maxLocals) {argsL rest : List Value} (hlen : ∀ sig, parseMethodDescriptor y.desc = some sig → argsL.length = sig.parameters.length)
    (hstack : g.stack = argsL.reverse ++ rest) (hW : 2 * g.monitorRoom + (rest.map fun v => v.category).sum ≤ W9) (hdg : decode c.code g.pc = .ok (.invokestatic index, 3))
    (hpre : ∀ vm₁, s.WarmedH vm₁ → Pre ⟨T.setVm vm₁, locs, cells, slots⟩ argsL.toArray) :
    (∃ (v : Option Value) (vm₁ : Vm) (B : Pt), s.WarmedH vm₁ ∧ Stand p l e R s m args below meth c B.U B.locs B.cells B.slots ∧ Post ⟨T.setVm vm₁, locs, cells, slots⟩ argsL.toArray v B ∧
      ∀ target, Steps p.tables e below (B.U.setTop { g with pc := g.pc + 3, stack := v.toList ++ rest }) target → Steps p.tables e below (T.setTop g) target) ∨
    (∃ (q : Addr) (vm₁ : Vm) (B : Pt), s.WarmedH vm₁ ∧ Stand p l e R s m args below meth c B.U B.locs B.cells B.slots ∧ PostX ⟨T.setVm vm₁, locs, cells, slots⟩ argsL.toArray q B ∧
      Steps p.tables e below (T.setTop g) ((B.U.setTop { g with stack := rest }).pushFrame (.throwing q))) := by
  obtain ⟨mk, hnamed⟩ := Cond.code_named hcode
  obtain ⟨methM, cM, hmethM, -, -, -, -, -, -, hsigM⟩ := Cond.code_spec hnamed hcode
  have hstatic : methM.isStatic = true := Cond.static_spec hnamed hmethM hstat
  obtain ⟨kP, hkP, -⟩ := className_of_methodNamed hnamed
  have hinitP : kP.init = .initialized := Cond.initialized_spec (findClass_of_methodNamed hnamed) hkP hinit
  obtain ⟨vm₁, X₁, hstep₁⟩ := X.invokestatic hexec hown hlink hnamed hmethM hstatic hkP hinitP hy (g := g) hg (argsL := argsL) (rest := rest) (hlen _ hsigM) hstack hdg
  rcases hK m meth c ⟨T.setVm vm₁, locs, cells, slots⟩ { g with stack := rest } (.invokestatic index) mk argsL.toArray X₁ hg hsize hdg hW (X₁.named hnamed) (hpre vm₁ X₁.warmed) with ⟨v, B, X', hpost, hsteps⟩ | ⟨q, B, X', hpost, hsteps⟩
  · exact Or.inl ⟨v, vm₁, B, X₁.warmed, X', hpost, fun target h => hstep₁ _ fun acts => by rw [doInvoke_state]; exact hsteps.trans h⟩
  · exact Or.inr ⟨q, vm₁, B, X₁.warmed, X', hpost, hstep₁ _ fun acts => by rw [doInvoke_state]; exact hsteps⟩
end Calls
theorem vx_cls {s : State} {T : State} {vm₁ : Vm} {E : String} {k : ClassId} (hW : s.WarmedH vm₁) (h : (T.setVm vm₁).vm.findClass E = some k) : s.vm.findClass E = some k := by
  have h1 : vm₁.findClass E = some k := h
  rw [hW.alike.findClass] at h1
  exact h1
/-- the method's frame g, with q thrown over it -/
def vx_W (p : Program) (l : Launch) (e : Env) (R : Room) (s : State) (m : MethodId) (args : Array Value) (below : List Frame) (meth : Method) (c : Code) (H : Heap) (locs : List Loc) (cells slots : Nat) (Q : State → Prop) (g : JFrame) (q : Addr) : Prop :=
  ∀ T : State, T.heap = H → Stand p l e R s m args below meth c T locs cells slots → ∃ t, Steps p.tables e below ((T.setTop g).pushFrame (.throwing q)) t ∧ Q t
def vx_Run (p : Program) (l : Launch) (e : Env) (R : Room) (s : State) (m : MethodId) (args : Array Value) (below : List Frame) (meth : Method) (c : Code) (H : Heap) (locs : List Loc) (cells slots mc ms : Nat) (g : JFrame) (rest : List Value) (Qa : State → Outcome → State → Prop) (XC : String → State → State → Prop) (free : Addr → Prop) : Prop :=
  ∀ T : State, T.heap = H → Stand p l e R s m args below meth c T locs cells slots →
    (∃ (v : Option Value) (st₀ t T' : State) (L : List Loc), st₀.heap = H ∧ Stand p l e R s m args below meth c T' (locs ++ L) (cells + mc) (slots + ms) ∧ (∀ q ∈ L, free q.base) ∧ T'.heap = t.heap ∧ T'.vm = t.vm ∧ Qa st₀ (.returned v) t ∧
      Goes p e below T g T' { g with pc := g.pc + 3, stack := v.toList ++ rest }) ∨
    (∃ (q : Addr) (st₀ t T' : State) (L : List Loc) (E : String) (ce : Cell), st₀.heap = H ∧ Stand p l e R s m args below meth c T' (locs ++ L) (cells + mc) (slots + ms) ∧ (∀ z ∈ L, free z.base) ∧ T'.heap = t.heap ∧ T'.vm = t.vm ∧ XC E st₀ t ∧ t.heap[q]? = some ce ∧ ce.vm = .none ∧ s.vm.findClass E = some ce.cls ∧
      Steps p.tables e below (T.setTop g) ((T'.setTop { g with stack := rest }).pushFrame (.throwing q)))
def vx_X {S : Type} (px : S → Prop) (B : String → S → State → Prop) (A : Nat → Prop) : String → State → State → Prop := fun E st t => ∃ u : S, px u ∧ B E u t ∧ va_F A st t
section Runs
variable {p : Program} {l : Launch} {e : Env} {R : Room} {s : State} {m : MethodId} {args : Array Value} {below : List Frame} {meth : Method} {c : Code} {H : Heap} {locs : List Loc} {cells slots : Nat}
variable {y : MethodName} {bytes cc : ByteArray} {maxL nL mc ms n index : Nat} {ret : Option FieldType} {ws : List Cond} {rm : Room} {Pc : Array Value → State → Prop} {Qc : Array Value → State → Outcome → State → Prop} {XC : String → State → State → Prop} {free : Addr → Prop} {Ts : List Cond} {own C : String} {b : Addr} {As rest : List Value} {g : JFrame}
theorem vx_callBack (cb : CallB R s args own index y bytes maxL ret ws rm mc ms n) (hM : vx_Met l y ws rm Pc Qc XC mc ms free) (hbl : FrameBlind Pc) : vx_Back l R p e below s args y 3 8 (PreOf R mc ms Pc) (PostOf Qc mc ms free) (vx_Post XC mc ms free) := by
  obtain ⟨hrc, hrs, hfr, hlo, hws, hcw, -, hini, -⟩ := cb
  exact vx_back (bytes := bytes) (maxL := maxL) (ret := ret) hM hbl hrc hrs hfr hlo hws hcw (fun a' U hW => word_at hW (Or.inl (by first | rfl | simp [Cond.onTables, Cond.keeps, Cond.steady])) hini)
theorem vx_runV (S : CallFix p m c cc nL s args Ts own) (hM : vx_Met l y ws rm Pc Qc XC mc ms free) (cw : CallW R s args own C index y bytes maxL ret ws rm mc ms n) (hp : PreV s H C b Pc As)
    (hg : g.method = m) (hn : As.length = n) (hsize : g.locals.size = nL) (hstack : g.stack = As.reverse ++ .ref b :: rest) (hW : 2 * g.monitorRoom + (rest.map fun v => v.category).sum ≤ 8) (hdg : decode cc g.pc = .ok (.invokevirtual index, 3)) (hf : cells + mc ≤ R.cells ∧ slots + ms ≤ R.slots) :
    vx_Run p l e R s m args below meth c H locs cells slots mc ms g rest (Qc (Value.ref b :: As).toArray) XC free := by
  have hK : vx_Back l R p e below s args y 3 8 (PreOf R mc ms Pc) (PostOf Qc mc ms free) (vx_Post XC mc ms free) := vx_callBack cw.1 hM hp.1
  obtain ⟨⟨-, -, -, -, -, -, hcode, -, hy, hlen, hl⟩, hin, hse⟩ := cw
  obtain ⟨hx, hb, hml, ho, -⟩ := S
  obtain ⟨-, ⟨cellB, hcB, hoB, hclB⟩, hPc⟩ := hp
  intro T hT X
  rcases vx_callV X hx (C := C) (bytes := bytes) (maxL := maxL) (ret := ret) ho hl hin hse hcode hy hK (by rw [hT]; exact hcB) hoB hclB hg (hsize.trans hml.symm) (argsL := As) (rest := rest) (fun sig h => hn.trans (hlen sig h)) hstack hW (by rw [hb]; exact hdg)
    (fun vm₁ hW₁ => ⟨hf.1, hf.2, hPc (T.setVm vm₁) hT hW₁⟩) with ⟨v, vm₁, ⟨U', l2, c2, s2⟩, hW₁, X', ⟨g', mk, t, L, e1, e2, hq, h1, hL, h2, h3⟩, st⟩ | ⟨q, vm₁, ⟨U', l2, c2, s2⟩, hW₁, X', ⟨g', mk, t, L, E, ce, e1, e2, hq, hce, hcv, hcl, h1, hL, h2, h3⟩, st⟩
  · dsimp only [Pt.U, Pt.locs, Pt.cells, Pt.slots] at X' e1 e2 h1 h2 h3 st
    subst h1; subst h2; subst h3
    exact Or.inl ⟨v, (T.setVm vm₁).calling g' mk (Value.ref b :: As).toArray, t, U', L, hT, X', hL, e1, e2, hq, st⟩
  · dsimp only [Pt.U, Pt.locs, Pt.cells, Pt.slots] at X' e1 e2 h1 h2 h3 st hcl
    subst h1; subst h2; subst h3
    exact Or.inr ⟨q, (T.setVm vm₁).calling g' mk (Value.ref b :: As).toArray, t, U', L, E, ce, hT, X', hL, e1, e2, hq, hce, hcv, vx_cls hW₁ hcl, st⟩
theorem vx_runS (S : CallFix p m c cc nL s args Ts own) (hM : vx_Met l y ws rm Pc Qc XC mc ms free) (cw : CallB R s args own index y bytes maxL ret ws rm mc ms n ∧ (Cond.static y).before args s = true) (hp : PreS s H Pc As)
    (hg : g.method = m) (hn : As.length = n) (hsize : g.locals.size = nL) (hstack : g.stack = As.reverse ++ rest) (hW : 2 * g.monitorRoom + (rest.map fun v => v.category).sum ≤ 8) (hdg : decode cc g.pc = .ok (.invokestatic index, 3)) (hf : cells + mc ≤ R.cells ∧ slots + ms ≤ R.slots) :
    vx_Run p l e R s m args below meth c H locs cells slots mc ms g rest (Qc As.toArray) XC free := by
  have hK : vx_Back l R p e below s args y 3 8 (PreOf R mc ms Pc) (PostOf Qc mc ms free) (vx_Post XC mc ms free) := vx_callBack cw.1 hM hp.1
  obtain ⟨⟨-, -, -, -, -, -, hcode, hini, hy, hlen, hl⟩, hstt⟩ := cw
  obtain ⟨hx, hb, hml, ho, -⟩ := S
  intro T hT X
  rcases vx_callS X hx (bytes := bytes) (maxL := maxL) (ret := ret) ho hl hstt hini hcode hy hK hg (hsize.trans hml.symm) (argsL := As) (rest := rest) (fun sig h => hn.trans (hlen sig h)) hstack hW (by rw [hb]; exact hdg)
    (fun vm₁ hW₁ => ⟨hf.1, hf.2, hp.2 (T.setVm vm₁) hT hW₁⟩) with ⟨v, vm₁, ⟨U', l2, c2, s2⟩, hW₁, X', ⟨g', mk, t, L, e1, e2, hq, h1, hL, h2, h3⟩, st⟩ | ⟨q, vm₁, ⟨U', l2, c2, s2⟩, hW₁, X', ⟨g', mk, t, L, E, ce, e1, e2, hq, hce, hcv, hcl, h1, hL, h2, h3⟩, st⟩
  · dsimp only [Pt.U, Pt.locs, Pt.cells, Pt.slots] at X' e1 e2 h1 h2 h3 st
    subst h1; subst h2; subst h3
    exact Or.inl ⟨v, (T.setVm vm₁).calling g' mk As.toArray, t, U', L, hT, X', hL, e1, e2, hq, st⟩
  · dsimp only [Pt.U, Pt.locs, Pt.cells, Pt.slots] at X' e1 e2 h1 h2 h3 st hcl
    subst h1; subst h2; subst h3
    exact Or.inr ⟨q, (T.setVm vm₁).calling g' mk As.toArray, t, U', L, E, ce, hT, X', hL, e1, e2, hq, hce, hcv, vx_cls hW₁ hcl, st⟩
end Runs
section Rows
variable {p : Program} {l : Launch} {e : Env} {R : Room} {s : State} {m : MethodId} {args : Array Value} {below : List Frame} {meth : Method} {c : Code} {H : Heap} {locs : List Loc} {cells slots : Nat} {Q : State → Prop}
variable {mc ms : Nat} {free : Addr → Prop} {A0 A1 : Nat → Prop} {H0 : Heap} {a : Array Value} {pc : Nat} {ls : Array Slot} {st0 rest : List Value}
theorem vx_keep {st₀ t T' : State} {L : List Loc} (h0 : st₀.heap = H) (e1 : T'.heap = t.heap) (hS : va_S A0 H0 H locs) (hA : ∀ q, q < H.size → A1 q → A0 q) (hf : ∀ q, free q → A0 q) (hL : ∀ q ∈ L, free q.base) (hF : va_F A1 st₀ t) :
    H.size ≤ T'.heap.size ∧ (∀ q : Nat, q < H.size → ¬ A1 q → T'.heap[q]? = H[q]?) ∧ va_S A0 H0 T'.heap (locs ++ L) := by
  obtain ⟨hz, hk⟩ := hF
  rw [h0] at hz hk
  exact ⟨by rw [e1]; exact hz, fun q h1 h2 => by rw [e1]; exact hk q h1 h2,
    ⟨Nat.le_trans hS.1 (by rw [e1]; exact hz), fun q h1 h2 => by rw [e1, hk q (Nat.lt_of_lt_of_le h1 hS.1) (fun z => h2 (hA q (Nat.lt_of_lt_of_le h1 hS.1) z))]; exact hS.2.1 q h1 h2, fun q hq => by
      rcases List.mem_append.mp hq with h | h
      · exact hS.2.2 q h
      · exact hf _ (hL q h)⟩⟩
theorem vx_calli {S SX : Type} {post : Int32 → S → Prop} {px : SX → Prop} {B : S → State → Prop} {BX : String → SX → State → Prop} {AX : Nat → Prop} (hr : vx_Run p l e R s m args below meth c H locs cells slots mc ms (F0 m pc ls st0) rest (va_Qi post B A1 a) (vx_X px BX AX) free) (hS : va_S A0 H0 H locs) (hA : ∀ q, q < H.size → A1 q → A0 q) (hf : ∀ q, free q → A0 q) (hAX : ∀ q, q < H.size → AX q → A0 q)
    (kx : ∀ (E : String) (ce : Cell) (q9 : Addr) (u : SX) (t : State) (H1 : Heap) (locs1 : List Loc), t.heap = H1 → s.vm.Alike t.vm → px u → BX E u t → H.size ≤ H1.size → (∀ q : Nat, q < H.size → ¬ AX q → H1[q]? = H[q]?) → va_S A0 H0 H1 locs1 → H1[q9]? = some ce → ce.vm = .none → s.vm.findClass E = some ce.cls → vx_W p l e R s m args below meth c H1 locs1 (cells + mc) (slots + ms) Q (F0 m pc ls rest) q9)
    (kk : ∀ (r : Int32) (u : S) (t : State) (H1 : Heap) (locs1 : List Loc), t.heap = H1 → s.vm.Alike t.vm → post r u → B u t → H.size ≤ H1.size → (∀ q : Nat, q < H.size → ¬ A1 q → H1[q]? = H[q]?) → va_S A0 H0 H1 locs1 → W p l e R s m args below meth c H1 locs1 (cells + mc) (slots + ms) Q (F0 m (pc + 3) ls (.int r :: rest))) : W p l e R s m args below meth c H locs cells slots Q (F0 m pc ls st0) := by
  intro T hT X
  rcases hr T hT X with ⟨v, st₀, t, T', L, h0, X', hL, e1, e2, ⟨⟨r, u, hv, hp, hb⟩, hF⟩, st⟩ | ⟨q, st₀, t, T', L, E, ce, h0, X', hL, e1, e2, ⟨u, hp, hb, hF⟩, hce, hcv, hcl, st⟩
  · cases hv
    obtain ⟨k1, k2, k3⟩ := vx_keep h0 e1 hS hA hf hL hF
    obtain ⟨t2, a1, b1⟩ := kk r u t T'.heap (locs ++ L) e1.symm (by rw [← e2]; exact X'.warmed.alike) hp hb k1 k2 k3 T' rfl X'
    exact ⟨t2, st t2 a1, b1⟩
  · obtain ⟨k1, k2, k3⟩ := vx_keep h0 e1 hS hAX hf hL hF
    obtain ⟨t2, a1, b1⟩ := kx E ce q u t T'.heap (locs ++ L) e1.symm (by rw [← e2]; exact X'.warmed.alike) hp hb k1 k2 k3 (by rw [e1]; exact hce) hcv hcl T' rfl X'
    exact ⟨t2, st.trans a1, b1⟩
theorem vx_calll {S SX : Type} {post : Int64 → S → Prop} {px : SX → Prop} {B : S → State → Prop} {BX : String → SX → State → Prop} {AX : Nat → Prop} (hr : vx_Run p l e R s m args below meth c H locs cells slots mc ms (F0 m pc ls st0) rest (va_Ql post B A1 a) (vx_X px BX AX) free) (hS : va_S A0 H0 H locs) (hA : ∀ q, q < H.size → A1 q → A0 q) (hf : ∀ q, free q → A0 q) (hAX : ∀ q, q < H.size → AX q → A0 q)
    (kx : ∀ (E : String) (ce : Cell) (q9 : Addr) (u : SX) (t : State) (H1 : Heap) (locs1 : List Loc), t.heap = H1 → s.vm.Alike t.vm → px u → BX E u t → H.size ≤ H1.size → (∀ q : Nat, q < H.size → ¬ AX q → H1[q]? = H[q]?) → va_S A0 H0 H1 locs1 → H1[q9]? = some ce → ce.vm = .none → s.vm.findClass E = some ce.cls → vx_W p l e R s m args below meth c H1 locs1 (cells + mc) (slots + ms) Q (F0 m pc ls rest) q9)
    (kk : ∀ (r : Int64) (u : S) (t : State) (H1 : Heap) (locs1 : List Loc), t.heap = H1 → s.vm.Alike t.vm → post r u → B u t → H.size ≤ H1.size → (∀ q : Nat, q < H.size → ¬ A1 q → H1[q]? = H[q]?) → va_S A0 H0 H1 locs1 → W p l e R s m args below meth c H1 locs1 (cells + mc) (slots + ms) Q (F0 m (pc + 3) ls (.long r :: rest))) : W p l e R s m args below meth c H locs cells slots Q (F0 m pc ls st0) := by
  intro T hT X
  rcases hr T hT X with ⟨v, st₀, t, T', L, h0, X', hL, e1, e2, ⟨⟨r, u, hv, hp, hb⟩, hF⟩, st⟩ | ⟨q, st₀, t, T', L, E, ce, h0, X', hL, e1, e2, ⟨u, hp, hb, hF⟩, hce, hcv, hcl, st⟩
  · cases hv
    obtain ⟨k1, k2, k3⟩ := vx_keep h0 e1 hS hA hf hL hF
    obtain ⟨t2, a1, b1⟩ := kk r u t T'.heap (locs ++ L) e1.symm (by rw [← e2]; exact X'.warmed.alike) hp hb k1 k2 k3 T' rfl X'
    exact ⟨t2, st t2 a1, b1⟩
  · obtain ⟨k1, k2, k3⟩ := vx_keep h0 e1 hS hAX hf hL hF
    obtain ⟨t2, a1, b1⟩ := kx E ce q u t T'.heap (locs ++ L) e1.symm (by rw [← e2]; exact X'.warmed.alike) hp hb k1 k2 k3 (by rw [e1]; exact hce) hcv hcl T' rfl X'
    exact ⟨t2, st.trans a1, b1⟩
theorem vx_callf {S SX : Type} {post : UInt32 → S → Prop} {px : SX → Prop} {B : S → State → Prop} {BX : String → SX → State → Prop} {AX : Nat → Prop} (hr : vx_Run p l e R s m args below meth c H locs cells slots mc ms (F0 m pc ls st0) rest (va_Qf post B A1 a) (vx_X px BX AX) free) (hS : va_S A0 H0 H locs) (hA : ∀ q, q < H.size → A1 q → A0 q) (hf : ∀ q, free q → A0 q) (hAX : ∀ q, q < H.size → AX q → A0 q)
    (kx : ∀ (E : String) (ce : Cell) (q9 : Addr) (u : SX) (t : State) (H1 : Heap) (locs1 : List Loc), t.heap = H1 → s.vm.Alike t.vm → px u → BX E u t → H.size ≤ H1.size → (∀ q : Nat, q < H.size → ¬ AX q → H1[q]? = H[q]?) → va_S A0 H0 H1 locs1 → H1[q9]? = some ce → ce.vm = .none → s.vm.findClass E = some ce.cls → vx_W p l e R s m args below meth c H1 locs1 (cells + mc) (slots + ms) Q (F0 m pc ls rest) q9)
    (kk : ∀ (r : UInt32) (u : S) (t : State) (H1 : Heap) (locs1 : List Loc), t.heap = H1 → s.vm.Alike t.vm → post r u → B u t → H.size ≤ H1.size → (∀ q : Nat, q < H.size → ¬ A1 q → H1[q]? = H[q]?) → va_S A0 H0 H1 locs1 → W p l e R s m args below meth c H1 locs1 (cells + mc) (slots + ms) Q (F0 m (pc + 3) ls (.float r :: rest))) : W p l e R s m args below meth c H locs cells slots Q (F0 m pc ls st0) := by
  intro T hT X
  rcases hr T hT X with ⟨v, st₀, t, T', L, h0, X', hL, e1, e2, ⟨⟨r, u, hv, hp, hb⟩, hF⟩, st⟩ | ⟨q, st₀, t, T', L, E, ce, h0, X', hL, e1, e2, ⟨u, hp, hb, hF⟩, hce, hcv, hcl, st⟩
  · cases hv
    obtain ⟨k1, k2, k3⟩ := vx_keep h0 e1 hS hA hf hL hF
    obtain ⟨t2, a1, b1⟩ := kk r u t T'.heap (locs ++ L) e1.symm (by rw [← e2]; exact X'.warmed.alike) hp hb k1 k2 k3 T' rfl X'
    exact ⟨t2, st t2 a1, b1⟩
  · obtain ⟨k1, k2, k3⟩ := vx_keep h0 e1 hS hAX hf hL hF
    obtain ⟨t2, a1, b1⟩ := kx E ce q u t T'.heap (locs ++ L) e1.symm (by rw [← e2]; exact X'.warmed.alike) hp hb k1 k2 k3 (by rw [e1]; exact hce) hcv hcl T' rfl X'
    exact ⟨t2, st.trans a1, b1⟩
theorem vx_calld {S SX : Type} {post : UInt64 → S → Prop} {px : SX → Prop} {B : S → State → Prop} {BX : String → SX → State → Prop} {AX : Nat → Prop} (hr : vx_Run p l e R s m args below meth c H locs cells slots mc ms (F0 m pc ls st0) rest (va_Qd post B A1 a) (vx_X px BX AX) free) (hS : va_S A0 H0 H locs) (hA : ∀ q, q < H.size → A1 q → A0 q) (hf : ∀ q, free q → A0 q) (hAX : ∀ q, q < H.size → AX q → A0 q)
    (kx : ∀ (E : String) (ce : Cell) (q9 : Addr) (u : SX) (t : State) (H1 : Heap) (locs1 : List Loc), t.heap = H1 → s.vm.Alike t.vm → px u → BX E u t → H.size ≤ H1.size → (∀ q : Nat, q < H.size → ¬ AX q → H1[q]? = H[q]?) → va_S A0 H0 H1 locs1 → H1[q9]? = some ce → ce.vm = .none → s.vm.findClass E = some ce.cls → vx_W p l e R s m args below meth c H1 locs1 (cells + mc) (slots + ms) Q (F0 m pc ls rest) q9)
    (kk : ∀ (r : UInt64) (u : S) (t : State) (H1 : Heap) (locs1 : List Loc), t.heap = H1 → s.vm.Alike t.vm → post r u → B u t → H.size ≤ H1.size → (∀ q : Nat, q < H.size → ¬ A1 q → H1[q]? = H[q]?) → va_S A0 H0 H1 locs1 → W p l e R s m args below meth c H1 locs1 (cells + mc) (slots + ms) Q (F0 m (pc + 3) ls (.double r :: rest))) : W p l e R s m args below meth c H locs cells slots Q (F0 m pc ls st0) := by
  intro T hT X
  rcases hr T hT X with ⟨v, st₀, t, T', L, h0, X', hL, e1, e2, ⟨⟨r, u, hv, hp, hb⟩, hF⟩, st⟩ | ⟨q, st₀, t, T', L, E, ce, h0, X', hL, e1, e2, ⟨u, hp, hb, hF⟩, hce, hcv, hcl, st⟩
  · cases hv
    obtain ⟨k1, k2, k3⟩ := vx_keep h0 e1 hS hA hf hL hF
    obtain ⟨t2, a1, b1⟩ := kk r u t T'.heap (locs ++ L) e1.symm (by rw [← e2]; exact X'.warmed.alike) hp hb k1 k2 k3 T' rfl X'
    exact ⟨t2, st t2 a1, b1⟩
  · obtain ⟨k1, k2, k3⟩ := vx_keep h0 e1 hS hAX hf hL hF
    obtain ⟨t2, a1, b1⟩ := kx E ce q u t T'.heap (locs ++ L) e1.symm (by rw [← e2]; exact X'.warmed.alike) hp hb k1 k2 k3 (by rw [e1]; exact hce) hcv hcl T' rfl X'
    exact ⟨t2, st.trans a1, b1⟩
theorem vx_callv {S SX : Type} {post : S → Prop} {px : SX → Prop} {B : S → State → Prop} {BX : String → SX → State → Prop} {AX : Nat → Prop} (hr : vx_Run p l e R s m args below meth c H locs cells slots mc ms (F0 m pc ls st0) rest (va_Qv post B A1 a) (vx_X px BX AX) free) (hS : va_S A0 H0 H locs) (hA : ∀ q, q < H.size → A1 q → A0 q) (hf : ∀ q, free q → A0 q) (hAX : ∀ q, q < H.size → AX q → A0 q)
    (kx : ∀ (E : String) (ce : Cell) (q9 : Addr) (u : SX) (t : State) (H1 : Heap) (locs1 : List Loc), t.heap = H1 → s.vm.Alike t.vm → px u → BX E u t → H.size ≤ H1.size → (∀ q : Nat, q < H.size → ¬ AX q → H1[q]? = H[q]?) → va_S A0 H0 H1 locs1 → H1[q9]? = some ce → ce.vm = .none → s.vm.findClass E = some ce.cls → vx_W p l e R s m args below meth c H1 locs1 (cells + mc) (slots + ms) Q (F0 m pc ls rest) q9)
    (kk : ∀ (u : S) (t : State) (H1 : Heap) (locs1 : List Loc), t.heap = H1 → s.vm.Alike t.vm → post u → B u t → H.size ≤ H1.size → (∀ q : Nat, q < H.size → ¬ A1 q → H1[q]? = H[q]?) → va_S A0 H0 H1 locs1 → W p l e R s m args below meth c H1 locs1 (cells + mc) (slots + ms) Q (F0 m (pc + 3) ls (rest))) : W p l e R s m args below meth c H locs cells slots Q (F0 m pc ls st0) := by
  intro T hT X
  rcases hr T hT X with ⟨v, st₀, t, T', L, h0, X', hL, e1, e2, ⟨⟨u, hv, hp, hb⟩, hF⟩, st⟩ | ⟨q, st₀, t, T', L, E, ce, h0, X', hL, e1, e2, ⟨u, hp, hb, hF⟩, hce, hcv, hcl, st⟩
  · cases hv
    obtain ⟨k1, k2, k3⟩ := vx_keep h0 e1 hS hA hf hL hF
    obtain ⟨t2, a1, b1⟩ := kk u t T'.heap (locs ++ L) e1.symm (by rw [← e2]; exact X'.warmed.alike) hp hb k1 k2 k3 T' rfl X'
    exact ⟨t2, st t2 a1, b1⟩
  · obtain ⟨k1, k2, k3⟩ := vx_keep h0 e1 hS hAX hf hL hF
    obtain ⟨t2, a1, b1⟩ := kx E ce q u t T'.heap (locs ++ L) e1.symm (by rw [← e2]; exact X'.warmed.alike) hp hb k1 k2 k3 (by rw [e1]; exact hce) hcv hcl T' rfl X'
    exact ⟨t2, st.trans a1, b1⟩
/-- caught by the row x of this method's table; the rows ahead don't take it -/
theorem vx_catch {own name : String} {E : String} {ce : Cell} {q : Addr} (hown : s.vm.findClass own = some m.cls) (pre : List ExceptionTableEntry) (x : ExceptionTableEntry) (suf : List ExceptionTableEntry) (hsplit : c.exceptionTable.toList = pre ++ x :: suf)
    (hpass : ∀ z ∈ pre, covers z pc = false ∨ (z.catchType ≠ 0 ∧ ∃ nm : String, (Cond.classLink own z.catchType nm).before args s = true ∧ va_Nc E nm s)) (hx : covers x pc = true) (h0 : x.catchType ≠ 0)
    (hlink : (Cond.classLink own x.catchType name).before args s = true) (hcast : (Cond.castable E name).before args s = true) (hcell : H[q]? = some ce) (hv : ce.vm = .none) (hcl : s.vm.findClass E = some ce.cls)
    (kk : W p l e R s m args below meth c H locs cells slots Q (F0 m x.handlerPc ls [.ref q])) : vx_W p l e R s m args below meth c H locs cells slots Q (F0 m pc ls rest) q := by
  intro T hT X
  have hpl : e.platform.magicAccessors = ({} : Platform).magicAccessors := by rw [X.admits.platform]
  obtain ⟨c3, c4, hc3, hc4, hasg⟩ := Cond.castable_spec hcast
  cases Option.some.inj (hc3.symm.trans hcl)
  obtain ⟨c5, hc5, hcl5⟩ := Cond.classLink_spec hown hlink e.platform hpl
  cases Option.some.inj (hc4.symm.trans hc5)
  obtain ⟨vm', X', st⟩ := X.thenCaughtThrough q (g := F0 m pc ls rest) rfl (Steps.refl _) (by rw [hT]; exact hcell) (by rw [hv]; rfl) (by obtain ⟨k9, h9, -⟩ := Vm.findClass_spec hcl; exact ⟨k9, h9⟩) pre x suf hsplit
    (fun z hz => by
      rcases hpass z hz with h | ⟨hz0, nm, hl1, hn1⟩
      · exact Or.inl h
      · obtain ⟨c6, hc6, hcl6⟩ := Cond.classLink_spec hown hl1 e.platform hpl
        obtain ⟨a8, b8, h1, h2, h3⟩ := hn1
        cases Option.some.inj (h1.symm.trans hcl)
        cases Option.some.inj (h2.symm.trans hc6)
        exact Or.inr ⟨hz0, _, hcl6, h3⟩) hx (Or.inr ⟨h0, c4, hcl5, hasg⟩)
  obtain ⟨t, a1, b1⟩ := kk (T.setVm vm') hT X'
  exact ⟨t, st.trans a1, b1⟩
end Rows
section Ends
variable {p : Program} {l : Launch} {e : Env} {R : Room} {s : State} {m : MethodId} {args : Array Value} {below : List Frame} {meth : Method} {c : Code} {H : Heap} {locs : List Loc} {cells slots : Nat} {Q : State → Prop}
variable {mc ms : Nat} {free : Addr → Prop} {A0 A1 : Nat → Prop} {H0 : Heap} {a : Array Value} {ls : Array Slot} {st0 rest : List Value}
variable {Qc : Array Value → State → Outcome → State → Prop} {XC : String → State → State → Prop}
/-- what a body that may throw owes at its end -/
def vx_MQ (below : List Frame) (Qc : Array Value → State → Outcome → State → Prop) (XC : String → State → State → Prop) (a : Array Value) (s : State) (mc ms : Nat) (free : Addr → Prop) : State → Prop := fun t =>
  ∃ o, t.status = .running ∧ Ended t below o ∧ vx_Q Qc XC mc ms free a s o t
theorem vx_ret {g : JFrame} {mc ms : Nat} (k : W p l e R s m args below meth c H locs cells slots (MQ below Qc args s mc ms free) g) : W p l e R s m args below meth c H locs cells slots (vx_MQ below Qc XC args s mc ms free) g := by
  intro T hT X
  obtain ⟨t, a1, o, b1, b2, b3, b4⟩ := k T hT X
  exact ⟨t, a1, o, b1, b2, Or.inl ⟨b3, b4⟩⟩
/-- not caught here: it goes on to the caller -/
theorem vx_widen {g : JFrame} {q : Addr} {k n : Nat} (h1 : cells ≤ k) (h2 : slots ≤ n) (kk : vx_W p l e R s m args below meth c H locs k n Q g q) : vx_W p l e R s m args below meth c H locs cells slots Q g q := fun T hT X => kk T hT (stand_widen X h1 h2)
theorem vx_out {pc : Nat} {E : String} {ce : Cell} {q : Addr} {mc ms : Nat} (hout : ∀ x ∈ c.exceptionTable.toList, covers x pc = false) (hlocks : meth.locks = false) (hcell : H[q]? = some ce) (hv : ce.vm = .none) (hcl : s.vm.findClass E = some ce.cls)
    (hx : ∀ t : State, t.heap = H → s.vm.Alike t.vm → XC E s t) (hf : ∀ z ∈ locs, free z.base) (hc : cells ≤ mc) (hs : slots ≤ ms) :
    vx_W p l e R s m args below meth c H locs cells slots (vx_MQ below Qc XC args s mc ms free) (F0 m pc ls rest) q := by
  intro T hT X
  obtain ⟨st1, hrun, hend, hW, hsm⟩ := X.leaveThrown q (g := F0 m pc ls rest) rfl rfl rfl hout hlocks
  have hcell9 : (T.setFrames (.throwing q :: below)).heap[q]? = some ce := by
    show T.heap[q]? = some ce
    rw [hT]; exact hcell
  exact ⟨_, st1, .threw q, hrun, hend, Or.inr ⟨q, rfl, E, ce, locs, hx _ hT hW.alike, hcell9, hv, hcl, hW, hsm.mono hc hs, hf⟩⟩
theorem vx_frame {U : State} {k n : Nat} (h : s.sameButNew ({ U with vm := s.vm } : State) locs k n) : s.heap.size ≤ U.heap.size ∧ ∀ q : Nat, q < s.heap.size → (∀ z ∈ locs, z.base ≠ q) → U.heap[q]? = s.heap[q]? := by
  obtain ⟨-, h2, -, -, -, h6⟩ := h
  refine ⟨h2, fun q hq hz => ?_⟩
  obtain ⟨c9, e1, e2, e3, e4⟩ := h6 q _ (Array.getElem?_eq_getElem hq)
  have hs : c9.slots = (s.heap[q]).slots := Array.ext_getElem? fun i => e4 i fun hm => hz _ hm rfl
  have h9 : c9 = s.heap[q] := by
    rw [hs] at e2
    exact e2
  have e5 : U.heap[q]? = some c9 := e1
  rw [e5, h9, Array.getElem?_eq_getElem hq]
/-- the words of a throw but the four that speak of the heap -/
def vx_no (w : Cond) : Bool := decide (w ≠ .isRef (.static Bundle.tN "UNASSIGNED_STACK" Bundle.steD)) && decide (w ≠ .isRef (.static Bundle.tN "SUPPRESSED_SENTINEL" Bundle.listD)) && decide (w ≠ .laysStatic Bundle.tN "UNASSIGNED_STACK" Bundle.steD) && decide (w ≠ .laysStatic Bundle.tN "SUPPRESSED_SENTINEL" Bundle.listD)
def vx_at0 (own : String) (ic : Nat) (X : String) (names : List String) : List Cond := (Bundle.ownAtoms0 own ic X names).filter vx_no
def vx_atS (own : String) (ic : Nat) (X : String) (names : List String) : List Cond := (Bundle.ownAtoms own ic X names).filter vx_no
/-- a word that the tables alone decide, or a good one -/
def vx_ot (w : Cond) : Bool := w.onTables || goodWord w
theorem vx_ot_at {args a' : Array Value} {s U : State} {w : Cond} (hW : s.WarmedH U.vm) (hvm : s.vm = U.vm) (hg : vx_ot w = true) (h : w.before args s = true) : w.before a' U = true := by
  simp only [vx_ot, Bool.or_eq_true] at hg
  rcases hg with hg | hg
  · exact va_tabs hg hvm h
  · exact word_at hW (good_of_word hg) h
/-- a list's words: the good ones out of the method's own list, the others by premises of their own -/
theorem vx_hat {args : Array Value} {s : State} {L B : List Cond} (h1 : ∀ w ∈ L.filter goodWord, w.before args s = true) (h2 : ∀ w ∈ L.filter (fun w => !goodWord w), w ∈ B) (h3 : ∀ w ∈ B, w.before args s = true) : ∀ w ∈ L, w.before args s = true := by
  intro w hw
  by_cases g : goodWord w = true
  · exact h1 w (List.mem_filter.mpr ⟨hw, g⟩)
  · refine h3 w (h2 w (List.mem_filter.mpr ⟨hw, ?_⟩))
    show (!goodWord w) = true
    cases hgw : goodWord w
    · rfl
    · exact absurd hgw g
theorem vx_c {args : Array Value} {s : State} {w : Cond} {B : List Cond} (h : w.before args s = true) (t : ∀ w ∈ B, w.before args s = true) : ∀ w' ∈ w :: B, w'.before args s = true := fun w' h' => (List.mem_cons.mp h').elim (fun e => by rw [e]; exact h) (t w')
theorem vx_n {args : Array Value} {s : State} : ∀ w ∈ ([] : List Cond), w.before args s = true := fun _ h => nomatch h
theorem vx_own {args : Array Value} {s : State} {L : List Cond} (h1 : ∀ w ∈ L.filter vx_no, w.before args s = true)
    (hU : (Cond.isRef (.static Bundle.tN "UNASSIGNED_STACK" Bundle.steD)).before args s = true) (hN : (Cond.isRef (.static Bundle.tN "SUPPRESSED_SENTINEL" Bundle.listD)).before args s = true)
    (lU : (Cond.laysStatic Bundle.tN "UNASSIGNED_STACK" Bundle.steD).before args s = true) (lN : (Cond.laysStatic Bundle.tN "SUPPRESSED_SENTINEL" Bundle.listD).before args s = true) : ∀ w ∈ L, w.before args s = true := by
  intro w hw
  by_cases e1 : w = .isRef (.static Bundle.tN "UNASSIGNED_STACK" Bundle.steD)
  · rw [e1]; exact hU
  · by_cases e2 : w = .isRef (.static Bundle.tN "SUPPRESSED_SENTINEL" Bundle.listD)
    · rw [e2]; exact hN
    · by_cases e3 : w = .laysStatic Bundle.tN "UNASSIGNED_STACK" Bundle.steD
      · rw [e3]; exact lU
      · by_cases e4 : w = .laysStatic Bundle.tN "SUPPRESSED_SENTINEL" Bundle.listD
        · rw [e4]; exact lN
        · exact h1 w (List.mem_filter.mpr ⟨hw, by unfold vx_no; rw [decide_eq_true e1, decide_eq_true e2, decide_eq_true e3, decide_eq_true e4]; rfl⟩)
/-- where a static field lies, its class's statics cell in H -/
def vx_L (C n d : String) (A : Nat → Prop) (U : State) (H : Heap) : Prop := ∃ (c : ClassId) (k : Class) (i : Nat) (f : Field) (a : Nat) (cell : Cell), U.vm.findClass C = some c ∧ U.fieldFound? C n d = some (c, k, i, f) ∧ f.isStatic = true ∧ k.statics = some a ∧ H[a]? = some cell ∧ cell.vm.isStatics = true ∧ cell.cls = c ∧ f.slot < cell.slots.size ∧ k.staticTypes[f.slot]? = some f.type ∧ ¬ A a
theorem vx_L.moved {C n d : String} {A : Nat → Prop} {u U : State} {H : Heap} (hvm : u.vm.Alike U.vm) (h : vx_L C n d A u H) : vx_L C n d A U H := by
  obtain ⟨c, k, i, f, a, cell, h1, h2, h3, h4, h5, h6, h7, h8, h9, h10⟩ := h
  obtain ⟨k', hi', he⟩ := State.fieldFound?_setVm hvm h2
  exact ⟨c, k', i, f, a, cell, by rw [hvm.findClass]; exact h1, hi', h3, by rw [he]; exact h4, h5, h6, h7, h8, by rw [he]; exact h9, h10⟩
theorem vx_L.kept {C n d : String} {A : Nat → Prop} {U : State} {H H1 : Heap} (h : vx_L C n d A U H) (hq : ∀ a : Nat, a < H.size → ¬ A a → H1[a]? = H[a]?) : vx_L C n d A U H1 := by
  obtain ⟨c, k, i, f, a, cell, h1, h2, h3, h4, h5, h6, h7, h8, h9, h10⟩ := h
  exact ⟨c, k, i, f, a, cell, h1, h2, h3, h4, by rw [hq a (Array.getElem?_eq_some_iff.mp h5).1 h10]; exact h5, h6, h7, h8, h9, h10⟩
theorem vx_L.narrow {C n d : String} {A B : Nat → Prop} {U : State} {H : Heap} (h : vx_L C n d A U H) (hAB : ∀ q, B q → A q) : vx_L C n d B U H := by
  obtain ⟨c, k, i, f, a, cell, h1, h2, h3, h4, h5, h6, h7, h8, h9, h10⟩ := h
  exact ⟨c, k, i, f, a, cell, h1, h2, h3, h4, h5, h6, h7, h8, h9, fun z => h10 (hAB _ z)⟩
theorem vx_L.word {C n d : String} {A : Nat → Prop} {s : State} {args : Array Value} (h : vx_L C n d A s s.heap) : (Cond.laysStatic C n d).before args s = true := by
  obtain ⟨c, k, i, f, a, cell, h1, h2, h3, h4, h5, h6, h7, h8, h9, -⟩ := h
  show (Cond.laysStatic C n d).holds args s none s [] = true
  exact Cond.laysStatic_of h1 h2 h3 h4 h5 h6 h7 h8 h9
/-- .. and what it holds: null or some reference -/
def vx_Zq (C n d : String) (A : Nat → Prop) (U : State) (H : Heap) : Prop := va_Zq C n d A U H ∧ vx_L C n d A U H
theorem vx_Zq.moved {C n d : String} {A : Nat → Prop} {u U : State} {H : Heap} (hvm : u.vm.Alike U.vm) (h : vx_Zq C n d A u H) : vx_Zq C n d A U H := ⟨va_Zq.moved hvm h.1, vx_L.moved hvm h.2⟩
theorem vx_Zq.kept {C n d : String} {A : Nat → Prop} {U : State} {H H1 : Heap} (h : vx_Zq C n d A U H) (hq : ∀ a : Nat, a < H.size → ¬ A a → H1[a]? = H[a]?) : vx_Zq C n d A U H1 := ⟨va_Zq.kept h.1 hq, vx_L.kept h.2 hq⟩
theorem vx_Zq.narrow {C n d : String} {A B : Nat → Prop} {U : State} {H : Heap} (h : vx_Zq C n d A U H) (hAB : ∀ q, B q → A q) : vx_Zq C n d B U H := ⟨va_Zq.narrow h.1 hAB, vx_L.narrow h.2 hAB⟩
theorem vx_Zqof {args : Array Value} {s : State} {C n d : String} {A : Nat → Prop} (hl : (Cond.laysStatic C n d).before args s = true) (hini : (Cond.initialized C).before args s = true) (h : (Cond.isRef (.static C n d)).before args s = true) (hA : ∀ a : Nat, a < s.heap.size → ¬ A a) : vx_Zq C n d A s s.heap := by
  refine ⟨va_Zqof hl hini h hA, ?_⟩
  obtain ⟨c, k, i, f, a, cell, h1, h2, h3, h4, h5, h6, h7, h8, h9⟩ := Cond.laysStatic_spec hl
  exact ⟨c, k, i, f, a, cell, h1, h2, h3, h4, h5, h6, h7, h8, h9, hA a (Array.getElem?_eq_some_iff.mp h5).1⟩
theorem vx_isRef {C n d : String} {v : Value} {A : Nat → Prop} {s : State} {args : Array Value} (h : va_Z C n d v A s s.heap) (hv : v.isRef = true) : (Cond.isRef (.static C n d)).before args s = true := by
  obtain ⟨cf, kf, fi, f, a, cell, h1, h2, h3, h4, h5, h6, h7, -⟩ := h
  have he : (Term.static C n d).eval args s none [] s = some v := by
    simp [Term.eval, State.fieldNamed?, h1, h2, h4, h5, h6, h7]
  simp only [Cond.before, Cond.holds, Cond.value, he]
  cases v <;> simp_all [Value.isRef]
theorem vx_isRefq {C n d : String} {A : Nat → Prop} {s : State} {args : Array Value} (h : va_Zq C n d A s s.heap) : (Cond.isRef (.static C n d)).before args s = true := by
  rcases h with h | ⟨t, h⟩
  · exact vx_isRef h rfl
  · exact vx_isRef h rfl
/-- the same frame, seen from here: as if the method were called anew in this heap -/
theorem vx_rebase {T : State} (X : Stand p l e R s m args below meth c T locs cells slots) {R' : Room} (hf : R'.frames ≤ R.frames) (hl : R'.locals ≤ R.locals) (hc : cells + R'.cells ≤ R.cells) (hs : slots + R'.slots ≤ R.slots) :
    Stand p l e R' ((T.setVm s.vm).setFrames (.invoking m args :: below)) m args below meth c T [] 0 0 := by
  have htop : (T.setVm s.vm).topJava?.isSome := X.here.top
  have hF : ((T.setVm s.vm).setFrames (.invoking m args :: below)).frames = .invoking m args :: below := State.frames_setFrames _ (State.cur_lt_of_top htop)
  obtain ⟨g₀, hg0⟩ := Option.isSome_iff_exists.mp htop
  obtain ⟨r, hr⟩ := State.topJava?_eq_some.mp hg0
  have hl9 : e.platform.stackLimits (T.setVm s.vm).me = e.platform.stackLimits s.me := X.limits
  have hb9 : (T.setVm s.vm).me.stackBytes = s.me.stackBytes := X.bytes
  refine ⟨X.admits, X.cas, X.clock, hF, ?_, X.hears, X.method, X.code, X.here, X.tail, X.warmed, ?_, ?_, ?_⟩
  · have h := X.room
    have hU : ((T.setVm s.vm).setFrames (.invoking m args :: below)).localsInUse = s.localsInUse := by
      rw [State.localsInUse_invoking hF (meth := meth) (c := c) X.method X.code, State.localsInUse_invoking X.frames X.method X.code]
    simp only [State.hasRoom, Bool.and_eq_true, decide_eq_true_eq] at h ⊢
    obtain ⟨⟨⟨⟨h1, h2, h3, h4, h5, h6⟩, h7⟩, h8⟩, h9⟩ := h
    rw [X.frames, List.length_cons] at h2 h3
    have q1 := X.heapSize
    have q2 := X.used
    simp only [hF, hU, List.length_cons, State.stackLimits_setFrames, State.stackBytes_setFrames, hl9, hb9]
    refine ⟨⟨⟨⟨by omega, by omega, by omega, by omega, by omega, h6⟩, ?_⟩, ?_⟩, X.book⟩
    · show T.heap.size + R'.cells ≤ e.platform.maxCells
      omega
    · show T.slotsUsed + R'.slots ≤ e.platform.maxSlots
      omega
  · rw [State.stackLimits_setFrames]; rfl
  · rw [State.stackBytes_setFrames]; rfl
  · refine ⟨?_, Nat.le_refl _, Nat.le_refl _, ?_, ?_, fun a c9 h9 => ⟨c9, h9, rfl, rfl, fun _ _ => rfl⟩⟩
    · obtain ⟨t, ht, -⟩ := State.frames_cons hr
      show T.setVm s.vm = { ((T.setVm s.vm).setFrames (.invoking m args :: below)).setFrames (T.setVm s.vm).frames with heap := T.heap, slotsUsed := T.slotsUsed }
      rw [State.setFrames_setFrames, State.setFrames_self ht]
      rfl
    · show T.slotsUsed = T.slotsUsed + ((T.heap.toList.drop T.heap.size).map (·.slots.size)).sum
      rw [List.drop_eq_nil_of_le (Nat.le_of_eq Array.length_toList)]
      rfl
    · show ((T.heap.toList.drop T.heap.size).map (·.slots.size)).sum ≤ 0
      rw [List.drop_eq_nil_of_le (Nat.le_of_eq Array.length_toList)]
      exact Nat.le_refl _
/-- 'throw new E()': new; dup; invokespecial; athrow -/
theorem vx_throw0 {cc : ByteArray} {pc : Nat} (hexec : p.tables.exec = Jvm.exec) (hb : c.code = cc) (hl : l.stackTraces = false) {own cls : String} {names : List String} {ik ic mc ms : Nat} {A : Nat → Prop}
    (hown : s.vm.findClass own = some m.cls) (hcls : Bundle.fit cls = true) (hnames : ∀ n ∈ names, Bundle.fit n = true)
    (hk : (Cond.classLink own ik cls).before args s = true) (hini : (Cond.initialized cls).before args s = true) (hat : ∀ w ∈ vx_at0 own ic cls names, w.before args s = true)
    (hgood : ∀ w ∈ Cond.classLink own ik cls :: Cond.initialized cls :: vx_at0 own ic cls names, vx_ot w = true)
    (hU : vx_Zq Bundle.tN "UNASSIGNED_STACK" Bundle.steD A s s.heap) (hN : vx_Zq Bundle.tN "SUPPRESSED_SENTINEL" Bundle.listD A s s.heap) (hS : va_S A s.heap H locs) (hsize : ls.size = c.maxLocals)
    (d0 : decode cc pc = .ok (.new ik, 3)) (d3 : decode cc (pc + 3) = .ok (.dup, 1)) (d4 : decode cc (pc + 4) = .ok (.invokespecial ic, 3)) (d7 : decode cc (pc + 7) = .ok (.athrow, 1))
    (hout : ∀ x ∈ c.exceptionTable.toList, covers x (pc + 7) = false)
    (hRframes : names.length + 3 < R.frames) (hRlocals : (rest.map fun v => v.category).sum + (13 * (names.length + 1) + 42) ≤ R.locals) (hRcells : cells + 1 ≤ R.cells) (hRslots : slots + 6 ≤ R.slots) (hlocks : meth.locks = false)
    (hx : ∀ t : State, s.vm.Alike t.vm → H.size ≤ t.heap.size → (∀ q : Nat, q < H.size → t.heap[q]? = H[q]?) → XC cls s t)
    (hf : ∀ z ∈ locs, free z.base) (hc : cells + 1 ≤ mc) (hs : slots + 6 ≤ ms) :
    W p l e R s m args below meth c H locs cells slots (vx_MQ below Qc XC args s mc ms free) (F0 m pc ls rest) := by
  intro T hT X
  have htr : e.platform.stackTraces = false := (show e.platform.stackTraces = l.stackTraces by rw [X.admits.platform]).trans hl
  have Y := vx_rebase X (R' := { frames := R.frames, locals := R.locals, cells := 1, slots := 6 }) (Nat.le_refl _) (Nat.le_refl _) hRcells hRslots
  obtain ⟨s', hA⟩ : ∃ z, z = (T.setVm s.vm).setFrames (.invoking m args :: below) := ⟨_, rfl⟩
  rw [← hA] at Y
  have hvm : s'.vm = s.vm := by rw [hA]; rfl
  have hhp : s'.heap = H := by rw [hA]; exact hT
  have hW0 : s.WarmedH s'.vm := by rw [hvm]; exact State.WarmedH.refl s
  have hat' : ∀ w ∈ vx_at0 own ic cls names, w.before args s' = true := fun w hw => vx_ot_at hW0 hvm.symm (hgood w (List.mem_cons_of_mem _ (List.mem_cons_of_mem _ hw))) (hat w hw)
  have hk' : (Cond.classLink own ik cls).before args s' = true := vx_ot_at hW0 hvm.symm (hgood _ List.mem_cons_self) hk
  have hini' : (Cond.initialized cls).before args s' = true := vx_ot_at hW0 hvm.symm (hgood _ (List.mem_cons_of_mem _ List.mem_cons_self)) hini
  have hU' : vx_Zq Bundle.tN "UNASSIGNED_STACK" Bundle.steD A s' s'.heap := by rw [hhp]; exact vx_Zq.moved hW0.alike (hU.kept hS.2.1)
  have hN' : vx_Zq Bundle.tN "SUPPRESSED_SENTINEL" Bundle.listD A s' s'.heap := by rw [hhp]; exact vx_Zq.moved hW0.alike (hN.kept hS.2.1)
  have h : ∀ w ∈ Bundle.ownAtoms0 own ic cls names, w.before args s' = true := vx_own hat' (vx_isRefq hU'.1) (vx_isRefq hN'.1) hU'.2.word hN'.2.word
  have hown' : s'.vm.findClass own = some m.cls := by rw [hvm]; exact hown
  have hins : (Cond.instantiable cls 6).before args s' = true := h _ (by simp [Bundle.ownAtoms0])
  obtain ⟨vm₁, cX, kX, hfX, hkX, -, -, X₁, st1⟩ := Y.newCold hexec (own := own) (C := cls) (index := ik) (n := 6) hown' hk' hins hini'
    (g := F0 m pc ls rest) rfl (by rw [hb]; exact d0) (Nat.le_refl _) (Nat.le_refl _)
  generalize hT1 : (T.setVm vm₁).pushCell { cls := cX, slots := kX.instanceTypes.map defaultValue, vm := .none } = T1 at X₁ st1
  have hcat : (Value.ref T.heap.size).category = 1 := rfl
  have hcellA : T1.heap[T.heap.size]? = some (freshCell cX kX) := by rw [← hT1]; exact State.heap_pushCell_size _ _
  have d3' : decode c.code (pc + 3) = .ok (.dup, 1) := by rw [hb]; exact d3
  obtain ⟨U, hsteps, hrun, hend, hW, hsame, ce, hce, hO⟩ := X₁.ctorThrow0 hexec htr (own := own) (cls := cls) (names := names) (ic := ic) hown' hcls hnames h (fun x hx => nomatch hx) hfX hkX hcellA (by rw [hhp, hT]; exact Nat.le_refl _)
    (g := { method := m, pc := pc + 4, locals := ls, stack := .ref T.heap.size :: .ref T.heap.size :: rest, locked := none }) rfl hsize rfl rfl (rest := rest) rfl
    (by rw [hb]; exact d4) (by rw [hb]; exact d7) hout hRframes (by simp only [List.map_cons, List.sum_cons, hcat]; omega) hlocks
  obtain ⟨f1, f2⟩ := vx_frame hsame
  rw [hhp] at f1 f2
  have hWs : s.WarmedH U.vm := State.WarmedH.trans hW0 hW
  have hcl : s.vm.findClass cls = some ce.cls := by
    have h9 := hO.cls
    rw [hvm] at h9
    exact h9
  have hall : s.sameButNew ({ U with vm := s.vm } : State) locs mc ms := by
    subst hA
    obtain ⟨e1, e2⟩ := hsame
    rw [State.setFrames_setFrames] at e1
    have h2 : (T.setVm s.vm).sameButNew ({ U with vm := s.vm } : State) [] (0 + 1) (0 + 6) := ⟨e1, e2⟩
    have h3 := X.same.trans h2
    rw [List.append_nil] at h3
    exact h3.mono hc hs
  refine ⟨U, ?_, .threw T.heap.size, hrun, hend, Or.inr ⟨T.heap.size, rfl, cls, ce, locs, hx U hWs.alike f1 (fun q hq => f2 q hq (fun z hz => nomatch hz)), hce, hO.vm, hcl, hWs, hall, hf⟩⟩
  refine st1 _ ?_
  show Steps p.tables e below (T1.setTop { method := m, pc := pc + 3, locals := ls, stack := .ref T.heap.size :: rest, locked := none }) _
  jvm_step X₁.here [X₁.here.top, hexec, d3', Value.category]
  exact hsteps
/-- 'throw new E("text")': new; dup; ldc; invokespecial; athrow -/
theorem vx_throwS {cc : ByteArray} {pc : Nat} (hexec : p.tables.exec = Jvm.exec) (hb : c.code = cc) (hl : l.stackTraces = false) {own cls text : String} {names : List String} {ik is ic mc ms sa : Nat} {A : Nat → Prop}
    (hown : s.vm.findClass own = some m.cls) (hcls : Bundle.fit cls = true) (hnames : ∀ n ∈ names, Bundle.fit n = true)
    (hk : (Cond.classLink own ik cls).before args s = true) (hini : (Cond.initialized cls).before args s = true) (hstr : vk_R own is text sa s) (hat : ∀ w ∈ vx_atS own ic cls names, w.before args s = true)
    (hgood : ∀ w ∈ Cond.classLink own ik cls :: Cond.initialized cls :: vx_atS own ic cls names, vx_ot w = true)
    (hU : vx_Zq Bundle.tN "UNASSIGNED_STACK" Bundle.steD A s s.heap) (hN : vx_Zq Bundle.tN "SUPPRESSED_SENTINEL" Bundle.listD A s s.heap) (hS : va_S A s.heap H locs) (hsize : ls.size = c.maxLocals)
    (d0 : decode cc pc = .ok (.new ik, 3)) (d3 : decode cc (pc + 3) = .ok (.dup, 1)) (d4 : decode cc (pc + 4) = .ok (.ldc is, 2)) (d6 : decode cc (pc + 6) = .ok (.invokespecial ic, 3)) (d9 : decode cc (pc + 9) = .ok (.athrow, 1))
    (hout : ∀ x ∈ c.exceptionTable.toList, covers x (pc + 9) = false)
    (hRframes : names.length + 3 < R.frames) (hRlocals : (rest.map fun v => v.category).sum + (13 * (names.length + 1) + 43) ≤ R.locals) (hRcells : cells + 1 ≤ R.cells) (hRslots : slots + 6 ≤ R.slots) (hlocks : meth.locks = false)
    (hx : ∀ t : State, s.vm.Alike t.vm → H.size ≤ t.heap.size → (∀ q : Nat, q < H.size → t.heap[q]? = H[q]?) → XC cls s t)
    (hf : ∀ z ∈ locs, free z.base) (hc : cells + 1 ≤ mc) (hs : slots + 6 ≤ ms) :
    W p l e R s m args below meth c H locs cells slots (vx_MQ below Qc XC args s mc ms free) (F0 m pc ls rest) := by
  intro T hT X
  have htr : e.platform.stackTraces = false := (show e.platform.stackTraces = l.stackTraces by rw [X.admits.platform]).trans hl
  have Y := vx_rebase X (R' := { frames := R.frames, locals := R.locals, cells := 1, slots := 6 }) (Nat.le_refl _) (Nat.le_refl _) hRcells hRslots
  obtain ⟨s', hA⟩ : ∃ z, z = (T.setVm s.vm).setFrames (.invoking m args :: below) := ⟨_, rfl⟩
  rw [← hA] at Y
  have hvm : s'.vm = s.vm := by rw [hA]; rfl
  have hhp : s'.heap = H := by rw [hA]; exact hT
  have hW0 : s.WarmedH s'.vm := by rw [hvm]; exact State.WarmedH.refl s
  have hat' : ∀ w ∈ vx_atS own ic cls names, w.before args s' = true := fun w hw => vx_ot_at hW0 hvm.symm (hgood w (List.mem_cons_of_mem _ (List.mem_cons_of_mem _ hw))) (hat w hw)
  have hk' : (Cond.classLink own ik cls).before args s' = true := vx_ot_at hW0 hvm.symm (hgood _ List.mem_cons_self) hk
  have hini' : (Cond.initialized cls).before args s' = true := vx_ot_at hW0 hvm.symm (hgood _ (List.mem_cons_of_mem _ List.mem_cons_self)) hini
  have hU' : vx_Zq Bundle.tN "UNASSIGNED_STACK" Bundle.steD A s' s'.heap := by rw [hhp]; exact vx_Zq.moved hW0.alike (hU.kept hS.2.1)
  have hN' : vx_Zq Bundle.tN "SUPPRESSED_SENTINEL" Bundle.listD A s' s'.heap := by rw [hhp]; exact vx_Zq.moved hW0.alike (hN.kept hS.2.1)
  have h : ∀ w ∈ Bundle.ownAtoms own ic cls names, w.before args s' = true := vx_own hat' (vx_isRefq hU'.1) (vx_isRefq hN'.1) hU'.2.word hN'.2.word
  have hown' : s'.vm.findClass own = some m.cls := by rw [hvm]; exact hown
  have hins : (Cond.instantiable cls 6).before args s' = true := h _ (by simp [Bundle.ownAtoms])
  obtain ⟨vm₁, cX, kX, hfX, hkX, -, -, X₁, st1⟩ := Y.newCold hexec (own := own) (C := cls) (index := ik) (n := 6) hown' hk' hins hini'
    (g := F0 m pc ls rest) rfl (by rw [hb]; exact d0) (Nat.le_refl _) (Nat.le_refl _)
  generalize hT1 : (T.setVm vm₁).pushCell { cls := cX, slots := kX.instanceTypes.map defaultValue, vm := .none } = T1 at X₁ st1
  have hcat : (Value.ref T.heap.size).category = 1 := rfl
  have hcellA : T1.heap[T.heap.size]? = some (freshCell cX kX) := by rw [← hT1]; exact State.heap_pushCell_size _ _
  have d3' : decode c.code (pc + 3) = .ok (.dup, 1) := by rw [hb]; exact d3
  have d4' : decode c.code (pc + 4) = .ok (.ldc is, 2) := by rw [hb]; exact d4
  have hstr' : vk_R own is text sa s' := vk_R.warm hW0 hstr
  obtain ⟨U, hsteps, hrun, hend, hW, hsame, ce, hce, hO⟩ := X₁.ctorThrowS hexec htr (own := own) (cls := cls) (names := names) (ic := ic) hown' hcls hnames h (fun x hx => nomatch hx) hfX hkX hcellA (by rw [hhp, hT]; exact Nat.le_refl _) (msg := .ref sa) rfl
    (g := { method := m, pc := pc + 6, locals := ls, stack := .ref sa :: .ref T.heap.size :: .ref T.heap.size :: rest, locked := none }) rfl hsize rfl rfl (rest := rest) rfl
    (by rw [hb]; exact d6) (by rw [hb]; exact d9) hout hRframes (by simp only [List.map_cons, List.sum_cons, hcat]; omega) hlocks
  obtain ⟨f1, f2⟩ := vx_frame hsame
  rw [hhp] at f1 f2
  have hWs : s.WarmedH U.vm := State.WarmedH.trans hW0 hW
  have hcl : s.vm.findClass cls = some ce.cls := by
    have h9 := hO.cls
    rw [hvm] at h9
    exact h9
  have hall : s.sameButNew ({ U with vm := s.vm } : State) locs mc ms := by
    subst hA
    obtain ⟨e1, e2⟩ := hsame
    rw [State.setFrames_setFrames] at e1
    have h2 : (T.setVm s.vm).sameButNew ({ U with vm := s.vm } : State) [] (0 + 1) (0 + 6) := ⟨e1, e2⟩
    have h3 := X.same.trans h2
    rw [List.append_nil] at h3
    exact h3.mono hc hs
  refine ⟨U, ?_, .threw T.heap.size, hrun, hend, Or.inr ⟨T.heap.size, rfl, cls, ce, locs, hx U hWs.alike f1 (fun q hq => f2 q hq (fun z hz => nomatch hz)), hce, hO.vm, hcl, hWs, hall, hf⟩⟩
  refine st1 _ ?_
  show Steps p.tables e below (T1.setTop { method := m, pc := pc + 3, locals := ls, stack := .ref T.heap.size :: rest, locked := none }) _
  jvm_step X₁.here [X₁.here.top, hexec, d3', Value.category]
  exact X₁.ldcString hexec (own := own) (text := text) (index := is) (a := sa) hown' hstr'.1 hstr'.2
    (g := { method := m, pc := pc + 4, locals := ls, stack := .ref T.heap.size :: .ref T.heap.size :: rest, locked := none }) rfl d4' _ hsteps
/-- 'throw new E("text")', the text by a wide index -/
theorem vx_throwSW {cc : ByteArray} {pc : Nat} (hexec : p.tables.exec = Jvm.exec) (hb : c.code = cc) (hl : l.stackTraces = false) {own cls text : String} {names : List String} {ik is ic mc ms sa : Nat} {A : Nat → Prop}
    (hown : s.vm.findClass own = some m.cls) (hcls : Bundle.fit cls = true) (hnames : ∀ n ∈ names, Bundle.fit n = true)
    (hk : (Cond.classLink own ik cls).before args s = true) (hini : (Cond.initialized cls).before args s = true) (hstr : vk_R own is text sa s) (hat : ∀ w ∈ vx_atS own ic cls names, w.before args s = true)
    (hgood : ∀ w ∈ Cond.classLink own ik cls :: Cond.initialized cls :: vx_atS own ic cls names, vx_ot w = true)
    (hU : vx_Zq Bundle.tN "UNASSIGNED_STACK" Bundle.steD A s s.heap) (hN : vx_Zq Bundle.tN "SUPPRESSED_SENTINEL" Bundle.listD A s s.heap) (hS : va_S A s.heap H locs) (hsize : ls.size = c.maxLocals)
    (d0 : decode cc pc = .ok (.new ik, 3)) (d3 : decode cc (pc + 3) = .ok (.dup, 1)) (d4 : decode cc (pc + 4) = .ok (.ldc_w is, 3)) (d7 : decode cc (pc + 7) = .ok (.invokespecial ic, 3)) (d10 : decode cc (pc + 10) = .ok (.athrow, 1))
    (hout : ∀ x ∈ c.exceptionTable.toList, covers x (pc + 10) = false)
    (hRframes : names.length + 3 < R.frames) (hRlocals : (rest.map fun v => v.category).sum + (13 * (names.length + 1) + 43) ≤ R.locals) (hRcells : cells + 1 ≤ R.cells) (hRslots : slots + 6 ≤ R.slots) (hlocks : meth.locks = false)
    (hx : ∀ t : State, s.vm.Alike t.vm → H.size ≤ t.heap.size → (∀ q : Nat, q < H.size → t.heap[q]? = H[q]?) → XC cls s t)
    (hf : ∀ z ∈ locs, free z.base) (hc : cells + 1 ≤ mc) (hs : slots + 6 ≤ ms) :
    W p l e R s m args below meth c H locs cells slots (vx_MQ below Qc XC args s mc ms free) (F0 m pc ls rest) := by
  intro T hT X
  have htr : e.platform.stackTraces = false := (show e.platform.stackTraces = l.stackTraces by rw [X.admits.platform]).trans hl
  have Y := vx_rebase X (R' := { frames := R.frames, locals := R.locals, cells := 1, slots := 6 }) (Nat.le_refl _) (Nat.le_refl _) hRcells hRslots
  obtain ⟨s', hA⟩ : ∃ z, z = (T.setVm s.vm).setFrames (.invoking m args :: below) := ⟨_, rfl⟩
  rw [← hA] at Y
  have hvm : s'.vm = s.vm := by rw [hA]; rfl
  have hhp : s'.heap = H := by rw [hA]; exact hT
  have hW0 : s.WarmedH s'.vm := by rw [hvm]; exact State.WarmedH.refl s
  have hat' : ∀ w ∈ vx_atS own ic cls names, w.before args s' = true := fun w hw => vx_ot_at hW0 hvm.symm (hgood w (List.mem_cons_of_mem _ (List.mem_cons_of_mem _ hw))) (hat w hw)
  have hk' : (Cond.classLink own ik cls).before args s' = true := vx_ot_at hW0 hvm.symm (hgood _ List.mem_cons_self) hk
  have hini' : (Cond.initialized cls).before args s' = true := vx_ot_at hW0 hvm.symm (hgood _ (List.mem_cons_of_mem _ List.mem_cons_self)) hini
  have hU' : vx_Zq Bundle.tN "UNASSIGNED_STACK" Bundle.steD A s' s'.heap := by rw [hhp]; exact vx_Zq.moved hW0.alike (hU.kept hS.2.1)
  have hN' : vx_Zq Bundle.tN "SUPPRESSED_SENTINEL" Bundle.listD A s' s'.heap := by rw [hhp]; exact vx_Zq.moved hW0.alike (hN.kept hS.2.1)
  have h : ∀ w ∈ Bundle.ownAtoms own ic cls names, w.before args s' = true := vx_own hat' (vx_isRefq hU'.1) (vx_isRefq hN'.1) hU'.2.word hN'.2.word
  have hown' : s'.vm.findClass own = some m.cls := by rw [hvm]; exact hown
  have hins : (Cond.instantiable cls 6).before args s' = true := h _ (by simp [Bundle.ownAtoms])
  obtain ⟨vm₁, cX, kX, hfX, hkX, -, -, X₁, st1⟩ := Y.newCold hexec (own := own) (C := cls) (index := ik) (n := 6) hown' hk' hins hini'
    (g := F0 m pc ls rest) rfl (by rw [hb]; exact d0) (Nat.le_refl _) (Nat.le_refl _)
  generalize hT1 : (T.setVm vm₁).pushCell { cls := cX, slots := kX.instanceTypes.map defaultValue, vm := .none } = T1 at X₁ st1
  have hcat : (Value.ref T.heap.size).category = 1 := rfl
  have hcellA : T1.heap[T.heap.size]? = some (freshCell cX kX) := by rw [← hT1]; exact State.heap_pushCell_size _ _
  have d3' : decode c.code (pc + 3) = .ok (.dup, 1) := by rw [hb]; exact d3
  have d4' : decode c.code (pc + 4) = .ok (.ldc_w is, 3) := by rw [hb]; exact d4
  have hstr' : vk_R own is text sa s' := vk_R.warm hW0 hstr
  obtain ⟨U, hsteps, hrun, hend, hW, hsame, ce, hce, hO⟩ := X₁.ctorThrowS hexec htr (own := own) (cls := cls) (names := names) (ic := ic) hown' hcls hnames h (fun x hx => nomatch hx) hfX hkX hcellA (by rw [hhp, hT]; exact Nat.le_refl _) (msg := .ref sa) rfl
    (g := { method := m, pc := pc + 7, locals := ls, stack := .ref sa :: .ref T.heap.size :: .ref T.heap.size :: rest, locked := none }) rfl hsize rfl rfl (rest := rest) rfl
    (by rw [hb]; exact d7) (by rw [hb]; exact d10) hout hRframes (by simp only [List.map_cons, List.sum_cons, hcat]; omega) hlocks
  obtain ⟨f1, f2⟩ := vx_frame hsame
  rw [hhp] at f1 f2
  have hWs : s.WarmedH U.vm := State.WarmedH.trans hW0 hW
  have hcl : s.vm.findClass cls = some ce.cls := by
    have h9 := hO.cls
    rw [hvm] at h9
    exact h9
  have hall : s.sameButNew ({ U with vm := s.vm } : State) locs mc ms := by
    subst hA
    obtain ⟨e1, e2⟩ := hsame
    rw [State.setFrames_setFrames] at e1
    have h2 : (T.setVm s.vm).sameButNew ({ U with vm := s.vm } : State) [] (0 + 1) (0 + 6) := ⟨e1, e2⟩
    have h3 := X.same.trans h2
    rw [List.append_nil] at h3
    exact h3.mono hc hs
  refine ⟨U, ?_, .threw T.heap.size, hrun, hend, Or.inr ⟨T.heap.size, rfl, cls, ce, locs, hx U hWs.alike f1 (fun q hq => f2 q hq (fun z hz => nomatch hz)), hce, hO.vm, hcl, hWs, hall, hf⟩⟩
  refine st1 _ ?_
  show Steps p.tables e below (T1.setTop { method := m, pc := pc + 3, locals := ls, stack := .ref T.heap.size :: rest, locked := none }) _
  jvm_step X₁.here [X₁.here.top, hexec, d3', Value.category]
  exact X₁.ldcStringW hexec (own := own) (text := text) (index := is) (a := sa) hown' hstr'.1 hstr'.2
    (g := { method := m, pc := pc + 4, locals := ls, stack := .ref T.heap.size :: .ref T.heap.size :: rest, locked := none }) rfl d4' _ hsteps
end Ends
section Bodies
variable {l : Launch}
theorem vx_ofW {y : MethodName} {ws ws' : List Cond} {rm : Room} {Pc : Array Value → State → Prop} {Qc : Array Value → State → Outcome → State → Prop} {XC : String → State → State → Prop} {mc ms : Nat} {free : Addr → Prop} {cc : ByteArray} {maxL : Nat} {ret : Option FieldType}
    (hy : plainName y.cls = true) (hw : ws = Cond.code y cc maxL ret :: ws')
    (body : ∀ p e s m args below meth c s₁, BodyLoose p l y (headSpec ws rm) cc maxL ret e s m args below meth c s₁ → c.maxLocals = maxL → (∀ x ∈ c.exceptionTable.toList, False) → Pc args s →
      W p l e (headSpec ws rm).room s m args below meth c s.heap [] 0 0 (vx_MQ below Qc XC args s mc ms free) (entryFrame m args maxL)) : vx_Met l y ws rm Pc Qc XC mc ms free := by
  refine MetFree.of_bodyS (code := cc) (maxLocals := maxL) (ret := ret) hy ?_ ?_
  · intro args s m h hn
    obtain ⟨meth, c, h1, h2, h3, h4, h5, h6, -, -⟩ := Cond.code_spec hn (atoms_spec (ws := ws) h _ (by rw [hw]; exact List.mem_cons_self))
    exact ⟨meth, c, h1, h2, h3, h4, h5, h6⟩
  · intro p e s m args below meth c s₁ B hml hP _
    have hh0 : s₁.heap = s.heap := by rw [B.state]; rfl
    have ht : ∀ x ∈ c.exceptionTable.toList, False := by
      obtain ⟨meth9, c9, h1, h2, -, -, -, -, h7, -⟩ := Cond.code_spec B.named (atoms_spec (ws := ws) B.pre _ (by rw [hw]; exact List.mem_cons_self))
      cases Option.some.inj (h1.symm.trans B.method)
      cases Option.some.inj (h2.symm.trans (Stand.of_body B).code)
      intro x hx
      rw [Array.isEmpty_iff.mp h7] at hx
      cases hx
    obtain ⟨t, a1, o, b1, b2, b3⟩ := body p e s m args below meth c s₁ B hml ht hP s₁ hh0 (Stand.of_body B)
    exact ⟨t, o, a1, b1, b2, b3⟩
/-- the table of a body with handlers -/
theorem vx_table {p : Program} {x y : MethodName} {S : Spec} {cc bytes : ByteArray} {maxL maxL' : Nat} {ret ret' : Option FieldType} {e : Env} {s s₁ : State} {m : MethodId} {args : Array Value} {below : List Frame} {meth : Method} {c : Code} {hh : List (Nat × Nat × Nat × Nat)}
    (B : BodyLoose p l y S cc maxL ret e s m args below meth c s₁) (h : (Cond.codeWith y bytes maxL' ret' hh).before args s = true) : c.exceptionTable.toList = tableOf hh := by
  obtain ⟨m9, meth9, c9, hn9, h1, h2, -, -, h6, -⟩ := Cond.codeWith_spec h
  cases Option.some.inj (hn9.symm.trans B.named)
  cases Option.some.inj (h1.symm.trans B.method)
  cases Option.some.inj (h2.symm.trans (Stand.of_body B).code)
  rw [← h6, table_eq]
end Bodies
end VXA
/-! ===== END ===== -/
/-! ===== BEGIN a static call of a method with an exception table ===== -/
section VXS
variable {p : Program} {l : Launch} {e : Env} {R : Room} {s : State} {m : MethodId} {args : Array Value} {below : List Frame} {meth : Method} {c : Code} {T : State} {H : Heap} {locs : List Loc} {cells slots : Nat}
abbrev vx_CSW (R : Room) (s : State) (args : Array Value) (own : String) (index : Nat) (y : MethodName) (bytes : ByteArray) (maxL : Nat) (ret : Option FieldType) (hh : List (Nat × Nat × Nat × Nat)) (ws : List Cond) (rm : Room) (mc ms n : Nat) : Prop :=
  (rm.cells = mc ∧ rm.slots = ms ∧ rm.frames + 1 ≤ R.frames ∧ 8 + (maxL + 11) + rm.locals ≤ R.locals ∧ (∀ w ∈ ws, ∀ (a' : Array Value) (U : State), s.WarmedH U.vm → w.before a' U = true) ∧ Cond.codeWith y bytes maxL ret hh ∈ ws) ∧
  (Cond.codeWith y bytes maxL ret hh).before args s = true ∧ (Cond.initialized y.cls).before args s = true ∧ (y.cls ≠ "java/lang/invoke/MethodHandle" ∧ y.cls ≠ "java/lang/invoke/VarHandle") ∧
  (∀ sig, parseMethodDescriptor y.desc = some sig → n = sig.parameters.length) ∧ (Cond.methodLink own index y).before args s = true ∧ (Cond.static y).before args s = true
theorem vx_cwSW {own : String} {index maxL mc ms : Nat} {y : MethodName} {bytes : ByteArray} {ret : Option FieldType} {hh : List (Nat × Nat × Nat × Nat)} {Ts ws ws' : List Cond} {rm : Room} (n : Nat) (ht : ∀ w ∈ Ts, w.before args s = true) (hT : GoodIn Ts (va_wsS own index y ws)) (hw : ws = Cond.codeWith y bytes maxL ret hh :: ws') (hrc : rm.cells = mc) (hrs : rm.slots = ms)
    (hd : y.cls ≠ "java/lang/invoke/MethodHandle" ∧ y.cls ≠ "java/lang/invoke/VarHandle" ∧ (parseMethodDescriptor y.desc).map (fun d => d.parameters.length) = some n) (hR : rm.frames + 1 ≤ R.frames ∧ 8 + (maxL + 11) + rm.locals ≤ R.locals) :
    vx_CSW R s args own index y bytes maxL ret hh ws rm mc ms n := by
  have ok : ∀ w ∈ va_wsS own index y ws, w.before args s = true := fun w h => ht w (hT w h).1
  have hG : GoodIn Ts ws := fun w h => hT w (by unfold va_wsS; exact List.mem_append_right _ h)
  have hc : Cond.codeWith y bytes maxL ret hh ∈ ws := by rw [hw]; exact List.mem_cons_self
  refine ⟨⟨hrc, hrs, hR.1, hR.2, pay_in ht hG, hc⟩, ht _ (hG _ hc).1, ok _ (by simp [va_wsS]), ⟨hd.1, hd.2.1⟩, fun sig h => ?_, ok _ (by simp [va_wsS]), ok _ (by simp [va_wsS])⟩
  have h2 := hd.2.2
  rw [h] at h2
  exact (Option.some.inj h2).symm
theorem vx_callSW (X : Stand p l e R s m args below meth c T locs cells slots) (hexec : p.tables.exec = Jvm.exec) {own : String} {index : Nat} {y : MethodName} {bytes : ByteArray} {maxL : Nat} {ret : Option FieldType} {hh : List (Nat × Nat × Nat × Nat)}
    (hown : s.vm.findClass own = some m.cls) (hlink : (Cond.methodLink own index y).before args s = true) (hstat : (Cond.static y).before args s = true) (hinit : (Cond.initialized y.cls).before args s = true)
    (hcode : (Cond.codeWith y bytes maxL ret hh).before args s = true) (hy : y.cls ≠ "java/lang/invoke/MethodHandle" ∧ y.cls ≠ "java/lang/invoke/VarHandle")
    {W9 : Nat} {Pre : Pt → Array Value → Prop} {Post : Pt → Array Value → Option Value → Pt → Prop} (hK : Back l R p e below s args y 3 W9 Pre Post)
    {g : JFrame} (hg : g.method = m) (hsize : g.locals.size = c.maxLocals) {argsL rest : List Value} (hlen : ∀ sig, parseMethodDescriptor y.desc = some sig → argsL.length = sig.parameters.length)
    (hstack : g.stack = argsL.reverse ++ rest) (hW : 2 * g.monitorRoom + (rest.map fun v => v.category).sum ≤ W9) (hdg : decode c.code g.pc = .ok (.invokestatic index, 3))
    (hpre : ∀ vm₁, s.WarmedH vm₁ → Pre ⟨T.setVm vm₁, locs, cells, slots⟩ argsL.toArray) :
    ∃ (v : Option Value) (vm₁ : Vm) (B : Pt), s.WarmedH vm₁ ∧ Stand p l e R s m args below meth c B.U B.locs B.cells B.slots ∧ Post ⟨T.setVm vm₁, locs, cells, slots⟩ argsL.toArray v B ∧
      ∀ target, Steps p.tables e below (B.U.setTop { g with pc := g.pc + 3, stack := v.toList ++ rest }) target → Steps p.tables e below (T.setTop g) target := by
  obtain ⟨mk, methM, cM, hnamed, hmethM, -, -, -, -, -, -, hsigM⟩ := Cond.codeWith_spec hcode
  have hstatic : methM.isStatic = true := Cond.static_spec hnamed hmethM hstat
  obtain ⟨kP, hkP, -⟩ := className_of_methodNamed hnamed
  have hinitP : kP.init = .initialized := Cond.initialized_spec (findClass_of_methodNamed hnamed) hkP hinit
  obtain ⟨vm₁, X₁, hstep₁⟩ := X.invokestatic hexec hown hlink hnamed hmethM hstatic hkP hinitP hy (g := g) hg (argsL := argsL) (rest := rest) (hlen _ hsigM) hstack hdg
  obtain ⟨v, B, X', hpost, hsteps⟩ := hK m meth c ⟨T.setVm vm₁, locs, cells, slots⟩ { g with stack := rest } (.invokestatic index) mk argsL.toArray X₁ hg hsize hdg hW (X₁.named hnamed) (hpre vm₁ X₁.warmed)
  exact ⟨v, vm₁, B, X₁.warmed, X', hpost, fun target h => hstep₁ _ fun acts => by rw [doInvoke_state]; exact hsteps.trans h⟩
theorem vx_runSW {y : MethodName} {bytes cc : ByteArray} {maxL nL mc ms n index : Nat} {ret : Option FieldType} {hh : List (Nat × Nat × Nat × Nat)} {ws : List Cond} {rm : Room} {Pc : Array Value → State → Prop} {Qc : Array Value → State → Outcome → State → Prop} {free : Addr → Prop} {Ts : List Cond} {own : String} {As rest : List Value} {g : JFrame}
    (S : CallFix p m c cc nL s args Ts own) (hM : Met l y ws rm Pc Qc mc ms free) (cw : vx_CSW R s args own index y bytes maxL ret hh ws rm mc ms n) (hp : PreS s H Pc As)
    (hg : g.method = m) (hn : As.length = n) (hsize : g.locals.size = nL) (hstack : g.stack = As.reverse ++ rest) (hW : 2 * g.monitorRoom + (rest.map fun v => v.category).sum ≤ 8) (hdg : decode cc g.pc = .ok (.invokestatic index, 3)) (hf : cells + mc ≤ R.cells ∧ slots + ms ≤ R.slots) :
    va_Run p l e R s m args below meth c H locs cells slots mc ms g rest (Qc As.toArray) (free) := by
  obtain ⟨⟨hrc, hrs, hfr, hlo, hws, hcw⟩, hcode, hini, hy, hlen, hl, hstt⟩ := cw
  have hK : Back l R p e below s args y 3 8 (PreOf R mc ms Pc) (PostOf Qc mc ms free) := va_backW (hh := hh) (bytes := bytes) (maxL := maxL) (ret := ret) hM hp.1 hrc hrs hfr hlo hws hcw (fun a' U hW => word_at hW (Or.inl (by first | rfl | simp [Cond.onTables, Cond.keeps, Cond.steady])) hini)
  obtain ⟨hx, hb, hml, ho, -⟩ := S
  intro T hT X
  obtain ⟨v, vm₁, ⟨U', l2, c2, s2⟩, hW₁, X', ⟨g', mk, t, L, e1, e2, hq, h1, hL, h2, h3⟩, st⟩ := vx_callSW X hx (hh := hh) (bytes := bytes) (maxL := maxL) (ret := ret) ho hl hstt hini hcode hy hK hg (hsize.trans hml.symm) (argsL := As) (rest := rest) (fun sig h => hn.trans (hlen sig h)) hstack hW (by rw [hb]; exact hdg)
    (fun vm₁ hW₁ => ⟨hf.1, hf.2, hp.2 (T.setVm vm₁) hT hW₁⟩)
  dsimp only [Pt.U, Pt.locs, Pt.cells, Pt.slots] at X' e1 e2 h1 h2 h3 st
  subst h1; subst h2; subst h3
  exact ⟨v, (T.setVm vm₁).calling g' mk As.toArray, t, U', L, hT, X', hL, e1, e2, hq, st⟩
/-- not caught here, past rows that name other classes: it goes on to the caller -/
theorem vx_outP {p : Program} {l : Launch} {e : Env} {R : Room} {s : State} {m : MethodId} {args : Array Value} {below : List Frame} {meth : Method} {c : Code} {H : Heap} {locs : List Loc} {cells slots : Nat} {free : Addr → Prop} {ls : Array Slot} {rest : List Value} {Qc : Array Value → State → Outcome → State → Prop} {XC : String → State → State → Prop}
    {pc : Nat} {own E : String} {ce : Cell} {q : Addr} {mc ms : Nat} (hown : s.vm.findClass own = some m.cls) (hlocks : meth.locks = false)
    (hpass : ∀ z ∈ c.exceptionTable.toList, covers z pc = false ∨ (z.catchType ≠ 0 ∧ ∃ nm : String, (Cond.classLink own z.catchType nm).before args s = true ∧ va_Nc E nm s)) (hcell : H[q]? = some ce) (hv : ce.vm = .none) (hcl : s.vm.findClass E = some ce.cls)
    (hx : ∀ t : State, t.heap = H → s.vm.Alike t.vm → XC E s t) (hf : ∀ z ∈ locs, free z.base) (hc : cells ≤ mc) (hs : slots ≤ ms) :
    vx_W p l e R s m args below meth c H locs cells slots (vx_MQ below Qc XC args s mc ms free) (F0 m pc ls rest) q := by
  intro T hT X
  have hpl : e.platform.magicAccessors = ({} : Platform).magicAccessors := by rw [X.admits.platform]
  obtain ⟨vm', hW', X', st⟩ := X.outThrough hlocks q (g := F0 m pc ls rest) rfl rfl rfl (cell := ce) (by rw [hT]; exact hcell) (by rw [hv]; rfl)
    (by obtain ⟨k9, h9, -⟩ := Vm.findClass_spec hcl; exact ⟨k9, h9⟩) (fun z hz => by
      rcases hpass z hz with h | ⟨hz0, nm, hl1, hn1⟩
      · exact Or.inl h
      · obtain ⟨c6, hc6, hcl6⟩ := Cond.classLink_spec hown hl1 e.platform hpl
        obtain ⟨a8, b8, h1, h2, h3⟩ := hn1
        cases Option.some.inj (h1.symm.trans hcl)
        cases Option.some.inj (h2.symm.trans hc6)
        exact Or.inr ⟨hz0, _, hcl6, h3⟩)
  obtain ⟨g₀, hfr⟩ := X'.frames_eq
  have hcell9 : ((T.setVm vm').setFrames (.throwing q :: below)).heap[q]? = some ce := by
    show T.heap[q]? = some ce
    rw [hT]; exact hcell
  have hend : Ended ((T.setVm vm').setFrames (.throwing q :: below)) below (.threw q) := State.frames_setFrames _ (State.cur_lt_of_frames hfr)
  refine ⟨(T.setVm vm').setFrames (.throwing q :: below), ?_, .threw q, X'.here.running, hend, Or.inr ⟨q, rfl, E, ce, locs, hx _ hT (X'.ends _).1.alike, hcell9, hv, hcl, (X'.ends _).1, (X'.ends _).2.mono hc hs, hf⟩⟩
  rw [X.pushThrowing_eq]
  exact st
/-- a thing of a world lies in the heap -/
theorem vx_lt {D : va_G} {cl : List vw_C} {ws : va_W} {H1 : Heap} (h : va_P D cl ws H1) {k : Nat} {q : Nat × va_E} (hk : ws[k]? = some q) : q.1 < H1.size := (h k q hk).lt
end VXS
/-! ===== END ===== -/
/-! ===== BEGIN methods with a table of their own: called by a name, returning or throwing ===== -/
section VXH
/-! vx_backW, vx_callVX, vx_callSX, vx_callVW, vx_runVW, vx_runVX, vx_runSX, vx_ofWH follow the same proofs as their sisters above (Free/Laws.lean, Shelf42/LK1.lean); vx_outP calls Shelf42/NT130.lean (outThrough). -/
section
variable {l : Launch} {R : Room} {p : Program} {e : Env} {below : List Frame} {s : State} {sargs : Array Value} {y : MethodName} {len W9 : Nat}
theorem vx_backW {ws : List Cond} {rm : Room} {Pc : Array Value → State → Prop} {Qc : Array Value → State → Outcome → State → Prop} {XC : String → State → State → Prop} {mc ms : Nat} {free : Addr → Prop} {bytes : ByteArray} {maxL : Nat} {ret : Option FieldType} {hh : List (Nat × Nat × Nat × Nat)}
    (hM : vx_Met l y ws rm Pc Qc XC mc ms free) (hblind : FrameBlind Pc) (hrc : rm.cells = mc) (hrs : rm.slots = ms)
    (hframes : rm.frames + 1 ≤ R.frames) (hlocals : W9 + (maxL + 11) + rm.locals ≤ R.locals)
    (hws : ∀ w ∈ ws, ∀ a' U, s.WarmedH U.vm → w.before a' U = true) (hcode : Cond.codeWith y bytes maxL ret hh ∈ ws) (hinit : ∀ a' U, s.WarmedH U.vm → (Cond.initialized y.cls).before a' U = true) :
    vx_Back l R p e below s sargs y len W9 (PreOf R mc ms Pc) (PostOf Qc mc ms free) (vx_Post XC mc ms free) := by
  intro m meth c A g ig mk a X hg hsize hdg hW hn hp
  have h1 : (headSpec ws rm).pre.before a A.U = true := atoms_intro fun w hw => hws w hw _ _ X.warmed
  have h2 : (Cond.codeWith y bytes maxL ret hh).before a A.U = true := hws _ hcode _ _ X.warmed
  have h3 : (Cond.initialized y.cls).before a A.U = true := hinit _ _ X.warmed
  have h4 : A.cells + (headSpec ws rm).room.cells ≤ R.cells := by rw [show (headSpec ws rm).room.cells = mc from hrc]; exact hp.1
  have h5 : A.slots + (headSpec ws rm).room.slots ≤ R.slots := by rw [show (headSpec ws rm).room.slots = ms from hrs]; exact hp.2.1
  have hPc : Pc a (A.U.calling g mk a) := hblind _ _ _ _ hp.2.2
  obtain ⟨U, Ls, c0, s0⟩ := A
  dsimp only [Pt.U, Pt.locs, Pt.cells, Pt.slots] at h1 h2 h3 h4 h5 X hn hPc ⊢
  obtain ⟨m9, methY, cY, hn9, hmY, hcY, -, hlY, -⟩ := Cond.codeWith_spec h2
  cases Option.some.inj (hn9.symm.trans hn)
  obtain ⟨kY, hkY, -⟩ := className_of_methodNamed hn
  have hinitY : kY.init = .initialized := Cond.initialized_spec (findClass_of_methodNamed hn) hkY h3
  have h : At U g.method c below := by rw [hg]; exact X.here
  have hlocals9 : W9 + (maxL + 11) + (headSpec ws rm).room.locals ≤ R.locals := hlocals
  have happ : (headSpec ws rm).appliesLoose y e.platform (U.calling g mk a) = true :=
    Spec.appliesLoose_calling (g := g) h hdg hn hkY hinitY
      (X.room_calling (g := g) (R' := (headSpec ws rm).room) hsize hmY hcY hframes (by rw [hlY]; omega) h4 h5) h1
  obtain ⟨mid, hmid⟩ := h.above
  have hfr : (U.setTop g).frames = (.java g :: mid) ++ below := by rw [State.frames_setTop' g h.top, hmid]; rfl
  obtain ⟨o, s₂, hsteps, -, hend, hq⟩ := Steps.callFree hM p X.admits X.cas X.clock (acts := []) hfr happ hPc trivial
  have hq' : vx_Q Qc XC mc ms free a (U.calling g mk a) o s₂ := hq
  rw [State.frames_setTop' g h.top] at hend
  obtain ⟨g₀, hg0⟩ := Option.isSome_iff_exists.mp h.top
  obtain ⟨r, hr⟩ := State.topJava?_eq_some.mp hg0
  have hr' : (({ U with heap := s₂.heap, slotsUsed := s₂.slotsUsed } : State).setVm s₂.vm).frames = .java g₀ :: r := hr
  rcases hq' with ⟨hqc, L, hfe, hL⟩ | ⟨q, rfl, E, ce, L, hx, hce, hcv, hcl, hW₂, hsm, hL⟩
  · obtain ⟨⟨v, rfl⟩, hW₂, e2, q2, q3, q4, q5, q6⟩ := id hfe
    have e3 : s₂ = ({ (U.calling g mk a).setFrames s₂.frames with heap := s₂.heap, slotsUsed := s₂.slotsUsed } : State).setVm s₂.vm := by
      have : s₂ = ({ s₂ with vm := (U.calling g mk a).vm } : State).setVm s₂.vm := rfl
      rw [e2] at this
      exact this
    obtain ⟨c₂, i₂, len₂, hc₂, hd₂, hf₂⟩ := hend
    have hW' : U.WarmedH s₂.vm := hW₂
    have hcc : c₂ = c := by
      have h1 : s₂.code? g.method = U.code? g.method := by
        rw [State.code?_eq, State.code?_eq, hW'.alike.method?]
      exact Option.some.inj (hc₂.symm.trans (h1.trans h.code))
    subst hcc
    have hlen : len₂ = len := by rw [hdg] at hd₂; cases hd₂; rfl
    subst hlen
    have hs₂ : s₂ = (({ U with heap := s₂.heap, slotsUsed := s₂.slotsUsed } : State).setVm s₂.vm).setTop { g with pc := g.pc + len₂, stack := v.toList ++ g.stack } := by
      refine e3.trans ?_
      rw [hf₂, State.calling_eq h.top, State.setFrames_setFrames, State.setTop_of_frames _ hr', hr]
      rfl
    have hsame : U.sameButNew ({ U with heap := s₂.heap, slotsUsed := s₂.slotsUsed } : State) L mc ms := by
      refine ⟨?_, q2, q3, q4, q5, q6⟩
      obtain ⟨t, ht, -⟩ := State.frames_cons hr
      show ({ U with heap := s₂.heap, slotsUsed := s₂.slotsUsed } : State) = { U.setFrames U.frames with heap := s₂.heap, slotsUsed := s₂.slotsUsed }
      rw [State.setFrames_self ht]
    subst hg
    refine Or.inl ⟨v, ⟨(({ U with heap := s₂.heap, slotsUsed := s₂.slotsUsed } : State).setVm s₂.vm), Ls ++ L, c0 + mc, s0 + ms⟩,
      ⟨X.admits, X.cas, X.clock, X.frames, X.room, X.hears, X.method, X.code, (X.here.setHeapUsed s₂.heap s₂.slotsUsed).setVm hW'.alike, X.tail, State.WarmedH.trans X.warmed hW', X.limits, X.bytes, X.same.trans (hsame.setVm s.vm)⟩,
      ⟨g, mk, s₂, L, rfl, rfl, hqc, rfl, hL, rfl, rfl⟩, ?_⟩
    show Steps p.tables e below _ ((({ U with heap := s₂.heap, slotsUsed := s₂.slotsUsed } : State).setVm s₂.vm).setTop { g with pc := g.pc + len₂, stack := v.toList ++ g.stack })
    rw [← hs₂]
    exact hsteps
  · obtain ⟨e2, q2, q3, q4, q5, q6⟩ := id hsm
    have e3 : s₂ = ({ (U.calling g mk a).setFrames s₂.frames with heap := s₂.heap, slotsUsed := s₂.slotsUsed } : State).setVm s₂.vm := by
      have : s₂ = ({ s₂ with vm := (U.calling g mk a).vm } : State).setVm s₂.vm := rfl
      rw [e2] at this
      exact this
    have hf₂ : s₂.frames = .throwing q :: .java g :: U.frames.tail := hend
    have hW' : U.WarmedH s₂.vm := hW₂
    have hs₂ : s₂ = ((({ U with heap := s₂.heap, slotsUsed := s₂.slotsUsed } : State).setVm s₂.vm).setTop g).pushFrame (.throwing q) := by
      refine e3.trans ?_
      rw [hf₂, State.calling_eq h.top, State.setFrames_setFrames, State.pushFrame, State.frames_setTop _ hr', State.setTop_of_frames _ hr', State.setFrames_setFrames, hr]
      rfl
    have hsame : U.sameButNew ({ U with heap := s₂.heap, slotsUsed := s₂.slotsUsed } : State) L mc ms := by
      refine ⟨?_, q2, q3, q4, q5, q6⟩
      obtain ⟨t, ht, -⟩ := State.frames_cons hr
      show ({ U with heap := s₂.heap, slotsUsed := s₂.slotsUsed } : State) = { U.setFrames U.frames with heap := s₂.heap, slotsUsed := s₂.slotsUsed }
      rw [State.setFrames_self ht]
    subst hg
    refine Or.inr ⟨q, ⟨(({ U with heap := s₂.heap, slotsUsed := s₂.slotsUsed } : State).setVm s₂.vm), Ls ++ L, c0 + mc, s0 + ms⟩,
      ⟨X.admits, X.cas, X.clock, X.frames, X.room, X.hears, X.method, X.code, (X.here.setHeapUsed s₂.heap s₂.slotsUsed).setVm hW'.alike, X.tail, State.WarmedH.trans X.warmed hW', X.limits, X.bytes, X.same.trans (hsame.setVm s.vm)⟩,
      ⟨g, mk, s₂, L, E, ce, rfl, rfl, hx, hce, hcv, hcl, rfl, hL, rfl, rfl⟩, ?_⟩
    show Steps p.tables e below _ (((({ U with heap := s₂.heap, slotsUsed := s₂.slotsUsed } : State).setVm s₂.vm).setTop g).pushFrame (.throwing q))
    rw [← hs₂]
    exact hsteps
end
variable {p : Program} {l : Launch} {e : Env} {R : Room} {s : State} {m : MethodId} {args : Array Value} {below : List Frame} {meth : Method} {c : Code} {T : State} {H : Heap} {locs : List Loc} {cells slots : Nat}
theorem vx_callVX (X : Stand p l e R s m args below meth c T locs cells slots) (hexec : p.tables.exec = Jvm.exec) {own C : String} {index : Nat} {y : MethodName} {bytes : ByteArray} {maxL : Nat} {ret : Option FieldType} {hh : List (Nat × Nat × Nat × Nat)}
    (hown : s.vm.findClass own = some m.cls) (hlink : (Cond.methodLink own index y).before args s = true) (hinst : (Cond.instanceMethod y).before args s = true) (hsel : (Cond.selects C y y).before args s = true)
    (hcode : (Cond.codeWith y bytes maxL ret hh).before args s = true) (hy : y.cls ≠ "java/lang/invoke/MethodHandle" ∧ y.cls ≠ "java/lang/invoke/VarHandle")
    {W9 : Nat} {Pre : Pt → Array Value → Prop} {Post : Pt → Array Value → Option Value → Pt → Prop} {PostX : Pt → Array Value → Addr → Pt → Prop} (hK : vx_Back l R p e below s args y 3 W9 Pre Post PostX)
    {b : Addr} {cellB : Cell} (hcell : T.heap[b]? = some cellB) (hobj : cellB.vm.isStatics = false) (hcls : s.vm.findClass C = some cellB.cls)
    {g : JFrame} (hg : g.method = m) (hsize : g.locals.size = c.maxLocals) {argsL rest : List Value} (hlen : ∀ sig, parseMethodDescriptor y.desc = some sig → argsL.length = sig.parameters.length)
    (hstack : g.stack = argsL.reverse ++ .ref b :: rest) (hW : 2 * g.monitorRoom + (rest.map fun v => v.category).sum ≤ W9) (hdg : decode c.code g.pc = .ok (.invokevirtual index, 3))
    (hpre : ∀ vm₁, s.WarmedH vm₁ → Pre ⟨T.setVm vm₁, locs, cells, slots⟩ (Value.ref b :: argsL).toArray) :
    (∃ (v : Option Value) (vm₁ : Vm) (B : Pt), s.WarmedH vm₁ ∧ Stand p l e R s m args below meth c B.U B.locs B.cells B.slots ∧ Post ⟨T.setVm vm₁, locs, cells, slots⟩ (Value.ref b :: argsL).toArray v B ∧
      ∀ target, Steps p.tables e below (B.U.setTop { g with pc := g.pc + 3, stack := v.toList ++ rest }) target → Steps p.tables e below (T.setTop g) target) ∨
    (∃ (q : Addr) (vm₁ : Vm) (B : Pt), s.WarmedH vm₁ ∧ Stand p l e R s m args below meth c B.U B.locs B.cells B.slots ∧ PostX ⟨T.setVm vm₁, locs, cells, slots⟩ (Value.ref b :: argsL).toArray q B ∧
      Steps p.tables e below (T.setTop g) ((B.U.setTop { g with stack := rest }).pushFrame (.throwing q))) := by
  obtain ⟨mk, methM, hnamed, hmethM, hstM, habM⟩ := Cond.instanceMethod_spec hinst
  obtain ⟨m8, methM', cM, hn8, hmethM', -, -, -, -, -, -, hsigM⟩ := Cond.codeWith_spec hcode
  cases Option.some.inj (hn8.symm.trans hnamed)
  cases hmethM.symm.trans hmethM'
  obtain ⟨c2, r2, m2, q1, q2, q3, q4, kP, hkP, hkPi⟩ := Cond.selects_spec hsel
  cases hcls.symm.trans q1
  cases (State.methodFound?_of_named hnamed hy).symm.trans q2
  cases hnamed.symm.trans q3
  have hselP : selectMethod e.platform s.vm cellB.cls mk = .method mk := by rw [Launch.admits_selectMethod X.admits]; exact q4
  obtain ⟨vm₁, X₁, hstep₁⟩ := X.invokevirtual hexec hown hlink hnamed hmethM hstM hkP hkPi hy (a := b) (cell := cellB) hcell
    (fun z h => by rw [h] at hobj; cases hobj) hselP hmethM habM hkP hkPi (g := g) hg (argsL := argsL) (rest := rest) (hlen _ hsigM) hstack hdg
  rcases hK m meth c ⟨T.setVm vm₁, locs, cells, slots⟩ { g with stack := rest } (.invokevirtual index) mk (Value.ref b :: argsL).toArray X₁ hg hsize hdg hW (X₁.named hnamed) (hpre vm₁ X₁.warmed) with ⟨v, B, X', hpost, hsteps⟩ | ⟨q, B, X', hpost, hsteps⟩
  · exact Or.inl ⟨v, vm₁, B, X₁.warmed, X', hpost, fun target h => hstep₁ _ fun acts => by rw [doInvoke_state]; exact hsteps.trans h⟩
  · exact Or.inr ⟨q, vm₁, B, X₁.warmed, X', hpost, hstep₁ _ fun acts => by rw [doInvoke_state]; exact hsteps⟩
theorem vx_callSX (X : Stand p l e R s m args below meth c T locs cells slots) (hexec : p.tables.exec = Jvm.exec) {own : String} {index : Nat} {y : MethodName} {bytes : ByteArray} {maxL : Nat} {ret : Option FieldType} {hh : List (Nat × Nat × Nat × Nat)}
    (hown : s.vm.findClass own = some m.cls) (hlink : (Cond.methodLink own index y).before args s = true) (hstat : (Cond.static y).before args s = true) (hinit : (Cond.initialized y.cls).before args s = true)
    (hcode : (Cond.codeWith y bytes maxL ret hh).before args s = true) (hy : y.cls ≠ "java/lang/invoke/MethodHandle" ∧ y.cls ≠ "java/lang/invoke/VarHandle")
    {W9 : Nat} {Pre : Pt → Array Value → Prop} {Post : Pt → Array Value → Option Value → Pt → Prop} {PostX : Pt → Array Value → Addr → Pt → Prop} (hK : vx_Back l R p e below s args y 3 W9 Pre Post PostX)
    {g : JFrame} (hg : g.method = m) (hsize : g.locals.size = c.maxLocals) {argsL rest : List Value} (hlen : ∀ sig, parseMethodDescriptor y.desc = some sig → argsL.length = sig.parameters.length)
    (hstack : g.stack = argsL.reverse ++ rest) (hW : 2 * g.monitorRoom + (rest.map fun v => v.category).sum ≤ W9) (hdg : decode c.code g.pc = .ok (.invokestatic index, 3))
    (hpre : ∀ vm₁, s.WarmedH vm₁ → Pre ⟨T.setVm vm₁, locs, cells, slots⟩ argsL.toArray) :
    (∃ (v : Option Value) (vm₁ : Vm) (B : Pt), s.WarmedH vm₁ ∧ Stand p l e R s m args below meth c B.U B.locs B.cells B.slots ∧ Post ⟨T.setVm vm₁, locs, cells, slots⟩ argsL.toArray v B ∧
      ∀ target, Steps p.tables e below (B.U.setTop { g with pc := g.pc + 3, stack := v.toList ++ rest }) target → Steps p.tables e below (T.setTop g) target) ∨
    (∃ (q : Addr) (vm₁ : Vm) (B : Pt), s.WarmedH vm₁ ∧ Stand p l e R s m args below meth c B.U B.locs B.cells B.slots ∧ PostX ⟨T.setVm vm₁, locs, cells, slots⟩ argsL.toArray q B ∧
      Steps p.tables e below (T.setTop g) ((B.U.setTop { g with stack := rest }).pushFrame (.throwing q))) := by
  obtain ⟨mk, methM, cM, hnamed, hmethM, -, -, -, -, -, -, hsigM⟩ := Cond.codeWith_spec hcode
  have hstatic : methM.isStatic = true := Cond.static_spec hnamed hmethM hstat
  obtain ⟨kP, hkP, -⟩ := className_of_methodNamed hnamed
  have hinitP : kP.init = .initialized := Cond.initialized_spec (findClass_of_methodNamed hnamed) hkP hinit
  obtain ⟨vm₁, X₁, hstep₁⟩ := X.invokestatic hexec hown hlink hnamed hmethM hstatic hkP hinitP hy (g := g) hg (argsL := argsL) (rest := rest) (hlen _ hsigM) hstack hdg
  rcases hK m meth c ⟨T.setVm vm₁, locs, cells, slots⟩ { g with stack := rest } (.invokestatic index) mk argsL.toArray X₁ hg hsize hdg hW (X₁.named hnamed) (hpre vm₁ X₁.warmed) with ⟨v, B, X', hpost, hsteps⟩ | ⟨q, B, X', hpost, hsteps⟩
  · exact Or.inl ⟨v, vm₁, B, X₁.warmed, X', hpost, fun target h => hstep₁ _ fun acts => by rw [doInvoke_state]; exact hsteps.trans h⟩
  · exact Or.inr ⟨q, vm₁, B, X₁.warmed, X', hpost, hstep₁ _ fun acts => by rw [doInvoke_state]; exact hsteps⟩
theorem vx_callVW (X : Stand p l e R s m args below meth c T locs cells slots) (hexec : p.tables.exec = Jvm.exec) {own C : String} {index : Nat} {y : MethodName} {bytes : ByteArray} {maxL : Nat} {ret : Option FieldType} {hh : List (Nat × Nat × Nat × Nat)}
    (hown : s.vm.findClass own = some m.cls) (hlink : (Cond.methodLink own index y).before args s = true) (hinst : (Cond.instanceMethod y).before args s = true) (hsel : (Cond.selects C y y).before args s = true)
    (hcode : (Cond.codeWith y bytes maxL ret hh).before args s = true) (hy : y.cls ≠ "java/lang/invoke/MethodHandle" ∧ y.cls ≠ "java/lang/invoke/VarHandle")
    {W9 : Nat} {Pre : Pt → Array Value → Prop} {Post : Pt → Array Value → Option Value → Pt → Prop} (hK : Back l R p e below s args y 3 W9 Pre Post)
    {b : Addr} {cellB : Cell} (hcell : T.heap[b]? = some cellB) (hobj : cellB.vm.isStatics = false) (hcls : s.vm.findClass C = some cellB.cls)
    {g : JFrame} (hg : g.method = m) (hsize : g.locals.size = c.maxLocals) {argsL rest : List Value} (hlen : ∀ sig, parseMethodDescriptor y.desc = some sig → argsL.length = sig.parameters.length)
    (hstack : g.stack = argsL.reverse ++ .ref b :: rest) (hW : 2 * g.monitorRoom + (rest.map fun v => v.category).sum ≤ W9) (hdg : decode c.code g.pc = .ok (.invokevirtual index, 3))
    (hpre : ∀ vm₁, s.WarmedH vm₁ → Pre ⟨T.setVm vm₁, locs, cells, slots⟩ (Value.ref b :: argsL).toArray) :
    ∃ (v : Option Value) (vm₁ : Vm) (B : Pt), s.WarmedH vm₁ ∧ Stand p l e R s m args below meth c B.U B.locs B.cells B.slots ∧ Post ⟨T.setVm vm₁, locs, cells, slots⟩ (Value.ref b :: argsL).toArray v B ∧
      ∀ target, Steps p.tables e below (B.U.setTop { g with pc := g.pc + 3, stack := v.toList ++ rest }) target → Steps p.tables e below (T.setTop g) target := by
  obtain ⟨mk, methM, hnamed, hmethM, hstM, habM⟩ := Cond.instanceMethod_spec hinst
  obtain ⟨m8, methM', cM, hn8, hmethM', -, -, -, -, -, -, hsigM⟩ := Cond.codeWith_spec hcode
  cases Option.some.inj (hn8.symm.trans hnamed)
  cases hmethM.symm.trans hmethM'
  obtain ⟨c2, r2, m2, q1, q2, q3, q4, kP, hkP, hkPi⟩ := Cond.selects_spec hsel
  cases hcls.symm.trans q1
  cases (State.methodFound?_of_named hnamed hy).symm.trans q2
  cases hnamed.symm.trans q3
  have hselP : selectMethod e.platform s.vm cellB.cls mk = .method mk := by rw [Launch.admits_selectMethod X.admits]; exact q4
  obtain ⟨vm₁, X₁, hstep₁⟩ := X.invokevirtual hexec hown hlink hnamed hmethM hstM hkP hkPi hy (a := b) (cell := cellB) hcell
    (fun z h => by rw [h] at hobj; cases hobj) hselP hmethM habM hkP hkPi (g := g) hg (argsL := argsL) (rest := rest) (hlen _ hsigM) hstack hdg
  obtain ⟨v, B, X', hpost, hsteps⟩ := hK m meth c ⟨T.setVm vm₁, locs, cells, slots⟩ { g with stack := rest } (.invokevirtual index) mk (Value.ref b :: argsL).toArray X₁ hg hsize hdg hW (X₁.named hnamed) (hpre vm₁ X₁.warmed)
  exact ⟨v, vm₁, B, X₁.warmed, X', hpost, fun target h => hstep₁ _ fun acts => by rw [doInvoke_state]; exact hsteps.trans h⟩
abbrev vx_CVW (R : Room) (s : State) (args : Array Value) (own C : String) (index : Nat) (y : MethodName) (bytes : ByteArray) (maxL : Nat) (ret : Option FieldType) (hh : List (Nat × Nat × Nat × Nat)) (ws : List Cond) (rm : Room) (mc ms n : Nat) : Prop :=
  (rm.cells = mc ∧ rm.slots = ms ∧ rm.frames + 1 ≤ R.frames ∧ 8 + (maxL + 11) + rm.locals ≤ R.locals ∧ (∀ w ∈ ws, ∀ (a' : Array Value) (U : State), s.WarmedH U.vm → w.before a' U = true) ∧ Cond.codeWith y bytes maxL ret hh ∈ ws) ∧
  (Cond.codeWith y bytes maxL ret hh).before args s = true ∧ (Cond.initialized y.cls).before args s = true ∧ (y.cls ≠ "java/lang/invoke/MethodHandle" ∧ y.cls ≠ "java/lang/invoke/VarHandle") ∧
  (∀ sig, parseMethodDescriptor y.desc = some sig → n = sig.parameters.length) ∧ (Cond.methodLink own index y).before args s = true ∧ (Cond.instanceMethod y).before args s = true ∧ (Cond.selects C y y).before args s = true
theorem vx_cwVW {own C : String} {index maxL mc ms : Nat} {y : MethodName} {bytes : ByteArray} {ret : Option FieldType} {hh : List (Nat × Nat × Nat × Nat)} {Ts ws ws' : List Cond} {rm : Room} (n : Nat) (ht : ∀ w ∈ Ts, w.before args s = true) (hT : GoodIn Ts (wsV own index C y ws)) (hw : ws = Cond.codeWith y bytes maxL ret hh :: ws') (hrc : rm.cells = mc) (hrs : rm.slots = ms)
    (hd : y.cls = C ∧ y.cls ≠ "java/lang/invoke/MethodHandle" ∧ y.cls ≠ "java/lang/invoke/VarHandle" ∧ (parseMethodDescriptor y.desc).map (fun d => d.parameters.length) = some n) (hR : rm.frames + 1 ≤ R.frames ∧ 8 + (maxL + 11) + rm.locals ≤ R.locals) :
    vx_CVW R s args own C index y bytes maxL ret hh ws rm mc ms n := by
  obtain ⟨hC, hd⟩ := hd
  subst hC
  have ok : ∀ w ∈ wsV own index y.cls y ws, w.before args s = true := fun w h => ht w (hT w h).1
  have hG : GoodIn Ts ws := fun w h => hT w (by unfold wsV; exact List.mem_append_right _ h)
  have hc : Cond.codeWith y bytes maxL ret hh ∈ ws := by rw [hw]; exact List.mem_cons_self
  refine ⟨⟨hrc, hrs, hR.1, hR.2, pay_in ht hG, hc⟩, ht _ (hG _ hc).1, ok _ (by simp [wsV]), ⟨hd.1, hd.2.1⟩, fun sig h => ?_, ok _ (by simp [wsV]), ok _ (by simp [wsV]), ok _ (by simp [wsV])⟩
  have h2 := hd.2.2
  rw [h] at h2
  exact (Option.some.inj h2).symm
theorem vx_runVW {y : MethodName} {bytes cc : ByteArray} {maxL nL mc ms n index : Nat} {ret : Option FieldType} {hh : List (Nat × Nat × Nat × Nat)} {ws : List Cond} {rm : Room} {Pc : Array Value → State → Prop} {Qc : Array Value → State → Outcome → State → Prop} {free : Addr → Prop} {Ts : List Cond} {own C : String} {b : Addr} {As rest : List Value} {g : JFrame}
    (S : CallFix p m c cc nL s args Ts own) (hM : Met l y ws rm Pc Qc mc ms free) (cw : vx_CVW R s args own C index y bytes maxL ret hh ws rm mc ms n) (hp : PreV s H C b Pc As)
    (hg : g.method = m) (hn : As.length = n) (hsize : g.locals.size = nL) (hstack : g.stack = As.reverse ++ .ref b :: rest) (hW : 2 * g.monitorRoom + (rest.map fun v => v.category).sum ≤ 8) (hdg : decode cc g.pc = .ok (.invokevirtual index, 3)) (hf : cells + mc ≤ R.cells ∧ slots + ms ≤ R.slots) :
    va_Run p l e R s m args below meth c H locs cells slots mc ms g rest (Qc (Value.ref b :: As).toArray) free := by
  obtain ⟨⟨hrc, hrs, hfr, hlo, hws, hcw⟩, hcode, hini, hy, hlen, hl, hin, hse⟩ := cw
  have hK : Back l R p e below s args y 3 8 (PreOf R mc ms Pc) (PostOf Qc mc ms free) := va_backW (hh := hh) (bytes := bytes) (maxL := maxL) (ret := ret) hM hp.1 hrc hrs hfr hlo hws hcw (fun a' U hW => word_at hW (Or.inl (by first | rfl | simp [Cond.onTables, Cond.keeps, Cond.steady])) hini)
  obtain ⟨hx, hb, hml, ho, -⟩ := S
  obtain ⟨-, ⟨cellB, hcB, hoB, hclB⟩, hPc⟩ := hp
  intro T hT X
  obtain ⟨v, vm₁, ⟨U', l2, c2, s2⟩, hW₁, X', ⟨g', mk, t, L, e1, e2, hq, h1, hL, h2, h3⟩, st⟩ := vx_callVW X hx (C := C) (hh := hh) (bytes := bytes) (maxL := maxL) (ret := ret) ho hl hin hse hcode hy hK (by rw [hT]; exact hcB) hoB hclB hg (hsize.trans hml.symm) (argsL := As) (rest := rest) (fun sig h => hn.trans (hlen sig h)) hstack hW (by rw [hb]; exact hdg)
    (fun vm₁ hW₁ => ⟨hf.1, hf.2, hPc (T.setVm vm₁) hT hW₁⟩)
  dsimp only [Pt.U, Pt.locs, Pt.cells, Pt.slots] at X' e1 e2 h1 h2 h3 st
  subst h1; subst h2; subst h3
  exact ⟨v, (T.setVm vm₁).calling g' mk (Value.ref b :: As).toArray, t, U', L, hT, X', hL, e1, e2, hq, st⟩
section
variable {y : MethodName} {bytes cc : ByteArray} {maxL nL mc ms n index : Nat} {ret : Option FieldType} {ws : List Cond} {rm : Room} {Pc : Array Value → State → Prop} {Qc : Array Value → State → Outcome → State → Prop} {XC : String → State → State → Prop} {free : Addr → Prop} {Ts : List Cond} {own C : String} {b : Addr} {As rest : List Value} {g : JFrame}
theorem vx_runVX {hh : List (Nat × Nat × Nat × Nat)} (S : CallFix p m c cc nL s args Ts own) (hM : vx_Met l y ws rm Pc Qc XC mc ms free) (cw : vx_CVW R s args own C index y bytes maxL ret hh ws rm mc ms n) (hp : PreV s H C b Pc As)
    (hg : g.method = m) (hn : As.length = n) (hsize : g.locals.size = nL) (hstack : g.stack = As.reverse ++ .ref b :: rest) (hW : 2 * g.monitorRoom + (rest.map fun v => v.category).sum ≤ 8) (hdg : decode cc g.pc = .ok (.invokevirtual index, 3)) (hf : cells + mc ≤ R.cells ∧ slots + ms ≤ R.slots) :
    vx_Run p l e R s m args below meth c H locs cells slots mc ms g rest (Qc (Value.ref b :: As).toArray) XC free := by
  obtain ⟨⟨hrc, hrs, hfr, hlo, hws, hcw⟩, hcode, hini, hy, hlen, hl, hin, hse⟩ := cw
  have hK : vx_Back l R p e below s args y 3 8 (PreOf R mc ms Pc) (PostOf Qc mc ms free) (vx_Post XC mc ms free) := vx_backW (hh := hh) (bytes := bytes) (maxL := maxL) (ret := ret) hM hp.1 hrc hrs hfr hlo hws hcw (fun a' U hW => word_at hW (Or.inl (by first | rfl | simp [Cond.onTables, Cond.keeps, Cond.steady])) hini)
  obtain ⟨hx, hb, hml, ho, -⟩ := S
  obtain ⟨-, ⟨cellB, hcB, hoB, hclB⟩, hPc⟩ := hp
  intro T hT X
  rcases vx_callVX X hx (C := C) (hh := hh) (bytes := bytes) (maxL := maxL) (ret := ret) ho hl hin hse hcode hy hK (by rw [hT]; exact hcB) hoB hclB hg (hsize.trans hml.symm) (argsL := As) (rest := rest) (fun sig h => hn.trans (hlen sig h)) hstack hW (by rw [hb]; exact hdg)
    (fun vm₁ hW₁ => ⟨hf.1, hf.2, hPc (T.setVm vm₁) hT hW₁⟩) with ⟨v, vm₁, ⟨U', l2, c2, s2⟩, hW₁, X', ⟨g', mk, t, L, e1, e2, hq, h1, hL, h2, h3⟩, st⟩ | ⟨q, vm₁, ⟨U', l2, c2, s2⟩, hW₁, X', ⟨g', mk, t, L, E, ce, e1, e2, hq, hce, hcv, hcl, h1, hL, h2, h3⟩, st⟩
  · dsimp only [Pt.U, Pt.locs, Pt.cells, Pt.slots] at X' e1 e2 h1 h2 h3 st
    subst h1; subst h2; subst h3
    exact Or.inl ⟨v, (T.setVm vm₁).calling g' mk (Value.ref b :: As).toArray, t, U', L, hT, X', hL, e1, e2, hq, st⟩
  · dsimp only [Pt.U, Pt.locs, Pt.cells, Pt.slots] at X' e1 e2 h1 h2 h3 st hcl
    subst h1; subst h2; subst h3
    exact Or.inr ⟨q, (T.setVm vm₁).calling g' mk (Value.ref b :: As).toArray, t, U', L, E, ce, hT, X', hL, e1, e2, hq, hce, hcv, vx_cls hW₁ hcl, st⟩
theorem vx_runSX {hh : List (Nat × Nat × Nat × Nat)} (S : CallFix p m c cc nL s args Ts own) (hM : vx_Met l y ws rm Pc Qc XC mc ms free) (cw : vx_CSW R s args own index y bytes maxL ret hh ws rm mc ms n) (hp : PreS s H Pc As)
    (hg : g.method = m) (hn : As.length = n) (hsize : g.locals.size = nL) (hstack : g.stack = As.reverse ++ rest) (hW : 2 * g.monitorRoom + (rest.map fun v => v.category).sum ≤ 8) (hdg : decode cc g.pc = .ok (.invokestatic index, 3)) (hf : cells + mc ≤ R.cells ∧ slots + ms ≤ R.slots) :
    vx_Run p l e R s m args below meth c H locs cells slots mc ms g rest (Qc As.toArray) XC free := by
  obtain ⟨⟨hrc, hrs, hfr, hlo, hws, hcw⟩, hcode, hini, hy, hlen, hl, hstt⟩ := cw
  have hK : vx_Back l R p e below s args y 3 8 (PreOf R mc ms Pc) (PostOf Qc mc ms free) (vx_Post XC mc ms free) := vx_backW (hh := hh) (bytes := bytes) (maxL := maxL) (ret := ret) hM hp.1 hrc hrs hfr hlo hws hcw (fun a' U hW => word_at hW (Or.inl (by first | rfl | simp [Cond.onTables, Cond.keeps, Cond.steady])) hini)
  obtain ⟨hx, hb, hml, ho, -⟩ := S
  intro T hT X
  rcases vx_callSX X hx (hh := hh) (bytes := bytes) (maxL := maxL) (ret := ret) ho hl hstt hini hcode hy hK hg (hsize.trans hml.symm) (argsL := As) (rest := rest) (fun sig h => hn.trans (hlen sig h)) hstack hW (by rw [hb]; exact hdg)
    (fun vm₁ hW₁ => ⟨hf.1, hf.2, hp.2 (T.setVm vm₁) hT hW₁⟩) with ⟨v, vm₁, ⟨U', l2, c2, s2⟩, hW₁, X', ⟨g', mk, t, L, e1, e2, hq, h1, hL, h2, h3⟩, st⟩ | ⟨q, vm₁, ⟨U', l2, c2, s2⟩, hW₁, X', ⟨g', mk, t, L, E, ce, e1, e2, hq, hce, hcv, hcl, h1, hL, h2, h3⟩, st⟩
  · dsimp only [Pt.U, Pt.locs, Pt.cells, Pt.slots] at X' e1 e2 h1 h2 h3 st
    subst h1; subst h2; subst h3
    exact Or.inl ⟨v, (T.setVm vm₁).calling g' mk As.toArray, t, U', L, hT, X', hL, e1, e2, hq, st⟩
  · dsimp only [Pt.U, Pt.locs, Pt.cells, Pt.slots] at X' e1 e2 h1 h2 h3 st hcl
    subst h1; subst h2; subst h3
    exact Or.inr ⟨q, (T.setVm vm₁).calling g' mk As.toArray, t, U', L, E, ce, hT, X', hL, e1, e2, hq, hce, hcv, vx_cls hW₁ hcl, st⟩
end
end VXH
theorem vx_ofWH {l : Launch} {y : MethodName} {ws ws' : List Cond} {rm : Room} {Pc : Array Value → State → Prop} {Qc : Array Value → State → Outcome → State → Prop} {XC : String → State → State → Prop} {mc ms : Nat} {free : Addr → Prop} {cc : ByteArray} {maxL : Nat} {ret : Option FieldType} {hh : List (Nat × Nat × Nat × Nat)}
    (hy : plainName y.cls = true) (hw : ws = Cond.codeWith y cc maxL ret hh :: ws')
    (body : ∀ p e s m args below meth c s₁, BodyLoose p l y (headSpec ws rm) cc maxL ret e s m args below meth c s₁ → c.maxLocals = maxL → Pc args s →
      W p l e (headSpec ws rm).room s m args below meth c s.heap [] 0 0 (vx_MQ below Qc XC args s mc ms free) (entryFrame m args maxL)) : vx_Met l y ws rm Pc Qc XC mc ms free := by
  refine MetFree.of_bodyS (code := cc) (maxLocals := maxL) (ret := ret) hy ?_ ?_
  · intro args s m h hn
    obtain ⟨m9, meth, c, hn9, h1, h2, h3, h4, -, h5, h6, -⟩ := Cond.codeWith_spec (atoms_spec (ws := ws) h _ (by rw [hw]; exact List.mem_cons_self))
    cases hn.symm.trans hn9
    exact ⟨meth, c, h1, h2, h3, h4, h5, h6⟩
  · intro p e s m args below meth c s₁ B hml hP _
    have hh0 : s₁.heap = s.heap := by rw [B.state]; rfl
    obtain ⟨t, a1, o, b1, b2, b3⟩ := body p e s m args below meth c s₁ B hml hP s₁ hh0 (Stand.of_body B)
    exact ⟨t, o, a1, b1, b2, b3⟩
/-! ===== END ===== -/

/-! ===== BEGIN what the machine throws by itself, no traces kept ===== -/
section VXM
set_option maxHeartbeats 1000000 in
/-- the machine throws cls with the message text, no traces kept: from its note over the frame g to 'throwing' over the same frame (follows the proofs of Stand.vmThrowsMessage, Shelf/KitTracedVmS.lean, and Stand.throwsMessageColdBareV, StandMessageColdV.lean, without the step out of the frame) -/
theorem vx_vmAt {p : Program} {l : Launch} {e : Env} {R : Room} {s : State} {m₀ : MethodId} {args : Array Value} {below : List Frame} {meth : Method} {c : Code} {W : State} {locs : List Loc} {cells slots : Nat}
    (X : Stand p l e R s m₀ args below meth c W locs cells slots) (hexec : p.tables.exec = Jvm.exec) (htr : e.platform.stackTraces = false) {cls : String} {names : List String} {text : String}
    (hcls : Bundle.fit cls = true) (hnames : ∀ n ∈ names, Bundle.fit n = true) (hsoe : (cls == "java/lang/StackOverflowError") = false) (hoom : (cls == "java/lang/OutOfMemoryError") = false)
    (h : ∀ a ∈ Bundle.messageArmAtoms cls names, a.before args s = true)
    (hlocs : ∀ x ∈ locs, ∀ cell, s.heap[x.base]? = some cell → cell.vm.isStatics = false)
    (htext : (text == notModelled) = false) (hlimit : ¬ (stringBytes (stringToUtf16 text)).size > e.platform.arrayLengthLimit) (hheap : ¬ (stringBytes (stringToUtf16 text)).size * componentBytes .byte > e.platform.maxHeapBytes)
    {g : JFrame} (hg : g.method = m₀) (hsize : g.locals.size = c.maxLocals)
    (hRframes : names.length + 4 < R.frames) (hRlocals : 2 * g.monitorRoom + (g.stack.map fun v => v.category).sum + 10240 ≤ R.locals) (hshort : 13 * names.length + 55 ≤ 10240)
    (hRcells : cells + 3 ≤ R.cells) (hRslots : slots + ((stringBytes (stringToUtf16 text)).size + 4 + 6) ≤ R.slots) (hlocks : meth.locks = false) :
    ∃ (S : State) (q : Addr) (ce : Cell), (∀ target, Steps p.tables e below ((S.setTop g).pushFrame (.throwing q)) target → Steps p.tables e below ((W.setTop g).pushFrame (.throwNew cls (some text) none)) target) ∧
      Stand p l e R s m₀ args below meth c S locs (cells + 3) (slots + ((stringBytes (stringToUtf16 text)).size + 4 + 6)) ∧ S.heap[q]? = some ce ∧ s.vm.findClass cls = some ce.cls ∧ ce.vm = .none := by
  have howns : e.platform.frameOwnsMonitors = true := by rw [X.admits.platform]
  have hfin : e.platform.finalization = false := by rw [X.admits.platform]
  have hpl : e.platform.magicAccessors = ({} : Platform).magicAccessors := by rw [X.admits.platform]
  have a : ∀ x, x ∈ Bundle.messageArmAtoms cls names → x.holds args s none s [] = true := fun x hx => h x hx
  obtain ⟨T, Z0, L, -, Y⟩ := ThrowableC.of_atoms (args := args) howns hfin hpl (fun x hx => h x (by simp [Bundle.messageArmAtoms, hx]))
  obtain ⟨Z, M, LZ, LM, hnZ⟩ := Init0T.ofS_atoms (args := args) hpl L Y (fun x hx => h x (by simp [Bundle.messageArmAtoms, hx]))
  obtain ⟨P1, Ps, hlen, L1, hL, hP1m, hlink1, hlink⟩ := Bundle.chainS (args := args) hpl hnZ names cls hcls hnames (fun x hx => h x (by simp [Bundle.messageArmAtoms, hx]))
  obtain ⟨Zs, LZs, hn4, hfitv, hfitc⟩ := StringT.of_atoms (args := args) (fun x hx => h x (by simp [Bundle.messageArmAtoms, hx]))
  have hfound : s.vm.findClass cls = some P1.m.cls := findClass_of_methodNamed hP1m
  obtain ⟨c1, kX, hc1, hk, hord, -, -, hn6⟩ := Cond.instantiable_spec (a (.instantiable cls 6) (by simp [Bundle.messageArmAtoms]))
  cases Option.some.inj (hc1.symm.trans hfound)
  have hinit := Cond.initialized_spec hfound hk (a (.initialized cls) (by simp [Bundle.messageArmAtoms]))
  have hctor : kX.findMethod "<init>" "(Ljava/lang/String;)V" = some P1.m.idx := findMethod_of_methodNamed hP1m hk
  have hsel0 : selectMethod e.platform s.vm P1.m.cls T.fill0 = .method T.fill0 := by
    obtain ⟨c2, r2, m2, q1, q2, q3, q4, -⟩ := Cond.selects_spec (a (.selects cls Bundle.tFill0 Bundle.tFill0) (by simp [Bundle.messageArmAtoms]))
    cases Option.some.inj (q1.symm.trans hfound)
    cases Option.some.inj (q2.symm.trans (State.methodFound?_of_named Y.fill0 (by decide)))
    cases Option.some.inj (q3.symm.trans Y.fill0)
    rw [Launch.admits_selectMethod X.admits]; exact q4
  have hselF : selectMethod e.platform s.vm P1.m.cls T.fill = .method T.fill := by
    obtain ⟨c2, r2, m2, q1, q2, q3, q4, -⟩ := Cond.selects_spec (a (.selects cls Bundle.tFill Bundle.tFill) (by simp [Bundle.messageArmAtoms]))
    cases Option.some.inj (q1.symm.trans hfound)
    cases Option.some.inj (q2.symm.trans (State.methodFound?_of_named Y.fill (by decide)))
    cases Option.some.inj (q3.symm.trans Y.fill)
    rw [Launch.admits_selectMethod X.admits]; exact q4
  obtain ⟨cellS0, hcS0, hiss⟩ := Y.statics
  obtain ⟨u0, hu0⟩ := Cond.staticRefV Y.unassigned L.unassignedStatic L.statics hcS0 hiss (a (.isRef (.static Bundle.tN "UNASSIGNED_STACK" Bundle.steD)) (by simp [Bundle.messageArmAtoms]))
  obtain ⟨sen, hsen⟩ := Cond.staticRefV Y.sentinel L.sentinelStatic L.statics hcS0 hiss (a (.isRef (.static Bundle.tN "SUPPRESSED_SENTINEL" Bundle.listD)) (by simp [Bundle.messageArmAtoms]))
  obtain ⟨ci198, i198, fB, hk198, hg198, ha198, hsB, -, hnB, htB, hffB⟩ := Cond.ownField (t := .object "java/lang/Object") Y.found L.cls (by decide +kernel) (a (.fieldLink Bundle.tN 198 Bundle.tN "backtrace" "Ljava/lang/Object;") (by simp [Bundle.messageArmAtoms])) (a (.lays Bundle.tN Bundle.tN "backtrace" "Ljava/lang/Object;") (by simp [Bundle.messageArmAtoms])) e.platform hpl
  obtain ⟨cellS, hcS', heS, -, hkeep⟩ := X.same.2.2.2.2.2 T.aS cellS0 hcS0
  have hcellS : W.heap[T.aS]? = some cellS := hcS'
  have hout' : ∀ i, (⟨T.aS, i⟩ : Loc) ∉ locs := fun i hmem => by
    have := hlocs _ hmem cellS0 hcS0
    rw [hiss] at this; cases this
  have hknownS : cellS.vm ≠ .unknown := by
    rw [heS]; intro hu
    rw [show cellS0.vm = .unknown from hu] at hiss
    cases hiss
  have hvU : cellS.slots[T.fUnassigned.slot]? = some u0.v := by rw [hkeep _ (hout' _)]; exact hu0
  have hvSen : cellS.slots[T.fSentinel.slot]? = some sen.v := by rw [hkeep _ (hout' _)]; exact hsen
  obtain ⟨iM, hffM⟩ := Y.msg
  obtain ⟨tyC, dC, hdC, hdnC⟩ := Cond.laysAt hfound hk Y.cause (a (.lays cls Bundle.tN "cause" "Ljava/lang/Throwable;") (by simp [Bundle.messageArmAtoms]))
  obtain ⟨tyS, dS, hdS, hdnS⟩ := Cond.laysAt hfound hk Y.stack (a (.lays cls Bundle.tN "stackTrace" Bundle.steD) (by simp [Bundle.messageArmAtoms]))
  obtain ⟨tyP, dP, hdP, hdnP⟩ := Cond.laysAt hfound hk Y.supp (a (.lays cls Bundle.tN "suppressedExceptions" Bundle.listD) (by simp [Bundle.messageArmAtoms]))
  obtain ⟨tyM, dM, hdM, hdnM⟩ := Cond.laysAt hfound hk hffM (a (.lays cls Bundle.tN "detailMessage" "Ljava/lang/String;") (by simp [Bundle.messageArmAtoms]))
  obtain ⟨tyB, dB, hdB, hdnB⟩ := Cond.laysAt hfound hk hffB (a (.lays cls Bundle.tN "backtrace" "Ljava/lang/Object;") (by simp [Bundle.messageArmAtoms]))
  have bC := Cond.laysApart hdB hdC hdnB hdnC (by rw [hnB, Y.causeName]; decide)
  have bS := Cond.laysApart hdB hdS hdnB hdnS (by rw [hnB, Y.stackName]; decide)
  have bP := Cond.laysApart hdB hdP hdnB hdnP (by rw [hnB, Y.suppName]; decide)
  have hbk : ((preparedCellV T.toThrowableT (freshCell P1.m.cls kX) (W.heap.size + 2) u0 sen).withEntry W.cur).slots[fB.slot]? = some .null := by
    have := fresh_default (c := P1.m.cls) tyB
    rw [htB] at this
    simpa [preparedCellV, Cell.setSlot, Cell.withEntry, Array.getElem?_setIfInBounds, bC, bS, bP, bC.symm, bS.symm, bP.symm, defaultValue] using this
  have tkC := Takes.of_laid (v := .ref (W.heap.size + 2)) hk hord tyC (by rw [Y.causeType]; rfl)
  have tkS := Takes.of_laid (v := u0.v) hk hord tyS (by rw [Y.stackType]; exact fits_refV_array _ u0)
  have tkP := Takes.of_laid (v := sen.v) hk hord tyP (by rw [Y.suppType]; exact fits_refV_object _ sen)
  have tkM := Takes.of_laid (v := .ref (W.heap.size + 1)) hk hord tyM (by rw [Y.msgType]; rfl)
  have hskip : SkipFacts T e.platform s (fun u => u) u0 ((preparedCellV T.toThrowableT (freshCell P1.m.cls kX) (W.heap.size + 2) u0 sen).withEntry W.cur) := ⟨{ ci198 := ci198, i198 := i198, fBack := fB }, ⟨hk198, hg198, ha198, hsB⟩, hbk, fun _ _ => rfl⟩
  have h0 : At W g.method c below := by rw [hg]; exact X.here
  obtain ⟨hbeyond, hfreeW⟩ := X.vmMayThrow hsize (.throwNew cls (some text) none) (fun f hf => by cases hf) rfl hRlocals
  have hfr' : W.frames.length + Ps.length + 4 < (e.platform.stackLimits W.me).1 := by have := X.framesAbove hRframes; omega
  have hwd' : (stackUse (.java g :: W.frames.tail)).2 + 13 * Ps.length + 55 ≤ (e.platform.stackLimits W.me).2 := by have := X.stackAbove hsize (K := 13 * Ps.length + 55) (by omega); omega
  have hslots : W.slotsUsed + (stringBytes (stringToUtf16 text)).size + Zs.kS.instanceTypes.size + kX.instanceTypes.size ≤ e.platform.maxSlots := by
    have := X.slotsAbove hRslots
    rw [hn4, hn6]
    omega
  obtain ⟨vm', hW', st⟩ := Steps.vmThrowsMessageColdByV p (s₀ := s) (S := W) (g := g) h0 hexec T L Z LZ M LM X.warmed (t := W.cur) rfl Zs LZs P1 L1 Ps hL hlink1 hlink hsoe hoom hfound hk hinit hord hctor
    (Launch.admits_hotImplicitExceptions X.admits) hbeyond hfreeW htext hlimit hheap (X.cellsAbove hRcells) hslots (hfitv _) (hfitc _)
    (Nn := fun u => u) heapOnly_id (fun _ _ => rfl) (fun _ => rfl) (fun u x y => setCell_twice _ _ _ _) (fun _ => Nat.le_refl _) (cN := ((preparedCellV T.toThrowableT (freshCell P1.m.cls kX) (W.heap.size + 2) u0 sen).withEntry W.cur))
    hsel0 hcellS hknownS hvU tkS (fun _ hu => hu) (fun _ hu => hu) rfl rfl rfl (by simp [preparedCellV, Cell.setSlot, Cell.withEntry]) hskip (fun _ _ hA hW _ hroom _ hrest => L.nativeOff p htr hA hW hroom hrest) hselF hvSen tkC tkP tkM Y.objLocals rfl hfr' hwd'
  rw [plainBareV_eq T.toThrowableT (W.heap.size + 2) u0 sen (.ref (W.heap.size + 1)) W.cur rfl rfl] at st
  obtain ⟨-, -, w3, w4, -, -, -⟩ := withThrown_facts e.platform W Zs text P1.m.cls kX
  have X3 := ((X.pushed (bytesOf Zs.cB (stringToUtf16 text))).pushed (stringAt Zs.cS Zs.kS Zs.fv Zs.fc (stringToUtf16 text) W.heap.size)).pushed (freshCell P1.m.cls kX)
  rw [← withString_eq] at X3
  have X4 := X3.noted hW'
  have ha : (W.heap.size + 2) < ((withThrown W Zs text P1.m.cls kX).setVm vm').heap.size := by show _ < (withThrown W Zs text P1.m.cls kX).heap.size; rw [w3]; omega
  have hcell : ((withThrown W Zs text P1.m.cls kX).setVm vm').heap[(W.heap.size + 2)]? = some (freshCell P1.m.cls kX) := w4
  have X5 := ((((X4.stored hcell T.fCause.slot (.ref (W.heap.size + 2))).storedAgain ha T.fStack.slot u0.v).storedAgain ha T.fSupp.slot sen.v).storedAgain ha T.fStack.slot u0.v).storedAgain ha T.fMsg.slot (.ref (W.heap.size + 1))
  obtain ⟨g₁, hfrM⟩ := X5.frames_eq
  have hU : ((((withThrown W Zs text P1.m.cls kX).setVm vm').setCell (W.heap.size + 2) (plainBareV T.toThrowableT (freshCell P1.m.cls kX) (W.heap.size + 2) u0 sen (.ref (W.heap.size + 1)))).setTop g).pushFrame (.throwing (W.heap.size + 2)) = (((withThrown W Zs text P1.m.cls kX).setVm vm').setCell (W.heap.size + 2) (plainBareV T.toThrowableT (freshCell P1.m.cls kX) (W.heap.size + 2) u0 sen (.ref (W.heap.size + 1)))).setFrames (.throwing (W.heap.size + 2) :: .java g :: below) := by
    rw [State.pushFrame, State.frames_setTop _ hfrM, State.setTop_of_frames _ hfrM, State.setFrames_setFrames]
  have b1 : (bytesOf Zs.cB (stringToUtf16 text)).slots.size = (stringBytes (stringToUtf16 text)).size := by
    rw [(Cell.writeAll_facts _ _).2.2]; simp [bytes0]
  have b2 : (stringAt Zs.cS Zs.kS Zs.fv Zs.fc (stringToUtf16 text) W.heap.size).slots.size = 4 := by simp [string0, Cell.setSlot, hn4]
  have b3 : (freshCell P1.m.cls kX).slots.size = 6 := by simp [hn6]
  rw [b1, b2, b3] at X5
  have e9 : slots + (stringBytes (stringToUtf16 text)).size + 4 + 6 = slots + ((stringBytes (stringToUtf16 text)).size + 4 + 6) := by omega
  rw [e9] at X5
  simp only [List.append_assoc, List.cons_append, List.nil_append] at X5
  refine ⟨((withThrown W Zs text P1.m.cls kX).setVm vm').setCell (W.heap.size + 2) (plainBareV T.toThrowableT (freshCell P1.m.cls kX) (W.heap.size + 2) u0 sen (.ref (W.heap.size + 1))), W.heap.size + 2, _, fun target ht => st _ (by rw [X.tail, ← hU]; exact ht),
    X5.forget (fun y hy => ?_), heapAt_setCell_self _ ha, hfound, rfl⟩
  simp only [List.mem_cons, List.not_mem_nil, or_false] at hy
  have hge : s.heap.size ≤ W.heap.size := X.same.2.1
  rcases hy with rfl | rfl | rfl | rfl | rfl <;> exact Nat.le_trans hge (Nat.le_add_right _ 2)
set_option maxHeartbeats 1000000 in
/-- the machine throws NullPointerException, no traces kept: from its note over the frame g to 'throwing' over the same frame (follows the proof of Stand.vmThrowsNpe, Shelf42/KT2.lean; throwsNpeColdBareVAt, Shelf42/NT91.lean, called) -/
theorem vx_npeAt {p : Program} {l : Launch} {e : Env} {R : Room} {s : State} {m₀ : MethodId} {args : Array Value} {below : List Frame} {meth : Method} {c : Code} {W : State} {locs : List Loc} {cells slots : Nat}
    (X : Stand p l e R s m₀ args below meth c W locs cells slots) (hexec : p.tables.exec = Jvm.exec) (htr : e.platform.stackTraces = false) {n : Nat}
    (h : ∀ a ∈ Bundle.npeArmAtoms n, a.before args s = true)
    (hlocs : ∀ x ∈ locs, ∀ cell, s.heap[x.base]? = some cell → cell.vm.isStatics = false)
    {g : JFrame} (hg : g.method = m₀) (hsize : g.locals.size = c.maxLocals)
    (hRframes : 7 < R.frames) (hRlocals : 2 * g.monitorRoom + (g.stack.map fun v => v.category).sum + 10240 ≤ R.locals)
    (hRcells : cells + 1 ≤ R.cells) (hRslots : slots + n ≤ R.slots) (hlocks : meth.locks = false) :
    ∃ (S : State) (q : Addr) (ce : Cell), (∀ target, Steps p.tables e below ((S.setTop g).pushFrame (.throwing q)) target → Steps p.tables e below ((W.setTop g).pushFrame (.throwNew "java/lang/NullPointerException" none none)) target) ∧
      Stand p l e R s m₀ args below meth c S locs (cells + 1) (slots + n) ∧ S.heap[q]? = some ce ∧ s.vm.findClass "java/lang/NullPointerException" = some ce.cls ∧ ce.vm = .none := by
  have howns : e.platform.frameOwnsMonitors = true := by rw [X.admits.platform]
  have hfin : e.platform.finalization = false := by rw [X.admits.platform]
  have hpl : e.platform.magicAccessors = ({} : Platform).magicAccessors := by rw [X.admits.platform]
  have hpl2 : e.platform.arrayCloneIsPublic = true := by rw [X.admits.platform]
  have a' : ∀ x, x ∈ Bundle.npeArmAtoms n → x.holds args s none s [] = true := fun x hx => h x hx
  obtain ⟨T, Z, L, LZ, Y⟩ := ThrowableC.of_atoms (args := args) howns hfin hpl (fun x hx => h x (by simp [Bundle.npeArmAtoms, hx]))
  obtain ⟨N, LN, hcN, hnNF, hordN, hffS⟩ := NpeC.of_atoms (args := args) hpl hpl2 L Y (fun x hx => h x (by simp [Bundle.npeArmAtoms, hx]))
  obtain ⟨P1, L1, hP1m, hP1s⟩ := PassC.of_atoms (args := args) (s := s) hpl (X := Bundle.nN) (Y := Bundle.rN) (by decide) (by decide) LibCode.NullPointerException.Init0.at_0 LibCode.NullPointerException.Init0.at_1 LibCode.NullPointerException.Init0.at_4 (fun x hx => h x (by simp [Bundle.npeArmAtoms, hx]))
  obtain ⟨PR, LR, hPRm, hPRs⟩ := PassC.of_atoms (args := args) (s := s) hpl (X := Bundle.rN) (Y := Bundle.eN) (by decide) (by decide) LibCode.RuntimeException.Init0.at_0 LibCode.RuntimeException.Init0.at_1 LibCode.RuntimeException.Init0.at_4 (fun x hx => h x (by simp [Bundle.npeArmAtoms, hx]))
  obtain ⟨PE, LEx, hPEm, hPEs⟩ := PassC.of_atoms (args := args) (s := s) hpl (X := Bundle.eN) (Y := Bundle.tN) (by decide) (by decide) LibCode.Exception.Init0.at_0 LibCode.Exception.Init0.at_1 LibCode.Exception.Init0.at_4 (fun x hx => h x (by simp [Bundle.npeArmAtoms, hx]))
  have hfound : s.vm.findClass Bundle.nN = some P1.m.cls := findClass_of_methodNamed hP1m
  have ecls : N.cN = P1.m.cls := Option.some.inj (hcN.symm.trans hfound)
  have hk : s.vm.classes[P1.m.cls]? = some N.kN := by rw [← ecls]; exact LN.cls
  have hinit := Cond.initialized_spec hfound hk (a' (.initialized Bundle.nN) (by simp [Bundle.npeArmAtoms]))
  have hctor : N.kN.findMethod "<init>" "()V" = some P1.m.idx := findMethod_of_methodNamed hP1m hk
  obtain ⟨c1, k1, hc1, hk1, -, -, -, hn⟩ := Cond.instantiable_spec (a' (.instantiable Bundle.nN n) (by simp [Bundle.npeArmAtoms]))
  cases Option.some.inj (hc1.symm.trans hfound)
  cases Option.some.inj (hk1.symm.trans hk)
  have hfsz : (freshCell P1.m.cls N.kN).slots.size = n := by simp [hn]
  have hlink1 : P1.sup = PR.m := Option.some.inj (hP1s.symm.trans hPRm)
  have hlinkR : PR.sup = PE.m := Option.some.inj (hPRs.symm.trans hPEm)
  have hlinkE : PE.sup = Z.m T.toThrowableT := Option.some.inj (hPEs.symm.trans Y.init0)
  have hLs : ∀ P, P ∈ [PR, PE] → P.Links0 e.platform s := fun P hP => by
    simp only [List.mem_cons, List.not_mem_nil, or_false] at hP
    rcases hP with rfl | rfl
    · exact LR
    · exact LEx
  have hsel0 : selectMethod e.platform s.vm P1.m.cls T.fill0 = .method T.fill0 := by
    obtain ⟨c2, r2, m2, q1, q2, q3, q4, -⟩ := Cond.selects_spec (a' (.selects Bundle.nN Bundle.tFill0 Bundle.tFill0) (by simp [Bundle.npeArmAtoms]))
    cases Option.some.inj (q1.symm.trans hfound)
    cases Option.some.inj (q2.symm.trans (State.methodFound?_of_named Y.fill0 (by decide)))
    cases Option.some.inj (q3.symm.trans Y.fill0)
    rw [Launch.admits_selectMethod X.admits]; exact q4
  have hselF : selectMethod e.platform s.vm P1.m.cls T.fill = .method N.fill := by
    obtain ⟨c2, r2, m2, q1, q2, q3, q4, -⟩ := Cond.selects_spec (a' (.selects Bundle.nN Bundle.tFill Bundle.nFill) (by simp [Bundle.npeArmAtoms]))
    cases Option.some.inj (q1.symm.trans hfound)
    cases Option.some.inj (q2.symm.trans (State.methodFound?_of_named Y.fill (by decide)))
    cases Option.some.inj (q3.symm.trans hnNF)
    rw [Launch.admits_selectMethod X.admits]; exact q4
  obtain ⟨cellS0, hcS0, hiss⟩ := Y.statics
  obtain ⟨u0, hu0⟩ := Cond.staticRefV Y.unassigned L.unassignedStatic L.statics hcS0 hiss (a' (.isRef (.static Bundle.tN "UNASSIGNED_STACK" Bundle.steD)) (by simp [Bundle.npeArmAtoms]))
  obtain ⟨sen, hsen⟩ := Cond.staticRefV Y.sentinel L.sentinelStatic L.statics hcS0 hiss (a' (.isRef (.static Bundle.tN "SUPPRESSED_SENTINEL" Bundle.listD)) (by simp [Bundle.npeArmAtoms]))
  obtain ⟨ci198, i198, fB, hk198, hg198, ha198, hsB, -, hnB, htB, hffB⟩ := Cond.ownField (t := .object "java/lang/Object") Y.found L.cls (by decide +kernel) (a' (.fieldLink Bundle.tN 198 Bundle.tN "backtrace" Bundle.objD) (by simp [Bundle.npeArmAtoms])) (a' (.lays Bundle.tN Bundle.tN "backtrace" Bundle.objD) (by simp [Bundle.npeArmAtoms])) e.platform hpl
  obtain ⟨cellS, hcS', heS, -, hkeep⟩ := X.same.2.2.2.2.2 T.aS cellS0 hcS0
  have hcellS : W.heap[T.aS]? = some cellS := hcS'
  have hout' : ∀ i, (⟨T.aS, i⟩ : Loc) ∉ locs := fun i hmem => by
    have := hlocs _ hmem cellS0 hcS0
    rw [hiss] at this; cases this
  have hknownS : cellS.vm ≠ .unknown := by
    rw [heS]; intro hu
    rw [show cellS0.vm = .unknown from hu] at hiss
    cases hiss
  have hvU : cellS.slots[T.fUnassigned.slot]? = some u0.v := by rw [hkeep _ (hout' _)]; exact hu0
  have hvSen : cellS.slots[T.fSentinel.slot]? = some sen.v := by rw [hkeep _ (hout' _)]; exact hsen
  obtain ⟨tyC, dC, hdC, hdnC⟩ := Cond.laysAt hfound hk Y.cause (a' (.lays Bundle.nN Bundle.tN "cause" "Ljava/lang/Throwable;") (by simp [Bundle.npeArmAtoms]))
  obtain ⟨tyS, dS, hdS, hdnS⟩ := Cond.laysAt hfound hk Y.stack (a' (.lays Bundle.nN Bundle.tN "stackTrace" Bundle.steD) (by simp [Bundle.npeArmAtoms]))
  obtain ⟨tyP, dP, hdP, hdnP⟩ := Cond.laysAt hfound hk Y.supp (a' (.lays Bundle.nN Bundle.tN "suppressedExceptions" Bundle.listD) (by simp [Bundle.npeArmAtoms]))
  obtain ⟨tyX, dX, hdX, hdnX⟩ := Cond.laysAt hfound hk hffS (a' (.lays Bundle.nN Bundle.nN "extendedMessageState" "I") (by simp [Bundle.npeArmAtoms, Bundle.npeAtoms]))
  obtain ⟨hnX, htX⟩ := State.fieldFound?_type hffS (t := .int) (by decide +kernel)
  have xC := Cond.laysApart hdC hdX hdnC hdnX (by rw [hnX, Y.causeName]; decide)
  have xS := Cond.laysApart hdS hdX hdnS hdnX (by rw [hnX, Y.stackName]; decide)
  have xP := Cond.laysApart hdP hdX hdnP hdnX (by rw [hnX, Y.suppName]; decide)
  have hv0 : (freshCell P1.m.cls N.kN).slots[N.fState.slot]? = some (.int 0) := by
    have := fresh_default (c := P1.m.cls) tyX
    rw [htX] at this; exact this
  obtain ⟨tyB, dB, hdB, hdnB⟩ := Cond.laysAt hfound hk hffB (a' (.lays Bundle.nN Bundle.tN "backtrace" Bundle.objD) (by simp [Bundle.npeArmAtoms]))
  have bC := Cond.laysApart hdB hdC hdnB hdnC (by rw [hnB, Y.causeName]; decide)
  have bS := Cond.laysApart hdB hdS hdnB hdnS (by rw [hnB, Y.stackName]; decide)
  have bP := Cond.laysApart hdB hdP hdnB hdnP (by rw [hnB, Y.suppName]; decide)
  have bX := Cond.laysApart hdB hdX hdnB hdnX (by rw [hnB, hnX]; decide)
  have hbk : ((npeCell N.toNpeT (preparedCellV T.toThrowableT (freshCell P1.m.cls N.kN) W.heap.size u0 sen) W.cur).withEntry W.cur).slots[fB.slot]? = some .null := by
    have := fresh_default (c := P1.m.cls) tyB
    rw [htB] at this
    simpa [npeCell, preparedCellV, Cell.setSlot, Cell.withEntry, Array.getElem?_setIfInBounds, bC, bS, bP, bX, bC.symm, bS.symm, bP.symm, bX.symm, defaultValue] using this
  have tkC := Takes.of_laid (v := .ref W.heap.size) hk hordN tyC (by rw [Y.causeType]; rfl)
  have tkS := Takes.of_laid (v := u0.v) hk hordN tyS (by rw [Y.stackType]; exact fits_refV_array _ u0)
  have tkP := Takes.of_laid (v := sen.v) hk hordN tyP (by rw [Y.suppType]; exact fits_refV_object _ sen)
  have tkX := Takes.of_laid (v := .int 1) hk hordN tyX (by rw [htX]; rfl)
  have hskip : SkipFacts T e.platform s (fun u => u) u0 ((npeCell N.toNpeT (preparedCellV T.toThrowableT (freshCell P1.m.cls N.kN) W.heap.size u0 sen) W.cur).withEntry W.cur) := ⟨{ ci198 := ci198, i198 := i198, fBack := fB }, ⟨hk198, hg198, ha198, hsB⟩, hbk, fun _ _ => rfl⟩
  obtain ⟨vm', X3, st, -⟩ := X.throwsNpeColdBareVAt hexec hg hsize T L Z LZ N LN P1 L1 [PR, PE] hLs hlink1 ⟨hlinkR, hlinkE, trivial⟩ hfound hk hinit hordN hctor hsel0 hselF hcellS hknownS hvU hvSen
    hv0 xC xS xP tkC tkS tkP tkX Y.objLocals hskip (fun _ _ hA hW _ hroom _ hrest => L.nativeOff p htr hA hW hroom hrest) (by simpa using hRframes) hRlocals (by simp) hRcells (by rw [hn]; exact hRslots)
  have hlt : W.heap.size < ((W.pushCell (freshCell P1.m.cls N.kN)).setVm vm').heap.size := by
    show W.heap.size < (W.pushCell (freshCell P1.m.cls N.kN)).heap.size
    rw [State.heap_size_pushCell]; omega
  rw [hfsz] at X3
  obtain ⟨g₁, hfrM⟩ := X3.frames_eq
  have hU : ((((W.pushCell (freshCell P1.m.cls N.kN)).setVm vm').setCell W.heap.size (npeBareV T.toThrowableT N.toNpeT (freshCell P1.m.cls N.kN) W.heap.size u0 sen)).setTop g).pushFrame (.throwing W.heap.size) = (((W.pushCell (freshCell P1.m.cls N.kN)).setVm vm').setCell W.heap.size (npeBareV T.toThrowableT N.toNpeT (freshCell P1.m.cls N.kN) W.heap.size u0 sen)).setFrames (.throwing W.heap.size :: .java g :: below) := by
    rw [State.pushFrame, State.frames_setTop _ hfrM, State.setTop_of_frames _ hfrM, State.setFrames_setFrames]
  refine ⟨_, W.heap.size, _, fun target ht => st.trans (by rw [← hU]; exact ht), X3.forget (fun y hy => ?_), heapAt_setCell_self _ hlt, hfound, rfl⟩
  simp only [List.mem_cons, List.not_mem_nil, or_false] at hy
  have hge : s.heap.size ≤ W.heap.size := X.same.2.1
  rcases hy with rfl | rfl | rfl | rfl | rfl <;> exact hge
/-- the words of a machine's NullPointerException, but the four that speak of the heap -/
def vx_atN (n : Nat) : List Cond := (Bundle.npeArmAtoms n).filter vx_no
/-- the words of a machine's throw with a message, but the four that speak of the heap -/
def vx_atM (X : String) (names : List String) : List Cond := (Bundle.messageArmAtoms X names).filter vx_no
section
variable {p : Program} {l : Launch} {e : Env} {R : Room} {s : State} {m : MethodId} {args : Array Value} {below : List Frame} {meth : Method} {c : Code} {H : Heap} {locs : List Loc} {cells slots : Nat}
/-- a frame seen from a rebased start, seen from the first start again -/
theorem vx_back9 {T S : State} {R' : Room} {k n : Nat} (X : Stand p l e R s m args below meth c T locs cells slots) (Y : Stand p l e R' ((T.setVm s.vm).setFrames (.invoking m args :: below)) m args below meth c T [] 0 0) (Z : Stand p l e R' ((T.setVm s.vm).setFrames (.invoking m args :: below)) m args below meth c S [] k n) :
    Stand p l e R s m args below meth c S locs (cells + k) (slots + n) := by
  have hW0 : s.WarmedH ((T.setVm s.vm).setFrames (.invoking m args :: below)).vm := State.WarmedH.refl s
  refine { admits := X.admits, cas := X.cas, clock := X.clock, frames := X.frames, room := X.room, hears := X.hears, method := X.method, code := X.code, here := Z.here, tail := Z.tail, warmed := State.WarmedH.trans hW0 Z.warmed, limits := Z.limits.trans (Y.limits.symm.trans X.limits), bytes := Z.bytes.trans (Y.bytes.symm.trans X.bytes), same := ?_ }
  obtain ⟨e1, e2⟩ := Z.same
  rw [State.setFrames_setFrames] at e1
  have h2 : (T.setVm s.vm).sameButNew (S.setVm s.vm) [] k n := ⟨e1, e2⟩
  have h3 := X.same.trans h2
  rw [List.append_nil] at h3
  exact h3
/-- from the machine's note that E is thrown here with this text -/
def vx_Note (p : Program) (l : Launch) (e : Env) (R : Room) (s : State) (m : MethodId) (args : Array Value) (below : List Frame) (meth : Method) (c : Code) (H : Heap) (locs : List Loc) (cells slots : Nat) (Q : State → Prop) (g : JFrame) (E text : String) : Prop :=
  ∀ T : State, T.heap = H → Stand p l e R s m args below meth c T locs cells slots → ∃ t, Steps p.tables e below ((T.setTop g).pushFrame (.throwNew E (some text) none)) t ∧ Q t
theorem vx_vm {pc : Nat} {ls : Array Slot} {rest : List Value} {Q : State → Prop} (hexec : p.tables.exec = Jvm.exec) (hl : l.stackTraces = false) {cls text : String} {names : List String} {nb : Nat} {A : Nat → Prop}
    (hcls : Bundle.fit cls = true) (hnames : ∀ n ∈ names, Bundle.fit n = true) (hsoe : (cls == "java/lang/StackOverflowError") = false) (hoom : (cls == "java/lang/OutOfMemoryError") = false)
    (hat : ∀ w ∈ vx_atM cls names, w.before args s = true) (hgood : ∀ w ∈ vx_atM cls names, vx_ot w = true)
    (hU : vx_Zq Bundle.tN "UNASSIGNED_STACK" Bundle.steD A s s.heap) (hN : vx_Zq Bundle.tN "SUPPRESSED_SENTINEL" Bundle.listD A s s.heap) (hS : va_S A s.heap H locs) (hsize : ls.size = c.maxLocals)
    (htext : (text == notModelled) = false) (hnb : (stringBytes (stringToUtf16 text)).size ≤ nb) (hnb1 : nb ≤ 1000)
    (hRframes : names.length + 4 < R.frames) (hRlocals : (rest.map fun v => v.category).sum + 10240 ≤ R.locals) (hshort : 13 * names.length + 55 ≤ 10240) (hRcells : cells + 3 ≤ R.cells) (hRslots : slots + (nb + 10) ≤ R.slots) (hlocks : meth.locks = false)
    (k : ∀ (H1 : Heap) (q9 : Addr) (ce : Cell), H.size ≤ H1.size → (∀ q : Nat, q < H.size → H1[q]? = H[q]?) → va_S A s.heap H1 locs → H1[q9]? = some ce → ce.vm = .none → s.vm.findClass cls = some ce.cls → vx_W p l e R s m args below meth c H1 locs (cells + 3) (slots + (nb + 10)) Q (F0 m pc ls rest) q9) :
    vx_Note p l e R s m args below meth c H locs cells slots Q (F0 m pc ls rest) cls text := by
  intro T hT X
  have htr : e.platform.stackTraces = false := (show e.platform.stackTraces = l.stackTraces by rw [X.admits.platform]).trans hl
  have Y := vx_rebase X (R' := { frames := R.frames, locals := R.locals, cells := 3, slots := nb + 10 }) (Nat.le_refl _) (Nat.le_refl _) hRcells hRslots
  have hhp : ((T.setVm s.vm).setFrames (.invoking m args :: below)).heap = H := hT
  have hW0 : s.WarmedH ((T.setVm s.vm).setFrames (.invoking m args :: below)).vm := State.WarmedH.refl s
  have hat' : ∀ w ∈ vx_atM cls names, w.before args ((T.setVm s.vm).setFrames (.invoking m args :: below)) = true := fun w hw => vx_ot_at hW0 rfl (hgood w hw) (hat w hw)
  have hU' : vx_Zq Bundle.tN "UNASSIGNED_STACK" Bundle.steD A ((T.setVm s.vm).setFrames (.invoking m args :: below)) ((T.setVm s.vm).setFrames (.invoking m args :: below)).heap := by rw [hhp]; exact vx_Zq.moved hW0.alike (hU.kept hS.2.1)
  have hN' : vx_Zq Bundle.tN "SUPPRESSED_SENTINEL" Bundle.listD A ((T.setVm s.vm).setFrames (.invoking m args :: below)) ((T.setVm s.vm).setFrames (.invoking m args :: below)).heap := by rw [hhp]; exact vx_Zq.moved hW0.alike (hN.kept hS.2.1)
  obtain ⟨S, q, ce, st, Z, hce, hcl', hv⟩ := vx_vmAt Y hexec htr (cls := cls) (names := names) (text := text) hcls hnames hsoe hoom (vx_own hat' (vx_isRefq hU'.1) (vx_isRefq hN'.1) hU'.2.word hN'.2.word) (fun x hx => nomatch hx) htext
    (by rw [Launch.admits_arrayLengthLimit X.admits]; omega) (by rw [Launch.admits_maxHeapBytes X.admits]; simp only [componentBytes]; omega)
    (g := F0 m pc ls rest) rfl hsize hRframes (by show 2 * 0 + (rest.map fun v => v.category).sum + 10240 ≤ R.locals; omega) hshort (by show 0 + 3 ≤ 3; omega) (by show 0 + (_ + 4 + 6) ≤ nb + 10; omega) hlocks
  obtain ⟨f1, f2⟩ := vx_frame Z.same
  have f1' : H.size ≤ S.heap.size := by rw [← hT]; exact f1
  have f2' : ∀ q : Nat, q < H.size → S.heap[q]? = H[q]? := fun q hq => by
    rw [← hT]
    exact f2 q (by rw [← hT] at hq; exact hq) (fun z hz => nomatch hz)
  have X5 := vx_back9 X Y Z
  have X6 : Stand p l e R s m args below meth c S locs (cells + 3) (slots + (nb + 10)) := { X5 with same := X5.same.mono (by omega) (by omega) }
  obtain ⟨t, a1, b1⟩ := k S.heap q ce f1' f2' ⟨Nat.le_trans hS.1 f1', fun q h1 h2 => (f2' q (Nat.lt_of_lt_of_le h1 hS.1)).trans (hS.2.1 q h1 h2), hS.2.2⟩ hce hv hcl' S rfl X6
  exact ⟨t, st t a1, b1⟩
/-- from the machine's note that NullPointerException is thrown here -/
def vx_NoteN (p : Program) (l : Launch) (e : Env) (R : Room) (s : State) (m : MethodId) (args : Array Value) (below : List Frame) (meth : Method) (c : Code) (H : Heap) (locs : List Loc) (cells slots : Nat) (Q : State → Prop) (g : JFrame) : Prop :=
  ∀ T : State, T.heap = H → Stand p l e R s m args below meth c T locs cells slots → ∃ t, Steps p.tables e below ((T.setTop g).pushFrame (.throwNew "java/lang/NullPointerException" none none)) t ∧ Q t
theorem vx_npe {pc : Nat} {ls : Array Slot} {rest : List Value} {Q : State → Prop} (hexec : p.tables.exec = Jvm.exec) (hl : l.stackTraces = false) {nb : Nat} {A : Nat → Prop}
    (hat : ∀ w ∈ vx_atN nb, w.before args s = true) (hgood : ∀ w ∈ vx_atN nb, vx_ot w = true)
    (hU : vx_Zq Bundle.tN "UNASSIGNED_STACK" Bundle.steD A s s.heap) (hN : vx_Zq Bundle.tN "SUPPRESSED_SENTINEL" Bundle.listD A s s.heap) (hS : va_S A s.heap H locs) (hsize : ls.size = c.maxLocals)
    (hRframes : 7 < R.frames) (hRlocals : (rest.map fun v => v.category).sum + 10240 ≤ R.locals) (hRcells : cells + 1 ≤ R.cells) (hRslots : slots + nb ≤ R.slots) (hlocks : meth.locks = false)
    (k : ∀ (H1 : Heap) (q9 : Addr) (ce : Cell), H.size ≤ H1.size → (∀ q : Nat, q < H.size → H1[q]? = H[q]?) → va_S A s.heap H1 locs → H1[q9]? = some ce → ce.vm = .none → s.vm.findClass "java/lang/NullPointerException" = some ce.cls → vx_W p l e R s m args below meth c H1 locs (cells + 1) (slots + nb) Q (F0 m pc ls rest) q9) :
    vx_NoteN p l e R s m args below meth c H locs cells slots Q (F0 m pc ls rest) := by
  intro T hT X
  have htr : e.platform.stackTraces = false := (show e.platform.stackTraces = l.stackTraces by rw [X.admits.platform]).trans hl
  have Y := vx_rebase X (R' := { frames := R.frames, locals := R.locals, cells := 1, slots := nb }) (Nat.le_refl _) (Nat.le_refl _) hRcells hRslots
  have hhp : ((T.setVm s.vm).setFrames (.invoking m args :: below)).heap = H := hT
  have hW0 : s.WarmedH ((T.setVm s.vm).setFrames (.invoking m args :: below)).vm := State.WarmedH.refl s
  have hat' : ∀ w ∈ vx_atN nb, w.before args ((T.setVm s.vm).setFrames (.invoking m args :: below)) = true := fun w hw => vx_ot_at hW0 rfl (hgood w hw) (hat w hw)
  have hU' : vx_Zq Bundle.tN "UNASSIGNED_STACK" Bundle.steD A ((T.setVm s.vm).setFrames (.invoking m args :: below)) ((T.setVm s.vm).setFrames (.invoking m args :: below)).heap := by rw [hhp]; exact vx_Zq.moved hW0.alike (hU.kept hS.2.1)
  have hN' : vx_Zq Bundle.tN "SUPPRESSED_SENTINEL" Bundle.listD A ((T.setVm s.vm).setFrames (.invoking m args :: below)) ((T.setVm s.vm).setFrames (.invoking m args :: below)).heap := by rw [hhp]; exact vx_Zq.moved hW0.alike (hN.kept hS.2.1)
  obtain ⟨S, q, ce, st, Z, hce, hcl', hv⟩ := vx_npeAt Y hexec htr (n := nb) (vx_own hat' (vx_isRefq hU'.1) (vx_isRefq hN'.1) hU'.2.word hN'.2.word) (fun x hx => nomatch hx)
    (g := F0 m pc ls rest) rfl hsize hRframes (by show 2 * 0 + (rest.map fun v => v.category).sum + 10240 ≤ R.locals; omega) (by show 0 + 1 ≤ 1; omega) (by show 0 + nb ≤ nb; omega) hlocks
  obtain ⟨f1, f2⟩ := vx_frame Z.same
  have f1' : H.size ≤ S.heap.size := by rw [← hT]; exact f1
  have f2' : ∀ q : Nat, q < H.size → S.heap[q]? = H[q]? := fun q hq => by
    rw [← hT]
    exact f2 q (by rw [← hT] at hq; exact hq) (fun z hz => nomatch hz)
  have X5 := vx_back9 X Y Z
  have X6 : Stand p l e R s m args below meth c S locs (cells + 1) (slots + nb) := { X5 with same := X5.same.mono (by omega) (by omega) }
  obtain ⟨t, a1, b1⟩ := k S.heap q ce f1' f2' ⟨Nat.le_trans hS.1 f1', fun q h1 h2 => (f2' q (Nat.lt_of_lt_of_le h1 hS.1)).trans (hS.2.1 q h1 h2), hS.2.2⟩ hce hv hcl' S rfl X6
  exact ⟨t, st t a1, b1⟩
variable {Q : State → Prop} {cc : ByteArray} {pc : Nat} {ls : Array Slot} {rest : List Value}
theorem vx_idivZ (hexec : p.tables.exec = Jvm.exec) (hb : c.code = cc) {a b : Int32} (h0 : b = 0) (d : decode cc pc = .ok (.idiv, 1)) (k : vx_Note p l e R s m args below meth c H locs cells slots Q (F0 m pc ls rest) "java/lang/ArithmeticException" "/ by zero") :
    W p l e R s m args below meth c H locs cells slots Q (F0 m pc ls (.int b :: .int a :: rest)) := by
  intro T hT X
  obtain ⟨t, st, q⟩ := k T hT X
  exact ⟨t, X.idivZero hexec (g := F0 m pc ls (.int b :: .int a :: rest)) rfl (a := a) (rest := rest) (by rw [h0]) (by rw [hb]; exact d) t st, q⟩
theorem vx_iremZ (hexec : p.tables.exec = Jvm.exec) (hb : c.code = cc) {a b : Int32} (h0 : b = 0) (d : decode cc pc = .ok (.irem, 1)) (k : vx_Note p l e R s m args below meth c H locs cells slots Q (F0 m pc ls rest) "java/lang/ArithmeticException" "/ by zero") :
    W p l e R s m args below meth c H locs cells slots Q (F0 m pc ls (.int b :: .int a :: rest)) := by
  intro T hT X
  obtain ⟨t, st, q⟩ := k T hT X
  exact ⟨t, X.iremZero hexec (g := F0 m pc ls (.int b :: .int a :: rest)) rfl (a := a) (rest := rest) (by rw [h0]) (by rw [hb]; exact d) t st, q⟩
theorem vx_ldivZ (hexec : p.tables.exec = Jvm.exec) (hb : c.code = cc) {a b : Int64} (h0 : b = 0) (d : decode cc pc = .ok (.ldiv, 1)) (k : vx_Note p l e R s m args below meth c H locs cells slots Q (F0 m pc ls rest) "java/lang/ArithmeticException" "/ by zero") :
    W p l e R s m args below meth c H locs cells slots Q (F0 m pc ls (.long b :: .long a :: rest)) := by
  intro T hT X
  obtain ⟨t, st, q⟩ := k T hT X
  exact ⟨t, X.ldivZero hexec (g := F0 m pc ls (.long b :: .long a :: rest)) rfl (a := a) (rest := rest) (by rw [h0]) (by rw [hb]; exact d) t st, q⟩
theorem vx_lremZ (hexec : p.tables.exec = Jvm.exec) (hb : c.code = cc) {a b : Int64} (h0 : b = 0) (d : decode cc pc = .ok (.lrem, 1)) (k : vx_Note p l e R s m args below meth c H locs cells slots Q (F0 m pc ls rest) "java/lang/ArithmeticException" "/ by zero") :
    W p l e R s m args below meth c H locs cells slots Q (F0 m pc ls (.long b :: .long a :: rest)) := by
  intro T hT X
  obtain ⟨t, st, q⟩ := k T hT X
  exact ⟨t, X.lremZero hexec (g := F0 m pc ls (.long b :: .long a :: rest)) rfl (a := a) (rest := rest) (by rw [h0]) (by rw [hb]; exact d) t st, q⟩
theorem vx_ialdZ {D : va_G} {cl : List vw_C} {ws : va_W} {tys : List (ClassId × FieldType)} {a : Nat} (hexec : p.tables.exec = Jvm.exec) (hb : c.code = cc) (hK : va_K D cl tys s) (hP : va_P D cl ws H) (q0 t0 : Nat) {cA : ClassId} {n : Nat} {f : Nat → Int32} (ha : ws[q0]? = some (a, .inl (cA, n, .inl f))) (ht : tys[t0]? = some (cA, .int)) {i : Int32} (hout : ¬ vp_in i n) (hdg : decode cc pc = .ok (.iaload, 1))
    (k : ∀ tx : String, tx = (toString "Index " ++ toString i ++ toString " out of bounds for length " ++ toString n : String) → vx_Note p l e R s m args below meth c H locs cells slots Q (F0 m pc ls rest) "java/lang/ArrayIndexOutOfBoundsException" tx) : W p l e R s m args below meth c H locs cells slots Q (F0 m pc ls (.int i :: .ref a :: rest)) := by
  intro T hT X
  obtain ⟨t, st, q⟩ := k _ rfl T hT X
  refine ⟨t, ?_, q⟩
  have h1 := X.ialoadOut hexec (by rw [hT]; exact hP q0 _ ha) ((hK.2 t0 _ ht).1 n (fun j => .int (f j))) (j := i) (by show (i < 0 ∨ (arrV _ _ _).slots.size ≤ _); rw [arrV_size]; exact Classical.byContradiction hout) (g := F0 m pc ls (.int i :: .ref a :: rest)) rfl (rest := rest) rfl (by rw [hb]; exact hdg) t
  simp only [arrV_size] at h1
  exact h1 st
theorem vx_iastZ {D : va_G} {cl : List vw_C} {ws : va_W} {tys : List (ClassId × FieldType)} {a : Nat} (hexec : p.tables.exec = Jvm.exec) (hb : c.code = cc) (hK : va_K D cl tys s) (hP : va_P D cl ws H) (q0 t0 : Nat) {cA : ClassId} {n : Nat} {f : Nat → Int32} (ha : ws[q0]? = some (a, .inl (cA, n, .inl f))) (ht : tys[t0]? = some (cA, .int)) {i : Int32} {x : Int32} (hout : ¬ vp_in i n) (hdg : decode cc pc = .ok (.iastore, 1))
    (k : ∀ tx : String, tx = (toString "Index " ++ toString i ++ toString " out of bounds for length " ++ toString n : String) → vx_Note p l e R s m args below meth c H locs cells slots Q (F0 m pc ls rest) "java/lang/ArrayIndexOutOfBoundsException" tx) : W p l e R s m args below meth c H locs cells slots Q (F0 m pc ls (.int x :: .int i :: .ref a :: rest)) := by
  intro T hT X
  obtain ⟨t, st, q⟩ := k _ rfl T hT X
  refine ⟨t, ?_, q⟩
  have h1 := X.iastoreOut hexec (by rw [hT]; exact hP q0 _ ha) ((hK.2 t0 _ ht).1 n (fun j => .int (f j))) (j := i) (by show (i < 0 ∨ (arrV _ _ _).slots.size ≤ _); rw [arrV_size]; exact Classical.byContradiction hout) (g := F0 m pc ls (.int x :: .int i :: .ref a :: rest)) rfl (rest := rest) rfl (by rw [hb]; exact hdg) t
  simp only [arrV_size] at h1
  exact h1 st
theorem vx_baldZ {D : va_G} {cl : List vw_C} {ws : va_W} {tys : List (ClassId × FieldType)} {a : Nat} (hexec : p.tables.exec = Jvm.exec) (hb : c.code = cc) (hK : va_K D cl tys s) (hP : va_P D cl ws H) (q0 t0 : Nat) {cA : ClassId} {n : Nat} {f : Nat → Int32} (ha : ws[q0]? = some (a, .inl (cA, n, .inl f))) (ht : tys[t0]? = some (cA, .byte)) {i : Int32} (hout : ¬ vp_in i n) (hdg : decode cc pc = .ok (.baload, 1))
    (k : ∀ tx : String, tx = (toString "Index " ++ toString i ++ toString " out of bounds for length " ++ toString n : String) → vx_Note p l e R s m args below meth c H locs cells slots Q (F0 m pc ls rest) "java/lang/ArrayIndexOutOfBoundsException" tx) : W p l e R s m args below meth c H locs cells slots Q (F0 m pc ls (.int i :: .ref a :: rest)) := by
  intro T hT X
  obtain ⟨t, st, q⟩ := k _ rfl T hT X
  refine ⟨t, ?_, q⟩
  have h1 := X.baloadOut hexec (by rw [hT]; exact hP q0 _ ha) ((hK.2 t0 _ ht).1 n (fun j => .int (f j))) (j := i) (by show (i < 0 ∨ (arrV _ _ _).slots.size ≤ _); rw [arrV_size]; exact Classical.byContradiction hout) (g := F0 m pc ls (.int i :: .ref a :: rest)) rfl (rest := rest) rfl (by rw [hb]; exact hdg) t
  simp only [arrV_size] at h1
  exact h1 st
theorem vx_bastZ {D : va_G} {cl : List vw_C} {ws : va_W} {tys : List (ClassId × FieldType)} {a : Nat} (hexec : p.tables.exec = Jvm.exec) (hb : c.code = cc) (hK : va_K D cl tys s) (hP : va_P D cl ws H) (q0 t0 : Nat) {cA : ClassId} {n : Nat} {f : Nat → Int32} (ha : ws[q0]? = some (a, .inl (cA, n, .inl f))) (ht : tys[t0]? = some (cA, .byte)) {i : Int32} {x : Int32} (hout : ¬ vp_in i n) (hdg : decode cc pc = .ok (.bastore, 1))
    (k : ∀ tx : String, tx = (toString "Index " ++ toString i ++ toString " out of bounds for length " ++ toString n : String) → vx_Note p l e R s m args below meth c H locs cells slots Q (F0 m pc ls rest) "java/lang/ArrayIndexOutOfBoundsException" tx) : W p l e R s m args below meth c H locs cells slots Q (F0 m pc ls (.int x :: .int i :: .ref a :: rest)) := by
  intro T hT X
  obtain ⟨t, st, q⟩ := k _ rfl T hT X
  refine ⟨t, ?_, q⟩
  have h1 := X.bastoreOut hexec (by rw [hT]; exact hP q0 _ ha) ((hK.2 t0 _ ht).1 n (fun j => .int (f j))) (j := i) (by show (i < 0 ∨ (arrV _ _ _).slots.size ≤ _); rw [arrV_size]; exact Classical.byContradiction hout) (g := F0 m pc ls (.int x :: .int i :: .ref a :: rest)) rfl (rest := rest) rfl (by rw [hb]; exact hdg) t
  simp only [arrV_size] at h1
  exact h1 st
theorem vx_zaldZ {D : va_G} {cl : List vw_C} {ws : va_W} {tys : List (ClassId × FieldType)} {a : Nat} (hexec : p.tables.exec = Jvm.exec) (hb : c.code = cc) (hK : va_K D cl tys s) (hP : va_P D cl ws H) (q0 t0 : Nat) {cA : ClassId} {n : Nat} {f : Nat → Int32} (ha : ws[q0]? = some (a, .inl (cA, n, .inl f))) (ht : tys[t0]? = some (cA, .boolean)) {i : Int32} (hout : ¬ vp_in i n) (hdg : decode cc pc = .ok (.baload, 1))
    (k : ∀ tx : String, tx = (toString "Index " ++ toString i ++ toString " out of bounds for length " ++ toString n : String) → vx_Note p l e R s m args below meth c H locs cells slots Q (F0 m pc ls rest) "java/lang/ArrayIndexOutOfBoundsException" tx) : W p l e R s m args below meth c H locs cells slots Q (F0 m pc ls (.int i :: .ref a :: rest)) := by
  intro T hT X
  obtain ⟨t, st, q⟩ := k _ rfl T hT X
  refine ⟨t, ?_, q⟩
  have h1 := X.baloadOut hexec (by rw [hT]; exact hP q0 _ ha) ((hK.2 t0 _ ht).1 n (fun j => .int (f j))) (j := i) (by show (i < 0 ∨ (arrV _ _ _).slots.size ≤ _); rw [arrV_size]; exact Classical.byContradiction hout) (g := F0 m pc ls (.int i :: .ref a :: rest)) rfl (rest := rest) rfl (by rw [hb]; exact hdg) t
  simp only [arrV_size] at h1
  exact h1 st
theorem vx_zastZ {D : va_G} {cl : List vw_C} {ws : va_W} {tys : List (ClassId × FieldType)} {a : Nat} (hexec : p.tables.exec = Jvm.exec) (hb : c.code = cc) (hK : va_K D cl tys s) (hP : va_P D cl ws H) (q0 t0 : Nat) {cA : ClassId} {n : Nat} {f : Nat → Int32} (ha : ws[q0]? = some (a, .inl (cA, n, .inl f))) (ht : tys[t0]? = some (cA, .boolean)) {i : Int32} {x : Int32} (hout : ¬ vp_in i n) (hdg : decode cc pc = .ok (.bastore, 1))
    (k : ∀ tx : String, tx = (toString "Index " ++ toString i ++ toString " out of bounds for length " ++ toString n : String) → vx_Note p l e R s m args below meth c H locs cells slots Q (F0 m pc ls rest) "java/lang/ArrayIndexOutOfBoundsException" tx) : W p l e R s m args below meth c H locs cells slots Q (F0 m pc ls (.int x :: .int i :: .ref a :: rest)) := by
  intro T hT X
  obtain ⟨t, st, q⟩ := k _ rfl T hT X
  refine ⟨t, ?_, q⟩
  have h1 := X.bastoreOut hexec (by rw [hT]; exact hP q0 _ ha) ((hK.2 t0 _ ht).1 n (fun j => .int (f j))) (j := i) (by show (i < 0 ∨ (arrV _ _ _).slots.size ≤ _); rw [arrV_size]; exact Classical.byContradiction hout) (g := F0 m pc ls (.int x :: .int i :: .ref a :: rest)) rfl (rest := rest) rfl (by rw [hb]; exact hdg) t
  simp only [arrV_size] at h1
  exact h1 st
theorem vx_caldZ {D : va_G} {cl : List vw_C} {ws : va_W} {tys : List (ClassId × FieldType)} {a : Nat} (hexec : p.tables.exec = Jvm.exec) (hb : c.code = cc) (hK : va_K D cl tys s) (hP : va_P D cl ws H) (q0 t0 : Nat) {cA : ClassId} {n : Nat} {f : Nat → Int32} (ha : ws[q0]? = some (a, .inl (cA, n, .inl f))) (ht : tys[t0]? = some (cA, .char)) {i : Int32} (hout : ¬ vp_in i n) (hdg : decode cc pc = .ok (.caload, 1))
    (k : ∀ tx : String, tx = (toString "Index " ++ toString i ++ toString " out of bounds for length " ++ toString n : String) → vx_Note p l e R s m args below meth c H locs cells slots Q (F0 m pc ls rest) "java/lang/ArrayIndexOutOfBoundsException" tx) : W p l e R s m args below meth c H locs cells slots Q (F0 m pc ls (.int i :: .ref a :: rest)) := by
  intro T hT X
  obtain ⟨t, st, q⟩ := k _ rfl T hT X
  refine ⟨t, ?_, q⟩
  have h1 := X.caloadOut hexec (by rw [hT]; exact hP q0 _ ha) ((hK.2 t0 _ ht).1 n (fun j => .int (f j))) (j := i) (by show (i < 0 ∨ (arrV _ _ _).slots.size ≤ _); rw [arrV_size]; exact Classical.byContradiction hout) (g := F0 m pc ls (.int i :: .ref a :: rest)) rfl (rest := rest) rfl (by rw [hb]; exact hdg) t
  simp only [arrV_size] at h1
  exact h1 st
theorem vx_castZ {D : va_G} {cl : List vw_C} {ws : va_W} {tys : List (ClassId × FieldType)} {a : Nat} (hexec : p.tables.exec = Jvm.exec) (hb : c.code = cc) (hK : va_K D cl tys s) (hP : va_P D cl ws H) (q0 t0 : Nat) {cA : ClassId} {n : Nat} {f : Nat → Int32} (ha : ws[q0]? = some (a, .inl (cA, n, .inl f))) (ht : tys[t0]? = some (cA, .char)) {i : Int32} {x : Int32} (hout : ¬ vp_in i n) (hdg : decode cc pc = .ok (.castore, 1))
    (k : ∀ tx : String, tx = (toString "Index " ++ toString i ++ toString " out of bounds for length " ++ toString n : String) → vx_Note p l e R s m args below meth c H locs cells slots Q (F0 m pc ls rest) "java/lang/ArrayIndexOutOfBoundsException" tx) : W p l e R s m args below meth c H locs cells slots Q (F0 m pc ls (.int x :: .int i :: .ref a :: rest)) := by
  intro T hT X
  obtain ⟨t, st, q⟩ := k _ rfl T hT X
  refine ⟨t, ?_, q⟩
  have h1 := X.castoreOut hexec (by rw [hT]; exact hP q0 _ ha) ((hK.2 t0 _ ht).1 n (fun j => .int (f j))) (j := i) (by show (i < 0 ∨ (arrV _ _ _).slots.size ≤ _); rw [arrV_size]; exact Classical.byContradiction hout) (g := F0 m pc ls (.int x :: .int i :: .ref a :: rest)) rfl (rest := rest) rfl (by rw [hb]; exact hdg) t
  simp only [arrV_size] at h1
  exact h1 st
theorem vx_saldZ {D : va_G} {cl : List vw_C} {ws : va_W} {tys : List (ClassId × FieldType)} {a : Nat} (hexec : p.tables.exec = Jvm.exec) (hb : c.code = cc) (hK : va_K D cl tys s) (hP : va_P D cl ws H) (q0 t0 : Nat) {cA : ClassId} {n : Nat} {f : Nat → Int32} (ha : ws[q0]? = some (a, .inl (cA, n, .inl f))) (ht : tys[t0]? = some (cA, .short)) {i : Int32} (hout : ¬ vp_in i n) (hdg : decode cc pc = .ok (.saload, 1))
    (k : ∀ tx : String, tx = (toString "Index " ++ toString i ++ toString " out of bounds for length " ++ toString n : String) → vx_Note p l e R s m args below meth c H locs cells slots Q (F0 m pc ls rest) "java/lang/ArrayIndexOutOfBoundsException" tx) : W p l e R s m args below meth c H locs cells slots Q (F0 m pc ls (.int i :: .ref a :: rest)) := by
  intro T hT X
  obtain ⟨t, st, q⟩ := k _ rfl T hT X
  refine ⟨t, ?_, q⟩
  have h1 := X.saloadOut hexec (by rw [hT]; exact hP q0 _ ha) ((hK.2 t0 _ ht).1 n (fun j => .int (f j))) (j := i) (by show (i < 0 ∨ (arrV _ _ _).slots.size ≤ _); rw [arrV_size]; exact Classical.byContradiction hout) (g := F0 m pc ls (.int i :: .ref a :: rest)) rfl (rest := rest) rfl (by rw [hb]; exact hdg) t
  simp only [arrV_size] at h1
  exact h1 st
theorem vx_sastZ {D : va_G} {cl : List vw_C} {ws : va_W} {tys : List (ClassId × FieldType)} {a : Nat} (hexec : p.tables.exec = Jvm.exec) (hb : c.code = cc) (hK : va_K D cl tys s) (hP : va_P D cl ws H) (q0 t0 : Nat) {cA : ClassId} {n : Nat} {f : Nat → Int32} (ha : ws[q0]? = some (a, .inl (cA, n, .inl f))) (ht : tys[t0]? = some (cA, .short)) {i : Int32} {x : Int32} (hout : ¬ vp_in i n) (hdg : decode cc pc = .ok (.sastore, 1))
    (k : ∀ tx : String, tx = (toString "Index " ++ toString i ++ toString " out of bounds for length " ++ toString n : String) → vx_Note p l e R s m args below meth c H locs cells slots Q (F0 m pc ls rest) "java/lang/ArrayIndexOutOfBoundsException" tx) : W p l e R s m args below meth c H locs cells slots Q (F0 m pc ls (.int x :: .int i :: .ref a :: rest)) := by
  intro T hT X
  obtain ⟨t, st, q⟩ := k _ rfl T hT X
  refine ⟨t, ?_, q⟩
  have h1 := X.sastoreOut hexec (by rw [hT]; exact hP q0 _ ha) ((hK.2 t0 _ ht).1 n (fun j => .int (f j))) (j := i) (by show (i < 0 ∨ (arrV _ _ _).slots.size ≤ _); rw [arrV_size]; exact Classical.byContradiction hout) (g := F0 m pc ls (.int x :: .int i :: .ref a :: rest)) rfl (rest := rest) rfl (by rw [hb]; exact hdg) t
  simp only [arrV_size] at h1
  exact h1 st
theorem vx_laldZ {D : va_G} {cl : List vw_C} {ws : va_W} {tys : List (ClassId × FieldType)} {a : Nat} (hexec : p.tables.exec = Jvm.exec) (hb : c.code = cc) (hK : va_K D cl tys s) (hP : va_P D cl ws H) (q0 t0 : Nat) {cA : ClassId} {n : Nat} {f : Nat → Int64} (ha : ws[q0]? = some (a, .inl (cA, n, .inr (.inl f)))) (ht : tys[t0]? = some (cA, .long)) {i : Int32} (hout : ¬ vp_in i n) (hdg : decode cc pc = .ok (.laload, 1))
    (k : ∀ tx : String, tx = (toString "Index " ++ toString i ++ toString " out of bounds for length " ++ toString n : String) → vx_Note p l e R s m args below meth c H locs cells slots Q (F0 m pc ls rest) "java/lang/ArrayIndexOutOfBoundsException" tx) : W p l e R s m args below meth c H locs cells slots Q (F0 m pc ls (.int i :: .ref a :: rest)) := by
  intro T hT X
  obtain ⟨t, st, q⟩ := k _ rfl T hT X
  refine ⟨t, ?_, q⟩
  have h1 := X.laloadOut hexec (by rw [hT]; exact hP q0 _ ha) ((hK.2 t0 _ ht).1 n (fun j => .long (f j))) (j := i) (by show (i < 0 ∨ (arrV _ _ _).slots.size ≤ _); rw [arrV_size]; exact Classical.byContradiction hout) (g := F0 m pc ls (.int i :: .ref a :: rest)) rfl (rest := rest) rfl (by rw [hb]; exact hdg) t
  simp only [arrV_size] at h1
  exact h1 st
theorem vx_lastZ {D : va_G} {cl : List vw_C} {ws : va_W} {tys : List (ClassId × FieldType)} {a : Nat} (hexec : p.tables.exec = Jvm.exec) (hb : c.code = cc) (hK : va_K D cl tys s) (hP : va_P D cl ws H) (q0 t0 : Nat) {cA : ClassId} {n : Nat} {f : Nat → Int64} (ha : ws[q0]? = some (a, .inl (cA, n, .inr (.inl f)))) (ht : tys[t0]? = some (cA, .long)) {i : Int32} {x : Int64} (hout : ¬ vp_in i n) (hdg : decode cc pc = .ok (.lastore, 1))
    (k : ∀ tx : String, tx = (toString "Index " ++ toString i ++ toString " out of bounds for length " ++ toString n : String) → vx_Note p l e R s m args below meth c H locs cells slots Q (F0 m pc ls rest) "java/lang/ArrayIndexOutOfBoundsException" tx) : W p l e R s m args below meth c H locs cells slots Q (F0 m pc ls (.long x :: .int i :: .ref a :: rest)) := by
  intro T hT X
  obtain ⟨t, st, q⟩ := k _ rfl T hT X
  refine ⟨t, ?_, q⟩
  have h1 := X.lastoreOut hexec (by rw [hT]; exact hP q0 _ ha) ((hK.2 t0 _ ht).1 n (fun j => .long (f j))) (j := i) (by show (i < 0 ∨ (arrV _ _ _).slots.size ≤ _); rw [arrV_size]; exact Classical.byContradiction hout) (g := F0 m pc ls (.long x :: .int i :: .ref a :: rest)) rfl (rest := rest) rfl (by rw [hb]; exact hdg) t
  simp only [arrV_size] at h1
  exact h1 st
theorem vx_faldZ {D : va_G} {cl : List vw_C} {ws : va_W} {tys : List (ClassId × FieldType)} {a : Nat} (hexec : p.tables.exec = Jvm.exec) (hb : c.code = cc) (hK : va_K D cl tys s) (hP : va_P D cl ws H) (q0 t0 : Nat) {cA : ClassId} {n : Nat} {f : Nat → UInt32} (ha : ws[q0]? = some (a, .inl (cA, n, .inr (.inr (.inl f))))) (ht : tys[t0]? = some (cA, .float)) {i : Int32} (hout : ¬ vp_in i n) (hdg : decode cc pc = .ok (.faload, 1))
    (k : ∀ tx : String, tx = (toString "Index " ++ toString i ++ toString " out of bounds for length " ++ toString n : String) → vx_Note p l e R s m args below meth c H locs cells slots Q (F0 m pc ls rest) "java/lang/ArrayIndexOutOfBoundsException" tx) : W p l e R s m args below meth c H locs cells slots Q (F0 m pc ls (.int i :: .ref a :: rest)) := by
  intro T hT X
  obtain ⟨t, st, q⟩ := k _ rfl T hT X
  refine ⟨t, ?_, q⟩
  have h1 := X.faloadOut hexec (by rw [hT]; exact hP q0 _ ha) ((hK.2 t0 _ ht).1 n (fun j => .float (f j))) (j := i) (by show (i < 0 ∨ (arrV _ _ _).slots.size ≤ _); rw [arrV_size]; exact Classical.byContradiction hout) (g := F0 m pc ls (.int i :: .ref a :: rest)) rfl (rest := rest) rfl (by rw [hb]; exact hdg) t
  simp only [arrV_size] at h1
  exact h1 st
theorem vx_fastZ {D : va_G} {cl : List vw_C} {ws : va_W} {tys : List (ClassId × FieldType)} {a : Nat} (hexec : p.tables.exec = Jvm.exec) (hb : c.code = cc) (hK : va_K D cl tys s) (hP : va_P D cl ws H) (q0 t0 : Nat) {cA : ClassId} {n : Nat} {f : Nat → UInt32} (ha : ws[q0]? = some (a, .inl (cA, n, .inr (.inr (.inl f))))) (ht : tys[t0]? = some (cA, .float)) {i : Int32} {x : UInt32} (hout : ¬ vp_in i n) (hdg : decode cc pc = .ok (.fastore, 1))
    (k : ∀ tx : String, tx = (toString "Index " ++ toString i ++ toString " out of bounds for length " ++ toString n : String) → vx_Note p l e R s m args below meth c H locs cells slots Q (F0 m pc ls rest) "java/lang/ArrayIndexOutOfBoundsException" tx) : W p l e R s m args below meth c H locs cells slots Q (F0 m pc ls (.float x :: .int i :: .ref a :: rest)) := by
  intro T hT X
  obtain ⟨t, st, q⟩ := k _ rfl T hT X
  refine ⟨t, ?_, q⟩
  have h1 := X.fastoreOut hexec (by rw [hT]; exact hP q0 _ ha) ((hK.2 t0 _ ht).1 n (fun j => .float (f j))) (j := i) (by show (i < 0 ∨ (arrV _ _ _).slots.size ≤ _); rw [arrV_size]; exact Classical.byContradiction hout) (g := F0 m pc ls (.float x :: .int i :: .ref a :: rest)) rfl (rest := rest) rfl (by rw [hb]; exact hdg) t
  simp only [arrV_size] at h1
  exact h1 st
theorem vx_daldZ {D : va_G} {cl : List vw_C} {ws : va_W} {tys : List (ClassId × FieldType)} {a : Nat} (hexec : p.tables.exec = Jvm.exec) (hb : c.code = cc) (hK : va_K D cl tys s) (hP : va_P D cl ws H) (q0 t0 : Nat) {cA : ClassId} {n : Nat} {f : Nat → UInt64} (ha : ws[q0]? = some (a, .inl (cA, n, .inr (.inr (.inr (.inl f)))))) (ht : tys[t0]? = some (cA, .double)) {i : Int32} (hout : ¬ vp_in i n) (hdg : decode cc pc = .ok (.daload, 1))
    (k : ∀ tx : String, tx = (toString "Index " ++ toString i ++ toString " out of bounds for length " ++ toString n : String) → vx_Note p l e R s m args below meth c H locs cells slots Q (F0 m pc ls rest) "java/lang/ArrayIndexOutOfBoundsException" tx) : W p l e R s m args below meth c H locs cells slots Q (F0 m pc ls (.int i :: .ref a :: rest)) := by
  intro T hT X
  obtain ⟨t, st, q⟩ := k _ rfl T hT X
  refine ⟨t, ?_, q⟩
  have h1 := X.daloadOut hexec (by rw [hT]; exact hP q0 _ ha) ((hK.2 t0 _ ht).1 n (fun j => .double (f j))) (j := i) (by show (i < 0 ∨ (arrV _ _ _).slots.size ≤ _); rw [arrV_size]; exact Classical.byContradiction hout) (g := F0 m pc ls (.int i :: .ref a :: rest)) rfl (rest := rest) rfl (by rw [hb]; exact hdg) t
  simp only [arrV_size] at h1
  exact h1 st
theorem vx_dastZ {D : va_G} {cl : List vw_C} {ws : va_W} {tys : List (ClassId × FieldType)} {a : Nat} (hexec : p.tables.exec = Jvm.exec) (hb : c.code = cc) (hK : va_K D cl tys s) (hP : va_P D cl ws H) (q0 t0 : Nat) {cA : ClassId} {n : Nat} {f : Nat → UInt64} (ha : ws[q0]? = some (a, .inl (cA, n, .inr (.inr (.inr (.inl f)))))) (ht : tys[t0]? = some (cA, .double)) {i : Int32} {x : UInt64} (hout : ¬ vp_in i n) (hdg : decode cc pc = .ok (.dastore, 1))
    (k : ∀ tx : String, tx = (toString "Index " ++ toString i ++ toString " out of bounds for length " ++ toString n : String) → vx_Note p l e R s m args below meth c H locs cells slots Q (F0 m pc ls rest) "java/lang/ArrayIndexOutOfBoundsException" tx) : W p l e R s m args below meth c H locs cells slots Q (F0 m pc ls (.double x :: .int i :: .ref a :: rest)) := by
  intro T hT X
  obtain ⟨t, st, q⟩ := k _ rfl T hT X
  refine ⟨t, ?_, q⟩
  have h1 := X.dastoreOut hexec (by rw [hT]; exact hP q0 _ ha) ((hK.2 t0 _ ht).1 n (fun j => .double (f j))) (j := i) (by show (i < 0 ∨ (arrV _ _ _).slots.size ≤ _); rw [arrV_size]; exact Classical.byContradiction hout) (g := F0 m pc ls (.double x :: .int i :: .ref a :: rest)) rfl (rest := rest) rfl (by rw [hb]; exact hdg) t
  simp only [arrV_size] at h1
  exact h1 st
theorem vx_arraylengthN (hexec : p.tables.exec = Jvm.exec) (hb : c.code = cc) (hdg : decode cc pc = .ok (.arraylength, 1)) (k : vx_NoteN p l e R s m args below meth c H locs cells slots Q (F0 m pc ls rest)) : W p l e R s m args below meth c H locs cells slots Q (F0 m pc ls (.null :: rest)) := by
  intro T hT X
  obtain ⟨t, st, q⟩ := k T hT X
  exact ⟨t, X.arraylengthNull hexec (g := F0 m pc ls (.null :: rest)) rfl (rest := rest) rfl (by rw [hb]; exact hdg) t st, q⟩
theorem vx_ialoadN (hexec : p.tables.exec = Jvm.exec) (hb : c.code = cc) {i : Int32} (hdg : decode cc pc = .ok (.iaload, 1)) (k : vx_NoteN p l e R s m args below meth c H locs cells slots Q (F0 m pc ls rest)) : W p l e R s m args below meth c H locs cells slots Q (F0 m pc ls (.int i :: .null :: rest)) := by
  intro T hT X
  obtain ⟨t, st, q⟩ := k T hT X
  exact ⟨t, X.ialoadNull hexec (g := F0 m pc ls (.int i :: .null :: rest)) rfl (rest := rest) rfl (by rw [hb]; exact hdg) t st, q⟩
theorem vx_laloadN (hexec : p.tables.exec = Jvm.exec) (hb : c.code = cc) {i : Int32} (hdg : decode cc pc = .ok (.laload, 1)) (k : vx_NoteN p l e R s m args below meth c H locs cells slots Q (F0 m pc ls rest)) : W p l e R s m args below meth c H locs cells slots Q (F0 m pc ls (.int i :: .null :: rest)) := by
  intro T hT X
  obtain ⟨t, st, q⟩ := k T hT X
  exact ⟨t, X.laloadNull hexec (g := F0 m pc ls (.int i :: .null :: rest)) rfl (rest := rest) rfl (by rw [hb]; exact hdg) t st, q⟩
theorem vx_faloadN (hexec : p.tables.exec = Jvm.exec) (hb : c.code = cc) {i : Int32} (hdg : decode cc pc = .ok (.faload, 1)) (k : vx_NoteN p l e R s m args below meth c H locs cells slots Q (F0 m pc ls rest)) : W p l e R s m args below meth c H locs cells slots Q (F0 m pc ls (.int i :: .null :: rest)) := by
  intro T hT X
  obtain ⟨t, st, q⟩ := k T hT X
  exact ⟨t, X.faloadNull hexec (g := F0 m pc ls (.int i :: .null :: rest)) rfl (rest := rest) rfl (by rw [hb]; exact hdg) t st, q⟩
theorem vx_daloadN (hexec : p.tables.exec = Jvm.exec) (hb : c.code = cc) {i : Int32} (hdg : decode cc pc = .ok (.daload, 1)) (k : vx_NoteN p l e R s m args below meth c H locs cells slots Q (F0 m pc ls rest)) : W p l e R s m args below meth c H locs cells slots Q (F0 m pc ls (.int i :: .null :: rest)) := by
  intro T hT X
  obtain ⟨t, st, q⟩ := k T hT X
  exact ⟨t, X.daloadNull hexec (g := F0 m pc ls (.int i :: .null :: rest)) rfl (rest := rest) rfl (by rw [hb]; exact hdg) t st, q⟩
theorem vx_aaloadN (hexec : p.tables.exec = Jvm.exec) (hb : c.code = cc) {i : Int32} (hdg : decode cc pc = .ok (.aaload, 1)) (k : vx_NoteN p l e R s m args below meth c H locs cells slots Q (F0 m pc ls rest)) : W p l e R s m args below meth c H locs cells slots Q (F0 m pc ls (.int i :: .null :: rest)) := by
  intro T hT X
  obtain ⟨t, st, q⟩ := k T hT X
  exact ⟨t, X.aaloadNull hexec (g := F0 m pc ls (.int i :: .null :: rest)) rfl (rest := rest) rfl (by rw [hb]; exact hdg) t st, q⟩
theorem vx_baloadN (hexec : p.tables.exec = Jvm.exec) (hb : c.code = cc) {i : Int32} (hdg : decode cc pc = .ok (.baload, 1)) (k : vx_NoteN p l e R s m args below meth c H locs cells slots Q (F0 m pc ls rest)) : W p l e R s m args below meth c H locs cells slots Q (F0 m pc ls (.int i :: .null :: rest)) := by
  intro T hT X
  obtain ⟨t, st, q⟩ := k T hT X
  exact ⟨t, X.baloadNull hexec (g := F0 m pc ls (.int i :: .null :: rest)) rfl (rest := rest) rfl (by rw [hb]; exact hdg) t st, q⟩
theorem vx_caloadN (hexec : p.tables.exec = Jvm.exec) (hb : c.code = cc) {i : Int32} (hdg : decode cc pc = .ok (.caload, 1)) (k : vx_NoteN p l e R s m args below meth c H locs cells slots Q (F0 m pc ls rest)) : W p l e R s m args below meth c H locs cells slots Q (F0 m pc ls (.int i :: .null :: rest)) := by
  intro T hT X
  obtain ⟨t, st, q⟩ := k T hT X
  exact ⟨t, X.caloadNull hexec (g := F0 m pc ls (.int i :: .null :: rest)) rfl (rest := rest) rfl (by rw [hb]; exact hdg) t st, q⟩
theorem vx_saloadN (hexec : p.tables.exec = Jvm.exec) (hb : c.code = cc) {i : Int32} (hdg : decode cc pc = .ok (.saload, 1)) (k : vx_NoteN p l e R s m args below meth c H locs cells slots Q (F0 m pc ls rest)) : W p l e R s m args below meth c H locs cells slots Q (F0 m pc ls (.int i :: .null :: rest)) := by
  intro T hT X
  obtain ⟨t, st, q⟩ := k T hT X
  exact ⟨t, X.saloadNull hexec (g := F0 m pc ls (.int i :: .null :: rest)) rfl (rest := rest) rfl (by rw [hb]; exact hdg) t st, q⟩
theorem vx_iastoreN (hexec : p.tables.exec = Jvm.exec) (hb : c.code = cc) {x : Int32} {i : Int32} (hdg : decode cc pc = .ok (.iastore, 1)) (k : vx_NoteN p l e R s m args below meth c H locs cells slots Q (F0 m pc ls rest)) : W p l e R s m args below meth c H locs cells slots Q (F0 m pc ls (.int x :: .int i :: .null :: rest)) := by
  intro T hT X
  obtain ⟨t, st, q⟩ := k T hT X
  exact ⟨t, X.iastoreNull hexec (g := F0 m pc ls (.int x :: .int i :: .null :: rest)) rfl (rest := rest) rfl (by rw [hb]; exact hdg) t st, q⟩
theorem vx_lastoreN (hexec : p.tables.exec = Jvm.exec) (hb : c.code = cc) {x : Int64} {i : Int32} (hdg : decode cc pc = .ok (.lastore, 1)) (k : vx_NoteN p l e R s m args below meth c H locs cells slots Q (F0 m pc ls rest)) : W p l e R s m args below meth c H locs cells slots Q (F0 m pc ls (.long x :: .int i :: .null :: rest)) := by
  intro T hT X
  obtain ⟨t, st, q⟩ := k T hT X
  exact ⟨t, X.lastoreNull hexec (g := F0 m pc ls (.long x :: .int i :: .null :: rest)) rfl (rest := rest) rfl (by rw [hb]; exact hdg) t st, q⟩
theorem vx_fastoreN (hexec : p.tables.exec = Jvm.exec) (hb : c.code = cc) {x : UInt32} {i : Int32} (hdg : decode cc pc = .ok (.fastore, 1)) (k : vx_NoteN p l e R s m args below meth c H locs cells slots Q (F0 m pc ls rest)) : W p l e R s m args below meth c H locs cells slots Q (F0 m pc ls (.float x :: .int i :: .null :: rest)) := by
  intro T hT X
  obtain ⟨t, st, q⟩ := k T hT X
  exact ⟨t, X.fastoreNull hexec (g := F0 m pc ls (.float x :: .int i :: .null :: rest)) rfl (rest := rest) rfl (by rw [hb]; exact hdg) t st, q⟩
theorem vx_dastoreN (hexec : p.tables.exec = Jvm.exec) (hb : c.code = cc) {x : UInt64} {i : Int32} (hdg : decode cc pc = .ok (.dastore, 1)) (k : vx_NoteN p l e R s m args below meth c H locs cells slots Q (F0 m pc ls rest)) : W p l e R s m args below meth c H locs cells slots Q (F0 m pc ls (.double x :: .int i :: .null :: rest)) := by
  intro T hT X
  obtain ⟨t, st, q⟩ := k T hT X
  exact ⟨t, X.dastoreNull hexec (g := F0 m pc ls (.double x :: .int i :: .null :: rest)) rfl (rest := rest) rfl (by rw [hb]; exact hdg) t st, q⟩
theorem vx_bastoreN (hexec : p.tables.exec = Jvm.exec) (hb : c.code = cc) {x : Int32} {i : Int32} (hdg : decode cc pc = .ok (.bastore, 1)) (k : vx_NoteN p l e R s m args below meth c H locs cells slots Q (F0 m pc ls rest)) : W p l e R s m args below meth c H locs cells slots Q (F0 m pc ls (.int x :: .int i :: .null :: rest)) := by
  intro T hT X
  obtain ⟨t, st, q⟩ := k T hT X
  exact ⟨t, X.bastoreNull hexec (g := F0 m pc ls (.int x :: .int i :: .null :: rest)) rfl (rest := rest) rfl (by rw [hb]; exact hdg) t st, q⟩
theorem vx_castoreN (hexec : p.tables.exec = Jvm.exec) (hb : c.code = cc) {x : Int32} {i : Int32} (hdg : decode cc pc = .ok (.castore, 1)) (k : vx_NoteN p l e R s m args below meth c H locs cells slots Q (F0 m pc ls rest)) : W p l e R s m args below meth c H locs cells slots Q (F0 m pc ls (.int x :: .int i :: .null :: rest)) := by
  intro T hT X
  obtain ⟨t, st, q⟩ := k T hT X
  exact ⟨t, X.castoreNull hexec (g := F0 m pc ls (.int x :: .int i :: .null :: rest)) rfl (rest := rest) rfl (by rw [hb]; exact hdg) t st, q⟩
theorem vx_sastoreN (hexec : p.tables.exec = Jvm.exec) (hb : c.code = cc) {x : Int32} {i : Int32} (hdg : decode cc pc = .ok (.sastore, 1)) (k : vx_NoteN p l e R s m args below meth c H locs cells slots Q (F0 m pc ls rest)) : W p l e R s m args below meth c H locs cells slots Q (F0 m pc ls (.int x :: .int i :: .null :: rest)) := by
  intro T hT X
  obtain ⟨t, st, q⟩ := k T hT X
  exact ⟨t, X.sastoreNull hexec (g := F0 m pc ls (.int x :: .int i :: .null :: rest)) rfl (rest := rest) rfl (by rw [hb]; exact hdg) t st, q⟩
theorem vx_invokeN {own C : String} {index maxL : Nat} {y : MethodName} {bytes : ByteArray} {ret : Option FieldType} (hexec : p.tables.exec = Jvm.exec) (hb : c.code = cc) (hown : s.vm.findClass own = some m.cls) (hlink : (Cond.methodLink own index y).before args s = true) (hinst : (Cond.instanceMethod y).before args s = true) (hcode : (Cond.code y bytes maxL ret).before args s = true) (hsel : (Cond.selects C y y).before args s = true)
    (hx : y.cls ≠ "java/lang/invoke/MethodHandle" ∧ y.cls ≠ "java/lang/invoke/VarHandle") {As : List Value} (hlen : (parseMethodDescriptor y.desc).map (fun d => d.parameters.length) = some As.length) (hdg : decode cc pc = .ok (.invokevirtual index, 3))
    (k : vx_NoteN p l e R s m args below meth c H locs cells slots Q (F0 m pc ls rest)) {st0 : List Value} (hst : st0 = As.reverse ++ .null :: rest) : W p l e R s m args below meth c H locs cells slots Q (F0 m pc ls st0) := by
  intro T hT X
  obtain ⟨r0, r, hn, hrm, hstR, hsigR⟩ := va_Decl.of hinst hcode
  obtain ⟨c2, r2, m2, q1, q2, q3, q4, kP, hkP, hkPi⟩ := Cond.selects_spec hsel
  cases hn.symm.trans q3
  have hl9 : As.length = r.sig.parameters.length := by
    rw [hsigR] at hlen
    exact (Option.some.inj hlen).symm
  obtain ⟨vm', X1, st1⟩ := X.invokevirtualNull hexec hown hlink hn hrm hstR hkP hkPi hx (g := F0 m pc ls st0) rfl (argsL := As) (rest := rest) hl9 hst (by rw [hb]; exact hdg)
  obtain ⟨t, st, q⟩ := k (T.setVm vm') hT X1
  exact ⟨t, st1 t st, q⟩
theorem vx_newarrayZ {atype : ArrayType} (hexec : p.tables.exec = Jvm.exec) (hb : c.code = cc) {n : Int32} (h0 : n < 0) (hdg : decode cc pc = .ok (.newarray atype, 2)) (k : ∀ tx : String, tx = toString n → vx_Note p l e R s m args below meth c H locs cells slots Q (F0 m pc ls rest) "java/lang/NegativeArraySizeException" tx) : W p l e R s m args below meth c H locs cells slots Q (F0 m pc ls (.int n :: rest)) := by
  intro T hT X
  obtain ⟨t, st, q⟩ := k _ rfl T hT X
  exact ⟨t, X.newarrayNegative hexec (g := F0 m pc ls (.int n :: rest)) rfl h0 (rest := rest) rfl (by rw [hb]; exact hdg) t st, q⟩
end
end VXM
/-! ===== END ===== -/
end
section
def RX0 : String := "PatternLaboratory$Desk"
def TX0 : u_T := fun k => match k with
  | 0 => ("PatternLaboratory$Desk", "letters", "I", false)
  | 1 => ("PatternLaboratory$Desk", "pattern", "LPatternLaboratory$Row;", true)
  | 2 => ("PatternLaboratory$Desk", "word", "LPatternLaboratory$Row;", true)
  | _ => ("PatternLaboratory$Desk", "morphism", "LPatternLaboratory$Morphism;", true)
def tyX0 : Nat → FieldType := fun k => match k with
  | 0 => .int
  | 1 => .object "PatternLaboratory$Row"
  | 2 => .object "PatternLaboratory$Row"
  | _ => .object "PatternLaboratory$Morphism"
theorem nmX0 : ∀ a, a < 4 → ∀ b, b < 4 → a ≠ b → (TX0 a).2.1 ≠ (TX0 b).2.1 := by decide +kernel
theorem tyX0_ok : ∀ k, k < 4 → parseFieldDescriptor (TX0 k).2.2.1 = some (tyX0 k) := by decide +kernel
abbrev cX0_init : ByteArray := prog_2_method_1_code
def yX0_init : MethodName := ⟨RX0, "<init>", "()V"⟩
abbrev cX0_become : ByteArray := prog_2_method_2_code
def yX0_become : MethodName := ⟨RX0, "become", "(LPatternLaboratory$Desk;)V"⟩
def RX1 : String := "PatternLaboratory$Matcher"
def TX1 : u_T := fun k => match k with
  | 0 => ("PatternLaboratory$Matcher", "pattern", "LPatternLaboratory$Row;", true)
  | 1 => ("PatternLaboratory$Matcher", "text", "LPatternLaboratory$Row;", true)
  | 2 => ("PatternLaboratory$Matcher", "times", "[I", true)
  | 3 => ("PatternLaboratory$Matcher", "singles", "[I", true)
  | 4 => ("PatternLaboratory$Matcher", "longest", "[I", true)
  | 5 => ("PatternLaboratory$Matcher", "starts", "[I", true)
  | _ => ("PatternLaboratory$Matcher", "lengths", "[I", true)
def tyX1 : Nat → FieldType := fun k => match k with
  | 0 => .object "PatternLaboratory$Row"
  | 1 => .object "PatternLaboratory$Row"
  | 2 => .array .int
  | 3 => .array .int
  | 4 => .array .int
  | 5 => .array .int
  | _ => .array .int
theorem nmX1 : ∀ a, a < 7 → ∀ b, b < 7 → a ≠ b → (TX1 a).2.1 ≠ (TX1 b).2.1 := by decide +kernel
theorem tyX1_ok : ∀ k, k < 7 → parseFieldDescriptor (TX1 k).2.2.1 = some (tyX1 k) := by decide +kernel
abbrev cX1_init : ByteArray := prog_3_method_1_code
def yX1_init : MethodName := ⟨RX1, "<init>", "()V"⟩
abbrev cX1_setPattern : ByteArray := prog_3_method_2_code
def yX1_setPattern : MethodName := ⟨RX1, "setPattern", "(LPatternLaboratory$Row;)V"⟩
abbrev cX1_limitLengths : ByteArray := prog_3_method_3_code
def yX1_limitLengths : MethodName := ⟨RX1, "limitLengths", "()V"⟩
abbrev cX1_setText : ByteArray := prog_3_method_4_code
def yX1_setText : MethodName := ⟨RX1, "setText", "(LPatternLaboratory$Row;)V"⟩
abbrev cX1_firstStart : ByteArray := prog_3_method_5_code
def yX1_firstStart : MethodName := ⟨RX1, "firstStart", "()I"⟩
abbrev cX1_standsAt : ByteArray := prog_3_method_6_code
def yX1_standsAt : MethodName := ⟨RX1, "standsAt", "(I)Z"⟩
abbrev cX1_countAll : ByteArray := prog_3_method_7_code
def yX1_countAll : MethodName := ⟨RX1, "countAll", "()I"⟩
abbrev cX1_forgetLengths : ByteArray := prog_3_method_8_code
def yX1_forgetLengths : MethodName := ⟨RX1, "forgetLengths", "()V"⟩
abbrev cX1_fits : ByteArray := prog_3_method_9_code
def yX1_fits : MethodName := ⟨RX1, "fits", "(III)Z"⟩
abbrev cX1_countFrom : ByteArray := prog_3_method_10_code
def yX1_countFrom : MethodName := ⟨RX1, "countFrom", "(III)I"⟩
abbrev cX1_countRun : ByteArray := prog_3_method_11_code
def yX1_countRun : MethodName := ⟨RX1, "countRun", "(III)I"⟩
abbrev cX1_choose : ByteArray := prog_3_method_12_code
def yX1_choose : MethodName := ⟨RX1, "choose", "(II)I"⟩
abbrev cX1_repeats : ByteArray := prog_3_method_13_code
def yX1_repeats : MethodName := ⟨RX1, "repeats", "(II)Z"⟩
def RX2 : String := "PatternLaboratory$Morphism"
def TX2 : u_T := fun k => match k with
  | _ => ("PatternLaboratory$Morphism", "images", "[LPatternLaboratory$Row;", true)
def tyX2 : Nat → FieldType := fun k => match k with
  | _ => .array (.object "PatternLaboratory$Row")
theorem nmX2 : ∀ a, a < 1 → ∀ b, b < 1 → a ≠ b → (TX2 a).2.1 ≠ (TX2 b).2.1 := by decide +kernel
theorem tyX2_ok : ∀ k, k < 1 → parseFieldDescriptor (TX2 k).2.2.1 = some (tyX2 k) := by decide +kernel
abbrev cX2_init : ByteArray := prog_4_method_1_code
def yX2_init : MethodName := ⟨RX2, "<init>", "()V"⟩
abbrev cX2_clear : ByteArray := prog_4_method_2_code
def yX2_clear : MethodName := ⟨RX2, "clear", "()V"⟩
abbrev cX2_become : ByteArray := prog_4_method_3_code
def yX2_become : MethodName := ⟨RX2, "become", "(LPatternLaboratory$Morphism;)V"⟩
abbrev cX2_becomeFirst : ByteArray := prog_4_method_4_code
def yX2_becomeFirst : MethodName := ⟨RX2, "becomeFirst", "(II)V"⟩
abbrev cX2_becomeNext : ByteArray := prog_4_method_5_code
def yX2_becomeNext : MethodName := ⟨RX2, "becomeNext", "(I)Z"⟩
abbrev cX2_change : ByteArray := prog_4_method_6_code
def yX2_change : MethodName := ⟨RX2, "change", "(LPatternLaboratory$Row;LPatternLaboratory$Row;)Z"⟩
def RX3 : String := "PatternLaboratory$Occurrence"
def TX3 : u_T := fun k => match k with
  | 0 => ("PatternLaboratory$Occurrence", "isKnown", "Z", false)
  | _ => ("PatternLaboratory$Occurrence", "images", "[LPatternLaboratory$Row;", true)
def tyX3 : Nat → FieldType := fun k => match k with
  | 0 => .boolean
  | _ => .array (.object "PatternLaboratory$Row")
theorem nmX3 : ∀ a, a < 2 → ∀ b, b < 2 → a ≠ b → (TX3 a).2.1 ≠ (TX3 b).2.1 := by decide +kernel
theorem tyX3_ok : ∀ k, k < 2 → parseFieldDescriptor (TX3 k).2.2.1 = some (tyX3 k) := by decide +kernel
abbrev cX3_init : ByteArray := prog_5_method_1_code
def yX3_init : MethodName := ⟨RX3, "<init>", "()V"⟩
abbrev cX3_take : ByteArray := prog_5_method_2_code
def yX3_take : MethodName := ⟨RX3, "take", "(LPatternLaboratory$Matcher;)V"⟩
def RX4 : String := "PatternLaboratory$Reducer"
def TX4 : u_T := fun k => match k with
  | 0 => ("PatternLaboratory$Reducer", "lefts", "[I", true)
  | 1 => ("PatternLaboratory$Reducer", "fewest", "[I", true)
  | _ => ("PatternLaboratory$Reducer", "chosen", "[I", true)
def tyX4 : Nat → FieldType := fun k => match k with
  | 0 => .array .int
  | 1 => .array .int
  | _ => .array .int
theorem nmX4 : ∀ a, a < 3 → ∀ b, b < 3 → a ≠ b → (TX4 a).2.1 ≠ (TX4 b).2.1 := by decide +kernel
theorem tyX4_ok : ∀ k, k < 3 → parseFieldDescriptor (TX4 k).2.2.1 = some (tyX4 k) := by decide +kernel
abbrev cX4_init : ByteArray := prog_6_method_1_code
def yX4_init : MethodName := ⟨RX4, "<init>", "()V"⟩
abbrev cX4_link : ByteArray := prog_6_method_2_code
def yX4_link : MethodName := ⟨RX4, "link", "(LPatternLaboratory$Row;I)V"⟩
abbrev cX4_joinAt : ByteArray := prog_6_method_3_code
def yX4_joinAt : MethodName := ⟨RX4, "joinAt", "(I)V"⟩
abbrev cX4_isLinked : ByteArray := prog_6_method_4_code
def yX4_isLinked : MethodName := ⟨RX4, "isLinked", "(II)Z"⟩
abbrev cX4_isLoose : ByteArray := prog_6_method_5_code
def yX4_isLoose : MethodName := ⟨RX4, "isLoose", "(I)Z"⟩
abbrev cX4_countLoose : ByteArray := prog_6_method_6_code
def yX4_countLoose : MethodName := ⟨RX4, "countLoose", "(LPatternLaboratory$Row;)I"⟩
abbrev cX4_looseSet : ByteArray := prog_6_method_7_code
def yX4_looseSet : MethodName := ⟨RX4, "looseSet", "(LPatternLaboratory$Row;I)I"⟩
abbrev cX4_countSteps : ByteArray := prog_6_method_8_code
def yX4_countSteps : MethodName := ⟨RX4, "countSteps", "(LPatternLaboratory$Row;)I"⟩
abbrev cX4_chooseFirst : ByteArray := prog_6_method_9_code
def yX4_chooseFirst : MethodName := ⟨RX4, "chooseFirst", "(I)V"⟩
abbrev cX4_step : ByteArray := prog_6_method_10_code
def yX4_step : MethodName := ⟨RX4, "step", "(II)I"⟩
def RX5 : String := "PatternLaboratory$Repetition"
def TX5 : u_T := fun k => match k with
  | 0 => ("PatternLaboratory$Repetition", "start", "I", false)
  | 1 => ("PatternLaboratory$Repetition", "length", "I", false)
  | _ => ("PatternLaboratory$Repetition", "period", "I", false)
def tyX5 : Nat → FieldType := fun k => match k with
  | 0 => .int
  | 1 => .int
  | _ => .int
theorem nmX5 : ∀ a, a < 3 → ∀ b, b < 3 → a ≠ b → (TX5 a).2.1 ≠ (TX5 b).2.1 := by decide +kernel
theorem tyX5_ok : ∀ k, k < 3 → parseFieldDescriptor (TX5 k).2.2.1 = some (tyX5 k) := by decide +kernel
abbrev cX5_init : ByteArray := prog_7_method_1_code
def yX5_init : MethodName := ⟨RX5, "<init>", "()V"⟩
abbrev cX5_seek : ByteArray := prog_7_method_2_code
def yX5_seek : MethodName := ⟨RX5, "seek", "(LPatternLaboratory$Row;)V"⟩
def RX6 : String := "PatternLaboratory$Row"
def TX6 : u_T := fun k => match k with
  | 0 => ("PatternLaboratory$Row", "items", "[I", true)
  | _ => ("PatternLaboratory$Row", "size", "I", false)
def tyX6 : Nat → FieldType := fun k => match k with
  | 0 => .array .int
  | _ => .int
theorem nmX6 : ∀ a, a < 2 → ∀ b, b < 2 → a ≠ b → (TX6 a).2.1 ≠ (TX6 b).2.1 := by decide +kernel
theorem tyX6_ok : ∀ k, k < 2 → parseFieldDescriptor (TX6 k).2.2.1 = some (tyX6 k) := by decide +kernel
abbrev cX6_init : ByteArray := prog_8_method_1_code
def yX6_init : MethodName := ⟨RX6, "<init>", "()V"⟩
abbrev cX6_has : ByteArray := prog_8_method_2_code
def yX6_has : MethodName := ⟨RX6, "has", "(I)Z"⟩
abbrev cX6_get : ByteArray := prog_8_method_3_code
def yX6_get : MethodName := ⟨RX6, "get", "(I)I"⟩
abbrev cX6_set : ByteArray := prog_8_method_4_code
def yX6_set : MethodName := ⟨RX6, "set", "(II)V"⟩
abbrev cX6_add : ByteArray := prog_8_method_5_code
def yX6_add : MethodName := ⟨RX6, "add", "(I)V"⟩
abbrev cX6_dropLast : ByteArray := prog_8_method_6_code
def yX6_dropLast : MethodName := ⟨RX6, "dropLast", "()V"⟩
abbrev cX6_clear : ByteArray := prog_8_method_7_code
def yX6_clear : MethodName := ⟨RX6, "clear", "()V"⟩
abbrev cX6_become : ByteArray := prog_8_method_8_code
def yX6_become : MethodName := ⟨RX6, "become", "(LPatternLaboratory$Row;)V"⟩
abbrev cX6_becomeZeros : ByteArray := prog_8_method_9_code
def yX6_becomeZeros : MethodName := ⟨RX6, "becomeZeros", "(I)V"⟩
abbrev cX6_becomeReverse : ByteArray := prog_8_method_10_code
def yX6_becomeReverse : MethodName := ⟨RX6, "becomeReverse", "(LPatternLaboratory$Row;)V"⟩
abbrev cX6_becomeCanonical : ByteArray := prog_8_method_11_code
def yX6_becomeCanonical : MethodName := ⟨RX6, "becomeCanonical", "(LPatternLaboratory$Row;)V"⟩
abbrev cX6_becomeZimin : ByteArray := prog_8_method_12_code
def yX6_becomeZimin : MethodName := ⟨RX6, "becomeZimin", "(I)V"⟩
abbrev cX6_removeAll : ByteArray := prog_8_method_13_code
def yX6_removeAll : MethodName := ⟨RX6, "removeAll", "(I)V"⟩
abbrev cX6_isSame : ByteArray := prog_8_method_14_code
def yX6_isSame : MethodName := ⟨RX6, "isSame", "(LPatternLaboratory$Row;)Z"⟩
abbrev cX6_indexOf : ByteArray := prog_8_method_15_code
def yX6_indexOf : MethodName := ⟨RX6, "indexOf", "(I)I"⟩
abbrev cX6_countOf : ByteArray := prog_8_method_16_code
def yX6_countOf : MethodName := ⟨RX6, "countOf", "(I)I"⟩
abbrev cX6_members : ByteArray := prog_8_method_17_code
def yX6_members : MethodName := ⟨RX6, "members", "()I"⟩
def RX7 : String := "PatternLaboratory$Search"
def TX7 : u_T := fun k => match k with
  | 0 => ("PatternLaboratory$Search", "matcher", "LPatternLaboratory$Matcher;", true)
  | 1 => ("PatternLaboratory$Search", "mirrored", "LPatternLaboratory$Row;", true)
  | 2 => ("PatternLaboratory$Search", "word", "LPatternLaboratory$Row;", true)
  | 3 => ("PatternLaboratory$Search", "shortest", "I", false)
  | 4 => ("PatternLaboratory$Search", "letters", "I", false)
  | 5 => ("PatternLaboratory$Search", "trials", "I", false)
  | _ => ("PatternLaboratory$Search", "isGivenUp", "Z", false)
def tyX7 : Nat → FieldType := fun k => match k with
  | 0 => .object "PatternLaboratory$Matcher"
  | 1 => .object "PatternLaboratory$Row"
  | 2 => .object "PatternLaboratory$Row"
  | 3 => .int
  | 4 => .int
  | 5 => .int
  | _ => .boolean
theorem nmX7 : ∀ a, a < 7 → ∀ b, b < 7 → a ≠ b → (TX7 a).2.1 ≠ (TX7 b).2.1 := by decide +kernel
theorem tyX7_ok : ∀ k, k < 7 → parseFieldDescriptor (TX7 k).2.2.1 = some (tyX7 k) := by decide +kernel
abbrev cX7_init : ByteArray := prog_9_method_1_code
def yX7_init : MethodName := ⟨RX7, "<init>", "()V"⟩
abbrev cX7_begin : ByteArray := prog_9_method_2_code
def yX7_begin : MethodName := ⟨RX7, "begin", "(LPatternLaboratory$Row;ILPatternLaboratory$Row;)V"⟩
abbrev cX7_put : ByteArray := prog_9_method_3_code
def yX7_put : MethodName := ⟨RX7, "put", "(I)V"⟩
abbrev cX7_next : ByteArray := prog_9_method_4_code
def yX7_next : MethodName := ⟨RX7, "next", "(I)Z"⟩
def RX8 : String := "PatternLaboratory"
def TX8 : u_T := fun k => match k with
  | 0 => ("PatternLaboratory", "desk", "LPatternLaboratory$Desk;", true)
  | 1 => ("PatternLaboratory", "saved", "LPatternLaboratory$Desk;", true)
  | 2 => ("PatternLaboratory", "isSaved", "Z", false)
  | 3 => ("PatternLaboratory", "shelves", "[LPatternLaboratory$Row;", true)
  | 4 => ("PatternLaboratory", "isFilled", "[Z", true)
  | 5 => ("PatternLaboratory", "remembered", "LPatternLaboratory$Occurrence;", true)
  | 6 => ("PatternLaboratory", "matcher", "LPatternLaboratory$Matcher;", true)
  | 7 => ("PatternLaboratory", "search", "LPatternLaboratory$Search;", true)
  | 8 => ("PatternLaboratory", "reducer", "LPatternLaboratory$Reducer;", true)
  | 9 => ("PatternLaboratory", "repetition", "LPatternLaboratory$Repetition;", true)
  | 10 => ("PatternLaboratory", "candidate", "LPatternLaboratory$Morphism;", true)
  | 11 => ("PatternLaboratory", "draft", "LPatternLaboratory$Row;", true)
  | _ => ("PatternLaboratory", "result", "LPatternLaboratory$Row;", true)
def tyX8 : Nat → FieldType := fun k => match k with
  | 0 => .object "PatternLaboratory$Desk"
  | 1 => .object "PatternLaboratory$Desk"
  | 2 => .boolean
  | 3 => .array (.object "PatternLaboratory$Row")
  | 4 => .array .boolean
  | 5 => .object "PatternLaboratory$Occurrence"
  | 6 => .object "PatternLaboratory$Matcher"
  | 7 => .object "PatternLaboratory$Search"
  | 8 => .object "PatternLaboratory$Reducer"
  | 9 => .object "PatternLaboratory$Repetition"
  | 10 => .object "PatternLaboratory$Morphism"
  | 11 => .object "PatternLaboratory$Row"
  | _ => .object "PatternLaboratory$Row"
theorem nmX8 : ∀ a, a < 13 → ∀ b, b < 13 → a ≠ b → (TX8 a).2.1 ≠ (TX8 b).2.1 := by decide +kernel
theorem tyX8_ok : ∀ k, k < 13 → parseFieldDescriptor (TX8 k).2.2.1 = some (tyX8 k) := by decide +kernel
abbrev cX8_init : ByteArray := prog_1_method_1_code
def yX8_init : MethodName := ⟨RX8, "<init>", "()V"⟩
abbrev cX8_appendVariable : ByteArray := prog_1_method_2_code
def yX8_appendVariable : MethodName := ⟨RX8, "appendVariable", "(I)I"⟩
abbrev cX8_clearPattern : ByteArray := prog_1_method_3_code
def yX8_clearPattern : MethodName := ⟨RX8, "clearPattern", "()I"⟩
abbrev cX8_patternLength : ByteArray := prog_1_method_4_code
def yX8_patternLength : MethodName := ⟨RX8, "patternLength", "()I"⟩
abbrev cX8_patternVariable : ByteArray := prog_1_method_5_code
def yX8_patternVariable : MethodName := ⟨RX8, "patternVariable", "(I)I"⟩
abbrev cX8_variables : ByteArray := prog_1_method_6_code
def yX8_variables : MethodName := ⟨RX8, "variables", "()I"⟩
abbrev cX8_loadZimin : ByteArray := prog_1_method_7_code
def yX8_loadZimin : MethodName := ⟨RX8, "loadZimin", "(I)I"⟩
abbrev cX8_canonicalize : ByteArray := prog_1_method_8_code
def yX8_canonicalize : MethodName := ⟨RX8, "canonicalize", "()Z"⟩
abbrev cX8_reversePattern : ByteArray := prog_1_method_9_code
def yX8_reversePattern : MethodName := ⟨RX8, "reversePattern", "()Z"⟩
abbrev cX8_occursInZimin : ByteArray := prog_1_method_10_code
def yX8_occursInZimin : MethodName := ⟨RX8, "occursInZimin", "(I)Z"⟩
abbrev cX8_shelve : ByteArray := prog_1_method_11_code
def yX8_shelve : MethodName := ⟨RX8, "shelve", "(I)I"⟩
abbrev cX8_useShelf : ByteArray := prog_1_method_12_code
def yX8_useShelf : MethodName := ⟨RX8, "useShelf", "(I)I"⟩
abbrev cX8_isIsomorphic : ByteArray := prog_1_method_13_code
def yX8_isIsomorphic : MethodName := ⟨RX8, "isIsomorphic", "(I)Z"⟩
abbrev cX8_contains : ByteArray := prog_1_method_14_code
def yX8_contains : MethodName := ⟨RX8, "contains", "(I)Z"⟩
abbrev cX8_setLetterCount : ByteArray := prog_1_method_15_code
def yX8_setLetterCount : MethodName := ⟨RX8, "setLetterCount", "(I)I"⟩
abbrev cX8_appendLetter : ByteArray := prog_1_method_16_code
def yX8_appendLetter : MethodName := ⟨RX8, "appendLetter", "(I)I"⟩
abbrev cX8_clearWord : ByteArray := prog_1_method_17_code
def yX8_clearWord : MethodName := ⟨RX8, "clearWord", "()I"⟩
abbrev cX8_wordLength : ByteArray := prog_1_method_18_code
def yX8_wordLength : MethodName := ⟨RX8, "wordLength", "()I"⟩
abbrev cX8_letter : ByteArray := prog_1_method_19_code
def yX8_letter : MethodName := ⟨RX8, "letter", "(I)I"⟩
abbrev cX8_density : ByteArray := prog_1_method_20_code
def yX8_density : MethodName := ⟨RX8, "density", "(I)F"⟩
abbrev cX8_discountedSum : ByteArray := prog_1_method_21_code
def yX8_discountedSum : MethodName := ⟨RX8, "discountedSum", "(D)D"⟩
abbrev cX8_greatestExponent : ByteArray := prog_1_method_22_code
def yX8_greatestExponent : MethodName := ⟨RX8, "greatestExponent", "()D"⟩
abbrev cX8_strongestFactor : ByteArray := prog_1_method_23_code
def yX8_strongestFactor : MethodName := ⟨RX8, "strongestFactor", "(I)I"⟩
abbrev cX8_avoids : ByteArray := prog_1_method_24_code
def yX8_avoids : MethodName := ⟨RX8, "avoids", "()Z"⟩
abbrev cX8_findOccurrence : ByteArray := prog_1_method_25_code
def yX8_findOccurrence : MethodName := ⟨RX8, "findOccurrence", "()I"⟩
abbrev cX8_imageLength : ByteArray := prog_1_method_26_code
def yX8_imageLength : MethodName := ⟨RX8, "imageLength", "(I)I"⟩
abbrev cX8_imageLetter : ByteArray := prog_1_method_27_code
def yX8_imageLetter : MethodName := ⟨RX8, "imageLetter", "(II)I"⟩
abbrev cX8_occurrenceCount : ByteArray := prog_1_method_28_code
def yX8_occurrenceCount : MethodName := ⟨RX8, "occurrenceCount", "()I"⟩
abbrev cX8_areConnected : ByteArray := prog_1_method_29_code
def yX8_areConnected : MethodName := ⟨RX8, "areConnected", "(II)Z"⟩
abbrev cX8_isFree : ByteArray := prog_1_method_30_code
def yX8_isFree : MethodName := ⟨RX8, "isFree", "(I)Z"⟩
abbrev cX8_freeSetCount : ByteArray := prog_1_method_31_code
def yX8_freeSetCount : MethodName := ⟨RX8, "freeSetCount", "()I"⟩
abbrev cX8_freeSet : ByteArray := prog_1_method_32_code
def yX8_freeSet : MethodName := ⟨RX8, "freeSet", "(I)I"⟩
abbrev cX8_delete : ByteArray := prog_1_method_33_code
def yX8_delete : MethodName := ⟨RX8, "delete", "(I)I"⟩
abbrev cX8_isUnavoidable : ByteArray := prog_1_method_34_code
def yX8_isUnavoidable : MethodName := ⟨RX8, "isUnavoidable", "()Z"⟩
abbrev cX8_reductionLength : ByteArray := prog_1_method_35_code
def yX8_reductionLength : MethodName := ⟨RX8, "reductionLength", "()I"⟩
abbrev cX8_reductionSet : ByteArray := prog_1_method_36_code
def yX8_reductionSet : MethodName := ⟨RX8, "reductionSet", "(I)I"⟩
abbrev cX8_extend : ByteArray := prog_1_method_37_code
def yX8_extend : MethodName := ⟨RX8, "extend", "(I)I"⟩
abbrev cX8_longestAvoiding : ByteArray := prog_1_method_38_code
def yX8_longestAvoiding : MethodName := ⟨RX8, "longestAvoiding", "(I)I"⟩
abbrev cX8_countAvoiding : ByteArray := prog_1_method_39_code
def yX8_countAvoiding : MethodName := ⟨RX8, "countAvoiding", "(I)I"⟩
abbrev cX8_growth : ByteArray := prog_1_method_40_code
def yX8_growth : MethodName := ⟨RX8, "growth", "(I)D"⟩
abbrev cX8_appendImage : ByteArray := prog_1_method_41_code
def yX8_appendImage : MethodName := ⟨RX8, "appendImage", "(II)I"⟩
abbrev cX8_clearImage : ByteArray := prog_1_method_42_code
def yX8_clearImage : MethodName := ⟨RX8, "clearImage", "(I)I"⟩
abbrev cX8_applyMorphism : ByteArray := prog_1_method_43_code
def yX8_applyMorphism : MethodName := ⟨RX8, "applyMorphism", "()I"⟩
abbrev cX8_iterate : ByteArray := prog_1_method_44_code
def yX8_iterate : MethodName := ⟨RX8, "iterate", "(II)I"⟩
abbrev cX8_findMorphism : ByteArray := prog_1_method_45_code
def yX8_findMorphism : MethodName := ⟨RX8, "findMorphism", "(II)I"⟩
abbrev cX8_countSpoiled : ByteArray := prog_1_method_46_code
def yX8_countSpoiled : MethodName := ⟨RX8, "countSpoiled", "(I)I"⟩
abbrev cX8_save : ByteArray := prog_1_method_47_code
def yX8_save : MethodName := ⟨RX8, "save", "()I"⟩
abbrev cX8_restore : ByteArray := prog_1_method_48_code
def yX8_restore : MethodName := ⟨RX8, "restore", "()I"⟩
abbrev cX8_isVariable : ByteArray := prog_1_method_49_code
def yX8_isVariable : MethodName := ⟨RX8, "isVariable", "(I)Z"⟩
abbrev cX8_holds : ByteArray := prog_1_method_50_code
def yX8_holds : MethodName := ⟨RX8, "holds", "(II)Z"⟩
abbrev cX8_requireZimin : ByteArray := prog_1_method_51_code
def yX8_requireZimin : MethodName := ⟨RX8, "requireZimin", "(I)V"⟩
abbrev cX8_requireShelf : ByteArray := prog_1_method_52_code
def yX8_requireShelf : MethodName := ⟨RX8, "requireShelf", "(I)V"⟩
abbrev cX8_requireFilled : ByteArray := prog_1_method_53_code
def yX8_requireFilled : MethodName := ⟨RX8, "requireFilled", "(I)V"⟩
abbrev cX8_requireLetter : ByteArray := prog_1_method_54_code
def yX8_requireLetter : MethodName := ⟨RX8, "requireLetter", "(I)V"⟩
abbrev cX8_requirePattern : ByteArray := prog_1_method_55_code
def yX8_requirePattern : MethodName := ⟨RX8, "requirePattern", "()V"⟩
abbrev cX8_requireWord : ByteArray := prog_1_method_56_code
def yX8_requireWord : MethodName := ⟨RX8, "requireWord", "()V"⟩
abbrev cX8_requireRemembered : ByteArray := prog_1_method_57_code
def yX8_requireRemembered : MethodName := ⟨RX8, "requireRemembered", "(I)V"⟩
abbrev cX8_requireSet : ByteArray := prog_1_method_58_code
def yX8_requireSet : MethodName := ⟨RX8, "requireSet", "(I)V"⟩
abbrev cX8_requireReduction : ByteArray := prog_1_method_59_code
def yX8_requireReduction : MethodName := ⟨RX8, "requireReduction", "()I"⟩
abbrev cX8_requireEnd : ByteArray := prog_1_method_60_code
def yX8_requireEnd : MethodName := ⟨RX8, "requireEnd", "(Z)V"⟩
abbrev cX8_changePattern : ByteArray := prog_1_method_61_code
def yX8_changePattern : MethodName := ⟨RX8, "changePattern", "(LPatternLaboratory$Row;)Z"⟩
abbrev cX8_occurs : ByteArray := prog_1_method_62_code
def yX8_occurs : MethodName := ⟨RX8, "occurs", "(LPatternLaboratory$Row;LPatternLaboratory$Row;)Z"⟩
abbrev cX8_beginWithNothing : ByteArray := prog_1_method_63_code
def yX8_beginWithNothing : MethodName := ⟨RX8, "beginWithNothing", "()V"⟩
abbrev cX8_countWords : ByteArray := prog_1_method_64_code
def yX8_countWords : MethodName := ⟨RX8, "countWords", "(I)I"⟩
abbrev cX8_countSpoiledBy : ByteArray := prog_1_method_65_code
def yX8_countSpoiledBy : MethodName := ⟨RX8, "countSpoiledBy", "(LPatternLaboratory$Morphism;I)I"⟩
abbrev cX8_spoils : ByteArray := prog_1_method_66_code
def yX8_spoils : MethodName := ⟨RX8, "spoils", "(LPatternLaboratory$Morphism;LPatternLaboratory$Row;)Z"⟩
def RX9 : String := "PatternLaboratoryModel"
def TX9 : u_T := fun k => match k with
  | 0 => ("PatternLaboratoryModel", "thrown", "I", false)
  | 1 => ("PatternLaboratoryModel", "patternSize", "I", false)
  | 2 => ("PatternLaboratoryModel", "pattern", "[I", true)
  | 3 => ("PatternLaboratoryModel", "letters", "I", false)
  | 4 => ("PatternLaboratoryModel", "wordSize", "I", false)
  | 5 => ("PatternLaboratoryModel", "word", "[I", true)
  | 6 => ("PatternLaboratoryModel", "imageSize", "[I", true)
  | 7 => ("PatternLaboratoryModel", "image", "[I", true)
  | 8 => ("PatternLaboratoryModel", "shelfSize", "[I", true)
  | 9 => ("PatternLaboratoryModel", "shelf", "[I", true)
  | 10 => ("PatternLaboratoryModel", "remembers", "Z", false)
  | 11 => ("PatternLaboratoryModel", "foundStart", "I", false)
  | 12 => ("PatternLaboratoryModel", "foundSize", "[I", true)
  | 13 => ("PatternLaboratoryModel", "found", "[I", true)
  | 14 => ("PatternLaboratoryModel", "hasSaved", "Z", false)
  | 15 => ("PatternLaboratoryModel", "savedLetters", "I", false)
  | 16 => ("PatternLaboratoryModel", "savedPatternSize", "I", false)
  | 17 => ("PatternLaboratoryModel", "savedWordSize", "I", false)
  | 18 => ("PatternLaboratoryModel", "savedPattern", "[I", true)
  | 19 => ("PatternLaboratoryModel", "savedWord", "[I", true)
  | 20 => ("PatternLaboratoryModel", "savedImageSize", "[I", true)
  | 21 => ("PatternLaboratoryModel", "savedImage", "[I", true)
  | 22 => ("PatternLaboratoryModel", "names", "[I", true)
  | 23 => ("PatternLaboratoryModel", "soughtSize", "I", false)
  | 24 => ("PatternLaboratoryModel", "sought", "[I", true)
  | 25 => ("PatternLaboratoryModel", "textSize", "I", false)
  | 26 => ("PatternLaboratoryModel", "text", "[I", true)
  | 27 => ("PatternLaboratoryModel", "from", "[I", true)
  | 28 => ("PatternLaboratoryModel", "size", "[I", true)
  | 29 => ("PatternLaboratoryModel", "many", "I", false)
  | 30 => ("PatternLaboratoryModel", "strongStart", "I", false)
  | 31 => ("PatternLaboratoryModel", "strongSize", "I", false)
  | 32 => ("PatternLaboratoryModel", "strongPeriod", "I", false)
  | 33 => ("PatternLaboratoryModel", "group", "[I", true)
  | 34 => ("PatternLaboratoryModel", "fewest", "[I", true)
  | 35 => ("PatternLaboratoryModel", "next", "[I", true)
  | 36 => ("PatternLaboratoryModel", "trials", "I", false)
  | 37 => ("PatternLaboratoryModel", "givenUp", "Z", false)
  | 38 => ("PatternLaboratoryModel", "longest", "I", false)
  | 39 => ("PatternLaboratoryModel", "words", "I", false)
  | 40 => ("PatternLaboratoryModel", "spoiled", "I", false)
  | 41 => ("PatternLaboratoryModel", "kept", "[I", true)
  | 42 => ("PatternLaboratoryModel", "made", "[I", true)
  | 43 => ("PatternLaboratoryModel", "hadSize", "[I", true)
  | _ => ("PatternLaboratoryModel", "hadImage", "[I", true)
def tyX9 : Nat → FieldType := fun k => match k with
  | 0 => .int
  | 1 => .int
  | 2 => .array .int
  | 3 => .int
  | 4 => .int
  | 5 => .array .int
  | 6 => .array .int
  | 7 => .array .int
  | 8 => .array .int
  | 9 => .array .int
  | 10 => .boolean
  | 11 => .int
  | 12 => .array .int
  | 13 => .array .int
  | 14 => .boolean
  | 15 => .int
  | 16 => .int
  | 17 => .int
  | 18 => .array .int
  | 19 => .array .int
  | 20 => .array .int
  | 21 => .array .int
  | 22 => .array .int
  | 23 => .int
  | 24 => .array .int
  | 25 => .int
  | 26 => .array .int
  | 27 => .array .int
  | 28 => .array .int
  | 29 => .int
  | 30 => .int
  | 31 => .int
  | 32 => .int
  | 33 => .array .int
  | 34 => .array .int
  | 35 => .array .int
  | 36 => .int
  | 37 => .boolean
  | 38 => .int
  | 39 => .int
  | 40 => .int
  | 41 => .array .int
  | 42 => .array .int
  | 43 => .array .int
  | _ => .array .int
theorem nmX9 : ∀ a, a < 45 → ∀ b, b < 45 → a ≠ b → (TX9 a).2.1 ≠ (TX9 b).2.1 := by decide +kernel
theorem tyX9_ok : ∀ k, k < 45 → parseFieldDescriptor (TX9 k).2.2.1 = some (tyX9 k) := by decide +kernel
abbrev cX9_init : ByteArray := prog_11_method_1_code
def yX9_init : MethodName := ⟨RX9, "<init>", "()V"⟩
abbrev cX9_thrown : ByteArray := prog_11_method_2_code
def yX9_thrown : MethodName := ⟨RX9, "thrown", "()I"⟩
abbrev cX9_in : ByteArray := prog_11_method_3_code
def yX9_in : MethodName := ⟨RX9, "in", "(III)Z"⟩
abbrev cX9_fails : ByteArray := prog_11_method_4_code
def yX9_fails : MethodName := ⟨RX9, "fails", "(I)I"⟩
abbrev cX9_done : ByteArray := prog_11_method_5_code
def yX9_done : MethodName := ⟨RX9, "done", "(I)I"⟩
abbrev cX9_so : ByteArray := prog_11_method_6_code
def yX9_so : MethodName := ⟨RX9, "so", "(Z)Z"⟩
abbrev cX9_not : ByteArray := prog_11_method_7_code
def yX9_not : MethodName := ⟨RX9, "not", "(I)Z"⟩
abbrev cX9_appendVariable : ByteArray := prog_11_method_8_code
def yX9_appendVariable : MethodName := ⟨RX9, "appendVariable", "(I)I"⟩
abbrev cX9_clearPattern : ByteArray := prog_11_method_9_code
def yX9_clearPattern : MethodName := ⟨RX9, "clearPattern", "()I"⟩
abbrev cX9_patternLength : ByteArray := prog_11_method_10_code
def yX9_patternLength : MethodName := ⟨RX9, "patternLength", "()I"⟩
abbrev cX9_patternVariable : ByteArray := prog_11_method_11_code
def yX9_patternVariable : MethodName := ⟨RX9, "patternVariable", "(I)I"⟩
abbrev cX9_variablesOf : ByteArray := prog_11_method_12_code
def yX9_variablesOf : MethodName := ⟨RX9, "variablesOf", "()I"⟩
abbrev cX9_variables : ByteArray := prog_11_method_13_code
def yX9_variables : MethodName := ⟨RX9, "variables", "()I"⟩
abbrev cX9_zimin : ByteArray := prog_11_method_14_code
def yX9_zimin : MethodName := ⟨RX9, "zimin", "(I)I"⟩
abbrev cX9_loadZimin : ByteArray := prog_11_method_15_code
def yX9_loadZimin : MethodName := ⟨RX9, "loadZimin", "(I)I"⟩
abbrev cX9_tellNames : ByteArray := prog_11_method_16_code
def yX9_tellNames : MethodName := ⟨RX9, "tellNames", "([III)V"⟩
abbrev cX9_canonicalize : ByteArray := prog_11_method_17_code
def yX9_canonicalize : MethodName := ⟨RX9, "canonicalize", "()Z"⟩
abbrev cX9_reversePattern : ByteArray := prog_11_method_18_code
def yX9_reversePattern : MethodName := ⟨RX9, "reversePattern", "()Z"⟩
abbrev cX9_seek : ByteArray := prog_11_method_19_code
def yX9_seek : MethodName := ⟨RX9, "seek", "([III)V"⟩
abbrev cX9_goesOn : ByteArray := prog_11_method_20_code
def yX9_goesOn : MethodName := ⟨RX9, "goesOn", "(LPatternLaboratoryModel;IIZI)Z"⟩
abbrev cX9_standsAgain : ByteArray := prog_11_method_21_code
def yX9_standsAgain : MethodName := ⟨RX9, "standsAgain", "(II)Z"⟩
abbrev cX9_first : ByteArray := prog_11_method_22_code
def yX9_first : MethodName := ⟨RX9, "first", "(I)I"⟩
abbrev cX9_layWord : ByteArray := prog_11_method_23_code
def yX9_layWord : MethodName := ⟨RX9, "layWord", "()V"⟩
abbrev cX9_occursInZimin : ByteArray := prog_11_method_24_code
def yX9_occursInZimin : MethodName := ⟨RX9, "occursInZimin", "(I)Z"⟩
abbrev cX9_shelve : ByteArray := prog_11_method_25_code
def yX9_shelve : MethodName := ⟨RX9, "shelve", "(I)I"⟩
abbrev cX9_useShelf : ByteArray := prog_11_method_26_code
def yX9_useShelf : MethodName := ⟨RX9, "useShelf", "(I)I"⟩
abbrev cX9_isIsomorphic : ByteArray := prog_11_method_27_code
def yX9_isIsomorphic : MethodName := ⟨RX9, "isIsomorphic", "(I)Z"⟩
abbrev cX9_contains : ByteArray := prog_11_method_28_code
def yX9_contains : MethodName := ⟨RX9, "contains", "(I)Z"⟩
abbrev cX9_isLetter : ByteArray := prog_11_method_29_code
def yX9_isLetter : MethodName := ⟨RX9, "isLetter", "(I)Z"⟩
abbrev cX9_setLetterCount : ByteArray := prog_11_method_30_code
def yX9_setLetterCount : MethodName := ⟨RX9, "setLetterCount", "(I)I"⟩
abbrev cX9_appendLetter : ByteArray := prog_11_method_31_code
def yX9_appendLetter : MethodName := ⟨RX9, "appendLetter", "(I)I"⟩
abbrev cX9_clearWord : ByteArray := prog_11_method_32_code
def yX9_clearWord : MethodName := ⟨RX9, "clearWord", "()I"⟩
abbrev cX9_wordLength : ByteArray := prog_11_method_33_code
def yX9_wordLength : MethodName := ⟨RX9, "wordLength", "()I"⟩
abbrev cX9_letter : ByteArray := prog_11_method_34_code
def yX9_letter : MethodName := ⟨RX9, "letter", "(I)I"⟩
abbrev cX9_density : ByteArray := prog_11_method_35_code
def yX9_density : MethodName := ⟨RX9, "density", "(I)F"⟩
abbrev cX9_discountedSum : ByteArray := prog_11_method_36_code
def yX9_discountedSum : MethodName := ⟨RX9, "discountedSum", "(D)D"⟩
abbrev cX9_period : ByteArray := prog_11_method_37_code
def yX9_period : MethodName := ⟨RX9, "period", "(II)I"⟩
abbrev cX9_tellStrongest : ByteArray := prog_11_method_38_code
def yX9_tellStrongest : MethodName := ⟨RX9, "tellStrongest", "()V"⟩
abbrev cX9_greatestExponent : ByteArray := prog_11_method_39_code
def yX9_greatestExponent : MethodName := ⟨RX9, "greatestExponent", "()D"⟩
abbrev cX9_strongestFactor : ByteArray := prog_11_method_40_code
def yX9_strongestFactor : MethodName := ⟨RX9, "strongestFactor", "(I)I"⟩
abbrev cX9_doesAvoid : ByteArray := prog_11_method_41_code
def yX9_doesAvoid : MethodName := ⟨RX9, "doesAvoid", "()Z"⟩
abbrev cX9_avoids : ByteArray := prog_11_method_42_code
def yX9_avoids : MethodName := ⟨RX9, "avoids", "()Z"⟩
abbrev cX9_findOccurrence : ByteArray := prog_11_method_43_code
def yX9_findOccurrence : MethodName := ⟨RX9, "findOccurrence", "()I"⟩
abbrev cX9_imageLength : ByteArray := prog_11_method_44_code
def yX9_imageLength : MethodName := ⟨RX9, "imageLength", "(I)I"⟩
abbrev cX9_imageLetter : ByteArray := prog_11_method_45_code
def yX9_imageLetter : MethodName := ⟨RX9, "imageLetter", "(II)I"⟩
abbrev cX9_occurrenceCount : ByteArray := prog_11_method_46_code
def yX9_occurrenceCount : MethodName := ⟨RX9, "occurrenceCount", "()I"⟩
abbrev cX9_tellGroups : ByteArray := prog_11_method_47_code
def yX9_tellGroups : MethodName := ⟨RX9, "tellGroups", "(I)V"⟩
abbrev cX9_joins : ByteArray := prog_11_method_48_code
def yX9_joins : MethodName := ⟨RX9, "joins", "(II)V"⟩
abbrev cX9_isFreeSet : ByteArray := prog_11_method_49_code
def yX9_isFreeSet : MethodName := ⟨RX9, "isFreeSet", "(I)Z"⟩
abbrev cX9_isOfPattern : ByteArray := prog_11_method_50_code
def yX9_isOfPattern : MethodName := ⟨RX9, "isOfPattern", "(I)Z"⟩
abbrev cX9_areConnected : ByteArray := prog_11_method_51_code
def yX9_areConnected : MethodName := ⟨RX9, "areConnected", "(II)Z"⟩
abbrev cX9_isFree : ByteArray := prog_11_method_52_code
def yX9_isFree : MethodName := ⟨RX9, "isFree", "(I)Z"⟩
abbrev cX9_freeSetCount : ByteArray := prog_11_method_53_code
def yX9_freeSetCount : MethodName := ⟨RX9, "freeSetCount", "()I"⟩
abbrev cX9_freeSet : ByteArray := prog_11_method_54_code
def yX9_freeSet : MethodName := ⟨RX9, "freeSet", "(I)I"⟩
abbrev cX9_delete : ByteArray := prog_11_method_55_code
def yX9_delete : MethodName := ⟨RX9, "delete", "(I)I"⟩
abbrev cX9_tellReductions : ByteArray := prog_11_method_56_code
def yX9_tellReductions : MethodName := ⟨RX9, "tellReductions", "()V"⟩
abbrev cX9_isUnavoidable : ByteArray := prog_11_method_57_code
def yX9_isUnavoidable : MethodName := ⟨RX9, "isUnavoidable", "()Z"⟩
abbrev cX9_reductionLength : ByteArray := prog_11_method_58_code
def yX9_reductionLength : MethodName := ⟨RX9, "reductionLength", "()I"⟩
abbrev cX9_reductionSet : ByteArray := prog_11_method_59_code
def yX9_reductionSet : MethodName := ⟨RX9, "reductionSet", "(I)I"⟩
abbrev cX9_tries : ByteArray := prog_11_method_60_code
def yX9_tries : MethodName := ⟨RX9, "tries", "(I)Z"⟩
abbrev cX9_extends0 : ByteArray := prog_11_method_61_code
def yX9_extends0 : MethodName := ⟨RX9, "extends0", "(LPatternLaboratoryModel;I)Z"⟩
abbrev cX9_begins : ByteArray := prog_11_method_62_code
def yX9_begins : MethodName := ⟨RX9, "begins", "()V"⟩
abbrev cX9_extend : ByteArray := prog_11_method_63_code
def yX9_extend : MethodName := ⟨RX9, "extend", "(I)I"⟩
abbrev cX9_longestAvoiding : ByteArray := prog_11_method_64_code
def yX9_longestAvoiding : MethodName := ⟨RX9, "longestAvoiding", "(I)I"⟩
abbrev cX9_counts : ByteArray := prog_11_method_65_code
def yX9_counts : MethodName := ⟨RX9, "counts", "(LPatternLaboratoryModel;IZ)V"⟩
abbrev cX9_isSpoiled : ByteArray := prog_11_method_66_code
def yX9_isSpoiled : MethodName := ⟨RX9, "isSpoiled", "()Z"⟩
abbrev cX9_countAll : ByteArray := prog_11_method_67_code
def yX9_countAll : MethodName := ⟨RX9, "countAll", "(IZ)V"⟩
abbrev cX9_countAvoiding : ByteArray := prog_11_method_68_code
def yX9_countAvoiding : MethodName := ⟨RX9, "countAvoiding", "(I)I"⟩
abbrev cX9_growth : ByteArray := prog_11_method_69_code
def yX9_growth : MethodName := ⟨RX9, "growth", "(I)D"⟩
abbrev cX9_appendImage : ByteArray := prog_11_method_70_code
def yX9_appendImage : MethodName := ⟨RX9, "appendImage", "(II)I"⟩
abbrev cX9_clearImage : ByteArray := prog_11_method_71_code
def yX9_clearImage : MethodName := ⟨RX9, "clearImage", "(I)I"⟩
abbrev cX9_applies : ByteArray := prog_11_method_72_code
def yX9_applies : MethodName := ⟨RX9, "applies", "()Z"⟩
abbrev cX9_wordIsText : ByteArray := prog_11_method_73_code
def yX9_wordIsText : MethodName := ⟨RX9, "wordIsText", "()I"⟩
abbrev cX9_applyMorphism : ByteArray := prog_11_method_74_code
def yX9_applyMorphism : MethodName := ⟨RX9, "applyMorphism", "()I"⟩
abbrev cX9_iterate : ByteArray := prog_11_method_75_code
def yX9_iterate : MethodName := ⟨RX9, "iterate", "(II)I"⟩
abbrev cX9_copyImages : ByteArray := prog_11_method_76_code
def yX9_copyImages : MethodName := ⟨RX9, "copyImages", "([I[I[I[I)V"⟩
abbrev cX9_setImages : ByteArray := prog_11_method_77_code
def yX9_setImages : MethodName := ⟨RX9, "setImages", "(II)V"⟩
abbrev cX9_findMorphism : ByteArray := prog_11_method_78_code
def yX9_findMorphism : MethodName := ⟨RX9, "findMorphism", "(II)I"⟩
abbrev cX9_countSpoiled : ByteArray := prog_11_method_79_code
def yX9_countSpoiled : MethodName := ⟨RX9, "countSpoiled", "(I)I"⟩
abbrev cX9_save : ByteArray := prog_11_method_80_code
def yX9_save : MethodName := ⟨RX9, "save", "()I"⟩
abbrev cX9_restore : ByteArray := prog_11_method_81_code
def yX9_restore : MethodName := ⟨RX9, "restore", "()I"⟩
def RL : String := "PatternLaboratoryLaw"
abbrev cL_appendVariable : ByteArray := method_3_code
def yL_appendVariable : MethodName := ⟨RL, "appendVariable", "(LPatternLaboratory;I[J)I"⟩
abbrev cL_patternVariable : ByteArray := method_4_code
def yL_patternVariable : MethodName := ⟨RL, "patternVariable", "(LPatternLaboratory;I[J)I"⟩
abbrev cL_loadZimin : ByteArray := method_5_code
def yL_loadZimin : MethodName := ⟨RL, "loadZimin", "(LPatternLaboratory;I[J)I"⟩
abbrev cL_occursInZimin : ByteArray := method_6_code
def yL_occursInZimin : MethodName := ⟨RL, "occursInZimin", "(LPatternLaboratory;I[J)I"⟩
abbrev cL_shelve : ByteArray := method_7_code
def yL_shelve : MethodName := ⟨RL, "shelve", "(LPatternLaboratory;I[J)I"⟩
abbrev cL_useShelf : ByteArray := method_8_code
def yL_useShelf : MethodName := ⟨RL, "useShelf", "(LPatternLaboratory;I[J)I"⟩
abbrev cL_isIsomorphic : ByteArray := method_9_code
def yL_isIsomorphic : MethodName := ⟨RL, "isIsomorphic", "(LPatternLaboratory;I[J)I"⟩
abbrev cL_contains : ByteArray := method_10_code
def yL_contains : MethodName := ⟨RL, "contains", "(LPatternLaboratory;I[J)I"⟩
abbrev cL_setLetterCount : ByteArray := method_11_code
def yL_setLetterCount : MethodName := ⟨RL, "setLetterCount", "(LPatternLaboratory;I[J)I"⟩
abbrev cL_appendLetter : ByteArray := method_12_code
def yL_appendLetter : MethodName := ⟨RL, "appendLetter", "(LPatternLaboratory;I[J)I"⟩
abbrev cL_letter : ByteArray := method_13_code
def yL_letter : MethodName := ⟨RL, "letter", "(LPatternLaboratory;I[J)I"⟩
abbrev cL_density : ByteArray := method_14_code
def yL_density : MethodName := ⟨RL, "density", "(LPatternLaboratory;I[D)I"⟩
abbrev cL_discountedSum : ByteArray := method_15_code
def yL_discountedSum : MethodName := ⟨RL, "discountedSum", "(LPatternLaboratory;D[D)I"⟩
abbrev cL_greatestExponent : ByteArray := method_16_code
def yL_greatestExponent : MethodName := ⟨RL, "greatestExponent", "(LPatternLaboratory;[D)I"⟩
abbrev cL_strongestFactor : ByteArray := method_17_code
def yL_strongestFactor : MethodName := ⟨RL, "strongestFactor", "(LPatternLaboratory;I[J)I"⟩
abbrev cL_avoids : ByteArray := method_18_code
def yL_avoids : MethodName := ⟨RL, "avoids", "(LPatternLaboratory;[J)I"⟩
abbrev cL_findOccurrence : ByteArray := method_19_code
def yL_findOccurrence : MethodName := ⟨RL, "findOccurrence", "(LPatternLaboratory;[J)I"⟩
abbrev cL_imageLength : ByteArray := method_20_code
def yL_imageLength : MethodName := ⟨RL, "imageLength", "(LPatternLaboratory;I[J)I"⟩
abbrev cL_imageLetter : ByteArray := method_21_code
def yL_imageLetter : MethodName := ⟨RL, "imageLetter", "(LPatternLaboratory;II[J)I"⟩
abbrev cL_occurrenceCount : ByteArray := method_22_code
def yL_occurrenceCount : MethodName := ⟨RL, "occurrenceCount", "(LPatternLaboratory;[J)I"⟩
abbrev cL_areConnected : ByteArray := method_23_code
def yL_areConnected : MethodName := ⟨RL, "areConnected", "(LPatternLaboratory;II[J)I"⟩
abbrev cL_isFree : ByteArray := method_24_code
def yL_isFree : MethodName := ⟨RL, "isFree", "(LPatternLaboratory;I[J)I"⟩
abbrev cL_freeSet : ByteArray := method_25_code
def yL_freeSet : MethodName := ⟨RL, "freeSet", "(LPatternLaboratory;I[J)I"⟩
abbrev cL_delete : ByteArray := method_26_code
def yL_delete : MethodName := ⟨RL, "delete", "(LPatternLaboratory;I[J)I"⟩
abbrev cL_reductionLength : ByteArray := method_27_code
def yL_reductionLength : MethodName := ⟨RL, "reductionLength", "(LPatternLaboratory;[J)I"⟩
abbrev cL_reductionSet : ByteArray := method_28_code
def yL_reductionSet : MethodName := ⟨RL, "reductionSet", "(LPatternLaboratory;I[J)I"⟩
abbrev cL_extend : ByteArray := method_29_code
def yL_extend : MethodName := ⟨RL, "extend", "(LPatternLaboratory;I[J)I"⟩
abbrev cL_longestAvoiding : ByteArray := method_30_code
def yL_longestAvoiding : MethodName := ⟨RL, "longestAvoiding", "(LPatternLaboratory;I[J)I"⟩
abbrev cL_countAvoiding : ByteArray := method_31_code
def yL_countAvoiding : MethodName := ⟨RL, "countAvoiding", "(LPatternLaboratory;I[J)I"⟩
abbrev cL_growth : ByteArray := method_32_code
def yL_growth : MethodName := ⟨RL, "growth", "(LPatternLaboratory;I[D)I"⟩
abbrev cL_appendImage : ByteArray := method_33_code
def yL_appendImage : MethodName := ⟨RL, "appendImage", "(LPatternLaboratory;II[J)I"⟩
abbrev cL_clearImage : ByteArray := method_34_code
def yL_clearImage : MethodName := ⟨RL, "clearImage", "(LPatternLaboratory;I[J)I"⟩
abbrev cL_applyMorphism : ByteArray := method_35_code
def yL_applyMorphism : MethodName := ⟨RL, "applyMorphism", "(LPatternLaboratory;[J)I"⟩
abbrev cL_iterate : ByteArray := method_36_code
def yL_iterate : MethodName := ⟨RL, "iterate", "(LPatternLaboratory;II[J)I"⟩
abbrev cL_findMorphism : ByteArray := method_37_code
def yL_findMorphism : MethodName := ⟨RL, "findMorphism", "(LPatternLaboratory;II[J)I"⟩
abbrev cL_countSpoiled : ByteArray := method_38_code
def yL_countSpoiled : MethodName := ⟨RL, "countSpoiled", "(LPatternLaboratory;I[J)I"⟩
abbrev cL_restore : ByteArray := method_39_code
def yL_restore : MethodName := ⟨RL, "restore", "(LPatternLaboratory;[J)I"⟩
abbrev cL_law : ByteArray := code
def yL_law : MethodName := ⟨RL, "law", "([I)Z"⟩
end
section
/-! THE PURE MACHINE: a small machine over plain numbers, to which every walk is brought once and for all (part 06). Values: an int, a thing (its kind and its place), a long, a float, a double. -/
abbrev pm_V : Type := Int ⊕ (Nat × Nat) ⊕ Int ⊕ UInt32 ⊕ UInt64
/-- how many things there are, the kind of each, which fields that hold things are set -/
abbrev pm_Sh : Type := Nat × (Nat → Nat) × (Nat → Nat → Bool)
/-- .. and what all fields and elements that are numbers hold -/
abbrev pm_Me : Type := pm_Sh × (Nat → Nat → Int)
/-- pc, locals, stack, memory, cells and slots made -/
abbrev pm_St : Type := Nat × List (Option pm_V) × List pm_V × pm_Me × Nat × Nat
abbrev pm_En : Type := Instr × Nat × Nat × Nat
def pm_r (x : Int) : Prop := -2147483648 ≤ x ∧ x ≤ 2147483647
def pm_up (M : Nat → Nat → Int) (q j : Nat) (x : Int) : Nat → Nat → Int := fun a b => if a = q ∧ b = j then x else M a b
def pm_ub (M : Nat → Nat → Bool) (q j : Nat) : Nat → Nat → Bool := fun a b => if a = q ∧ b = j then true else M a b
def pm_kd (K : Nat → Nat) (q κ : Nat) : Nat → Nat := fun a => if a = q then κ else K a
def pm_nb (M : Nat → Nat → Bool) (q : Nat) : Nat → Nat → Bool := fun a b => if a = q then false else M a b
def pm_nm (M : Nat → Nat → Int) (q : Nat) : Nat → Nat → Int := fun a b => if a = q then 0 else M a b
/-- n elements of q from i on come into q' from i' on -/
def pm_cp (M : Nat → Nat → Int) (q i q' i' n : Nat) : Nat → Nat → Int := fun a b => if a = q' ∧ i' ≤ b ∧ b < i' + n then M q (i + (b - i')) else M a b
def pm_i (st : List pm_V) (k : Int → List pm_V → Prop) : Prop := match st with
  | .inl x :: r => k x r
  | _ => False
def pm_a (st : List pm_V) (k : Nat → Nat → List pm_V → Prop) : Prop := match st with
  | .inr (.inl (κ, q)) :: r => k κ q r
  | _ => False
def pm_l (st : List pm_V) (k : Int → List pm_V → Prop) : Prop := match st with
  | .inr (.inr (.inl x)) :: r => k x r
  | _ => False
def pm_f (st : List pm_V) (k : UInt32 → List pm_V → Prop) : Prop := match st with
  | .inr (.inr (.inr (.inl x))) :: r => k x r
  | _ => False
def pm_d (st : List pm_V) (k : UInt64 → List pm_V → Prop) : Prop := match st with
  | .inr (.inr (.inr (.inr x))) :: r => k x r
  | _ => False
/-- the local i -/
def pm_ld : List (Option pm_V) → Nat → Option pm_V
  | [], _ => none
  | o :: _, 0 => o
  | _ :: L, i + 1 => pm_ld L i
def pm_lst (o : Option pm_V) : List pm_V := match o with
  | some v => [v]
  | none => []
def pm_c2 (v : pm_V) : Bool := match v with
  | .inr (.inr (.inl _)) => true
  | .inr (.inr (.inr (.inr _))) => true
  | _ => false
def pm_k2 (o : Option pm_V) : Option pm_V := match o with
  | some (.inr (.inr (.inl _))) => none
  | some (.inr (.inr (.inr (.inr _)))) => none
  | o => o
def pm_s1 : List (Option pm_V) → Nat → pm_V → List (Option pm_V)
  | [], _, _ => []
  | _ :: L, 0, v => some v :: L
  | o :: L, 1, v => pm_k2 o :: pm_s1 L 0 v
  | o :: L, i + 2, v => o :: pm_s1 L (i + 1) v
def pm_s2 : List (Option pm_V) → Nat → pm_V → List (Option pm_V)
  | [], _, _ => []
  | _ :: [], 0, _ => [none]
  | _ :: _ :: L, 0, v => some v :: none :: L
  | o :: L, 1, v => pm_k2 o :: pm_s2 L 0 v
  | o :: L, i + 2, v => o :: pm_s2 L (i + 1) v
/-- the local i is forgotten -/
def pm_s0 : List (Option pm_V) → Nat → List (Option pm_V)
  | [], _ => []
  | _ :: L, 0 => none :: L
  | o :: L, 1 => pm_k2 o :: pm_s0 L 0
  | o :: L, i + 2 => o :: pm_s0 L (i + 1)
/-- the locals with which a method begins -/
def pm_lc : Nat → List pm_V → List (Option pm_V)
  | n, [] => List.replicate n none
  | n, v :: vs => bif pm_c2 v then some v :: none :: pm_lc (n - 2) vs else some v :: pm_lc (n - 1) vs
/-- a number that must be a truth value -/
def pm_z (c : Nat) (x : Int) (k : Prop) : Prop := bif Nat.beq c 1 then (x = 0 ∨ x = 1) ∧ k else k
def pm_cmp (o : Jvm.ClassFile.Cond) (x y : Int) : Prop := match o with
  | .eq => x = y
  | .ne => x ≠ y
  | .lt => x < y
  | .ge => y ≤ x
  | .gt => y < x
  | .le => x ≤ y
def pm_i32 (x : Int) : Int32 := Int32.ofInt x
/-- how many fields a class has -/
def pm_nf (κ : Nat) : Nat := ([4, 7, 1, 2, 3, 3, 2, 7, 13, 45] : List Nat).getD κ 0
def pm_and (x y : Int) : Int := (Int32.ofInt x &&& Int32.ofInt y).toInt
def pm_or (x y : Int) : Int := (Int32.ofInt x ||| Int32.ofInt y).toInt
def pm_xor (x y : Int) : Int := (Int32.ofInt x ^^^ Int32.ofInt y).toInt
def pm_shl (x y : Int) : Int := (Int32.ofInt x <<< (Int32.ofInt y &&& 31)).toInt
def pm_shr (x y : Int) : Int := (Int32.ofInt x >>> (Int32.ofInt y &&& 31)).toInt
def pm_lcmp (x y : Int) : Int := if x < y then -1 else if x = y then 0 else 1
def pm_fk9 : List Nat := [0, 0, 1016, 0, 0, 1025, 1005, 1017, 1005, 1061, 0, 0, 1006, 1121, 0, 0, 0, 0, 1016, 1025, 1005, 1017, 1006, 0, 1016, 0, 1025, 1006, 1006, 0, 0, 0, 0, 1011, 1033, 1033, 0, 0, 0, 0, 0, 1025, 1097, 1005, 1017]
def pm_rf9 : List Nat := [0, 0, 1, 0, 0, 2, 3, 4, 5, 6, 0, 0, 7, 8, 0, 0, 0, 0, 9, 10, 11, 12, 13, 0, 14, 0, 15, 16, 17, 0, 0, 0, 0, 18, 19, 20, 0, 0, 0, 0, 0, 21, 22, 23, 24]
/-- a field's kind: 0 a number, else 1 and the kind of the thing that it holds -/
def pm_fk (κ j : Nat) : Nat := match κ with
  | 0 => ([0, 7, 7, 3] : List Nat).getD j 0
  | 1 => ([7, 7, 1006, 1025, 1006, 1006, 1006] : List Nat).getD j 0
  | 2 => ([5005] : List Nat).getD j 0
  | 3 => ([0, 5006] : List Nat).getD j 0
  | 4 => ([1006, 1033, 1033] : List Nat).getD j 0
  | 6 => ([1025, 0] : List Nat).getD j 0
  | 7 => ([2, 7, 7, 0, 0, 0, 0] : List Nat).getD j 0
  | 8 => ([1, 1, 0, 5005, 2005, 4, 2, 8, 5, 6, 3, 7, 7] : List Nat).getD j 0
  | 9 => (pm_fk9 : List Nat).getD j 0
  | _ => 0
/-- where the thing lies that a field, or an element, holds: the layout is fixed -/
def pm_rf (κ q j : Nat) : Nat := match κ with
  | 0 => q + ([0, 1, 3, 5] : List Nat).getD j 0
  | 1 => q + ([1, 3, 5, 6, 7, 8, 9] : List Nat).getD j 0
  | 2 => q + 1
  | 3 => q + 1
  | 4 => q + 1 + j
  | 6 => q + 1
  | 7 => q + ([1, 11, 13] : List Nat).getD j 0
  | 8 => q + ([1, 16, 0, 31, 40, 41, 53, 63, 78, 82, 83, 93, 95] : List Nat).getD j 0
  | 9 => q + (pm_rf9 : List Nat).getD j 0
  | _ => q + 1 + 2 * j
/-- a handler begins by putting what was thrown into a local -/
def pm_hs (e : pm_En) (k : Nat → Prop) : Prop := match e with
  | (.astore_n n, _) => k n.val
  | _ => False
/-- one instruction: what must hold so that P holds behind it, Qr of what is returned, Qx of what is thrown -/
def pm_stp (cd : Nat → pm_En) (hd : Nat → Nat → Nat) (lc lt : Nat) (mc ms : Nat → Nat) (cal : Nat → List pm_V → pm_Me → (Option pm_V → pm_Me → Prop) → (Nat → pm_Me → Prop) → Prop) (Qr : Option pm_V → pm_Me → Prop) (Qx : Nat → pm_Me → Prop) (s : pm_St) (P : pm_St → Prop) : Prop :=
  match s with
  | (pc, ls, st, m, c, t) => match cd pc with
    | (i, a, b, k) => match i with
      | .iconst n => P (pc + 1, ls, .inl n :: st, m, c, t)
      | .bipush n => P (pc + 2, ls, .inl n :: st, m, c, t)
      | .sipush n => P (pc + 3, ls, .inl n :: st, m, c, t)
      | .lconst n => P (pc + 1, ls, .inr (.inr (.inl (n.val : Int))) :: st, m, c, t)
      | .fconst _ => P (pc + 1, ls, .inr (.inr (.inr (.inl 0))) :: st, m, c, t)
      | .dconst _ => P (pc + 1, ls, .inr (.inr (.inr (.inr (UInt64.ofNat a)))) :: st, m, c, t)
      | .ldc2_w _ => P (pc + 3, ls, .inr (.inr (.inr (.inr (UInt64.ofNat a)))) :: st, m, c, t)
      | .iload_n n => pm_i (pm_lst (pm_ld ls n.val)) fun x _ => P (pc + 1, ls, .inl x :: st, m, c, t)
      | .iload n => pm_i (pm_lst (pm_ld ls n)) fun x _ => P (pc + 2, ls, .inl x :: st, m, c, t)
      | .aload_n n => pm_a (pm_lst (pm_ld ls n.val)) fun κ q _ => P (pc + 1, ls, .inr (.inl (κ, q)) :: st, m, c, t)
      | .aload n => pm_a (pm_lst (pm_ld ls n)) fun κ q _ => P (pc + 2, ls, .inr (.inl (κ, q)) :: st, m, c, t)
      | .fload n => pm_f (pm_lst (pm_ld ls n)) fun x _ => P (pc + 2, ls, .inr (.inr (.inr (.inl x))) :: st, m, c, t)
      | .dload_n n => pm_d (pm_lst (pm_ld ls n.val)) fun x _ => P (pc + 1, ls, .inr (.inr (.inr (.inr x))) :: st, m, c, t)
      | .dload n => pm_d (pm_lst (pm_ld ls n)) fun x _ => P (pc + 2, ls, .inr (.inr (.inr (.inr x))) :: st, m, c, t)
      | .istore_n n => pm_i st fun x st => P (pc + 1, pm_s1 ls n.val (.inl x), st, m, c, t)
      | .istore n => pm_i st fun x st => P (pc + 2, pm_s1 ls n (.inl x), st, m, c, t)
      | .astore_n n => pm_a st fun κ q st => P (pc + 1, pm_s1 ls n.val (.inr (.inl (κ, q))), st, m, c, t)
      | .astore n => pm_a st fun κ q st => P (pc + 2, pm_s1 ls n (.inr (.inl (κ, q))), st, m, c, t)
      | .fstore n => pm_f st fun x st => P (pc + 2, pm_s1 ls n (.inr (.inr (.inr (.inl x)))), st, m, c, t)
      | .dstore_n n => pm_d st fun x st => P (pc + 1, pm_s2 ls n.val (.inr (.inr (.inr (.inr x)))), st, m, c, t)
      | .dstore n => pm_d st fun x st => P (pc + 2, pm_s2 ls n (.inr (.inr (.inr (.inr x)))), st, m, c, t)
      | .iinc n z => pm_i (pm_lst (pm_ld ls n)) fun x _ => pm_r (x + z) ∧ P (pc + 3, pm_s1 ls n (.inl (x + z)), st, m, c, t)
      | .iadd => pm_i st fun y st => pm_i st fun x st => pm_r (x + y) ∧ P (pc + 1, ls, .inl (x + y) :: st, m, c, t)
      | .isub => pm_i st fun y st => pm_i st fun x st => pm_r (x - y) ∧ P (pc + 1, ls, .inl (x - y) :: st, m, c, t)
      | .imul => pm_i st fun y st => pm_i st fun x st => pm_r (x * y) ∧ P (pc + 1, ls, .inl (x * y) :: st, m, c, t)
      | .idiv => pm_i st fun y st => pm_i st fun x st => (0 ≤ x ∧ 0 < y) ∧ P (pc + 1, ls, .inl (x / y) :: st, m, c, t)
      | .irem => pm_i st fun y st => pm_i st fun x st => (0 ≤ x ∧ 0 < y) ∧ P (pc + 1, ls, .inl (x % y) :: st, m, c, t)
      | .iand => pm_i st fun y st => pm_i st fun x st => P (pc + 1, ls, .inl (pm_and x y) :: st, m, c, t)
      | .ior => pm_i st fun y st => pm_i st fun x st => P (pc + 1, ls, .inl (pm_or x y) :: st, m, c, t)
      | .ixor => pm_i st fun y st => pm_i st fun x st => P (pc + 1, ls, .inl (pm_xor x y) :: st, m, c, t)
      | .ishl => pm_i st fun y st => pm_i st fun x st => P (pc + 1, ls, .inl (pm_shl x y) :: st, m, c, t)
      | .ishr => pm_i st fun y st => pm_i st fun x st => P (pc + 1, ls, .inl (pm_shr x y) :: st, m, c, t)
      | .i2l => pm_i st fun x st => P (pc + 1, ls, .inr (.inr (.inl x)) :: st, m, c, t)
      | .i2f => pm_i st fun x st => P (pc + 1, ls, .inr (.inr (.inr (.inl (FP.i2f (Int32.ofInt x))))) :: st, m, c, t)
      | .i2d => pm_i st fun x st => P (pc + 1, ls, .inr (.inr (.inr (.inr (FP.i2d (Int32.ofInt x))))) :: st, m, c, t)
      | .f2d => pm_f st fun x st => vf_n64 (FP.f2d x) ∧ P (pc + 1, ls, .inr (.inr (.inr (.inr (FP.f2d x)))) :: st, m, c, t)
      | .fdiv => pm_f st fun y st => pm_f st fun x st => vf_n32 (FP.fdiv x y) ∧ P (pc + 1, ls, .inr (.inr (.inr (.inl (FP.fdiv x y)))) :: st, m, c, t)
      | .ddiv => pm_d st fun y st => pm_d st fun x st => vf_n64 (FP.ddiv x y) ∧ P (pc + 1, ls, .inr (.inr (.inr (.inr (FP.ddiv x y)))) :: st, m, c, t)
      | .dmul => pm_d st fun y st => pm_d st fun x st => vf_n64 (FP.dmul x y) ∧ P (pc + 1, ls, .inr (.inr (.inr (.inr (FP.dmul x y)))) :: st, m, c, t)
      | .dadd => pm_d st fun y st => pm_d st fun x st => vf_n64 (FP.dadd x y) ∧ P (pc + 1, ls, .inr (.inr (.inr (.inr (FP.dadd x y)))) :: st, m, c, t)
      | .lcmp => pm_l st fun y st => pm_l st fun x st => P (pc + 1, ls, .inl (pm_lcmp x y) :: st, m, c, t)
      | .dcmp o => pm_d st fun y st => pm_d st fun x st => P (pc + 1, ls, .inl (Op.cmpValue (FP.dcmp x y) o).toInt :: st, m, c, t)
      | .fcmp o => pm_f st fun y st => pm_f st fun x st => P (pc + 1, ls, .inl (Op.cmpValue (FP.fcmp x y) o).toInt :: st, m, c, t)
      | .dup => match st with
        | v :: st => bif pm_c2 v then False else P (pc + 1, ls, v :: v :: st, m, c, t)
        | _ => False
      | .dup2 => match st with
        | v :: w :: st => bif pm_c2 v || pm_c2 w then False else P (pc + 1, ls, v :: w :: v :: w :: st, m, c, t)
        | _ => False
      | .pop => match st with
        | v :: st => bif pm_c2 v then False else P (pc + 1, ls, st, m, c, t)
        | _ => False
      | .ifCond o _ => pm_i st fun x st => (pm_cmp o x 0 → P (a, ls, st, m, c, t)) ∧ (¬ pm_cmp o x 0 → P (pc + 3, ls, st, m, c, t))
      | .if_icmp o _ => pm_i st fun y st => pm_i st fun x st => (pm_cmp o x y → P (a, ls, st, m, c, t)) ∧ (¬ pm_cmp o x y → P (pc + 3, ls, st, m, c, t))
      | .goto _ => P (a, ls, st, m, c, t)
      | .tableswitch d lo hi offs => pm_i st fun x st => ((x < lo ∨ hi < x) → P (((pc : Int) + d).toNat, ls, st, m, c, t)) ∧ (¬ (x < lo ∨ hi < x) → ∀ o, offs[(x - lo).toNat]? = some o → P (((pc : Int) + o).toNat, ls, st, m, c, t))
      | .getfield _ => pm_a st fun κ q st => bif Nat.beq κ a then
          (bif Nat.beq (pm_fk a b) 0 then P (pc + 3, ls, .inl (m.2 q b) :: st, m, c, t)
           else bif m.1.2.2 q b then P (pc + 3, ls, .inr (.inl (pm_fk a b - 1, pm_rf a q b)) :: st, m, c, t) else False) else False
      | .putfield _ => bif Nat.beq (pm_fk a b) 0 then
          (pm_i st fun x st => pm_a st fun κ q st => bif Nat.beq κ a then pm_z k x (P (pc + 3, ls, st, (m.1, pm_up m.2 q b x), c, t)) else False)
        else
          (pm_a st fun κ' q' st => pm_a st fun κ q st => bif Nat.beq κ a && Nat.beq (pm_fk a b) (κ' + 1) then
            q' = pm_rf a q b ∧ P (pc + 3, ls, st, ((m.1.1, m.1.2.1, pm_ub m.1.2.2 q b), m.2), c, t) else False)
      | .iaload => pm_i st fun x st => pm_a st fun κ q st => bif Nat.beq κ 999 then
          (0 ≤ x ∧ x < m.2 9998 0) ∧ P (pc + 1, ls, .inl (m.2 9999 x.toNat) :: st, m, c, t)
        else bif Nat.ble 1000 κ && Nat.ble κ 1999 then (0 ≤ x ∧ x < ((κ - 1000 : Nat) : Int)) ∧ P (pc + 1, ls, .inl (m.2 q x.toNat) :: st, m, c, t) else False
      | .baload => pm_i st fun x st => pm_a st fun κ q st => bif Nat.ble 2000 κ && Nat.ble κ 2999 then (0 ≤ x ∧ x < ((κ - 2000 : Nat) : Int)) ∧ P (pc + 1, ls, .inl (m.2 q x.toNat) :: st, m, c, t) else False
      | .laload => pm_i st fun x st => pm_a st fun κ q st => bif Nat.ble 3000 κ && Nat.ble κ 3999 then (0 ≤ x ∧ x < ((κ - 3000 : Nat) : Int)) ∧ P (pc + 1, ls, .inr (.inr (.inl (m.2 q x.toNat))) :: st, m, c, t) else False
      | .daload => pm_i st fun x st => pm_a st fun κ q st => bif Nat.ble 4000 κ && Nat.ble κ 4999 then (0 ≤ x ∧ x < ((κ - 4000 : Nat) : Int)) ∧ P (pc + 1, ls, .inr (.inr (.inr (.inr (UInt64.ofNat (m.2 q x.toNat).toNat)))) :: st, m, c, t) else False
      | .aaload => pm_i st fun x st => pm_a st fun κ q st => bif Nat.ble 5000 κ && Nat.ble κ 5999 then (0 ≤ x ∧ x < ((κ - 5000 : Nat) : Int)) ∧ (bif m.1.2.2 q x.toNat then P (pc + 1, ls, .inr (.inl (6, pm_rf κ q x.toNat)) :: st, m, c, t) else False) else False
      | .iastore => pm_i st fun v st => pm_i st fun x st => pm_a st fun κ q st => bif Nat.ble 1000 κ && Nat.ble κ 1999 then (0 ≤ x ∧ x < ((κ - 1000 : Nat) : Int)) ∧ P (pc + 1, ls, st, (m.1, pm_up m.2 q x.toNat v), c, t) else False
      | .bastore => pm_i st fun v st => pm_i st fun x st => pm_a st fun κ q st => bif Nat.ble 2000 κ && Nat.ble κ 2999 then (v = 0 ∨ v = 1) ∧ (0 ≤ x ∧ x < ((κ - 2000 : Nat) : Int)) ∧ P (pc + 1, ls, st, (m.1, pm_up m.2 q x.toNat v), c, t) else False
      | .lastore => pm_l st fun v st => pm_i st fun x st => pm_a st fun κ q st => bif Nat.ble 3000 κ && Nat.ble κ 3999 then (0 ≤ x ∧ x < ((κ - 3000 : Nat) : Int)) ∧ P (pc + 1, ls, st, (m.1, pm_up m.2 q x.toNat v), c, t) else False
      | .dastore => pm_d st fun v st => pm_i st fun x st => pm_a st fun κ q st => bif Nat.ble 4000 κ && Nat.ble κ 4999 then (0 ≤ x ∧ x < ((κ - 4000 : Nat) : Int)) ∧ P (pc + 1, ls, st, (m.1, pm_up m.2 q x.toNat (v.toNat : Int)), c, t) else False
      | .aastore => pm_a st fun κ' q' st => pm_i st fun x st => pm_a st fun κ q st => bif Nat.beq κ' 6 && (Nat.ble 5000 κ && Nat.ble κ 5999) then (0 ≤ x ∧ x < ((κ - 5000 : Nat) : Int)) ∧ q' = pm_rf κ q x.toNat ∧ P (pc + 1, ls, st, ((m.1.1, m.1.2.1, pm_ub m.1.2.2 q x.toNat), m.2), c, t) else False
      | .arraylength => pm_a st fun κ _ st => bif Nat.beq κ 999 then P (pc + 1, ls, .inl (m.2 9998 0) :: st, m, c, t) else False
      | .new _ => bif Nat.beq k 1 then
          (bif Nat.ble (c + 1) lc && Nat.ble (t + 6) lt then Qx a m else False)
        else bif Nat.ble (c + 1) lc && Nat.ble (t + pm_nf a) lt then
          m.1.1 < 9000 ∧ P (pc + 3, ls, .inr (.inl (a, m.1.1)) :: st, ((m.1.1 + 1, pm_kd m.1.2.1 m.1.1 a, pm_nb m.1.2.2 m.1.1), pm_nm m.2 m.1.1), c + 1, t + pm_nf a) else False
      | .newarray _ => pm_i st fun x st => bif Nat.ble (c + 1) lc && Nat.ble (t + x.toNat) lt then
          (0 ≤ x ∧ x < 1000 ∧ m.1.1 < 9000) ∧ P (pc + 2, ls, .inr (.inl (a + x.toNat, m.1.1)) :: st, ((m.1.1 + 1, pm_kd m.1.2.1 m.1.1 (a + x.toNat), pm_nb m.1.2.2 m.1.1), pm_nm m.2 m.1.1), c + 1, t + x.toNat) else False
      | .anewarray _ => pm_i st fun x st => bif Nat.ble (c + 1) lc && Nat.ble (t + x.toNat) lt then
          (0 ≤ x ∧ x < 1000 ∧ m.1.1 < 9000) ∧ P (pc + 3, ls, .inr (.inl (5000 + x.toNat, m.1.1)) :: st, ((m.1.1 + 1, pm_kd m.1.2.1 m.1.1 (5000 + x.toNat), pm_nb m.1.2.2 m.1.1), pm_nm m.2 m.1.1), c + 1, t + x.toNat) else False
      | .invokevirtual _ => bif Nat.ble (c + mc a) lc && Nat.ble (t + ms a) lt && Nat.ble (st.drop b).length 4 then
          cal a (st.take b).reverse m (fun r m' => P (pc + 3, ls, pm_lst r ++ st.drop b, m', c + mc a, t + ms a)) (fun E m' => bif Nat.ble 2 k then False else bif Nat.beq (hd pc E) 0 then Qx E m' else pm_hs (cd (hd pc E)) fun n => P (hd pc E + 1, pm_s0 ls n, [], m', c + mc a, t + ms a)) else False
      | .invokestatic _ => bif Nat.beq k 7 then
          (pm_i st fun y st => pm_i st fun x st => P (pc + 3, ls, .inl (max x y) :: st, m, c, t))
        else bif Nat.beq k 8 then
          (pm_i st fun n st => pm_i st fun y st => pm_a st fun κ' q' st => pm_i st fun x st => pm_a st fun κ q st => bif (Nat.ble 1000 κ && Nat.ble κ 1999) && (Nat.ble 1000 κ' && Nat.ble κ' 1999) then
            (0 ≤ n ∧ 0 ≤ x ∧ 0 ≤ y ∧ x + n ≤ ((κ - 1000 : Nat) : Int) ∧ y + n ≤ ((κ' - 1000 : Nat) : Int) ∧ q ≠ q') ∧ P (pc + 3, ls, st, (m.1, pm_cp m.2 q x.toNat q' y.toNat n.toNat), c, t) else False)
        else bif Nat.ble (c + mc a) lc && Nat.ble (t + ms a) lt && Nat.ble (st.drop b).length 4 then
          cal a (st.take b).reverse m (fun r m' => P (pc + 3, ls, pm_lst r ++ st.drop b, m', c + mc a, t + ms a)) (fun E m' => bif Nat.ble 2 k then False else bif Nat.beq (hd pc E) 0 then Qx E m' else pm_hs (cd (hd pc E)) fun n => P (hd pc E + 1, pm_s0 ls n, [], m', c + mc a, t + ms a)) else False
      | .invokespecial _ => bif Nat.beq k 9 then
          (pm_a st fun _ _ st => bif Nat.ble st.length 4 then P (pc + 3, ls, st, m, c, t) else False)
        else bif Nat.ble (c + mc a) lc && Nat.ble (t + ms a) lt && Nat.ble (st.drop b).length 4 then
          cal a (st.take b).reverse m (fun r m' => P (pc + 3, ls, pm_lst r ++ st.drop b, m', c + mc a, t + ms a)) (fun E m' => bif Nat.ble 2 k then False else bif Nat.beq (hd pc E) 0 then Qx E m' else pm_hs (cd (hd pc E)) fun n => P (hd pc E + 1, pm_s0 ls n, [], m', c + mc a, t + ms a)) else False
      | .ireturn => match st with
        | [.inl x] => pm_z a x (Qr (some (.inl x)) m)
        | _ => False
      | .freturn => match st with
        | [.inr (.inr (.inr (.inl x)))] => Qr (some (.inr (.inr (.inr (.inl x))))) m
        | _ => False
      | .dreturn => match st with
        | [.inr (.inr (.inr (.inr x)))] => Qr (some (.inr (.inr (.inr (.inr x))))) m
        | _ => False
      | .return_ => match st with
        | [] => Qr none m
        | _ => False
      | _ => False
/-- less known of the locals -/
def pm_fg : List (Option pm_V) → List (Option pm_V) → Prop
  | [], [] => True
  | a :: l, b :: l' => (b = a ∨ b = none) ∧ pm_fg l l'
  | _, _ => False
/-- from here the machine comes to an end, every end as it must be -/
def pm_wp (lc lt : Nat) (stp : pm_St → (pm_St → Prop) → Prop) (s : pm_St) : Prop :=
  ∀ P : pm_St → Prop, (∀ (s : pm_St) (R : pm_St → Prop), (∀ s', R s' → P s') → stp s R → P s) →
    (∀ (pc : Nat) (ls ls' : List (Option pm_V)) (st : List pm_V) (m : pm_Me) (c t c' t' : Nat), pm_fg ls ls' → c ≤ c' → t ≤ t' → c' ≤ lc → t' ≤ lt → P (pc, ls', st, m, c', t') → P (pc, ls, st, m, c, t)) → P s
theorem pm_wp_of {lc lt : Nat} {stp : pm_St → (pm_St → Prop) → Prop} {s : pm_St} (R : pm_St → Prop) (hR : ∀ s', R s' → pm_wp lc lt stp s') (h : stp s R) : pm_wp lc lt stp s :=
  fun P h1 h2 => h1 s R (fun s' hs => hR s' hs P h1 h2) h
theorem pm_wp_fg {lc lt : Nat} {stp : pm_St → (pm_St → Prop) → Prop} {pc : Nat} {ls : List (Option pm_V)} {st : List pm_V} {m : pm_Me} {c t : Nat} (ls' : List (Option pm_V)) (c' t' : Nat) (hl : pm_fg ls ls') (hc : c ≤ c') (ht : t ≤ t') (hc2 : c' ≤ lc) (ht2 : t' ≤ lt) (h : pm_wp lc lt stp (pc, ls', st, m, c', t')) : pm_wp lc lt stp (pc, ls, st, m, c, t) :=
  fun P h1 h2 => h2 pc ls ls' st m c t c' t' hl hc ht hc2 ht2 (h P h1 h2)
/-- many instructions, up to a cut -/
def pm_seg (stp : pm_St → (pm_St → Prop) → Prop) (cut : Nat → Bool) : Nat → pm_St → (pm_St → Prop) → Prop
  | 0, s, P => P s
  | n + 1, s, P => stp s (fun s' => bif cut s'.1 then P s' else pm_seg stp cut n s' P)
theorem pm_seg_wp {lc lt : Nat} {stp : pm_St → (pm_St → Prop) → Prop} (cut : Nat → Bool) : ∀ (n : Nat) {s : pm_St}, pm_seg stp cut n s (pm_wp lc lt stp) → pm_wp lc lt stp s
  | 0, _, h => h
  | n + 1, s, h => by
    refine pm_wp_of _ (fun s' hs => ?_) h
    cases hc : cut s'.1 with
    | true => rw [hc] at hs; exact hs
    | false => rw [hc] at hs; exact pm_seg_wp cut n hs
end
section
/-! The methods as tables: an instruction, and what its references are resolved to (laid by wip/whole/gen_tables.py). -/
/-- PatternLaboratory$Desk <init>()V -/
def pm_t0 : Nat → pm_En := fun pc => (bif Nat.blt pc 20 then (bif Nat.blt pc 9 then (bif Nat.blt pc 4 then (bif Nat.blt pc 1 then ((.aload_n 0), 0, 0, 0) else ((.invokespecial 3), 0, 0, 9)) else (bif Nat.blt pc 5 then ((.aload_n 0), 0, 0, 0) else (bif Nat.blt pc 6 then ((.iconst 2), 0, 0, 0) else ((.putfield 9), 0, 0, 0)))) else (bif Nat.blt pc 13 then (bif Nat.blt pc 10 then ((.aload_n 0), 0, 0, 0) else ((.new 15), 6, 0, 0)) else (bif Nat.blt pc 14 then ((.dup), 0, 0, 0) else (bif Nat.blt pc 17 then ((.invokespecial 17), 35, 1, 12) else ((.putfield 18), 0, 1, 0))))) else (bif Nat.blt pc 31 then (bif Nat.blt pc 24 then (bif Nat.blt pc 21 then ((.aload_n 0), 0, 0, 0) else ((.new 15), 6, 0, 0)) else (bif Nat.blt pc 25 then ((.dup), 0, 0, 0) else (bif Nat.blt pc 28 then ((.invokespecial 17), 35, 1, 12) else ((.putfield 22), 0, 2, 0)))) else (bif Nat.blt pc 36 then (bif Nat.blt pc 32 then ((.aload_n 0), 0, 0, 0) else (bif Nat.blt pc 35 then ((.new 25), 2, 0, 0) else ((.dup), 0, 0, 0))) else (bif Nat.blt pc 39 then ((.invokespecial 27), 15, 1, 12) else (bif Nat.blt pc 42 then ((.putfield 28), 0, 3, 0) else ((.return_), 0, 0, 0))))))
/-- PatternLaboratory$Desk become(LPatternLaboratory$Desk;)V -/
def pm_t1 : Nat → pm_En := fun pc => (bif Nat.blt pc 20 then (bif Nat.blt pc 9 then (bif Nat.blt pc 2 then (bif Nat.blt pc 1 then ((.aload_n 0), 0, 0, 0) else ((.aload_n 1), 0, 0, 0)) else (bif Nat.blt pc 5 then ((.getfield 9), 0, 0, 0) else (bif Nat.blt pc 8 then ((.putfield 9), 0, 0, 0) else ((.aload_n 0), 0, 0, 0)))) else (bif Nat.blt pc 13 then (bif Nat.blt pc 12 then ((.getfield 18), 0, 1, 0) else ((.aload_n 1), 0, 0, 0)) else (bif Nat.blt pc 16 then ((.getfield 18), 0, 1, 0) else (bif Nat.blt pc 19 then ((.invokevirtual 32), 42, 2, 11) else ((.aload_n 0), 0, 0, 0))))) else (bif Nat.blt pc 31 then (bif Nat.blt pc 24 then (bif Nat.blt pc 23 then ((.getfield 22), 0, 2, 0) else ((.aload_n 1), 0, 0, 0)) else (bif Nat.blt pc 27 then ((.getfield 22), 0, 2, 0) else (bif Nat.blt pc 30 then ((.invokevirtual 32), 42, 2, 11) else ((.aload_n 0), 0, 0, 0)))) else (bif Nat.blt pc 35 then (bif Nat.blt pc 34 then ((.getfield 28), 0, 3, 0) else ((.aload_n 1), 0, 0, 0)) else (bif Nat.blt pc 38 then ((.getfield 28), 0, 3, 0) else (bif Nat.blt pc 41 then ((.invokevirtual 36), 17, 2, 11) else ((.return_), 0, 0, 0))))))
/-- PatternLaboratory$Matcher <init>()V -/
def pm_t2 : Nat → pm_En := fun pc => (bif Nat.blt pc 33 then (bif Nat.blt pc 16 then (bif Nat.blt pc 8 then (bif Nat.blt pc 4 then (bif Nat.blt pc 1 then ((.aload_n 0), 0, 0, 0) else ((.invokespecial 3), 0, 0, 9)) else (bif Nat.blt pc 5 then ((.aload_n 0), 0, 0, 0) else ((.new 9), 6, 0, 0))) else (bif Nat.blt pc 12 then (bif Nat.blt pc 9 then ((.dup), 0, 0, 0) else ((.invokespecial 11), 35, 1, 12)) else (bif Nat.blt pc 15 then ((.putfield 12), 1, 0, 0) else ((.aload_n 0), 0, 0, 0)))) else (bif Nat.blt pc 26 then (bif Nat.blt pc 20 then (bif Nat.blt pc 19 then ((.new 9), 6, 0, 0) else ((.dup), 0, 0, 0)) else (bif Nat.blt pc 23 then ((.invokespecial 11), 35, 1, 12) else ((.putfield 18), 1, 1, 0))) else (bif Nat.blt pc 28 then (bif Nat.blt pc 27 then ((.aload_n 0), 0, 0, 0) else ((.iconst 5), 0, 0, 0)) else (bif Nat.blt pc 30 then ((.newarray .int), 1000, 0, 0) else ((.putfield 21), 1, 2, 0))))) else (bif Nat.blt pc 48 then (bif Nat.blt pc 41 then (bif Nat.blt pc 36 then (bif Nat.blt pc 34 then ((.aload_n 0), 0, 0, 0) else ((.bipush 24), 0, 0, 0)) else (bif Nat.blt pc 38 then ((.newarray .int), 1000, 0, 0) else ((.putfield 25), 1, 3, 0))) else (bif Nat.blt pc 43 then (bif Nat.blt pc 42 then ((.aload_n 0), 0, 0, 0) else ((.iconst 5), 0, 0, 0)) else (bif Nat.blt pc 45 then ((.newarray .int), 1000, 0, 0) else ((.putfield 28), 1, 4, 0)))) else (bif Nat.blt pc 55 then (bif Nat.blt pc 50 then (bif Nat.blt pc 49 then ((.aload_n 0), 0, 0, 0) else ((.iconst 5), 0, 0, 0)) else (bif Nat.blt pc 52 then ((.newarray .int), 1000, 0, 0) else ((.putfield 31), 1, 5, 0))) else (bif Nat.blt pc 57 then (bif Nat.blt pc 56 then ((.aload_n 0), 0, 0, 0) else ((.iconst 5), 0, 0, 0)) else (bif Nat.blt pc 59 then ((.newarray .int), 1000, 0, 0) else (bif Nat.blt pc 62 then ((.putfield 34), 1, 6, 0) else ((.return_), 0, 0, 0)))))))
/-- PatternLaboratory$Matcher setPattern(LPatternLaboratory$Row;)V -/
def pm_t3 : Nat → pm_En := fun pc => (bif Nat.blt pc 47 then (bif Nat.blt pc 21 then (bif Nat.blt pc 10 then (bif Nat.blt pc 5 then (bif Nat.blt pc 1 then ((.aload_n 0), 0, 0, 0) else (bif Nat.blt pc 4 then ((.getfield 12), 1, 0, 0) else ((.aload_n 1), 0, 0, 0))) else (bif Nat.blt pc 8 then ((.invokevirtual 37), 42, 2, 11) else (bif Nat.blt pc 9 then ((.iconst 0), 0, 0, 0) else ((.istore_n 2), 0, 0, 0)))) else (bif Nat.blt pc 15 then (bif Nat.blt pc 11 then ((.iload_n 2), 0, 0, 0) else (bif Nat.blt pc 12 then ((.iconst 5), 0, 0, 0) else ((.if_icmp .ge 23), 35, 0, 0))) else (bif Nat.blt pc 19 then (bif Nat.blt pc 16 then ((.aload_n 0), 0, 0, 0) else ((.getfield 21), 1, 2, 0)) else (bif Nat.blt pc 20 then ((.iload_n 2), 0, 0, 0) else ((.aload_n 0), 0, 0, 0))))) else (bif Nat.blt pc 36 then (bif Nat.blt pc 28 then (bif Nat.blt pc 24 then ((.getfield 12), 1, 0, 0) else (bif Nat.blt pc 25 then ((.iload_n 2), 0, 0, 0) else ((.invokevirtual 41), 50, 2, 11))) else (bif Nat.blt pc 32 then (bif Nat.blt pc 29 then ((.iastore), 0, 0, 0) else ((.iinc 2 1), 0, 0, 0)) else (bif Nat.blt pc 35 then ((.goto (-22)), 10, 0, 0) else ((.iconst 0), 0, 0, 0)))) else (bif Nat.blt pc 41 then (bif Nat.blt pc 37 then ((.istore_n 2), 0, 0, 0) else (bif Nat.blt pc 38 then ((.aload_n 0), 0, 0, 0) else ((.getfield 12), 1, 0, 0))) else (bif Nat.blt pc 45 then (bif Nat.blt pc 44 then ((.getfield 45), 6, 1, 0) else ((.iconst 1), 0, 0, 0)) else (bif Nat.blt pc 46 then ((.isub), 0, 0, 0) else ((.istore_n 3), 0, 0, 0)))))) else (bif Nat.blt pc 70 then (bif Nat.blt pc 59 then (bif Nat.blt pc 52 then (bif Nat.blt pc 48 then ((.iload_n 3), 0, 0, 0) else (bif Nat.blt pc 51 then ((.ifCond .lt 41), 89, 0, 0) else ((.aload_n 0), 0, 0, 0))) else (bif Nat.blt pc 55 then ((.getfield 21), 1, 2, 0) else (bif Nat.blt pc 56 then ((.aload_n 0), 0, 0, 0) else ((.getfield 12), 1, 0, 0)))) else (bif Nat.blt pc 64 then (bif Nat.blt pc 60 then ((.iload_n 3), 0, 0, 0) else (bif Nat.blt pc 63 then ((.invokevirtual 49), 37, 2, 11) else ((.iaload), 0, 0, 0))) else (bif Nat.blt pc 68 then (bif Nat.blt pc 65 then ((.iconst 1), 0, 0, 0) else ((.if_icmp .ne 9), 74, 0, 0)) else (bif Nat.blt pc 69 then ((.iload_n 2), 0, 0, 0) else ((.iconst 1), 0, 0, 0))))) else (bif Nat.blt pc 81 then (bif Nat.blt pc 75 then (bif Nat.blt pc 71 then ((.iadd), 0, 0, 0) else (bif Nat.blt pc 74 then ((.goto 4), 75, 0, 0) else ((.iconst 0), 0, 0, 0))) else (bif Nat.blt pc 77 then (bif Nat.blt pc 76 then ((.istore_n 2), 0, 0, 0) else ((.aload_n 0), 0, 0, 0)) else (bif Nat.blt pc 80 then ((.getfield 25), 1, 3, 0) else ((.iload_n 3), 0, 0, 0)))) else (bif Nat.blt pc 86 then (bif Nat.blt pc 82 then ((.iload_n 2), 0, 0, 0) else (bif Nat.blt pc 83 then ((.iastore), 0, 0, 0) else ((.iinc 3 (-1)), 0, 0, 0))) else (bif Nat.blt pc 90 then (bif Nat.blt pc 89 then ((.goto (-39)), 47, 0, 0) else ((.aload_n 0), 0, 0, 0)) else (bif Nat.blt pc 93 then ((.invokevirtual 52), 4, 1, 1) else ((.return_), 0, 0, 0)))))))
/-- PatternLaboratory$Matcher limitLengths()V -/
def pm_t4 : Nat → pm_En := fun pc => (bif Nat.blt pc 29 then (bif Nat.blt pc 13 then (bif Nat.blt pc 4 then (bif Nat.blt pc 2 then (bif Nat.blt pc 1 then ((.iconst 0), 0, 0, 0) else ((.istore_n 1), 0, 0, 0)) else (bif Nat.blt pc 3 then ((.iload_n 1), 0, 0, 0) else ((.iconst 5), 0, 0, 0))) else (bif Nat.blt pc 8 then (bif Nat.blt pc 7 then ((.if_icmp .ge 16), 20, 0, 0) else ((.aload_n 0), 0, 0, 0)) else (bif Nat.blt pc 11 then ((.getfield 28), 1, 4, 0) else (bif Nat.blt pc 12 then ((.iload_n 1), 0, 0, 0) else ((.iconst 1), 0, 0, 0))))) else (bif Nat.blt pc 22 then (bif Nat.blt pc 17 then (bif Nat.blt pc 14 then ((.iastore), 0, 0, 0) else ((.iinc 1 1), 0, 0, 0)) else (bif Nat.blt pc 20 then ((.goto (-15)), 2, 0, 0) else (bif Nat.blt pc 21 then ((.iconst 0), 0, 0, 0) else ((.istore_n 1), 0, 0, 0)))) else (bif Nat.blt pc 24 then (bif Nat.blt pc 23 then ((.iload_n 1), 0, 0, 0) else ((.iconst 1), 0, 0, 0)) else (bif Nat.blt pc 25 then ((.iadd), 0, 0, 0) else (bif Nat.blt pc 26 then ((.aload_n 0), 0, 0, 0) else ((.getfield 12), 1, 0, 0)))))) else (bif Nat.blt pc 47 then (bif Nat.blt pc 40 then (bif Nat.blt pc 35 then (bif Nat.blt pc 32 then ((.getfield 45), 6, 1, 0) else ((.if_icmp .ge 35), 67, 0, 0)) else (bif Nat.blt pc 36 then ((.aload_n 0), 0, 0, 0) else (bif Nat.blt pc 39 then ((.getfield 25), 1, 3, 0) else ((.iload_n 1), 0, 0, 0)))) else (bif Nat.blt pc 42 then (bif Nat.blt pc 41 then ((.iconst 1), 0, 0, 0) else ((.iadd), 0, 0, 0)) else (bif Nat.blt pc 43 then ((.iaload), 0, 0, 0) else (bif Nat.blt pc 46 then ((.ifCond .ne 18), 61, 0, 0) else ((.aload_n 0), 0, 0, 0))))) else (bif Nat.blt pc 58 then (bif Nat.blt pc 51 then (bif Nat.blt pc 50 then ((.getfield 28), 1, 4, 0) else ((.aload_n 0), 0, 0, 0)) else (bif Nat.blt pc 54 then ((.getfield 12), 1, 0, 0) else (bif Nat.blt pc 55 then ((.iload_n 1), 0, 0, 0) else ((.invokevirtual 49), 37, 2, 11)))) else (bif Nat.blt pc 61 then (bif Nat.blt pc 60 then ((.bipush 24), 0, 0, 0) else ((.iastore), 0, 0, 0)) else (bif Nat.blt pc 64 then ((.iinc 1 1), 0, 0, 0) else (bif Nat.blt pc 67 then ((.goto (-42)), 22, 0, 0) else ((.return_), 0, 0, 0)))))))
/-- PatternLaboratory$Matcher setText(LPatternLaboratory$Row;)V -/
def pm_t5 : Nat → pm_En := fun pc => (bif Nat.blt pc 4 then (bif Nat.blt pc 1 then ((.aload_n 0), 0, 0, 0) else ((.getfield 18), 1, 1, 0)) else (bif Nat.blt pc 5 then ((.aload_n 1), 0, 0, 0) else (bif Nat.blt pc 8 then ((.invokevirtual 37), 42, 2, 11) else ((.return_), 0, 0, 0))))
/-- PatternLaboratory$Matcher firstStart()I -/
def pm_t6 : Nat → pm_En := fun pc => (bif Nat.blt pc 29 then (bif Nat.blt pc 13 then (bif Nat.blt pc 5 then (bif Nat.blt pc 1 then ((.aload_n 0), 0, 0, 0) else (bif Nat.blt pc 4 then ((.getfield 25), 1, 3, 0) else ((.iconst 0), 0, 0, 0))) else (bif Nat.blt pc 9 then (bif Nat.blt pc 6 then ((.iaload), 0, 0, 0) else ((.ifCond .le 7), 13, 0, 0)) else (bif Nat.blt pc 10 then ((.iconst 0), 0, 0, 0) else ((.goto 18), 28, 0, 0)))) else (bif Nat.blt pc 21 then (bif Nat.blt pc 17 then (bif Nat.blt pc 14 then ((.aload_n 0), 0, 0, 0) else ((.getfield 18), 1, 1, 0)) else (bif Nat.blt pc 20 then ((.getfield 45), 6, 1, 0) else ((.aload_n 0), 0, 0, 0))) else (bif Nat.blt pc 27 then (bif Nat.blt pc 24 then ((.getfield 12), 1, 0, 0) else ((.getfield 45), 6, 1, 0)) else (bif Nat.blt pc 28 then ((.isub), 0, 0, 0) else ((.istore_n 1), 0, 0, 0))))) else (bif Nat.blt pc 38 then (bif Nat.blt pc 32 then (bif Nat.blt pc 30 then ((.iconst 0), 0, 0, 0) else (bif Nat.blt pc 31 then ((.istore_n 2), 0, 0, 0) else ((.iload_n 2), 0, 0, 0))) else (bif Nat.blt pc 36 then (bif Nat.blt pc 33 then ((.iload_n 1), 0, 0, 0) else ((.if_icmp .gt 19), 52, 0, 0)) else (bif Nat.blt pc 37 then ((.aload_n 0), 0, 0, 0) else ((.iload_n 2), 0, 0, 0)))) else (bif Nat.blt pc 46 then (bif Nat.blt pc 44 then (bif Nat.blt pc 41 then ((.invokevirtual 55), 7, 2, 1) else ((.ifCond .eq 5), 46, 0, 0)) else (bif Nat.blt pc 45 then ((.iload_n 2), 0, 0, 0) else ((.ireturn), 0, 0, 0))) else (bif Nat.blt pc 52 then (bif Nat.blt pc 49 then ((.iinc 2 1), 0, 0, 0) else ((.goto (-18)), 31, 0, 0)) else (bif Nat.blt pc 53 then ((.iconst (-1)), 0, 0, 0) else ((.ireturn), 0, 0, 0))))))
/-- PatternLaboratory$Matcher standsAt(I)Z -/
def pm_t7 : Nat → pm_En := fun pc => (bif Nat.blt pc 22 then (bif Nat.blt pc 12 then (bif Nat.blt pc 5 then (bif Nat.blt pc 1 then ((.aload_n 0), 0, 0, 0) else (bif Nat.blt pc 4 then ((.invokevirtual 59), 9, 1, 1) else ((.aload_n 0), 0, 0, 0))) else (bif Nat.blt pc 8 then ((.getfield 18), 1, 1, 0) else (bif Nat.blt pc 11 then ((.getfield 45), 6, 1, 0) else ((.iload_n 1), 0, 0, 0)))) else (bif Nat.blt pc 17 then (bif Nat.blt pc 13 then ((.isub), 0, 0, 0) else (bif Nat.blt pc 14 then ((.aload_n 0), 0, 0, 0) else ((.getfield 12), 1, 0, 0))) else (bif Nat.blt pc 20 then ((.getfield 45), 6, 1, 0) else (bif Nat.blt pc 21 then ((.isub), 0, 0, 0) else ((.istore_n 2), 0, 0, 0))))) else (bif Nat.blt pc 30 then (bif Nat.blt pc 27 then (bif Nat.blt pc 23 then ((.iload_n 2), 0, 0, 0) else (bif Nat.blt pc 26 then ((.ifCond .lt 17), 40, 0, 0) else ((.aload_n 0), 0, 0, 0))) else (bif Nat.blt pc 28 then ((.iconst 0), 0, 0, 0) else (bif Nat.blt pc 29 then ((.iload_n 1), 0, 0, 0) else ((.iload_n 2), 0, 0, 0)))) else (bif Nat.blt pc 37 then (bif Nat.blt pc 33 then ((.invokevirtual 62), 10, 4, 1) else (bif Nat.blt pc 36 then ((.ifCond .eq 7), 40, 0, 0) else ((.iconst 1), 0, 0, 0))) else (bif Nat.blt pc 40 then ((.goto 4), 41, 0, 0) else (bif Nat.blt pc 41 then ((.iconst 0), 0, 0, 0) else ((.ireturn), 1, 0, 0))))))
/-- PatternLaboratory$Matcher countAll()I -/
def pm_t8 : Nat → pm_En := fun pc => (bif Nat.blt pc 29 then (bif Nat.blt pc 10 then (bif Nat.blt pc 6 then (bif Nat.blt pc 4 then (bif Nat.blt pc 1 then ((.aload_n 0), 0, 0, 0) else ((.invokevirtual 59), 9, 1, 1)) else (bif Nat.blt pc 5 then ((.iconst 0), 0, 0, 0) else ((.istore_n 1), 0, 0, 0))) else (bif Nat.blt pc 8 then (bif Nat.blt pc 7 then ((.iconst 0), 0, 0, 0) else ((.istore_n 2), 0, 0, 0)) else (bif Nat.blt pc 9 then ((.iload_n 2), 0, 0, 0) else ((.aload_n 0), 0, 0, 0)))) else (bif Nat.blt pc 18 then (bif Nat.blt pc 16 then (bif Nat.blt pc 13 then ((.getfield 12), 1, 0, 0) else ((.getfield 45), 6, 1, 0)) else (bif Nat.blt pc 17 then ((.iadd), 0, 0, 0) else ((.aload_n 0), 0, 0, 0))) else (bif Nat.blt pc 24 then (bif Nat.blt pc 21 then ((.getfield 18), 1, 1, 0) else ((.getfield 45), 6, 1, 0)) else (bif Nat.blt pc 27 then ((.if_icmp .gt 35), 59, 0, 0) else (bif Nat.blt pc 28 then ((.iload_n 1), 0, 0, 0) else ((.aload_n 0), 0, 0, 0)))))) else (bif Nat.blt pc 44 then (bif Nat.blt pc 35 then (bif Nat.blt pc 31 then (bif Nat.blt pc 30 then ((.iconst 0), 0, 0, 0) else ((.iload_n 2), 0, 0, 0)) else (bif Nat.blt pc 32 then ((.aload_n 0), 0, 0, 0) else ((.getfield 18), 1, 1, 0))) else (bif Nat.blt pc 39 then (bif Nat.blt pc 38 then ((.getfield 45), 6, 1, 0) else ((.iload_n 2), 0, 0, 0)) else (bif Nat.blt pc 40 then ((.isub), 0, 0, 0) else (bif Nat.blt pc 41 then ((.aload_n 0), 0, 0, 0) else ((.getfield 12), 1, 0, 0))))) else (bif Nat.blt pc 52 then (bif Nat.blt pc 48 then (bif Nat.blt pc 47 then ((.getfield 45), 6, 1, 0) else ((.isub), 0, 0, 0)) else (bif Nat.blt pc 51 then ((.invokevirtual 66), 11, 4, 1) else ((.iadd), 0, 0, 0))) else (bif Nat.blt pc 56 then (bif Nat.blt pc 53 then ((.istore_n 1), 0, 0, 0) else ((.iinc 2 1), 0, 0, 0)) else (bif Nat.blt pc 59 then ((.goto (-48)), 8, 0, 0) else (bif Nat.blt pc 60 then ((.iload_n 1), 0, 0, 0) else ((.ireturn), 0, 0, 0)))))))
/-- PatternLaboratory$Matcher forgetLengths()V -/
def pm_t9 : Nat → pm_En := fun pc => (bif Nat.blt pc 8 then (bif Nat.blt pc 3 then (bif Nat.blt pc 1 then ((.iconst 0), 0, 0, 0) else (bif Nat.blt pc 2 then ((.istore_n 1), 0, 0, 0) else ((.iload_n 1), 0, 0, 0))) else (bif Nat.blt pc 4 then ((.iconst 5), 0, 0, 0) else (bif Nat.blt pc 7 then ((.if_icmp .ge 16), 20, 0, 0) else ((.aload_n 0), 0, 0, 0)))) else (bif Nat.blt pc 13 then (bif Nat.blt pc 11 then ((.getfield 34), 1, 6, 0) else (bif Nat.blt pc 12 then ((.iload_n 1), 0, 0, 0) else ((.iconst 0), 0, 0, 0))) else (bif Nat.blt pc 17 then (bif Nat.blt pc 14 then ((.iastore), 0, 0, 0) else ((.iinc 1 1), 0, 0, 0)) else (bif Nat.blt pc 20 then ((.goto (-15)), 2, 0, 0) else ((.return_), 0, 0, 0)))))
/-- PatternLaboratory$Matcher fits(III)Z -/
def pm_t10 : Nat → pm_En := fun pc => (bif Nat.blt pc 77 then (bif Nat.blt pc 43 then (bif Nat.blt pc 21 then (bif Nat.blt pc 11 then (bif Nat.blt pc 2 then (bif Nat.blt pc 1 then ((.iload_n 1), 0, 0, 0) else ((.aload_n 0), 0, 0, 0)) else (bif Nat.blt pc 5 then ((.getfield 12), 1, 0, 0) else (bif Nat.blt pc 8 then ((.getfield 45), 6, 1, 0) else ((.if_icmp .lt 5), 13, 0, 0)))) else (bif Nat.blt pc 14 then (bif Nat.blt pc 12 then ((.iconst 1), 0, 0, 0) else (bif Nat.blt pc 13 then ((.ireturn), 1, 0, 0) else ((.aload_n 0), 0, 0, 0))) else (bif Nat.blt pc 17 then ((.getfield 12), 1, 0, 0) else (bif Nat.blt pc 18 then ((.iload_n 1), 0, 0, 0) else ((.invokevirtual 49), 37, 2, 11))))) else (bif Nat.blt pc 30 then (bif Nat.blt pc 24 then (bif Nat.blt pc 23 then ((.istore 4), 0, 0, 0) else ((.aload_n 0), 0, 0, 0)) else (bif Nat.blt pc 27 then ((.getfield 34), 1, 6, 0) else (bif Nat.blt pc 29 then ((.iload 4), 0, 0, 0) else ((.iaload), 0, 0, 0)))) else (bif Nat.blt pc 36 then (bif Nat.blt pc 33 then ((.ifCond .le 39), 69, 0, 0) else (bif Nat.blt pc 34 then ((.aload_n 0), 0, 0, 0) else ((.iload 4), 0, 0, 0))) else (bif Nat.blt pc 37 then ((.iload_n 2), 0, 0, 0) else (bif Nat.blt pc 40 then ((.invokevirtual 70), 14, 3, 1) else ((.ifCond .eq 27), 67, 0, 0)))))) else (bif Nat.blt pc 57 then (bif Nat.blt pc 48 then (bif Nat.blt pc 45 then (bif Nat.blt pc 44 then ((.aload_n 0), 0, 0, 0) else ((.iload_n 1), 0, 0, 0)) else (bif Nat.blt pc 46 then ((.iconst 1), 0, 0, 0) else (bif Nat.blt pc 47 then ((.iadd), 0, 0, 0) else ((.iload_n 2), 0, 0, 0)))) else (bif Nat.blt pc 54 then (bif Nat.blt pc 49 then ((.aload_n 0), 0, 0, 0) else (bif Nat.blt pc 52 then ((.getfield 34), 1, 6, 0) else ((.iload 4), 0, 0, 0))) else (bif Nat.blt pc 55 then ((.iaload), 0, 0, 0) else (bif Nat.blt pc 56 then ((.iadd), 0, 0, 0) else ((.iload_n 3), 0, 0, 0))))) else (bif Nat.blt pc 68 then (bif Nat.blt pc 63 then (bif Nat.blt pc 60 then ((.invokevirtual 62), 10, 4, 1) else ((.ifCond .eq 7), 67, 0, 0)) else (bif Nat.blt pc 64 then ((.iconst 1), 0, 0, 0) else (bif Nat.blt pc 67 then ((.goto 4), 68, 0, 0) else ((.iconst 0), 0, 0, 0)))) else (bif Nat.blt pc 73 then (bif Nat.blt pc 69 then ((.ireturn), 1, 0, 0) else (bif Nat.blt pc 70 then ((.aload_n 0), 0, 0, 0) else ((.getfield 31), 1, 5, 0))) else (bif Nat.blt pc 75 then ((.iload 4), 0, 0, 0) else (bif Nat.blt pc 76 then ((.iload_n 2), 0, 0, 0) else ((.iastore), 0, 0, 0))))))) else (bif Nat.blt pc 114 then (bif Nat.blt pc 97 then (bif Nat.blt pc 85 then (bif Nat.blt pc 80 then (bif Nat.blt pc 78 then ((.iload_n 3), 0, 0, 0) else ((.istore 5), 0, 0, 0)) else (bif Nat.blt pc 81 then ((.iconst 1), 0, 0, 0) else (bif Nat.blt pc 83 then ((.istore 6), 0, 0, 0) else ((.iload 6), 0, 0, 0)))) else (bif Nat.blt pc 91 then (bif Nat.blt pc 86 then ((.aload_n 0), 0, 0, 0) else (bif Nat.blt pc 89 then ((.getfield 28), 1, 4, 0) else ((.iload 4), 0, 0, 0))) else (bif Nat.blt pc 92 then ((.iaload), 0, 0, 0) else (bif Nat.blt pc 95 then ((.if_icmp .gt 53), 145, 0, 0) else ((.iload 5), 0, 0, 0))))) else (bif Nat.blt pc 108 then (bif Nat.blt pc 101 then (bif Nat.blt pc 100 then ((.ifCond .lt 48), 145, 0, 0) else ((.aload_n 0), 0, 0, 0)) else (bif Nat.blt pc 104 then ((.getfield 34), 1, 6, 0) else (bif Nat.blt pc 106 then ((.iload 4), 0, 0, 0) else ((.iload 6), 0, 0, 0)))) else (bif Nat.blt pc 111 then (bif Nat.blt pc 109 then ((.iastore), 0, 0, 0) else (bif Nat.blt pc 110 then ((.aload_n 0), 0, 0, 0) else ((.iload_n 1), 0, 0, 0))) else (bif Nat.blt pc 112 then ((.iconst 1), 0, 0, 0) else (bif Nat.blt pc 113 then ((.iadd), 0, 0, 0) else ((.iload_n 2), 0, 0, 0)))))) else (bif Nat.blt pc 135 then (bif Nat.blt pc 125 then (bif Nat.blt pc 117 then (bif Nat.blt pc 116 then ((.iload 6), 0, 0, 0) else ((.iadd), 0, 0, 0)) else (bif Nat.blt pc 119 then ((.iload 5), 0, 0, 0) else (bif Nat.blt pc 122 then ((.invokevirtual 62), 10, 4, 1) else ((.ifCond .eq 5), 127, 0, 0)))) else (bif Nat.blt pc 129 then (bif Nat.blt pc 126 then ((.iconst 1), 0, 0, 0) else (bif Nat.blt pc 127 then ((.ireturn), 1, 0, 0) else ((.iload 5), 0, 0, 0))) else (bif Nat.blt pc 130 then ((.aload_n 0), 0, 0, 0) else (bif Nat.blt pc 133 then ((.getfield 21), 1, 2, 0) else ((.iload 4), 0, 0, 0))))) else (bif Nat.blt pc 146 then (bif Nat.blt pc 139 then (bif Nat.blt pc 136 then ((.iaload), 0, 0, 0) else (bif Nat.blt pc 137 then ((.isub), 0, 0, 0) else ((.istore 5), 0, 0, 0))) else (bif Nat.blt pc 142 then ((.iinc 6 1), 0, 0, 0) else (bif Nat.blt pc 145 then ((.goto (-59)), 83, 0, 0) else ((.aload_n 0), 0, 0, 0)))) else (bif Nat.blt pc 152 then (bif Nat.blt pc 149 then ((.getfield 34), 1, 6, 0) else (bif Nat.blt pc 151 then ((.iload 4), 0, 0, 0) else ((.iconst 0), 0, 0, 0))) else (bif Nat.blt pc 153 then ((.iastore), 0, 0, 0) else (bif Nat.blt pc 154 then ((.iconst 0), 0, 0, 0) else ((.ireturn), 1, 0, 0))))))))
/-- PatternLaboratory$Matcher countFrom(III)I -/
def pm_t11 : Nat → pm_En := fun pc => (bif Nat.blt pc 82 then (bif Nat.blt pc 41 then (bif Nat.blt pc 22 then (bif Nat.blt pc 12 then (bif Nat.blt pc 5 then (bif Nat.blt pc 1 then ((.iload_n 1), 0, 0, 0) else (bif Nat.blt pc 2 then ((.aload_n 0), 0, 0, 0) else ((.getfield 12), 1, 0, 0))) else (bif Nat.blt pc 8 then ((.getfield 45), 6, 1, 0) else (bif Nat.blt pc 11 then ((.if_icmp .lt 5), 13, 0, 0) else ((.iconst 1), 0, 0, 0)))) else (bif Nat.blt pc 17 then (bif Nat.blt pc 13 then ((.ireturn), 0, 0, 0) else (bif Nat.blt pc 14 then ((.aload_n 0), 0, 0, 0) else ((.getfield 25), 1, 3, 0))) else (bif Nat.blt pc 18 then ((.iload_n 1), 0, 0, 0) else (bif Nat.blt pc 19 then ((.iaload), 0, 0, 0) else ((.ifCond .le 11), 30, 0, 0))))) else (bif Nat.blt pc 30 then (bif Nat.blt pc 25 then (bif Nat.blt pc 23 then ((.aload_n 0), 0, 0, 0) else (bif Nat.blt pc 24 then ((.iload_n 1), 0, 0, 0) else ((.iload_n 2), 0, 0, 0))) else (bif Nat.blt pc 26 then ((.iload_n 3), 0, 0, 0) else (bif Nat.blt pc 29 then ((.invokevirtual 74), 12, 4, 1) else ((.ireturn), 0, 0, 0)))) else (bif Nat.blt pc 35 then (bif Nat.blt pc 31 then ((.aload_n 0), 0, 0, 0) else (bif Nat.blt pc 34 then ((.getfield 12), 1, 0, 0) else ((.iload_n 1), 0, 0, 0))) else (bif Nat.blt pc 38 then ((.invokevirtual 49), 37, 2, 11) else (bif Nat.blt pc 40 then ((.istore 4), 0, 0, 0) else ((.aload_n 0), 0, 0, 0)))))) else (bif Nat.blt pc 63 then (bif Nat.blt pc 53 then (bif Nat.blt pc 47 then (bif Nat.blt pc 44 then ((.getfield 34), 1, 6, 0) else (bif Nat.blt pc 46 then ((.iload 4), 0, 0, 0) else ((.iaload), 0, 0, 0))) else (bif Nat.blt pc 50 then ((.ifCond .le 35), 82, 0, 0) else (bif Nat.blt pc 51 then ((.aload_n 0), 0, 0, 0) else ((.iload 4), 0, 0, 0)))) else (bif Nat.blt pc 60 then (bif Nat.blt pc 54 then ((.iload_n 2), 0, 0, 0) else (bif Nat.blt pc 57 then ((.invokevirtual 70), 14, 3, 1) else ((.ifCond .eq 23), 80, 0, 0))) else (bif Nat.blt pc 61 then ((.aload_n 0), 0, 0, 0) else (bif Nat.blt pc 62 then ((.iload_n 1), 0, 0, 0) else ((.iconst 1), 0, 0, 0))))) else (bif Nat.blt pc 72 then (bif Nat.blt pc 66 then (bif Nat.blt pc 64 then ((.iadd), 0, 0, 0) else (bif Nat.blt pc 65 then ((.iload_n 2), 0, 0, 0) else ((.aload_n 0), 0, 0, 0))) else (bif Nat.blt pc 69 then ((.getfield 34), 1, 6, 0) else (bif Nat.blt pc 71 then ((.iload 4), 0, 0, 0) else ((.iaload), 0, 0, 0)))) else (bif Nat.blt pc 77 then (bif Nat.blt pc 73 then ((.iadd), 0, 0, 0) else (bif Nat.blt pc 74 then ((.iload_n 3), 0, 0, 0) else ((.invokevirtual 66), 11, 4, 1))) else (bif Nat.blt pc 80 then ((.goto 4), 81, 0, 0) else (bif Nat.blt pc 81 then ((.iconst 0), 0, 0, 0) else ((.ireturn), 0, 0, 0))))))) else (bif Nat.blt pc 124 then (bif Nat.blt pc 101 then (bif Nat.blt pc 91 then (bif Nat.blt pc 88 then (bif Nat.blt pc 83 then ((.aload_n 0), 0, 0, 0) else (bif Nat.blt pc 86 then ((.getfield 31), 1, 5, 0) else ((.iload 4), 0, 0, 0))) else (bif Nat.blt pc 89 then ((.iload_n 2), 0, 0, 0) else (bif Nat.blt pc 90 then ((.iastore), 0, 0, 0) else ((.iconst 0), 0, 0, 0)))) else (bif Nat.blt pc 96 then (bif Nat.blt pc 93 then ((.istore 5), 0, 0, 0) else (bif Nat.blt pc 94 then ((.iload_n 3), 0, 0, 0) else ((.istore 6), 0, 0, 0))) else (bif Nat.blt pc 97 then ((.iconst 1), 0, 0, 0) else (bif Nat.blt pc 99 then ((.istore 7), 0, 0, 0) else ((.iload 7), 0, 0, 0))))) else (bif Nat.blt pc 115 then (bif Nat.blt pc 108 then (bif Nat.blt pc 103 then ((.bipush 24), 0, 0, 0) else (bif Nat.blt pc 106 then ((.if_icmp .gt 53), 156, 0, 0) else ((.iload 6), 0, 0, 0))) else (bif Nat.blt pc 111 then ((.ifCond .lt 48), 156, 0, 0) else (bif Nat.blt pc 112 then ((.aload_n 0), 0, 0, 0) else ((.getfield 34), 1, 6, 0)))) else (bif Nat.blt pc 120 then (bif Nat.blt pc 117 then ((.iload 4), 0, 0, 0) else (bif Nat.blt pc 119 then ((.iload 7), 0, 0, 0) else ((.iastore), 0, 0, 0))) else (bif Nat.blt pc 122 then ((.iload 5), 0, 0, 0) else (bif Nat.blt pc 123 then ((.aload_n 0), 0, 0, 0) else ((.iload_n 1), 0, 0, 0)))))) else (bif Nat.blt pc 144 then (bif Nat.blt pc 132 then (bif Nat.blt pc 127 then (bif Nat.blt pc 125 then ((.iconst 1), 0, 0, 0) else (bif Nat.blt pc 126 then ((.iadd), 0, 0, 0) else ((.iload_n 2), 0, 0, 0))) else (bif Nat.blt pc 129 then ((.iload 7), 0, 0, 0) else (bif Nat.blt pc 130 then ((.iadd), 0, 0, 0) else ((.iload 6), 0, 0, 0)))) else (bif Nat.blt pc 138 then (bif Nat.blt pc 135 then ((.invokevirtual 66), 11, 4, 1) else (bif Nat.blt pc 136 then ((.iadd), 0, 0, 0) else ((.istore 5), 0, 0, 0))) else (bif Nat.blt pc 140 then ((.iload 6), 0, 0, 0) else (bif Nat.blt pc 141 then ((.aload_n 0), 0, 0, 0) else ((.getfield 21), 1, 2, 0))))) else (bif Nat.blt pc 156 then (bif Nat.blt pc 148 then (bif Nat.blt pc 146 then ((.iload 4), 0, 0, 0) else (bif Nat.blt pc 147 then ((.iaload), 0, 0, 0) else ((.isub), 0, 0, 0))) else (bif Nat.blt pc 150 then ((.istore 6), 0, 0, 0) else (bif Nat.blt pc 153 then ((.iinc 7 1), 0, 0, 0) else ((.goto (-54)), 99, 0, 0)))) else (bif Nat.blt pc 162 then (bif Nat.blt pc 157 then ((.aload_n 0), 0, 0, 0) else (bif Nat.blt pc 160 then ((.getfield 34), 1, 6, 0) else ((.iload 4), 0, 0, 0))) else (bif Nat.blt pc 164 then (bif Nat.blt pc 163 then ((.iconst 0), 0, 0, 0) else ((.iastore), 0, 0, 0)) else (bif Nat.blt pc 166 then ((.iload 5), 0, 0, 0) else ((.ireturn), 0, 0, 0))))))))
/-- PatternLaboratory$Matcher countRun(III)I -/
def pm_t12 : Nat → pm_En := fun pc => (bif Nat.blt pc 50 then (bif Nat.blt pc 26 then (bif Nat.blt pc 11 then (bif Nat.blt pc 5 then (bif Nat.blt pc 1 then ((.aload_n 0), 0, 0, 0) else (bif Nat.blt pc 4 then ((.getfield 25), 1, 3, 0) else ((.iload_n 1), 0, 0, 0))) else (bif Nat.blt pc 8 then (bif Nat.blt pc 6 then ((.iaload), 0, 0, 0) else ((.istore 4), 0, 0, 0)) else (bif Nat.blt pc 9 then ((.iload_n 1), 0, 0, 0) else ((.iload 4), 0, 0, 0)))) else (bif Nat.blt pc 19 then (bif Nat.blt pc 13 then (bif Nat.blt pc 12 then ((.iadd), 0, 0, 0) else ((.aload_n 0), 0, 0, 0)) else (bif Nat.blt pc 16 then ((.getfield 12), 1, 0, 0) else ((.getfield 45), 6, 1, 0))) else (bif Nat.blt pc 23 then (bif Nat.blt pc 22 then ((.if_icmp .lt 13), 32, 0, 0) else ((.iload_n 3), 0, 0, 0)) else (bif Nat.blt pc 25 then ((.iload 4), 0, 0, 0) else ((.iadd), 0, 0, 0))))) else (bif Nat.blt pc 38 then (bif Nat.blt pc 32 then (bif Nat.blt pc 28 then ((.iload 4), 0, 0, 0) else (bif Nat.blt pc 31 then ((.invokestatic 77), 13, 2, 0) else ((.ireturn), 0, 0, 0))) else (bif Nat.blt pc 35 then (bif Nat.blt pc 33 then ((.iconst 0), 0, 0, 0) else ((.istore 5), 0, 0, 0)) else (bif Nat.blt pc 36 then ((.iconst 0), 0, 0, 0) else ((.istore 6), 0, 0, 0)))) else (bif Nat.blt pc 45 then (bif Nat.blt pc 41 then (bif Nat.blt pc 40 then ((.iload 6), 0, 0, 0) else ((.iload_n 3), 0, 0, 0)) else (bif Nat.blt pc 44 then ((.if_icmp .gt 61), 102, 0, 0) else ((.aload_n 0), 0, 0, 0))) else (bif Nat.blt pc 48 then (bif Nat.blt pc 46 then ((.iload_n 1), 0, 0, 0) else ((.iload 4), 0, 0, 0)) else (bif Nat.blt pc 49 then ((.iadd), 0, 0, 0) else ((.iload_n 2), 0, 0, 0)))))) else (bif Nat.blt pc 78 then (bif Nat.blt pc 60 then (bif Nat.blt pc 55 then (bif Nat.blt pc 52 then ((.iload 4), 0, 0, 0) else (bif Nat.blt pc 53 then ((.iadd), 0, 0, 0) else ((.iload 6), 0, 0, 0))) else (bif Nat.blt pc 57 then (bif Nat.blt pc 56 then ((.iadd), 0, 0, 0) else ((.iload_n 3), 0, 0, 0)) else (bif Nat.blt pc 59 then ((.iload 6), 0, 0, 0) else ((.isub), 0, 0, 0)))) else (bif Nat.blt pc 69 then (bif Nat.blt pc 65 then (bif Nat.blt pc 63 then ((.invokevirtual 66), 11, 4, 1) else ((.istore 7), 0, 0, 0)) else (bif Nat.blt pc 67 then ((.iload 5), 0, 0, 0) else ((.iload 7), 0, 0, 0))) else (bif Nat.blt pc 73 then (bif Nat.blt pc 72 then ((.ifCond .ne 7), 76, 0, 0) else ((.iconst 0), 0, 0, 0)) else (bif Nat.blt pc 76 then ((.goto 20), 93, 0, 0) else ((.iload 7), 0, 0, 0))))) else (bif Nat.blt pc 89 then (bif Nat.blt pc 84 then (bif Nat.blt pc 81 then (bif Nat.blt pc 80 then ((.iload 4), 0, 0, 0) else ((.iconst 1), 0, 0, 0)) else (bif Nat.blt pc 82 then ((.isub), 0, 0, 0) else ((.iload 6), 0, 0, 0))) else (bif Nat.blt pc 87 then (bif Nat.blt pc 85 then ((.iadd), 0, 0, 0) else ((.iload 4), 0, 0, 0)) else (bif Nat.blt pc 88 then ((.iconst 1), 0, 0, 0) else ((.isub), 0, 0, 0)))) else (bif Nat.blt pc 96 then (bif Nat.blt pc 93 then (bif Nat.blt pc 92 then ((.invokestatic 77), 13, 2, 0) else ((.imul), 0, 0, 0)) else (bif Nat.blt pc 94 then ((.iadd), 0, 0, 0) else ((.istore 5), 0, 0, 0))) else (bif Nat.blt pc 102 then (bif Nat.blt pc 99 then ((.iinc 6 1), 0, 0, 0) else ((.goto (-61)), 38, 0, 0)) else (bif Nat.blt pc 104 then ((.iload 5), 0, 0, 0) else ((.ireturn), 0, 0, 0)))))))
/-- PatternLaboratory$Matcher choose(II)I -/
def pm_t13 : Nat → pm_En := fun pc => (bif Nat.blt pc 12 then (bif Nat.blt pc 5 then (bif Nat.blt pc 2 then (bif Nat.blt pc 1 then ((.iconst 1), 0, 0, 0) else ((.istore_n 2), 0, 0, 0)) else (bif Nat.blt pc 3 then ((.iconst 1), 0, 0, 0) else (bif Nat.blt pc 4 then ((.istore_n 3), 0, 0, 0) else ((.iload_n 3), 0, 0, 0)))) else (bif Nat.blt pc 9 then (bif Nat.blt pc 6 then ((.iload_n 1), 0, 0, 0) else ((.if_icmp .gt 19), 25, 0, 0)) else (bif Nat.blt pc 10 then ((.iload_n 2), 0, 0, 0) else (bif Nat.blt pc 11 then ((.iload_n 0), 0, 0, 0) else ((.iload_n 1), 0, 0, 0))))) else (bif Nat.blt pc 17 then (bif Nat.blt pc 14 then (bif Nat.blt pc 13 then ((.isub), 0, 0, 0) else ((.iload_n 3), 0, 0, 0)) else (bif Nat.blt pc 15 then ((.iadd), 0, 0, 0) else (bif Nat.blt pc 16 then ((.imul), 0, 0, 0) else ((.iload_n 3), 0, 0, 0)))) else (bif Nat.blt pc 22 then (bif Nat.blt pc 18 then ((.idiv), 0, 0, 0) else (bif Nat.blt pc 19 then ((.istore_n 2), 0, 0, 0) else ((.iinc 3 1), 0, 0, 0))) else (bif Nat.blt pc 25 then ((.goto (-18)), 4, 0, 0) else (bif Nat.blt pc 26 then ((.iload_n 2), 0, 0, 0) else ((.ireturn), 0, 0, 0))))))
/-- PatternLaboratory$Matcher repeats(II)Z -/
def pm_t14 : Nat → pm_En := fun pc => (bif Nat.blt pc 41 then (bif Nat.blt pc 19 then (bif Nat.blt pc 8 then (bif Nat.blt pc 5 then (bif Nat.blt pc 1 then ((.aload_n 0), 0, 0, 0) else (bif Nat.blt pc 4 then ((.getfield 31), 1, 5, 0) else ((.iload_n 1), 0, 0, 0))) else (bif Nat.blt pc 6 then ((.iaload), 0, 0, 0) else (bif Nat.blt pc 7 then ((.istore_n 3), 0, 0, 0) else ((.aload_n 0), 0, 0, 0)))) else (bif Nat.blt pc 13 then (bif Nat.blt pc 11 then ((.getfield 34), 1, 6, 0) else (bif Nat.blt pc 12 then ((.iload_n 1), 0, 0, 0) else ((.iaload), 0, 0, 0))) else (bif Nat.blt pc 15 then ((.istore 4), 0, 0, 0) else (bif Nat.blt pc 16 then ((.iload_n 3), 0, 0, 0) else ((.ifCond .lt 22), 38, 0, 0))))) else (bif Nat.blt pc 28 then (bif Nat.blt pc 24 then (bif Nat.blt pc 20 then ((.iload_n 2), 0, 0, 0) else (bif Nat.blt pc 21 then ((.iload_n 3), 0, 0, 0) else ((.if_icmp .lt 17), 38, 0, 0))) else (bif Nat.blt pc 25 then ((.iload_n 2), 0, 0, 0) else (bif Nat.blt pc 27 then ((.iload 4), 0, 0, 0) else ((.iadd), 0, 0, 0)))) else (bif Nat.blt pc 35 then (bif Nat.blt pc 29 then ((.aload_n 0), 0, 0, 0) else (bif Nat.blt pc 32 then ((.getfield 18), 1, 1, 0) else ((.getfield 45), 6, 1, 0))) else (bif Nat.blt pc 39 then (bif Nat.blt pc 38 then ((.if_icmp .le 5), 40, 0, 0) else ((.iconst 0), 0, 0, 0)) else (bif Nat.blt pc 40 then ((.ireturn), 1, 0, 0) else ((.iconst 0), 0, 0, 0)))))) else (bif Nat.blt pc 63 then (bif Nat.blt pc 54 then (bif Nat.blt pc 47 then (bif Nat.blt pc 43 then ((.istore 5), 0, 0, 0) else (bif Nat.blt pc 45 then ((.iload 5), 0, 0, 0) else ((.iload 4), 0, 0, 0))) else (bif Nat.blt pc 50 then ((.if_icmp .ge 38), 85, 0, 0) else (bif Nat.blt pc 51 then ((.aload_n 0), 0, 0, 0) else ((.getfield 18), 1, 1, 0)))) else (bif Nat.blt pc 60 then (bif Nat.blt pc 57 then ((.getfield 81), 6, 0, 0) else (bif Nat.blt pc 58 then ((.iload_n 3), 0, 0, 0) else ((.iload 5), 0, 0, 0))) else (bif Nat.blt pc 61 then ((.iadd), 0, 0, 0) else (bif Nat.blt pc 62 then ((.iaload), 0, 0, 0) else ((.aload_n 0), 0, 0, 0))))) else (bif Nat.blt pc 74 then (bif Nat.blt pc 70 then (bif Nat.blt pc 66 then ((.getfield 18), 1, 1, 0) else (bif Nat.blt pc 69 then ((.getfield 81), 6, 0, 0) else ((.iload_n 2), 0, 0, 0))) else (bif Nat.blt pc 72 then ((.iload 5), 0, 0, 0) else (bif Nat.blt pc 73 then ((.iadd), 0, 0, 0) else ((.iaload), 0, 0, 0)))) else (bif Nat.blt pc 79 then (bif Nat.blt pc 77 then ((.if_icmp .eq 5), 79, 0, 0) else (bif Nat.blt pc 78 then ((.iconst 0), 0, 0, 0) else ((.ireturn), 1, 0, 0))) else (bif Nat.blt pc 85 then (bif Nat.blt pc 82 then ((.iinc 5 1), 0, 0, 0) else ((.goto (-39)), 43, 0, 0)) else (bif Nat.blt pc 86 then ((.iconst 1), 0, 0, 0) else ((.ireturn), 1, 0, 0)))))))
/-- PatternLaboratory$Morphism <init>()V -/
def pm_t15 : Nat → pm_En := fun pc => (bif Nat.blt pc 16 then (bif Nat.blt pc 9 then (bif Nat.blt pc 4 then (bif Nat.blt pc 1 then ((.aload_n 0), 0, 0, 0) else ((.invokespecial 3), 0, 0, 9)) else (bif Nat.blt pc 5 then ((.aload_n 0), 0, 0, 0) else (bif Nat.blt pc 6 then ((.iconst 4), 0, 0, 0) else ((.anewarray 9), 0, 0, 0)))) else (bif Nat.blt pc 13 then (bif Nat.blt pc 12 then ((.putfield 11), 2, 0, 0) else ((.iconst 0), 0, 0, 0)) else (bif Nat.blt pc 14 then ((.istore_n 1), 0, 0, 0) else (bif Nat.blt pc 15 then ((.iload_n 1), 0, 0, 0) else ((.iconst 4), 0, 0, 0))))) else (bif Nat.blt pc 27 then (bif Nat.blt pc 20 then (bif Nat.blt pc 19 then ((.if_icmp .ge 22), 38, 0, 0) else ((.aload_n 0), 0, 0, 0)) else (bif Nat.blt pc 23 then ((.getfield 11), 2, 0, 0) else (bif Nat.blt pc 24 then ((.iload_n 1), 0, 0, 0) else ((.new 9), 6, 0, 0)))) else (bif Nat.blt pc 32 then (bif Nat.blt pc 28 then ((.dup), 0, 0, 0) else (bif Nat.blt pc 31 then ((.invokespecial 17), 35, 1, 12) else ((.aastore), 0, 0, 0))) else (bif Nat.blt pc 35 then ((.iinc 1 1), 0, 0, 0) else (bif Nat.blt pc 38 then ((.goto (-21)), 14, 0, 0) else ((.return_), 0, 0, 0))))))
/-- PatternLaboratory$Morphism clear()V -/
def pm_t16 : Nat → pm_En := fun pc => (bif Nat.blt pc 8 then (bif Nat.blt pc 3 then (bif Nat.blt pc 1 then ((.iconst 0), 0, 0, 0) else (bif Nat.blt pc 2 then ((.istore_n 1), 0, 0, 0) else ((.iload_n 1), 0, 0, 0))) else (bif Nat.blt pc 4 then ((.iconst 4), 0, 0, 0) else (bif Nat.blt pc 7 then ((.if_icmp .ge 18), 22, 0, 0) else ((.aload_n 0), 0, 0, 0)))) else (bif Nat.blt pc 13 then (bif Nat.blt pc 11 then ((.getfield 11), 2, 0, 0) else (bif Nat.blt pc 12 then ((.iload_n 1), 0, 0, 0) else ((.aaload), 0, 0, 0))) else (bif Nat.blt pc 19 then (bif Nat.blt pc 16 then ((.invokevirtual 18), 41, 1, 11) else ((.iinc 1 1), 0, 0, 0)) else (bif Nat.blt pc 22 then ((.goto (-17)), 2, 0, 0) else ((.return_), 0, 0, 0)))))
/-- PatternLaboratory$Morphism become(LPatternLaboratory$Morphism;)V -/
def pm_t17 : Nat → pm_En := fun pc => (bif Nat.blt pc 12 then (bif Nat.blt pc 4 then (bif Nat.blt pc 2 then (bif Nat.blt pc 1 then ((.iconst 0), 0, 0, 0) else ((.istore_n 2), 0, 0, 0)) else (bif Nat.blt pc 3 then ((.iload_n 2), 0, 0, 0) else ((.iconst 4), 0, 0, 0))) else (bif Nat.blt pc 8 then (bif Nat.blt pc 7 then ((.if_icmp .ge 24), 28, 0, 0) else ((.aload_n 0), 0, 0, 0)) else (bif Nat.blt pc 11 then ((.getfield 11), 2, 0, 0) else ((.iload_n 2), 0, 0, 0)))) else (bif Nat.blt pc 18 then (bif Nat.blt pc 14 then (bif Nat.blt pc 13 then ((.aaload), 0, 0, 0) else ((.aload_n 1), 0, 0, 0)) else (bif Nat.blt pc 17 then ((.getfield 11), 2, 0, 0) else ((.iload_n 2), 0, 0, 0))) else (bif Nat.blt pc 22 then (bif Nat.blt pc 19 then ((.aaload), 0, 0, 0) else ((.invokevirtual 21), 42, 2, 11)) else (bif Nat.blt pc 25 then ((.iinc 2 1), 0, 0, 0) else (bif Nat.blt pc 28 then ((.goto (-23)), 2, 0, 0) else ((.return_), 0, 0, 0))))))
/-- PatternLaboratory$Morphism becomeFirst(II)V -/
def pm_t18 : Nat → pm_En := fun pc => (bif Nat.blt pc 13 then (bif Nat.blt pc 4 then (bif Nat.blt pc 2 then (bif Nat.blt pc 1 then ((.iconst 0), 0, 0, 0) else ((.istore_n 3), 0, 0, 0)) else (bif Nat.blt pc 3 then ((.iload_n 3), 0, 0, 0) else ((.iconst 4), 0, 0, 0))) else (bif Nat.blt pc 8 then (bif Nat.blt pc 7 then ((.if_icmp .ge 28), 32, 0, 0) else ((.aload_n 0), 0, 0, 0)) else (bif Nat.blt pc 11 then ((.getfield 11), 2, 0, 0) else (bif Nat.blt pc 12 then ((.iload_n 3), 0, 0, 0) else ((.aaload), 0, 0, 0))))) else (bif Nat.blt pc 22 then (bif Nat.blt pc 15 then (bif Nat.blt pc 14 then ((.iload_n 3), 0, 0, 0) else ((.iload_n 1), 0, 0, 0)) else (bif Nat.blt pc 18 then ((.if_icmp .ge 7), 22, 0, 0) else (bif Nat.blt pc 19 then ((.iload_n 2), 0, 0, 0) else ((.goto 4), 23, 0, 0)))) else (bif Nat.blt pc 26 then (bif Nat.blt pc 23 then ((.iconst 0), 0, 0, 0) else ((.invokevirtual 25), 43, 2, 11)) else (bif Nat.blt pc 29 then ((.iinc 3 1), 0, 0, 0) else (bif Nat.blt pc 32 then ((.goto (-27)), 2, 0, 0) else ((.return_), 0, 0, 0))))))
/-- PatternLaboratory$Morphism becomeNext(I)Z -/
def pm_t19 : Nat → pm_En := fun pc => (bif Nat.blt pc 34 then (bif Nat.blt pc 14 then (bif Nat.blt pc 7 then (bif Nat.blt pc 2 then (bif Nat.blt pc 1 then ((.iconst 3), 0, 0, 0) else ((.istore_n 2), 0, 0, 0)) else (bif Nat.blt pc 3 then ((.iload_n 2), 0, 0, 0) else (bif Nat.blt pc 6 then ((.ifCond .lt 70), 73, 0, 0) else ((.aload_n 0), 0, 0, 0)))) else (bif Nat.blt pc 11 then (bif Nat.blt pc 10 then ((.getfield 11), 2, 0, 0) else ((.iload_n 2), 0, 0, 0)) else (bif Nat.blt pc 12 then ((.aaload), 0, 0, 0) else (bif Nat.blt pc 13 then ((.astore_n 3), 0, 0, 0) else ((.aload_n 3), 0, 0, 0))))) else (bif Nat.blt pc 23 then (bif Nat.blt pc 18 then (bif Nat.blt pc 17 then ((.getfield 29), 6, 1, 0) else ((.iconst 1), 0, 0, 0)) else (bif Nat.blt pc 19 then ((.isub), 0, 0, 0) else (bif Nat.blt pc 21 then ((.istore 4), 0, 0, 0) else ((.iload 4), 0, 0, 0)))) else (bif Nat.blt pc 29 then (bif Nat.blt pc 26 then ((.ifCond .lt 44), 67, 0, 0) else (bif Nat.blt pc 27 then ((.aload_n 3), 0, 0, 0) else ((.iload 4), 0, 0, 0))) else (bif Nat.blt pc 32 then ((.invokevirtual 33), 37, 2, 11) else (bif Nat.blt pc 33 then ((.iconst 1), 0, 0, 0) else ((.iadd), 0, 0, 0)))))) else (bif Nat.blt pc 53 then (bif Nat.blt pc 42 then (bif Nat.blt pc 38 then (bif Nat.blt pc 35 then ((.iload_n 1), 0, 0, 0) else ((.if_icmp .ge 19), 54, 0, 0)) else (bif Nat.blt pc 39 then ((.aload_n 3), 0, 0, 0) else (bif Nat.blt pc 41 then ((.iload 4), 0, 0, 0) else ((.aload_n 3), 0, 0, 0)))) else (bif Nat.blt pc 48 then (bif Nat.blt pc 44 then ((.iload 4), 0, 0, 0) else (bif Nat.blt pc 47 then ((.invokevirtual 33), 37, 2, 11) else ((.iconst 1), 0, 0, 0))) else (bif Nat.blt pc 49 then ((.iadd), 0, 0, 0) else (bif Nat.blt pc 52 then ((.invokevirtual 37), 38, 3, 11) else ((.iconst 1), 0, 0, 0))))) else (bif Nat.blt pc 61 then (bif Nat.blt pc 55 then (bif Nat.blt pc 54 then ((.ireturn), 1, 0, 0) else ((.aload_n 3), 0, 0, 0)) else (bif Nat.blt pc 57 then ((.iload 4), 0, 0, 0) else (bif Nat.blt pc 58 then ((.iconst 0), 0, 0, 0) else ((.invokevirtual 37), 38, 3, 11)))) else (bif Nat.blt pc 70 then (bif Nat.blt pc 64 then ((.iinc 4 (-1)), 0, 0, 0) else (bif Nat.blt pc 67 then ((.goto (-43)), 21, 0, 0) else ((.iinc 2 (-1)), 0, 0, 0))) else (bif Nat.blt pc 73 then ((.goto (-68)), 2, 0, 0) else (bif Nat.blt pc 74 then ((.iconst 0), 0, 0, 0) else ((.ireturn), 1, 0, 0)))))))
/-- PatternLaboratory$Morphism change(LPatternLaboratory$Row;LPatternLaboratory$Row;)Z -/
def pm_t20 : Nat → pm_En := fun pc => (bif Nat.blt pc 47 then (bif Nat.blt pc 21 then (bif Nat.blt pc 8 then (bif Nat.blt pc 5 then (bif Nat.blt pc 1 then ((.aload_n 2), 0, 0, 0) else (bif Nat.blt pc 4 then ((.invokevirtual 18), 41, 1, 11) else ((.iconst 0), 0, 0, 0))) else (bif Nat.blt pc 6 then ((.istore_n 3), 0, 0, 0) else (bif Nat.blt pc 7 then ((.iload_n 3), 0, 0, 0) else ((.aload_n 1), 0, 0, 0)))) else (bif Nat.blt pc 15 then (bif Nat.blt pc 11 then ((.getfield 29), 6, 1, 0) else (bif Nat.blt pc 14 then ((.if_icmp .ge 88), 99, 0, 0) else ((.aload_n 1), 0, 0, 0))) else (bif Nat.blt pc 16 then ((.iload_n 3), 0, 0, 0) else (bif Nat.blt pc 19 then ((.invokevirtual 33), 37, 2, 11) else ((.istore 4), 0, 0, 0))))) else (bif Nat.blt pc 33 then (bif Nat.blt pc 28 then (bif Nat.blt pc 23 then ((.iload 4), 0, 0, 0) else (bif Nat.blt pc 26 then ((.ifCond .lt 29), 52, 0, 0) else ((.iload 4), 0, 0, 0))) else (bif Nat.blt pc 29 then ((.iconst 4), 0, 0, 0) else (bif Nat.blt pc 32 then ((.if_icmp .ge 23), 52, 0, 0) else ((.aload_n 2), 0, 0, 0)))) else (bif Nat.blt pc 40 then (bif Nat.blt pc 36 then ((.getfield 29), 6, 1, 0) else (bif Nat.blt pc 37 then ((.aload_n 0), 0, 0, 0) else ((.getfield 11), 2, 0, 0))) else (bif Nat.blt pc 43 then (bif Nat.blt pc 42 then ((.iload 4), 0, 0, 0) else ((.aaload), 0, 0, 0)) else (bif Nat.blt pc 46 then ((.getfield 29), 6, 1, 0) else ((.iadd), 0, 0, 0)))))) else (bif Nat.blt pc 70 then (bif Nat.blt pc 58 then (bif Nat.blt pc 53 then (bif Nat.blt pc 49 then ((.bipush 24), 0, 0, 0) else (bif Nat.blt pc 52 then ((.if_icmp .le 5), 54, 0, 0) else ((.iconst 0), 0, 0, 0))) else (bif Nat.blt pc 54 then ((.ireturn), 1, 0, 0) else (bif Nat.blt pc 55 then ((.aload_n 0), 0, 0, 0) else ((.getfield 11), 2, 0, 0)))) else (bif Nat.blt pc 63 then (bif Nat.blt pc 60 then ((.iload 4), 0, 0, 0) else (bif Nat.blt pc 61 then ((.aaload), 0, 0, 0) else ((.astore 5), 0, 0, 0))) else (bif Nat.blt pc 66 then (bif Nat.blt pc 64 then ((.iconst 0), 0, 0, 0) else ((.istore 6), 0, 0, 0)) else (bif Nat.blt pc 68 then ((.iload 6), 0, 0, 0) else ((.aload 5), 0, 0, 0))))) else (bif Nat.blt pc 84 then (bif Nat.blt pc 77 then (bif Nat.blt pc 73 then ((.getfield 29), 6, 1, 0) else (bif Nat.blt pc 76 then ((.if_icmp .ge 20), 93, 0, 0) else ((.aload_n 2), 0, 0, 0))) else (bif Nat.blt pc 79 then ((.aload 5), 0, 0, 0) else (bif Nat.blt pc 81 then ((.iload 6), 0, 0, 0) else ((.invokevirtual 33), 37, 2, 11)))) else (bif Nat.blt pc 93 then (bif Nat.blt pc 87 then ((.invokevirtual 41), 39, 2, 11) else (bif Nat.blt pc 90 then ((.iinc 6 1), 0, 0, 0) else ((.goto (-24)), 66, 0, 0))) else (bif Nat.blt pc 99 then (bif Nat.blt pc 96 then ((.iinc 3 1), 0, 0, 0) else ((.goto (-90)), 6, 0, 0)) else (bif Nat.blt pc 100 then ((.iconst 1), 0, 0, 0) else ((.ireturn), 1, 0, 0)))))))
/-- PatternLaboratory$Occurrence <init>()V -/
def pm_t21 : Nat → pm_En := fun pc => (bif Nat.blt pc 20 then (bif Nat.blt pc 10 then (bif Nat.blt pc 5 then (bif Nat.blt pc 1 then ((.aload_n 0), 0, 0, 0) else (bif Nat.blt pc 4 then ((.invokespecial 3), 0, 0, 9) else ((.aload_n 0), 0, 0, 0))) else (bif Nat.blt pc 6 then ((.iconst 0), 0, 0, 0) else (bif Nat.blt pc 9 then ((.putfield 9), 3, 0, 1) else ((.aload_n 0), 0, 0, 0)))) else (bif Nat.blt pc 17 then (bif Nat.blt pc 11 then ((.iconst 5), 0, 0, 0) else (bif Nat.blt pc 14 then ((.anewarray 15), 0, 0, 0) else ((.putfield 17), 3, 1, 0))) else (bif Nat.blt pc 18 then ((.iconst 0), 0, 0, 0) else (bif Nat.blt pc 19 then ((.istore_n 1), 0, 0, 0) else ((.iload_n 1), 0, 0, 0))))) else (bif Nat.blt pc 32 then (bif Nat.blt pc 25 then (bif Nat.blt pc 21 then ((.iconst 5), 0, 0, 0) else (bif Nat.blt pc 24 then ((.if_icmp .ge 22), 43, 0, 0) else ((.aload_n 0), 0, 0, 0))) else (bif Nat.blt pc 28 then ((.getfield 17), 3, 1, 0) else (bif Nat.blt pc 29 then ((.iload_n 1), 0, 0, 0) else ((.new 15), 6, 0, 0)))) else (bif Nat.blt pc 37 then (bif Nat.blt pc 33 then ((.dup), 0, 0, 0) else (bif Nat.blt pc 36 then ((.invokespecial 21), 35, 1, 12) else ((.aastore), 0, 0, 0))) else (bif Nat.blt pc 40 then ((.iinc 1 1), 0, 0, 0) else (bif Nat.blt pc 43 then ((.goto (-21)), 19, 0, 0) else ((.return_), 0, 0, 0))))))
/-- PatternLaboratory$Occurrence take(LPatternLaboratory$Matcher;)V -/
def pm_t22 : Nat → pm_En := fun pc => (bif Nat.blt pc 30 then (bif Nat.blt pc 16 then (bif Nat.blt pc 7 then (bif Nat.blt pc 2 then (bif Nat.blt pc 1 then ((.aload_n 0), 0, 0, 0) else ((.iconst 1), 0, 0, 0)) else (bif Nat.blt pc 5 then ((.putfield 9), 3, 0, 1) else (bif Nat.blt pc 6 then ((.iconst 0), 0, 0, 0) else ((.istore_n 2), 0, 0, 0)))) else (bif Nat.blt pc 9 then (bif Nat.blt pc 8 then ((.iload_n 2), 0, 0, 0) else ((.iconst 5), 0, 0, 0)) else (bif Nat.blt pc 12 then ((.if_icmp .ge 60), 69, 0, 0) else (bif Nat.blt pc 13 then ((.aload_n 0), 0, 0, 0) else ((.getfield 17), 3, 1, 0))))) else (bif Nat.blt pc 23 then (bif Nat.blt pc 18 then (bif Nat.blt pc 17 then ((.iload_n 2), 0, 0, 0) else ((.aaload), 0, 0, 0)) else (bif Nat.blt pc 21 then ((.invokevirtual 22), 41, 1, 11) else (bif Nat.blt pc 22 then ((.iconst 0), 0, 0, 0) else ((.istore_n 3), 0, 0, 0)))) else (bif Nat.blt pc 25 then (bif Nat.blt pc 24 then ((.iload_n 3), 0, 0, 0) else ((.aload_n 1), 0, 0, 0)) else (bif Nat.blt pc 28 then ((.getfield 25), 1, 6, 0) else (bif Nat.blt pc 29 then ((.iload_n 2), 0, 0, 0) else ((.iaload), 0, 0, 0)))))) else (bif Nat.blt pc 48 then (bif Nat.blt pc 39 then (bif Nat.blt pc 34 then (bif Nat.blt pc 33 then ((.if_icmp .ge 33), 63, 0, 0) else ((.aload_n 0), 0, 0, 0)) else (bif Nat.blt pc 37 then ((.getfield 17), 3, 1, 0) else (bif Nat.blt pc 38 then ((.iload_n 2), 0, 0, 0) else ((.aaload), 0, 0, 0)))) else (bif Nat.blt pc 43 then (bif Nat.blt pc 40 then ((.aload_n 1), 0, 0, 0) else ((.getfield 31), 1, 1, 0)) else (bif Nat.blt pc 44 then ((.aload_n 1), 0, 0, 0) else (bif Nat.blt pc 47 then ((.getfield 35), 1, 5, 0) else ((.iload_n 2), 0, 0, 0))))) else (bif Nat.blt pc 57 then (bif Nat.blt pc 50 then (bif Nat.blt pc 49 then ((.iaload), 0, 0, 0) else ((.iload_n 3), 0, 0, 0)) else (bif Nat.blt pc 51 then ((.iadd), 0, 0, 0) else (bif Nat.blt pc 54 then ((.invokevirtual 38), 37, 2, 11) else ((.invokevirtual 42), 39, 2, 11)))) else (bif Nat.blt pc 63 then (bif Nat.blt pc 60 then ((.iinc 3 1), 0, 0, 0) else ((.goto (-37)), 23, 0, 0)) else (bif Nat.blt pc 66 then ((.iinc 2 1), 0, 0, 0) else (bif Nat.blt pc 69 then ((.goto (-59)), 7, 0, 0) else ((.return_), 0, 0, 0)))))))
/-- PatternLaboratory$Reducer <init>()V -/
def pm_t23 : Nat → pm_En := fun pc => (bif Nat.blt pc 12 then (bif Nat.blt pc 5 then (bif Nat.blt pc 1 then ((.aload_n 0), 0, 0, 0) else (bif Nat.blt pc 4 then ((.invokespecial 3), 0, 0, 9) else ((.aload_n 0), 0, 0, 0))) else (bif Nat.blt pc 8 then (bif Nat.blt pc 6 then ((.iconst 5), 0, 0, 0) else ((.newarray .int), 1000, 0, 0)) else (bif Nat.blt pc 11 then ((.putfield 9), 4, 0, 0) else ((.aload_n 0), 0, 0, 0)))) else (bif Nat.blt pc 20 then (bif Nat.blt pc 16 then (bif Nat.blt pc 14 then ((.bipush 32), 0, 0, 0) else ((.newarray .int), 1000, 0, 0)) else (bif Nat.blt pc 19 then ((.putfield 15), 4, 1, 0) else ((.aload_n 0), 0, 0, 0))) else (bif Nat.blt pc 24 then (bif Nat.blt pc 22 then ((.bipush 32), 0, 0, 0) else ((.newarray .int), 1000, 0, 0)) else (bif Nat.blt pc 27 then ((.putfield 18), 4, 2, 0) else ((.return_), 0, 0, 0)))))
/-- PatternLaboratory$Reducer link(LPatternLaboratory$Row;I)V -/
def pm_t24 : Nat → pm_En := fun pc => (bif Nat.blt pc 48 then (bif Nat.blt pc 21 then (bif Nat.blt pc 8 then (bif Nat.blt pc 3 then (bif Nat.blt pc 1 then ((.iconst 0), 0, 0, 0) else (bif Nat.blt pc 2 then ((.istore_n 3), 0, 0, 0) else ((.iload_n 3), 0, 0, 0))) else (bif Nat.blt pc 4 then ((.iconst 5), 0, 0, 0) else (bif Nat.blt pc 7 then ((.if_icmp .ge 16), 20, 0, 0) else ((.aload_n 0), 0, 0, 0)))) else (bif Nat.blt pc 13 then (bif Nat.blt pc 11 then ((.getfield 9), 4, 0, 0) else (bif Nat.blt pc 12 then ((.iload_n 3), 0, 0, 0) else ((.iconst 0), 0, 0, 0))) else (bif Nat.blt pc 17 then (bif Nat.blt pc 14 then ((.iastore), 0, 0, 0) else ((.iinc 3 1), 0, 0, 0)) else (bif Nat.blt pc 20 then ((.goto (-15)), 2, 0, 0) else ((.iconst (-1)), 0, 0, 0))))) else (bif Nat.blt pc 34 then (bif Nat.blt pc 25 then (bif Nat.blt pc 22 then ((.istore_n 3), 0, 0, 0) else (bif Nat.blt pc 23 then ((.iconst 0), 0, 0, 0) else ((.istore 4), 0, 0, 0))) else (bif Nat.blt pc 28 then (bif Nat.blt pc 27 then ((.iload 4), 0, 0, 0) else ((.aload_n 1), 0, 0, 0)) else (bif Nat.blt pc 31 then ((.getfield 21), 6, 1, 0) else ((.if_icmp .ge 46), 77, 0, 0)))) else (bif Nat.blt pc 40 then (bif Nat.blt pc 35 then ((.aload_n 1), 0, 0, 0) else (bif Nat.blt pc 37 then ((.iload 4), 0, 0, 0) else ((.invokevirtual 27), 37, 2, 11))) else (bif Nat.blt pc 43 then (bif Nat.blt pc 42 then ((.istore 5), 0, 0, 0) else ((.iload_n 2), 0, 0, 0)) else (bif Nat.blt pc 45 then ((.iload 5), 0, 0, 0) else ((.invokestatic 31), 105, 2, 10)))))) else (bif Nat.blt pc 70 then (bif Nat.blt pc 61 then (bif Nat.blt pc 55 then (bif Nat.blt pc 51 then ((.ifCond .eq 23), 71, 0, 0) else (bif Nat.blt pc 52 then ((.iload_n 3), 0, 0, 0) else ((.ifCond .lt 16), 68, 0, 0))) else (bif Nat.blt pc 59 then (bif Nat.blt pc 56 then ((.aload_n 0), 0, 0, 0) else ((.getfield 9), 4, 0, 0)) else (bif Nat.blt pc 60 then ((.iload_n 3), 0, 0, 0) else ((.dup2), 0, 0, 0)))) else (bif Nat.blt pc 65 then (bif Nat.blt pc 62 then ((.iaload), 0, 0, 0) else (bif Nat.blt pc 63 then ((.iconst 1), 0, 0, 0) else ((.iload 5), 0, 0, 0))) else (bif Nat.blt pc 67 then (bif Nat.blt pc 66 then ((.ishl), 0, 0, 0) else ((.ior), 0, 0, 0)) else (bif Nat.blt pc 68 then ((.iastore), 0, 0, 0) else ((.iload 5), 0, 0, 0))))) else (bif Nat.blt pc 83 then (bif Nat.blt pc 77 then (bif Nat.blt pc 71 then ((.istore_n 3), 0, 0, 0) else (bif Nat.blt pc 74 then ((.iinc 4 1), 0, 0, 0) else ((.goto (-49)), 25, 0, 0))) else (bif Nat.blt pc 80 then (bif Nat.blt pc 78 then ((.iconst 0), 0, 0, 0) else ((.istore 4), 0, 0, 0)) else (bif Nat.blt pc 82 then ((.iload 4), 0, 0, 0) else ((.iconst 5), 0, 0, 0)))) else (bif Nat.blt pc 89 then (bif Nat.blt pc 86 then ((.if_icmp .ge 15), 98, 0, 0) else (bif Nat.blt pc 87 then ((.aload_n 0), 0, 0, 0) else ((.iload 4), 0, 0, 0))) else (bif Nat.blt pc 95 then (bif Nat.blt pc 92 then ((.invokevirtual 35), 25, 2, 1) else ((.iinc 4 1), 0, 0, 0)) else (bif Nat.blt pc 98 then ((.goto (-15)), 80, 0, 0) else ((.return_), 0, 0, 0)))))))
/-- PatternLaboratory$Reducer joinAt(I)V -/
def pm_t25 : Nat → pm_En := fun pc => (bif Nat.blt pc 31 then (bif Nat.blt pc 14 then (bif Nat.blt pc 5 then (bif Nat.blt pc 2 then (bif Nat.blt pc 1 then ((.iconst 0), 0, 0, 0) else ((.istore_n 2), 0, 0, 0)) else (bif Nat.blt pc 3 then ((.iconst 0), 0, 0, 0) else (bif Nat.blt pc 4 then ((.istore_n 3), 0, 0, 0) else ((.iload_n 3), 0, 0, 0)))) else (bif Nat.blt pc 9 then (bif Nat.blt pc 6 then ((.iconst 5), 0, 0, 0) else ((.if_icmp .ge 31), 37, 0, 0)) else (bif Nat.blt pc 10 then ((.aload_n 0), 0, 0, 0) else (bif Nat.blt pc 13 then ((.getfield 9), 4, 0, 0) else ((.iload_n 3), 0, 0, 0))))) else (bif Nat.blt pc 23 then (bif Nat.blt pc 16 then (bif Nat.blt pc 15 then ((.iaload), 0, 0, 0) else ((.iload_n 1), 0, 0, 0)) else (bif Nat.blt pc 19 then ((.invokestatic 31), 105, 2, 10) else (bif Nat.blt pc 22 then ((.ifCond .eq 12), 31, 0, 0) else ((.iload_n 2), 0, 0, 0)))) else (bif Nat.blt pc 28 then (bif Nat.blt pc 24 then ((.aload_n 0), 0, 0, 0) else (bif Nat.blt pc 27 then ((.getfield 9), 4, 0, 0) else ((.iload_n 3), 0, 0, 0))) else (bif Nat.blt pc 29 then ((.iaload), 0, 0, 0) else (bif Nat.blt pc 30 then ((.ior), 0, 0, 0) else ((.istore_n 2), 0, 0, 0)))))) else (bif Nat.blt pc 50 then (bif Nat.blt pc 40 then (bif Nat.blt pc 37 then (bif Nat.blt pc 34 then ((.iinc 3 1), 0, 0, 0) else ((.goto (-30)), 4, 0, 0)) else (bif Nat.blt pc 38 then ((.iconst 0), 0, 0, 0) else (bif Nat.blt pc 39 then ((.istore_n 3), 0, 0, 0) else ((.iload_n 3), 0, 0, 0)))) else (bif Nat.blt pc 45 then (bif Nat.blt pc 41 then ((.iconst 5), 0, 0, 0) else (bif Nat.blt pc 44 then ((.if_icmp .ge 29), 70, 0, 0) else ((.aload_n 0), 0, 0, 0))) else (bif Nat.blt pc 48 then ((.getfield 9), 4, 0, 0) else (bif Nat.blt pc 49 then ((.iload_n 3), 0, 0, 0) else ((.iaload), 0, 0, 0))))) else (bif Nat.blt pc 61 then (bif Nat.blt pc 54 then (bif Nat.blt pc 51 then ((.iload_n 1), 0, 0, 0) else ((.invokestatic 31), 105, 2, 10)) else (bif Nat.blt pc 57 then ((.ifCond .eq 10), 64, 0, 0) else (bif Nat.blt pc 58 then ((.aload_n 0), 0, 0, 0) else ((.getfield 9), 4, 0, 0)))) else (bif Nat.blt pc 64 then (bif Nat.blt pc 62 then ((.iload_n 3), 0, 0, 0) else (bif Nat.blt pc 63 then ((.iload_n 2), 0, 0, 0) else ((.iastore), 0, 0, 0))) else (bif Nat.blt pc 67 then ((.iinc 3 1), 0, 0, 0) else (bif Nat.blt pc 70 then ((.goto (-28)), 39, 0, 0) else ((.return_), 0, 0, 0)))))))
/-- PatternLaboratory$Reducer isLinked(II)Z -/
def pm_t26 : Nat → pm_En := fun pc => (bif Nat.blt pc 5 then (bif Nat.blt pc 1 then ((.aload_n 0), 0, 0, 0) else (bif Nat.blt pc 4 then ((.getfield 9), 4, 0, 0) else ((.iload_n 1), 0, 0, 0))) else (bif Nat.blt pc 7 then (bif Nat.blt pc 6 then ((.iaload), 0, 0, 0) else ((.iload_n 2), 0, 0, 0)) else (bif Nat.blt pc 10 then ((.invokestatic 31), 105, 2, 10) else ((.ireturn), 1, 0, 0))))
/-- PatternLaboratory$Reducer isLoose(I)Z -/
def pm_t27 : Nat → pm_En := fun pc => (bif Nat.blt pc 19 then (bif Nat.blt pc 7 then (bif Nat.blt pc 2 then (bif Nat.blt pc 1 then ((.iconst 0), 0, 0, 0) else ((.istore_n 2), 0, 0, 0)) else (bif Nat.blt pc 3 then ((.iload_n 2), 0, 0, 0) else (bif Nat.blt pc 4 then ((.iconst 5), 0, 0, 0) else ((.if_icmp .ge 30), 34, 0, 0)))) else (bif Nat.blt pc 12 then (bif Nat.blt pc 8 then ((.iload_n 1), 0, 0, 0) else (bif Nat.blt pc 9 then ((.iload_n 2), 0, 0, 0) else ((.invokestatic 31), 105, 2, 10))) else (bif Nat.blt pc 15 then ((.ifCond .eq 16), 28, 0, 0) else (bif Nat.blt pc 16 then ((.aload_n 0), 0, 0, 0) else ((.getfield 9), 4, 0, 0))))) else (bif Nat.blt pc 26 then (bif Nat.blt pc 21 then (bif Nat.blt pc 20 then ((.iload_n 2), 0, 0, 0) else ((.iaload), 0, 0, 0)) else (bif Nat.blt pc 22 then ((.iload_n 1), 0, 0, 0) else (bif Nat.blt pc 23 then ((.iand), 0, 0, 0) else ((.ifCond .eq 5), 28, 0, 0)))) else (bif Nat.blt pc 31 then (bif Nat.blt pc 27 then ((.iconst 0), 0, 0, 0) else (bif Nat.blt pc 28 then ((.ireturn), 1, 0, 0) else ((.iinc 2 1), 0, 0, 0))) else (bif Nat.blt pc 34 then ((.goto (-29)), 2, 0, 0) else (bif Nat.blt pc 35 then ((.iconst 1), 0, 0, 0) else ((.ireturn), 1, 0, 0))))))
/-- PatternLaboratory$Reducer countLoose(LPatternLaboratory$Row;)I -/
def pm_t28 : Nat → pm_En := fun pc => (bif Nat.blt pc 22 then (bif Nat.blt pc 11 then (bif Nat.blt pc 5 then (bif Nat.blt pc 1 then ((.aload_n 1), 0, 0, 0) else (bif Nat.blt pc 4 then ((.invokevirtual 39), 51, 1, 11) else ((.istore_n 2), 0, 0, 0))) else (bif Nat.blt pc 7 then (bif Nat.blt pc 6 then ((.aload_n 0), 0, 0, 0) else ((.aload_n 1), 0, 0, 0)) else (bif Nat.blt pc 8 then ((.iload_n 2), 0, 0, 0) else ((.invokevirtual 43), 24, 3, 1)))) else (bif Nat.blt pc 14 then (bif Nat.blt pc 12 then ((.iconst 0), 0, 0, 0) else (bif Nat.blt pc 13 then ((.istore_n 3), 0, 0, 0) else ((.iconst 1), 0, 0, 0))) else (bif Nat.blt pc 18 then (bif Nat.blt pc 16 then ((.istore 4), 0, 0, 0) else ((.iload 4), 0, 0, 0)) else (bif Nat.blt pc 19 then ((.iload_n 2), 0, 0, 0) else ((.if_icmp .gt 30), 49, 0, 0))))) else (bif Nat.blt pc 32 then (bif Nat.blt pc 26 then (bif Nat.blt pc 24 then ((.iload 4), 0, 0, 0) else (bif Nat.blt pc 25 then ((.iload_n 2), 0, 0, 0) else ((.iconst (-1)), 0, 0, 0))) else (bif Nat.blt pc 28 then (bif Nat.blt pc 27 then ((.ixor), 0, 0, 0) else ((.iand), 0, 0, 0)) else (bif Nat.blt pc 31 then ((.ifCond .ne 15), 43, 0, 0) else ((.aload_n 0), 0, 0, 0)))) else (bif Nat.blt pc 43 then (bif Nat.blt pc 37 then (bif Nat.blt pc 34 then ((.iload 4), 0, 0, 0) else ((.invokevirtual 47), 27, 2, 1)) else (bif Nat.blt pc 40 then ((.ifCond .eq 6), 43, 0, 0) else ((.iinc 3 1), 0, 0, 0))) else (bif Nat.blt pc 49 then (bif Nat.blt pc 46 then ((.iinc 4 1), 0, 0, 0) else ((.goto (-30)), 16, 0, 0)) else (bif Nat.blt pc 50 then ((.iload_n 3), 0, 0, 0) else ((.ireturn), 0, 0, 0))))))
/-- PatternLaboratory$Reducer looseSet(LPatternLaboratory$Row;I)I -/
def pm_t29 : Nat → pm_En := fun pc => (bif Nat.blt pc 30 then (bif Nat.blt pc 12 then (bif Nat.blt pc 6 then (bif Nat.blt pc 4 then (bif Nat.blt pc 1 then ((.aload_n 1), 0, 0, 0) else ((.invokevirtual 39), 51, 1, 11)) else (bif Nat.blt pc 5 then ((.istore_n 3), 0, 0, 0) else ((.aload_n 0), 0, 0, 0))) else (bif Nat.blt pc 8 then (bif Nat.blt pc 7 then ((.aload_n 1), 0, 0, 0) else ((.iload_n 3), 0, 0, 0)) else (bif Nat.blt pc 11 then ((.invokevirtual 43), 24, 3, 1) else ((.iload_n 2), 0, 0, 0)))) else (bif Nat.blt pc 19 then (bif Nat.blt pc 15 then (bif Nat.blt pc 14 then ((.istore 4), 0, 0, 0) else ((.iconst 1), 0, 0, 0)) else (bif Nat.blt pc 17 then ((.istore 5), 0, 0, 0) else ((.iload 5), 0, 0, 0))) else (bif Nat.blt pc 23 then (bif Nat.blt pc 20 then ((.iload_n 3), 0, 0, 0) else ((.if_icmp .gt 43), 63, 0, 0)) else (bif Nat.blt pc 25 then ((.iload 4), 0, 0, 0) else (bif Nat.blt pc 28 then ((.ifCond .lt 38), 63, 0, 0) else ((.iload 5), 0, 0, 0)))))) else (bif Nat.blt pc 46 then (bif Nat.blt pc 34 then (bif Nat.blt pc 32 then (bif Nat.blt pc 31 then ((.iload_n 3), 0, 0, 0) else ((.iconst (-1)), 0, 0, 0)) else (bif Nat.blt pc 33 then ((.ixor), 0, 0, 0) else ((.iand), 0, 0, 0))) else (bif Nat.blt pc 38 then (bif Nat.blt pc 37 then ((.ifCond .ne 23), 57, 0, 0) else ((.aload_n 0), 0, 0, 0)) else (bif Nat.blt pc 40 then ((.iload 5), 0, 0, 0) else (bif Nat.blt pc 43 then ((.invokevirtual 47), 27, 2, 1) else ((.ifCond .eq 14), 57, 0, 0))))) else (bif Nat.blt pc 54 then (bif Nat.blt pc 51 then (bif Nat.blt pc 48 then ((.iload 4), 0, 0, 0) else ((.ifCond .ne 6), 54, 0, 0)) else (bif Nat.blt pc 53 then ((.iload 5), 0, 0, 0) else ((.ireturn), 0, 0, 0))) else (bif Nat.blt pc 60 then (bif Nat.blt pc 57 then ((.iinc 4 (-1)), 0, 0, 0) else ((.iinc 5 1), 0, 0, 0)) else (bif Nat.blt pc 63 then ((.goto (-43)), 17, 0, 0) else (bif Nat.blt pc 64 then ((.iconst 0), 0, 0, 0) else ((.ireturn), 0, 0, 0)))))))
/-- PatternLaboratory$Reducer countSteps(LPatternLaboratory$Row;)I -/
def pm_t30 : Nat → pm_En := fun pc => (bif Nat.blt pc 27 then (bif Nat.blt pc 13 then (bif Nat.blt pc 6 then (bif Nat.blt pc 4 then (bif Nat.blt pc 1 then ((.aload_n 1), 0, 0, 0) else ((.invokevirtual 39), 51, 1, 11)) else (bif Nat.blt pc 5 then ((.istore_n 2), 0, 0, 0) else ((.aload_n 0), 0, 0, 0))) else (bif Nat.blt pc 10 then (bif Nat.blt pc 9 then ((.getfield 15), 4, 1, 0) else ((.iconst 0), 0, 0, 0)) else (bif Nat.blt pc 11 then ((.iconst 0), 0, 0, 0) else (bif Nat.blt pc 12 then ((.iastore), 0, 0, 0) else ((.aload_n 0), 0, 0, 0))))) else (bif Nat.blt pc 20 then (bif Nat.blt pc 17 then (bif Nat.blt pc 16 then ((.getfield 18), 4, 2, 0) else ((.iconst 0), 0, 0, 0)) else (bif Nat.blt pc 18 then ((.iconst 0), 0, 0, 0) else (bif Nat.blt pc 19 then ((.iastore), 0, 0, 0) else ((.iconst 1), 0, 0, 0)))) else (bif Nat.blt pc 22 then (bif Nat.blt pc 21 then ((.istore_n 3), 0, 0, 0) else ((.iload_n 3), 0, 0, 0)) else (bif Nat.blt pc 23 then ((.iload_n 2), 0, 0, 0) else (bif Nat.blt pc 26 then ((.if_icmp .gt 28), 51, 0, 0) else ((.iload_n 3), 0, 0, 0)))))) else (bif Nat.blt pc 40 then (bif Nat.blt pc 31 then (bif Nat.blt pc 29 then (bif Nat.blt pc 28 then ((.iload_n 2), 0, 0, 0) else ((.iconst (-1)), 0, 0, 0)) else (bif Nat.blt pc 30 then ((.ixor), 0, 0, 0) else ((.iand), 0, 0, 0))) else (bif Nat.blt pc 35 then (bif Nat.blt pc 34 then ((.ifCond .ne 14), 45, 0, 0) else ((.aload_n 0), 0, 0, 0)) else (bif Nat.blt pc 36 then ((.aload_n 1), 0, 0, 0) else (bif Nat.blt pc 37 then ((.iload_n 3), 0, 0, 0) else ((.invokevirtual 43), 24, 3, 1))))) else (bif Nat.blt pc 51 then (bif Nat.blt pc 42 then (bif Nat.blt pc 41 then ((.aload_n 0), 0, 0, 0) else ((.iload_n 3), 0, 0, 0)) else (bif Nat.blt pc 45 then ((.invokevirtual 51), 31, 2, 1) else (bif Nat.blt pc 48 then ((.iinc 3 1), 0, 0, 0) else ((.goto (-27)), 21, 0, 0)))) else (bif Nat.blt pc 55 then (bif Nat.blt pc 52 then ((.aload_n 0), 0, 0, 0) else ((.getfield 15), 4, 1, 0)) else (bif Nat.blt pc 56 then ((.iload_n 2), 0, 0, 0) else (bif Nat.blt pc 57 then ((.iaload), 0, 0, 0) else ((.ireturn), 0, 0, 0)))))))
/-- PatternLaboratory$Reducer chooseFirst(I)V -/
def pm_t31 : Nat → pm_En := fun pc => (bif Nat.blt pc 46 then (bif Nat.blt pc 22 then (bif Nat.blt pc 12 then (bif Nat.blt pc 5 then (bif Nat.blt pc 1 then ((.aload_n 0), 0, 0, 0) else (bif Nat.blt pc 4 then ((.getfield 15), 4, 1, 0) else ((.iload_n 1), 0, 0, 0))) else (bif Nat.blt pc 8 then (bif Nat.blt pc 7 then ((.bipush 100), 0, 0, 0) else ((.iastore), 0, 0, 0)) else (bif Nat.blt pc 9 then ((.aload_n 0), 0, 0, 0) else ((.getfield 18), 4, 2, 0)))) else (bif Nat.blt pc 16 then (bif Nat.blt pc 14 then (bif Nat.blt pc 13 then ((.iload_n 1), 0, 0, 0) else ((.iconst 0), 0, 0, 0)) else (bif Nat.blt pc 15 then ((.iastore), 0, 0, 0) else ((.iconst 1), 0, 0, 0))) else (bif Nat.blt pc 18 then (bif Nat.blt pc 17 then ((.istore_n 2), 0, 0, 0) else ((.iload_n 2), 0, 0, 0)) else (bif Nat.blt pc 19 then ((.iload_n 1), 0, 0, 0) else ((.if_icmp .gt 71), 90, 0, 0))))) else (bif Nat.blt pc 32 then (bif Nat.blt pc 26 then (bif Nat.blt pc 24 then (bif Nat.blt pc 23 then ((.iload_n 2), 0, 0, 0) else ((.iload_n 1), 0, 0, 0)) else (bif Nat.blt pc 25 then ((.iconst (-1)), 0, 0, 0) else ((.ixor), 0, 0, 0))) else (bif Nat.blt pc 30 then (bif Nat.blt pc 27 then ((.iand), 0, 0, 0) else ((.ifCond .ne 57), 84, 0, 0)) else (bif Nat.blt pc 31 then ((.aload_n 0), 0, 0, 0) else ((.iload_n 2), 0, 0, 0)))) else (bif Nat.blt pc 42 then (bif Nat.blt pc 38 then (bif Nat.blt pc 35 then ((.invokevirtual 47), 27, 2, 1) else ((.ifCond .eq 49), 84, 0, 0)) else (bif Nat.blt pc 39 then ((.aload_n 0), 0, 0, 0) else ((.getfield 15), 4, 1, 0))) else (bif Nat.blt pc 44 then (bif Nat.blt pc 43 then ((.iload_n 1), 0, 0, 0) else ((.iload_n 2), 0, 0, 0)) else (bif Nat.blt pc 45 then ((.iconst (-1)), 0, 0, 0) else ((.ixor), 0, 0, 0)))))) else (bif Nat.blt pc 69 then (bif Nat.blt pc 55 then (bif Nat.blt pc 49 then (bif Nat.blt pc 47 then ((.iand), 0, 0, 0) else (bif Nat.blt pc 48 then ((.iaload), 0, 0, 0) else ((.iconst 1), 0, 0, 0))) else (bif Nat.blt pc 51 then (bif Nat.blt pc 50 then ((.iadd), 0, 0, 0) else ((.aload_n 0), 0, 0, 0)) else (bif Nat.blt pc 54 then ((.getfield 15), 4, 1, 0) else ((.iload_n 1), 0, 0, 0)))) else (bif Nat.blt pc 63 then (bif Nat.blt pc 59 then (bif Nat.blt pc 56 then ((.iaload), 0, 0, 0) else ((.if_icmp .ge 28), 84, 0, 0)) else (bif Nat.blt pc 60 then ((.aload_n 0), 0, 0, 0) else ((.getfield 15), 4, 1, 0))) else (bif Nat.blt pc 65 then (bif Nat.blt pc 64 then ((.iload_n 1), 0, 0, 0) else ((.aload_n 0), 0, 0, 0)) else (bif Nat.blt pc 68 then ((.getfield 15), 4, 1, 0) else ((.iload_n 1), 0, 0, 0))))) else (bif Nat.blt pc 77 then (bif Nat.blt pc 73 then (bif Nat.blt pc 71 then (bif Nat.blt pc 70 then ((.iload_n 2), 0, 0, 0) else ((.iconst (-1)), 0, 0, 0)) else (bif Nat.blt pc 72 then ((.ixor), 0, 0, 0) else ((.iand), 0, 0, 0))) else (bif Nat.blt pc 75 then (bif Nat.blt pc 74 then ((.iaload), 0, 0, 0) else ((.iconst 1), 0, 0, 0)) else (bif Nat.blt pc 76 then ((.iadd), 0, 0, 0) else ((.iastore), 0, 0, 0)))) else (bif Nat.blt pc 83 then (bif Nat.blt pc 81 then (bif Nat.blt pc 78 then ((.aload_n 0), 0, 0, 0) else ((.getfield 18), 4, 2, 0)) else (bif Nat.blt pc 82 then ((.iload_n 1), 0, 0, 0) else ((.iload_n 2), 0, 0, 0))) else (bif Nat.blt pc 87 then (bif Nat.blt pc 84 then ((.iastore), 0, 0, 0) else ((.iinc 2 1), 0, 0, 0)) else (bif Nat.blt pc 90 then ((.goto (-70)), 17, 0, 0) else ((.return_), 0, 0, 0)))))))
/-- PatternLaboratory$Reducer step(II)I -/
def pm_t32 : Nat → pm_En := fun pc => (bif Nat.blt pc 20 then (bif Nat.blt pc 8 then (bif Nat.blt pc 3 then (bif Nat.blt pc 1 then ((.iload_n 1), 0, 0, 0) else (bif Nat.blt pc 2 then ((.istore_n 3), 0, 0, 0) else ((.iconst 0), 0, 0, 0))) else (bif Nat.blt pc 5 then ((.istore 4), 0, 0, 0) else (bif Nat.blt pc 7 then ((.iload 4), 0, 0, 0) else ((.iload_n 2), 0, 0, 0)))) else (bif Nat.blt pc 15 then (bif Nat.blt pc 11 then ((.if_icmp .ge 24), 32, 0, 0) else (bif Nat.blt pc 12 then ((.iload_n 3), 0, 0, 0) else ((.ifCond .eq 20), 32, 0, 0))) else (bif Nat.blt pc 16 then ((.iload_n 3), 0, 0, 0) else (bif Nat.blt pc 17 then ((.aload_n 0), 0, 0, 0) else ((.getfield 18), 4, 2, 0))))) else (bif Nat.blt pc 26 then (bif Nat.blt pc 23 then (bif Nat.blt pc 21 then ((.iload_n 3), 0, 0, 0) else (bif Nat.blt pc 22 then ((.iaload), 0, 0, 0) else ((.iconst (-1)), 0, 0, 0))) else (bif Nat.blt pc 24 then ((.ixor), 0, 0, 0) else (bif Nat.blt pc 25 then ((.iand), 0, 0, 0) else ((.istore_n 3), 0, 0, 0)))) else (bif Nat.blt pc 33 then (bif Nat.blt pc 29 then ((.iinc 4 1), 0, 0, 0) else (bif Nat.blt pc 32 then ((.goto (-24)), 5, 0, 0) else ((.aload_n 0), 0, 0, 0))) else (bif Nat.blt pc 37 then (bif Nat.blt pc 36 then ((.getfield 18), 4, 2, 0) else ((.iload_n 3), 0, 0, 0)) else (bif Nat.blt pc 38 then ((.iaload), 0, 0, 0) else ((.ireturn), 0, 0, 0))))))
/-- PatternLaboratory$Repetition <init>()V -/
def pm_t33 : Nat → pm_En := fun pc => (bif Nat.blt pc 10 then (bif Nat.blt pc 5 then (bif Nat.blt pc 1 then ((.aload_n 0), 0, 0, 0) else (bif Nat.blt pc 4 then ((.invokespecial 1), 0, 0, 9) else ((.aload_n 0), 0, 0, 0))) else (bif Nat.blt pc 6 then ((.iconst 0), 0, 0, 0) else (bif Nat.blt pc 9 then ((.putfield 7), 5, 0, 0) else ((.aload_n 0), 0, 0, 0)))) else (bif Nat.blt pc 15 then (bif Nat.blt pc 11 then ((.iconst 1), 0, 0, 0) else (bif Nat.blt pc 14 then ((.putfield 13), 5, 1, 0) else ((.aload_n 0), 0, 0, 0))) else (bif Nat.blt pc 16 then ((.iconst 1), 0, 0, 0) else (bif Nat.blt pc 19 then ((.putfield 16), 5, 2, 0) else ((.return_), 0, 0, 0)))))
/-- PatternLaboratory$Repetition seek(LPatternLaboratory$Row;)V -/
def pm_t34 : Nat → pm_En := fun pc => (bif Nat.blt pc 57 then (bif Nat.blt pc 27 then (bif Nat.blt pc 12 then (bif Nat.blt pc 6 then (bif Nat.blt pc 2 then (bif Nat.blt pc 1 then ((.aload_n 0), 0, 0, 0) else ((.iconst 0), 0, 0, 0)) else (bif Nat.blt pc 5 then ((.putfield 7), 5, 0, 0) else ((.aload_n 0), 0, 0, 0))) else (bif Nat.blt pc 10 then (bif Nat.blt pc 7 then ((.iconst 1), 0, 0, 0) else ((.putfield 13), 5, 1, 0)) else (bif Nat.blt pc 11 then ((.aload_n 0), 0, 0, 0) else ((.iconst 1), 0, 0, 0)))) else (bif Nat.blt pc 18 then (bif Nat.blt pc 16 then (bif Nat.blt pc 15 then ((.putfield 16), 5, 2, 0) else ((.iconst 0), 0, 0, 0)) else (bif Nat.blt pc 17 then ((.istore_n 2), 0, 0, 0) else ((.iload_n 2), 0, 0, 0))) else (bif Nat.blt pc 22 then (bif Nat.blt pc 19 then ((.aload_n 1), 0, 0, 0) else ((.getfield 19), 6, 1, 0)) else (bif Nat.blt pc 25 then ((.if_icmp .ge 100), 122, 0, 0) else (bif Nat.blt pc 26 then ((.iconst 1), 0, 0, 0) else ((.istore_n 3), 0, 0, 0)))))) else (bif Nat.blt pc 39 then (bif Nat.blt pc 31 then (bif Nat.blt pc 29 then (bif Nat.blt pc 28 then ((.iload_n 2), 0, 0, 0) else ((.iload_n 3), 0, 0, 0)) else (bif Nat.blt pc 30 then ((.iadd), 0, 0, 0) else ((.aload_n 1), 0, 0, 0))) else (bif Nat.blt pc 37 then (bif Nat.blt pc 34 then ((.getfield 19), 6, 1, 0) else ((.if_icmp .gt 82), 116, 0, 0)) else (bif Nat.blt pc 38 then ((.iload_n 2), 0, 0, 0) else ((.iload_n 3), 0, 0, 0)))) else (bif Nat.blt pc 45 then (bif Nat.blt pc 42 then (bif Nat.blt pc 40 then ((.iadd), 0, 0, 0) else ((.istore 4), 0, 0, 0)) else (bif Nat.blt pc 44 then ((.iload 4), 0, 0, 0) else ((.aload_n 1), 0, 0, 0))) else (bif Nat.blt pc 51 then (bif Nat.blt pc 48 then ((.getfield 19), 6, 1, 0) else ((.if_icmp .ge 26), 74, 0, 0)) else (bif Nat.blt pc 52 then ((.aload_n 1), 0, 0, 0) else (bif Nat.blt pc 54 then ((.iload 4), 0, 0, 0) else ((.invokevirtual 24), 37, 2, 11))))))) else (bif Nat.blt pc 88 then (bif Nat.blt pc 74 then (bif Nat.blt pc 62 then (bif Nat.blt pc 60 then (bif Nat.blt pc 58 then ((.aload_n 1), 0, 0, 0) else ((.iload 4), 0, 0, 0)) else (bif Nat.blt pc 61 then ((.iload_n 3), 0, 0, 0) else ((.isub), 0, 0, 0))) else (bif Nat.blt pc 68 then (bif Nat.blt pc 65 then ((.invokevirtual 24), 37, 2, 11) else ((.if_icmp .ne 9), 74, 0, 0)) else (bif Nat.blt pc 71 then ((.iinc 4 1), 0, 0, 0) else ((.goto (-29)), 42, 0, 0)))) else (bif Nat.blt pc 79 then (bif Nat.blt pc 77 then (bif Nat.blt pc 76 then ((.iload 4), 0, 0, 0) else ((.iload_n 2), 0, 0, 0)) else (bif Nat.blt pc 78 then ((.isub), 0, 0, 0) else ((.aload_n 0), 0, 0, 0))) else (bif Nat.blt pc 83 then (bif Nat.blt pc 82 then ((.getfield 16), 5, 2, 0) else ((.imul), 0, 0, 0)) else (bif Nat.blt pc 84 then ((.aload_n 0), 0, 0, 0) else (bif Nat.blt pc 87 then ((.getfield 13), 5, 1, 0) else ((.iload_n 3), 0, 0, 0)))))) else (bif Nat.blt pc 102 then (bif Nat.blt pc 94 then (bif Nat.blt pc 92 then (bif Nat.blt pc 89 then ((.imul), 0, 0, 0) else ((.if_icmp .le 21), 110, 0, 0)) else (bif Nat.blt pc 93 then ((.aload_n 0), 0, 0, 0) else ((.iload_n 2), 0, 0, 0))) else (bif Nat.blt pc 98 then (bif Nat.blt pc 97 then ((.putfield 7), 5, 0, 0) else ((.aload_n 0), 0, 0, 0)) else (bif Nat.blt pc 100 then ((.iload 4), 0, 0, 0) else (bif Nat.blt pc 101 then ((.iload_n 2), 0, 0, 0) else ((.isub), 0, 0, 0))))) else (bif Nat.blt pc 110 then (bif Nat.blt pc 106 then (bif Nat.blt pc 105 then ((.putfield 13), 5, 1, 0) else ((.aload_n 0), 0, 0, 0)) else (bif Nat.blt pc 107 then ((.iload_n 3), 0, 0, 0) else ((.putfield 16), 5, 2, 0))) else (bif Nat.blt pc 116 then (bif Nat.blt pc 113 then ((.iinc 3 1), 0, 0, 0) else ((.goto (-86)), 27, 0, 0)) else (bif Nat.blt pc 119 then ((.iinc 2 1), 0, 0, 0) else (bif Nat.blt pc 122 then ((.goto (-102)), 17, 0, 0) else ((.return_), 0, 0, 0))))))))
/-- PatternLaboratory$Row <init>()V -/
def pm_t35 : Nat → pm_En := fun pc => (bif Nat.blt pc 9 then (bif Nat.blt pc 4 then (bif Nat.blt pc 1 then ((.aload_n 0), 0, 0, 0) else ((.invokespecial 3), 0, 0, 9)) else (bif Nat.blt pc 5 then ((.aload_n 0), 0, 0, 0) else (bif Nat.blt pc 7 then ((.bipush 24), 0, 0, 0) else ((.newarray .int), 1000, 0, 0)))) else (bif Nat.blt pc 13 then (bif Nat.blt pc 12 then ((.putfield 9), 6, 0, 0) else ((.aload_n 0), 0, 0, 0)) else (bif Nat.blt pc 14 then ((.iconst 0), 0, 0, 0) else (bif Nat.blt pc 17 then ((.putfield 15), 6, 1, 0) else ((.return_), 0, 0, 0)))))
/-- PatternLaboratory$Row has(I)Z -/
def pm_t36 : Nat → pm_En := fun pc => (bif Nat.blt pc 9 then (bif Nat.blt pc 4 then (bif Nat.blt pc 1 then ((.iload_n 1), 0, 0, 0) else ((.ifCond .lt 15), 16, 0, 0)) else (bif Nat.blt pc 5 then ((.iload_n 1), 0, 0, 0) else (bif Nat.blt pc 6 then ((.aload_n 0), 0, 0, 0) else ((.getfield 15), 6, 1, 0)))) else (bif Nat.blt pc 13 then (bif Nat.blt pc 12 then ((.if_icmp .ge 7), 16, 0, 0) else ((.iconst 1), 0, 0, 0)) else (bif Nat.blt pc 16 then ((.goto 4), 17, 0, 0) else (bif Nat.blt pc 17 then ((.iconst 0), 0, 0, 0) else ((.ireturn), 1, 0, 0)))))
/-- PatternLaboratory$Row get(I)I -/
def pm_t37 : Nat → pm_En := fun pc => (bif Nat.blt pc 9 then (bif Nat.blt pc 2 then (bif Nat.blt pc 1 then ((.aload_n 0), 0, 0, 0) else ((.iload_n 1), 0, 0, 0)) else (bif Nat.blt pc 5 then ((.invokevirtual 19), 36, 2, 1) else (bif Nat.blt pc 8 then ((.ifCond .eq 12), 17, 0, 0) else ((.aload_n 0), 0, 0, 0)))) else (bif Nat.blt pc 14 then (bif Nat.blt pc 12 then ((.getfield 9), 6, 0, 0) else (bif Nat.blt pc 13 then ((.iload_n 1), 0, 0, 0) else ((.iaload), 0, 0, 0))) else (bif Nat.blt pc 17 then ((.goto 4), 18, 0, 0) else (bif Nat.blt pc 18 then ((.iconst 0), 0, 0, 0) else ((.ireturn), 0, 0, 0)))))
/-- PatternLaboratory$Row set(II)V -/
def pm_t38 : Nat → pm_En := fun pc => (bif Nat.blt pc 9 then (bif Nat.blt pc 2 then (bif Nat.blt pc 1 then ((.aload_n 0), 0, 0, 0) else ((.iload_n 1), 0, 0, 0)) else (bif Nat.blt pc 5 then ((.invokevirtual 19), 36, 2, 1) else (bif Nat.blt pc 8 then ((.ifCond .eq 10), 15, 0, 0) else ((.aload_n 0), 0, 0, 0)))) else (bif Nat.blt pc 13 then (bif Nat.blt pc 12 then ((.getfield 9), 6, 0, 0) else ((.iload_n 1), 0, 0, 0)) else (bif Nat.blt pc 14 then ((.iload_n 2), 0, 0, 0) else (bif Nat.blt pc 15 then ((.iastore), 0, 0, 0) else ((.return_), 0, 0, 0)))))
/-- PatternLaboratory$Row add(I)V -/
def pm_t39 : Nat → pm_En := fun pc => (bif Nat.blt pc 17 then (bif Nat.blt pc 9 then (bif Nat.blt pc 4 then (bif Nat.blt pc 1 then ((.aload_n 0), 0, 0, 0) else ((.getfield 15), 6, 1, 0)) else (bif Nat.blt pc 6 then ((.bipush 24), 0, 0, 0) else ((.if_icmp .ge 23), 29, 0, 0))) else (bif Nat.blt pc 13 then (bif Nat.blt pc 10 then ((.aload_n 0), 0, 0, 0) else ((.getfield 9), 6, 0, 0)) else (bif Nat.blt pc 14 then ((.aload_n 0), 0, 0, 0) else ((.getfield 15), 6, 1, 0)))) else (bif Nat.blt pc 21 then (bif Nat.blt pc 19 then (bif Nat.blt pc 18 then ((.iload_n 1), 0, 0, 0) else ((.iastore), 0, 0, 0)) else (bif Nat.blt pc 20 then ((.aload_n 0), 0, 0, 0) else ((.dup), 0, 0, 0))) else (bif Nat.blt pc 25 then (bif Nat.blt pc 24 then ((.getfield 15), 6, 1, 0) else ((.iconst 1), 0, 0, 0)) else (bif Nat.blt pc 26 then ((.iadd), 0, 0, 0) else (bif Nat.blt pc 29 then ((.putfield 15), 6, 1, 0) else ((.return_), 0, 0, 0))))))
/-- PatternLaboratory$Row dropLast()V -/
def pm_t40 : Nat → pm_En := fun pc => (bif Nat.blt pc 9 then (bif Nat.blt pc 4 then (bif Nat.blt pc 1 then ((.aload_n 0), 0, 0, 0) else ((.getfield 15), 6, 1, 0)) else (bif Nat.blt pc 7 then ((.ifCond .le 13), 17, 0, 0) else (bif Nat.blt pc 8 then ((.aload_n 0), 0, 0, 0) else ((.dup), 0, 0, 0)))) else (bif Nat.blt pc 13 then (bif Nat.blt pc 12 then ((.getfield 15), 6, 1, 0) else ((.iconst 1), 0, 0, 0)) else (bif Nat.blt pc 14 then ((.isub), 0, 0, 0) else (bif Nat.blt pc 17 then ((.putfield 15), 6, 1, 0) else ((.return_), 0, 0, 0)))))
/-- PatternLaboratory$Row clear()V -/
def pm_t41 : Nat → pm_En := fun pc => (bif Nat.blt pc 2 then (bif Nat.blt pc 1 then ((.aload_n 0), 0, 0, 0) else ((.iconst 0), 0, 0, 0)) else (bif Nat.blt pc 5 then ((.putfield 15), 6, 1, 0) else ((.return_), 0, 0, 0)))
/-- PatternLaboratory$Row become(LPatternLaboratory$Row;)V -/
def pm_t42 : Nat → pm_En := fun pc => (bif Nat.blt pc 11 then (bif Nat.blt pc 5 then (bif Nat.blt pc 1 then ((.aload_n 1), 0, 0, 0) else (bif Nat.blt pc 4 then ((.getfield 9), 6, 0, 0) else ((.iconst 0), 0, 0, 0))) else (bif Nat.blt pc 9 then (bif Nat.blt pc 6 then ((.aload_n 0), 0, 0, 0) else ((.getfield 9), 6, 0, 0)) else (bif Nat.blt pc 10 then ((.iconst 0), 0, 0, 0) else ((.aload_n 1), 0, 0, 0)))) else (bif Nat.blt pc 18 then (bif Nat.blt pc 14 then ((.getfield 15), 6, 1, 0) else (bif Nat.blt pc 17 then ((.invokestatic 23), 0, 0, 8) else ((.aload_n 0), 0, 0, 0))) else (bif Nat.blt pc 22 then (bif Nat.blt pc 19 then ((.aload_n 1), 0, 0, 0) else ((.getfield 15), 6, 1, 0)) else (bif Nat.blt pc 25 then ((.putfield 15), 6, 1, 0) else ((.return_), 0, 0, 0)))))
/-- PatternLaboratory$Row becomeZeros(I)V -/
def pm_t43 : Nat → pm_En := fun pc => (bif Nat.blt pc 8 then (bif Nat.blt pc 5 then (bif Nat.blt pc 1 then ((.aload_n 0), 0, 0, 0) else (bif Nat.blt pc 4 then ((.invokevirtual 29), 41, 1, 1) else ((.iconst 0), 0, 0, 0))) else (bif Nat.blt pc 6 then ((.istore_n 2), 0, 0, 0) else (bif Nat.blt pc 7 then ((.iload_n 2), 0, 0, 0) else ((.iload_n 1), 0, 0, 0)))) else (bif Nat.blt pc 13 then (bif Nat.blt pc 11 then ((.if_icmp .ge 14), 22, 0, 0) else (bif Nat.blt pc 12 then ((.aload_n 0), 0, 0, 0) else ((.iconst 0), 0, 0, 0))) else (bif Nat.blt pc 19 then (bif Nat.blt pc 16 then ((.invokevirtual 32), 39, 2, 1) else ((.iinc 2 1), 0, 0, 0)) else (bif Nat.blt pc 22 then ((.goto (-13)), 6, 0, 0) else ((.return_), 0, 0, 0)))))
/-- PatternLaboratory$Row becomeReverse(LPatternLaboratory$Row;)V -/
def pm_t44 : Nat → pm_En := fun pc => (bif Nat.blt pc 12 then (bif Nat.blt pc 8 then (bif Nat.blt pc 4 then (bif Nat.blt pc 1 then ((.aload_n 0), 0, 0, 0) else ((.invokevirtual 29), 41, 1, 1)) else (bif Nat.blt pc 5 then ((.aload_n 1), 0, 0, 0) else ((.getfield 15), 6, 1, 0))) else (bif Nat.blt pc 10 then (bif Nat.blt pc 9 then ((.iconst 1), 0, 0, 0) else ((.isub), 0, 0, 0)) else (bif Nat.blt pc 11 then ((.istore_n 2), 0, 0, 0) else ((.iload_n 2), 0, 0, 0)))) else (bif Nat.blt pc 18 then (bif Nat.blt pc 16 then (bif Nat.blt pc 15 then ((.ifCond .lt 18), 30, 0, 0) else ((.aload_n 0), 0, 0, 0)) else (bif Nat.blt pc 17 then ((.aload_n 1), 0, 0, 0) else ((.iload_n 2), 0, 0, 0))) else (bif Nat.blt pc 24 then (bif Nat.blt pc 21 then ((.invokevirtual 36), 37, 2, 1) else ((.invokevirtual 32), 39, 2, 1)) else (bif Nat.blt pc 27 then ((.iinc 2 (-1)), 0, 0, 0) else (bif Nat.blt pc 30 then ((.goto (-16)), 11, 0, 0) else ((.return_), 0, 0, 0))))))
/-- PatternLaboratory$Row becomeCanonical(LPatternLaboratory$Row;)V -/
def pm_t45 : Nat → pm_En := fun pc => (bif Nat.blt pc 27 then (bif Nat.blt pc 10 then (bif Nat.blt pc 6 then (bif Nat.blt pc 4 then (bif Nat.blt pc 1 then ((.aload_n 0), 0, 0, 0) else ((.invokevirtual 29), 41, 1, 1)) else (bif Nat.blt pc 5 then ((.iconst 0), 0, 0, 0) else ((.istore_n 2), 0, 0, 0))) else (bif Nat.blt pc 8 then (bif Nat.blt pc 7 then ((.iconst 0), 0, 0, 0) else ((.istore_n 3), 0, 0, 0)) else (bif Nat.blt pc 9 then ((.iload_n 3), 0, 0, 0) else ((.aload_n 1), 0, 0, 0)))) else (bif Nat.blt pc 18 then (bif Nat.blt pc 16 then (bif Nat.blt pc 13 then ((.getfield 15), 6, 1, 0) else ((.if_icmp .ge 47), 60, 0, 0)) else (bif Nat.blt pc 17 then ((.aload_n 1), 0, 0, 0) else ((.aload_n 1), 0, 0, 0))) else (bif Nat.blt pc 22 then (bif Nat.blt pc 19 then ((.iload_n 3), 0, 0, 0) else ((.invokevirtual 36), 37, 2, 1)) else (bif Nat.blt pc 25 then ((.invokevirtual 40), 49, 2, 1) else ((.istore 4), 0, 0, 0))))) else (bif Nat.blt pc 43 then (bif Nat.blt pc 34 then (bif Nat.blt pc 30 then (bif Nat.blt pc 29 then ((.iload 4), 0, 0, 0) else ((.iload_n 3), 0, 0, 0)) else (bif Nat.blt pc 33 then ((.if_icmp .ge 16), 46, 0, 0) else ((.aload_n 0), 0, 0, 0))) else (bif Nat.blt pc 37 then (bif Nat.blt pc 35 then ((.aload_n 0), 0, 0, 0) else ((.iload 4), 0, 0, 0)) else (bif Nat.blt pc 40 then ((.invokevirtual 36), 37, 2, 1) else ((.invokevirtual 32), 39, 2, 1)))) else (bif Nat.blt pc 51 then (bif Nat.blt pc 47 then (bif Nat.blt pc 46 then ((.goto 11), 54, 0, 0) else ((.aload_n 0), 0, 0, 0)) else (bif Nat.blt pc 48 then ((.iload_n 2), 0, 0, 0) else ((.invokevirtual 32), 39, 2, 1))) else (bif Nat.blt pc 57 then (bif Nat.blt pc 54 then ((.iinc 2 1), 0, 0, 0) else ((.iinc 3 1), 0, 0, 0)) else (bif Nat.blt pc 60 then ((.goto (-49)), 8, 0, 0) else ((.return_), 0, 0, 0))))))
/-- PatternLaboratory$Row becomeZimin(I)V -/
def pm_t46 : Nat → pm_En := fun pc => (bif Nat.blt pc 22 then (bif Nat.blt pc 11 then (bif Nat.blt pc 5 then (bif Nat.blt pc 1 then ((.aload_n 0), 0, 0, 0) else (bif Nat.blt pc 4 then ((.invokevirtual 29), 41, 1, 1) else ((.iconst 0), 0, 0, 0))) else (bif Nat.blt pc 7 then (bif Nat.blt pc 6 then ((.istore_n 2), 0, 0, 0) else ((.iload_n 2), 0, 0, 0)) else (bif Nat.blt pc 8 then ((.iload_n 1), 0, 0, 0) else ((.if_icmp .ge 44), 52, 0, 0)))) else (bif Nat.blt pc 16 then (bif Nat.blt pc 12 then ((.aload_n 0), 0, 0, 0) else (bif Nat.blt pc 15 then ((.getfield 15), 6, 1, 0) else ((.istore_n 3), 0, 0, 0))) else (bif Nat.blt pc 18 then (bif Nat.blt pc 17 then ((.aload_n 0), 0, 0, 0) else ((.iload_n 2), 0, 0, 0)) else (bif Nat.blt pc 21 then ((.invokevirtual 32), 39, 2, 1) else ((.iconst 0), 0, 0, 0))))) else (bif Nat.blt pc 34 then (bif Nat.blt pc 27 then (bif Nat.blt pc 24 then ((.istore 4), 0, 0, 0) else (bif Nat.blt pc 26 then ((.iload 4), 0, 0, 0) else ((.iload_n 3), 0, 0, 0))) else (bif Nat.blt pc 31 then (bif Nat.blt pc 30 then ((.if_icmp .ge 19), 46, 0, 0) else ((.aload_n 0), 0, 0, 0)) else (bif Nat.blt pc 32 then ((.aload_n 0), 0, 0, 0) else ((.iload 4), 0, 0, 0)))) else (bif Nat.blt pc 43 then (bif Nat.blt pc 37 then ((.invokevirtual 36), 37, 2, 1) else (bif Nat.blt pc 40 then ((.invokevirtual 32), 39, 2, 1) else ((.iinc 4 1), 0, 0, 0))) else (bif Nat.blt pc 49 then (bif Nat.blt pc 46 then ((.goto (-19)), 24, 0, 0) else ((.iinc 2 1), 0, 0, 0)) else (bif Nat.blt pc 52 then ((.goto (-43)), 6, 0, 0) else ((.return_), 0, 0, 0))))))
/-- PatternLaboratory$Row removeAll(I)V -/
def pm_t47 : Nat → pm_En := fun pc => (bif Nat.blt pc 25 then (bif Nat.blt pc 9 then (bif Nat.blt pc 3 then (bif Nat.blt pc 1 then ((.iconst 0), 0, 0, 0) else (bif Nat.blt pc 2 then ((.istore_n 2), 0, 0, 0) else ((.iconst 0), 0, 0, 0))) else (bif Nat.blt pc 5 then (bif Nat.blt pc 4 then ((.istore_n 3), 0, 0, 0) else ((.iload_n 3), 0, 0, 0)) else (bif Nat.blt pc 6 then ((.aload_n 0), 0, 0, 0) else ((.getfield 15), 6, 1, 0)))) else (bif Nat.blt pc 17 then (bif Nat.blt pc 13 then (bif Nat.blt pc 12 then ((.if_icmp .ge 37), 46, 0, 0) else ((.iload_n 1), 0, 0, 0)) else (bif Nat.blt pc 14 then ((.aload_n 0), 0, 0, 0) else ((.getfield 9), 6, 0, 0))) else (bif Nat.blt pc 19 then (bif Nat.blt pc 18 then ((.iload_n 3), 0, 0, 0) else ((.iaload), 0, 0, 0)) else (bif Nat.blt pc 22 then ((.invokestatic 43), 105, 2, 10) else ((.ifCond .ne 18), 40, 0, 0))))) else (bif Nat.blt pc 36 then (bif Nat.blt pc 30 then (bif Nat.blt pc 26 then ((.aload_n 0), 0, 0, 0) else (bif Nat.blt pc 29 then ((.getfield 9), 6, 0, 0) else ((.iload_n 2), 0, 0, 0))) else (bif Nat.blt pc 34 then (bif Nat.blt pc 31 then ((.aload_n 0), 0, 0, 0) else ((.getfield 9), 6, 0, 0)) else (bif Nat.blt pc 35 then ((.iload_n 3), 0, 0, 0) else ((.iaload), 0, 0, 0)))) else (bif Nat.blt pc 46 then (bif Nat.blt pc 40 then (bif Nat.blt pc 37 then ((.iastore), 0, 0, 0) else ((.iinc 2 1), 0, 0, 0)) else (bif Nat.blt pc 43 then ((.iinc 3 1), 0, 0, 0) else ((.goto (-39)), 4, 0, 0))) else (bif Nat.blt pc 48 then (bif Nat.blt pc 47 then ((.aload_n 0), 0, 0, 0) else ((.iload_n 2), 0, 0, 0)) else (bif Nat.blt pc 51 then ((.putfield 15), 6, 1, 0) else ((.return_), 0, 0, 0))))))
/-- PatternLaboratory$Row isSame(LPatternLaboratory$Row;)Z -/
def pm_t48 : Nat → pm_En := fun pc => (bif Nat.blt pc 24 then (bif Nat.blt pc 13 then (bif Nat.blt pc 5 then (bif Nat.blt pc 1 then ((.aload_n 0), 0, 0, 0) else (bif Nat.blt pc 4 then ((.getfield 15), 6, 1, 0) else ((.aload_n 1), 0, 0, 0))) else (bif Nat.blt pc 11 then (bif Nat.blt pc 8 then ((.getfield 15), 6, 1, 0) else ((.if_icmp .eq 5), 13, 0, 0)) else (bif Nat.blt pc 12 then ((.iconst 0), 0, 0, 0) else ((.ireturn), 1, 0, 0)))) else (bif Nat.blt pc 16 then (bif Nat.blt pc 14 then ((.iconst 0), 0, 0, 0) else (bif Nat.blt pc 15 then ((.istore_n 2), 0, 0, 0) else ((.iload_n 2), 0, 0, 0))) else (bif Nat.blt pc 20 then (bif Nat.blt pc 17 then ((.aload_n 0), 0, 0, 0) else ((.getfield 15), 6, 1, 0)) else (bif Nat.blt pc 23 then ((.if_icmp .ge 26), 46, 0, 0) else ((.aload_n 0), 0, 0, 0))))) else (bif Nat.blt pc 35 then (bif Nat.blt pc 29 then (bif Nat.blt pc 27 then ((.getfield 9), 6, 0, 0) else (bif Nat.blt pc 28 then ((.iload_n 2), 0, 0, 0) else ((.iaload), 0, 0, 0))) else (bif Nat.blt pc 33 then (bif Nat.blt pc 30 then ((.aload_n 1), 0, 0, 0) else ((.getfield 9), 6, 0, 0)) else (bif Nat.blt pc 34 then ((.iload_n 2), 0, 0, 0) else ((.iaload), 0, 0, 0)))) else (bif Nat.blt pc 40 then (bif Nat.blt pc 38 then ((.if_icmp .eq 5), 40, 0, 0) else (bif Nat.blt pc 39 then ((.iconst 0), 0, 0, 0) else ((.ireturn), 1, 0, 0))) else (bif Nat.blt pc 46 then (bif Nat.blt pc 43 then ((.iinc 2 1), 0, 0, 0) else ((.goto (-28)), 15, 0, 0)) else (bif Nat.blt pc 47 then ((.iconst 1), 0, 0, 0) else ((.ireturn), 1, 0, 0))))))
/-- PatternLaboratory$Row indexOf(I)I -/
def pm_t49 : Nat → pm_En := fun pc => (bif Nat.blt pc 15 then (bif Nat.blt pc 4 then (bif Nat.blt pc 2 then (bif Nat.blt pc 1 then ((.iconst 0), 0, 0, 0) else ((.istore_n 2), 0, 0, 0)) else (bif Nat.blt pc 3 then ((.iload_n 2), 0, 0, 0) else ((.aload_n 0), 0, 0, 0))) else (bif Nat.blt pc 10 then (bif Nat.blt pc 7 then ((.getfield 15), 6, 1, 0) else ((.if_icmp .ge 21), 28, 0, 0)) else (bif Nat.blt pc 11 then ((.aload_n 0), 0, 0, 0) else (bif Nat.blt pc 14 then ((.getfield 9), 6, 0, 0) else ((.iload_n 2), 0, 0, 0))))) else (bif Nat.blt pc 22 then (bif Nat.blt pc 17 then (bif Nat.blt pc 16 then ((.iaload), 0, 0, 0) else ((.iload_n 1), 0, 0, 0)) else (bif Nat.blt pc 20 then ((.if_icmp .ne 5), 22, 0, 0) else (bif Nat.blt pc 21 then ((.iload_n 2), 0, 0, 0) else ((.ireturn), 0, 0, 0)))) else (bif Nat.blt pc 28 then (bif Nat.blt pc 25 then ((.iinc 2 1), 0, 0, 0) else ((.goto (-23)), 2, 0, 0)) else (bif Nat.blt pc 29 then ((.aload_n 0), 0, 0, 0) else (bif Nat.blt pc 32 then ((.getfield 15), 6, 1, 0) else ((.ireturn), 0, 0, 0))))))
/-- PatternLaboratory$Row countOf(I)I -/
def pm_t50 : Nat → pm_En := fun pc => (bif Nat.blt pc 13 then (bif Nat.blt pc 4 then (bif Nat.blt pc 2 then (bif Nat.blt pc 1 then ((.iconst 0), 0, 0, 0) else ((.istore_n 2), 0, 0, 0)) else (bif Nat.blt pc 3 then ((.iconst 0), 0, 0, 0) else ((.istore_n 3), 0, 0, 0))) else (bif Nat.blt pc 6 then (bif Nat.blt pc 5 then ((.iload_n 3), 0, 0, 0) else ((.aload_n 0), 0, 0, 0)) else (bif Nat.blt pc 9 then ((.getfield 15), 6, 1, 0) else (bif Nat.blt pc 12 then ((.if_icmp .ge 22), 31, 0, 0) else ((.aload_n 0), 0, 0, 0))))) else (bif Nat.blt pc 22 then (bif Nat.blt pc 17 then (bif Nat.blt pc 16 then ((.getfield 9), 6, 0, 0) else ((.iload_n 3), 0, 0, 0)) else (bif Nat.blt pc 18 then ((.iaload), 0, 0, 0) else (bif Nat.blt pc 19 then ((.iload_n 1), 0, 0, 0) else ((.if_icmp .ne 6), 25, 0, 0)))) else (bif Nat.blt pc 28 then (bif Nat.blt pc 25 then ((.iinc 2 1), 0, 0, 0) else ((.iinc 3 1), 0, 0, 0)) else (bif Nat.blt pc 31 then ((.goto (-24)), 4, 0, 0) else (bif Nat.blt pc 32 then ((.iload_n 2), 0, 0, 0) else ((.ireturn), 0, 0, 0))))))
/-- PatternLaboratory$Row members()I -/
def pm_t51 : Nat → pm_En := fun pc => (bif Nat.blt pc 14 then (bif Nat.blt pc 5 then (bif Nat.blt pc 2 then (bif Nat.blt pc 1 then ((.iconst 0), 0, 0, 0) else ((.istore_n 1), 0, 0, 0)) else (bif Nat.blt pc 3 then ((.iconst 0), 0, 0, 0) else (bif Nat.blt pc 4 then ((.istore_n 2), 0, 0, 0) else ((.iload_n 2), 0, 0, 0)))) else (bif Nat.blt pc 9 then (bif Nat.blt pc 6 then ((.aload_n 0), 0, 0, 0) else ((.getfield 15), 6, 1, 0)) else (bif Nat.blt pc 12 then ((.if_icmp .ge 20), 29, 0, 0) else (bif Nat.blt pc 13 then ((.iload_n 1), 0, 0, 0) else ((.iconst 1), 0, 0, 0))))) else (bif Nat.blt pc 21 then (bif Nat.blt pc 18 then (bif Nat.blt pc 15 then ((.aload_n 0), 0, 0, 0) else ((.getfield 9), 6, 0, 0)) else (bif Nat.blt pc 19 then ((.iload_n 2), 0, 0, 0) else (bif Nat.blt pc 20 then ((.iaload), 0, 0, 0) else ((.ishl), 0, 0, 0)))) else (bif Nat.blt pc 26 then (bif Nat.blt pc 22 then ((.ior), 0, 0, 0) else (bif Nat.blt pc 23 then ((.istore_n 1), 0, 0, 0) else ((.iinc 2 1), 0, 0, 0))) else (bif Nat.blt pc 29 then ((.goto (-22)), 4, 0, 0) else (bif Nat.blt pc 30 then ((.iload_n 1), 0, 0, 0) else ((.ireturn), 0, 0, 0))))))
/-- PatternLaboratory$Search <init>()V -/
def pm_t52 : Nat → pm_En := fun pc => (bif Nat.blt pc 31 then (bif Nat.blt pc 15 then (bif Nat.blt pc 5 then (bif Nat.blt pc 1 then ((.aload_n 0), 0, 0, 0) else (bif Nat.blt pc 4 then ((.invokespecial 3), 0, 0, 9) else ((.aload_n 0), 0, 0, 0))) else (bif Nat.blt pc 9 then (bif Nat.blt pc 8 then ((.new 9), 1, 0, 0) else ((.dup), 0, 0, 0)) else (bif Nat.blt pc 12 then ((.invokespecial 11), 2, 1, 12) else ((.putfield 12), 7, 0, 0)))) else (bif Nat.blt pc 23 then (bif Nat.blt pc 19 then (bif Nat.blt pc 16 then ((.aload_n 0), 0, 0, 0) else ((.new 18), 6, 0, 0)) else (bif Nat.blt pc 20 then ((.dup), 0, 0, 0) else ((.invokespecial 20), 35, 1, 12))) else (bif Nat.blt pc 27 then (bif Nat.blt pc 26 then ((.putfield 21), 7, 1, 0) else ((.aload_n 0), 0, 0, 0)) else (bif Nat.blt pc 30 then ((.new 18), 6, 0, 0) else ((.dup), 0, 0, 0))))) else (bif Nat.blt pc 44 then (bif Nat.blt pc 38 then (bif Nat.blt pc 34 then ((.invokespecial 20), 35, 1, 12) else (bif Nat.blt pc 37 then ((.putfield 25), 7, 2, 0) else ((.aload_n 0), 0, 0, 0))) else (bif Nat.blt pc 42 then (bif Nat.blt pc 39 then ((.iconst 0), 0, 0, 0) else ((.putfield 28), 7, 3, 0)) else (bif Nat.blt pc 43 then ((.aload_n 0), 0, 0, 0) else ((.iconst 2), 0, 0, 0)))) else (bif Nat.blt pc 52 then (bif Nat.blt pc 48 then (bif Nat.blt pc 47 then ((.putfield 32), 7, 4, 0) else ((.aload_n 0), 0, 0, 0)) else (bif Nat.blt pc 49 then ((.iconst 0), 0, 0, 0) else ((.putfield 35), 7, 5, 0))) else (bif Nat.blt pc 54 then (bif Nat.blt pc 53 then ((.aload_n 0), 0, 0, 0) else ((.iconst 0), 0, 0, 0)) else (bif Nat.blt pc 57 then ((.putfield 38), 7, 6, 1) else ((.return_), 0, 0, 0))))))
/-- PatternLaboratory$Search begin(LPatternLaboratory$Row;ILPatternLaboratory$Row;)V -/
def pm_t53 : Nat → pm_En := fun pc => (bif Nat.blt pc 47 then (bif Nat.blt pc 23 then (bif Nat.blt pc 9 then (bif Nat.blt pc 4 then (bif Nat.blt pc 1 then ((.aload_n 0), 0, 0, 0) else ((.getfield 21), 7, 1, 0)) else (bif Nat.blt pc 5 then ((.aload_n 1), 0, 0, 0) else (bif Nat.blt pc 8 then ((.invokevirtual 42), 44, 2, 11) else ((.aload_n 0), 0, 0, 0)))) else (bif Nat.blt pc 16 then (bif Nat.blt pc 12 then ((.getfield 12), 7, 0, 0) else (bif Nat.blt pc 13 then ((.aload_n 0), 0, 0, 0) else ((.getfield 21), 7, 1, 0))) else (bif Nat.blt pc 19 then ((.invokevirtual 46), 3, 2, 11) else (bif Nat.blt pc 20 then ((.aload_n 0), 0, 0, 0) else ((.getfield 12), 7, 0, 0))))) else (bif Nat.blt pc 35 then (bif Nat.blt pc 28 then (bif Nat.blt pc 26 then ((.getfield 49), 1, 1, 0) else ((.bipush 24), 0, 0, 0)) else (bif Nat.blt pc 31 then ((.invokevirtual 52), 43, 2, 11) else (bif Nat.blt pc 32 then ((.aload_n 0), 0, 0, 0) else ((.getfield 25), 7, 2, 0)))) else (bif Nat.blt pc 41 then (bif Nat.blt pc 38 then ((.invokevirtual 56), 41, 1, 11) else (bif Nat.blt pc 39 then ((.iconst 0), 0, 0, 0) else ((.istore 4), 0, 0, 0))) else (bif Nat.blt pc 43 then ((.iload 4), 0, 0, 0) else (bif Nat.blt pc 44 then ((.aload_n 3), 0, 0, 0) else ((.getfield 59), 6, 1, 0)))))) else (bif Nat.blt pc 71 then (bif Nat.blt pc 57 then (bif Nat.blt pc 51 then (bif Nat.blt pc 50 then ((.if_icmp .ge 19), 66, 0, 0) else ((.aload_n 0), 0, 0, 0)) else (bif Nat.blt pc 52 then ((.aload_n 3), 0, 0, 0) else (bif Nat.blt pc 54 then ((.iload 4), 0, 0, 0) else ((.invokevirtual 62), 37, 2, 11)))) else (bif Nat.blt pc 66 then (bif Nat.blt pc 60 then ((.invokevirtual 66), 54, 2, 1) else (bif Nat.blt pc 63 then ((.iinc 4 1), 0, 0, 0) else ((.goto (-22)), 41, 0, 0))) else (bif Nat.blt pc 67 then ((.aload_n 0), 0, 0, 0) else (bif Nat.blt pc 68 then ((.aload_n 3), 0, 0, 0) else ((.getfield 59), 6, 1, 0))))) else (bif Nat.blt pc 80 then (bif Nat.blt pc 75 then (bif Nat.blt pc 74 then ((.putfield 28), 7, 3, 0) else ((.aload_n 0), 0, 0, 0)) else (bif Nat.blt pc 76 then ((.iload_n 2), 0, 0, 0) else (bif Nat.blt pc 79 then ((.putfield 32), 7, 4, 0) else ((.aload_n 0), 0, 0, 0)))) else (bif Nat.blt pc 85 then (bif Nat.blt pc 81 then ((.iconst 0), 0, 0, 0) else (bif Nat.blt pc 84 then ((.putfield 35), 7, 5, 0) else ((.aload_n 0), 0, 0, 0))) else (bif Nat.blt pc 86 then ((.iconst 0), 0, 0, 0) else (bif Nat.blt pc 89 then ((.putfield 38), 7, 6, 1) else ((.return_), 0, 0, 0)))))))
/-- PatternLaboratory$Search put(I)V -/
def pm_t54 : Nat → pm_En := fun pc => (bif Nat.blt pc 15 then (bif Nat.blt pc 5 then (bif Nat.blt pc 1 then ((.aload_n 0), 0, 0, 0) else (bif Nat.blt pc 4 then ((.getfield 25), 7, 2, 0) else ((.iload_n 1), 0, 0, 0))) else (bif Nat.blt pc 9 then (bif Nat.blt pc 8 then ((.invokevirtual 69), 39, 2, 11) else ((.aload_n 0), 0, 0, 0)) else (bif Nat.blt pc 12 then ((.getfield 12), 7, 0, 0) else ((.getfield 49), 1, 1, 0)))) else (bif Nat.blt pc 24 then (bif Nat.blt pc 18 then (bif Nat.blt pc 17 then ((.bipush 24), 0, 0, 0) else ((.aload_n 0), 0, 0, 0)) else (bif Nat.blt pc 21 then ((.getfield 25), 7, 2, 0) else ((.getfield 59), 6, 1, 0))) else (bif Nat.blt pc 26 then (bif Nat.blt pc 25 then ((.isub), 0, 0, 0) else ((.iload_n 1), 0, 0, 0)) else (bif Nat.blt pc 29 then ((.invokevirtual 72), 38, 3, 11) else ((.return_), 0, 0, 0)))))
/-- PatternLaboratory$Search next(I)Z -/
def pm_t55 : Nat → pm_En := fun pc => (bif Nat.blt pc 73 then (bif Nat.blt pc 37 then (bif Nat.blt pc 19 then (bif Nat.blt pc 8 then (bif Nat.blt pc 4 then (bif Nat.blt pc 1 then ((.aload_n 0), 0, 0, 0) else ((.getfield 25), 7, 2, 0)) else (bif Nat.blt pc 7 then ((.getfield 59), 6, 1, 0) else ((.iload_n 1), 0, 0, 0))) else (bif Nat.blt pc 12 then (bif Nat.blt pc 11 then ((.if_icmp .ge 7), 15, 0, 0) else ((.iconst 0), 0, 0, 0)) else (bif Nat.blt pc 15 then ((.goto 7), 19, 0, 0) else (bif Nat.blt pc 16 then ((.aload_n 0), 0, 0, 0) else ((.getfield 32), 7, 4, 0))))) else (bif Nat.blt pc 26 then (bif Nat.blt pc 21 then (bif Nat.blt pc 20 then ((.istore_n 2), 0, 0, 0) else ((.iconst 0), 0, 0, 0)) else (bif Nat.blt pc 22 then ((.istore_n 3), 0, 0, 0) else (bif Nat.blt pc 23 then ((.iload_n 3), 0, 0, 0) else ((.sipush 1526), 0, 0, 0)))) else (bif Nat.blt pc 30 then (bif Nat.blt pc 29 then ((.if_icmp .ge 126), 152, 0, 0) else ((.iload_n 2), 0, 0, 0)) else (bif Nat.blt pc 31 then ((.aload_n 0), 0, 0, 0) else (bif Nat.blt pc 34 then ((.getfield 32), 7, 4, 0) else ((.if_icmp .lt 48), 82, 0, 0)))))) else (bif Nat.blt pc 57 then (bif Nat.blt pc 48 then (bif Nat.blt pc 41 then (bif Nat.blt pc 38 then ((.aload_n 0), 0, 0, 0) else ((.getfield 25), 7, 2, 0)) else (bif Nat.blt pc 44 then ((.getfield 59), 6, 1, 0) else (bif Nat.blt pc 45 then ((.aload_n 0), 0, 0, 0) else ((.getfield 28), 7, 3, 0)))) else (bif Nat.blt pc 52 then (bif Nat.blt pc 51 then ((.if_icmp .gt 5), 53, 0, 0) else ((.iconst 0), 0, 0, 0)) else (bif Nat.blt pc 53 then ((.ireturn), 1, 0, 0) else (bif Nat.blt pc 54 then ((.aload_n 0), 0, 0, 0) else ((.getfield 25), 7, 2, 0))))) else (bif Nat.blt pc 66 then (bif Nat.blt pc 61 then (bif Nat.blt pc 58 then ((.aload_n 0), 0, 0, 0) else ((.getfield 25), 7, 2, 0)) else (bif Nat.blt pc 64 then ((.getfield 59), 6, 1, 0) else (bif Nat.blt pc 65 then ((.iconst 1), 0, 0, 0) else ((.isub), 0, 0, 0)))) else (bif Nat.blt pc 70 then (bif Nat.blt pc 69 then ((.invokevirtual 62), 37, 2, 11) else ((.iconst 1), 0, 0, 0)) else (bif Nat.blt pc 71 then ((.iadd), 0, 0, 0) else (bif Nat.blt pc 72 then ((.istore_n 2), 0, 0, 0) else ((.aload_n 0), 0, 0, 0))))))) else (bif Nat.blt pc 111 then (bif Nat.blt pc 97 then (bif Nat.blt pc 86 then (bif Nat.blt pc 79 then (bif Nat.blt pc 76 then ((.getfield 25), 7, 2, 0) else ((.invokevirtual 76), 40, 1, 11)) else (bif Nat.blt pc 82 then ((.goto 67), 146, 0, 0) else (bif Nat.blt pc 83 then ((.aload_n 0), 0, 0, 0) else ((.getfield 35), 7, 5, 0)))) else (bif Nat.blt pc 92 then (bif Nat.blt pc 89 then ((.sipush 1500), 0, 0, 0) else ((.if_icmp .lt 10), 99, 0, 0)) else (bif Nat.blt pc 93 then ((.aload_n 0), 0, 0, 0) else (bif Nat.blt pc 94 then ((.iconst 1), 0, 0, 0) else ((.putfield 38), 7, 6, 1))))) else (bif Nat.blt pc 104 then (bif Nat.blt pc 99 then (bif Nat.blt pc 98 then ((.iconst 0), 0, 0, 0) else ((.ireturn), 1, 0, 0)) else (bif Nat.blt pc 100 then ((.aload_n 0), 0, 0, 0) else (bif Nat.blt pc 101 then ((.dup), 0, 0, 0) else ((.getfield 35), 7, 5, 0)))) else (bif Nat.blt pc 106 then (bif Nat.blt pc 105 then ((.iconst 1), 0, 0, 0) else ((.iadd), 0, 0, 0)) else (bif Nat.blt pc 109 then ((.putfield 35), 7, 5, 0) else (bif Nat.blt pc 110 then ((.aload_n 0), 0, 0, 0) else ((.iload_n 2), 0, 0, 0)))))) else (bif Nat.blt pc 134 then (bif Nat.blt pc 121 then (bif Nat.blt pc 115 then (bif Nat.blt pc 114 then ((.invokevirtual 66), 54, 2, 1) else ((.aload_n 0), 0, 0, 0)) else (bif Nat.blt pc 118 then ((.getfield 12), 7, 0, 0) else (bif Nat.blt pc 120 then ((.bipush 24), 0, 0, 0) else ((.aload_n 0), 0, 0, 0)))) else (bif Nat.blt pc 127 then (bif Nat.blt pc 124 then ((.getfield 25), 7, 2, 0) else ((.getfield 59), 6, 1, 0)) else (bif Nat.blt pc 128 then ((.isub), 0, 0, 0) else (bif Nat.blt pc 131 then ((.invokevirtual 79), 7, 2, 11) else ((.ifCond .ne 5), 136, 0, 0))))) else (bif Nat.blt pc 143 then (bif Nat.blt pc 136 then (bif Nat.blt pc 135 then ((.iconst 1), 0, 0, 0) else ((.ireturn), 1, 0, 0)) else (bif Nat.blt pc 137 then ((.aload_n 0), 0, 0, 0) else (bif Nat.blt pc 140 then ((.getfield 25), 7, 2, 0) else ((.invokevirtual 76), 40, 1, 11)))) else (bif Nat.blt pc 149 then (bif Nat.blt pc 146 then ((.iinc 2 1), 0, 0, 0) else ((.iinc 3 1), 0, 0, 0)) else (bif Nat.blt pc 152 then ((.goto (-127)), 22, 0, 0) else (bif Nat.blt pc 153 then ((.iconst 0), 0, 0, 0) else ((.ireturn), 1, 0, 0))))))))
/-- PatternLaboratory <init>()V -/
def pm_t56 : Nat → pm_En := fun pc => (bif Nat.blt pc 76 then (bif Nat.blt pc 39 then (bif Nat.blt pc 19 then (bif Nat.blt pc 8 then (bif Nat.blt pc 4 then (bif Nat.blt pc 1 then ((.aload_n 0), 0, 0, 0) else ((.invokespecial 3), 0, 0, 9)) else (bif Nat.blt pc 5 then ((.aload_n 0), 0, 0, 0) else ((.new 9), 0, 0, 0))) else (bif Nat.blt pc 12 then (bif Nat.blt pc 9 then ((.dup), 0, 0, 0) else ((.invokespecial 11), 0, 1, 12)) else (bif Nat.blt pc 15 then ((.putfield 12), 8, 0, 0) else (bif Nat.blt pc 16 then ((.aload_n 0), 0, 0, 0) else ((.new 9), 0, 0, 0))))) else (bif Nat.blt pc 28 then (bif Nat.blt pc 23 then (bif Nat.blt pc 20 then ((.dup), 0, 0, 0) else ((.invokespecial 11), 0, 1, 12)) else (bif Nat.blt pc 26 then ((.putfield 16), 8, 1, 0) else (bif Nat.blt pc 27 then ((.aload_n 0), 0, 0, 0) else ((.iconst 0), 0, 0, 0)))) else (bif Nat.blt pc 32 then (bif Nat.blt pc 31 then ((.putfield 19), 8, 2, 1) else ((.aload_n 0), 0, 0, 0)) else (bif Nat.blt pc 33 then ((.iconst 4), 0, 0, 0) else (bif Nat.blt pc 36 then ((.anewarray 23), 0, 0, 0) else ((.putfield 25), 8, 3, 0)))))) else (bif Nat.blt pc 55 then (bif Nat.blt pc 46 then (bif Nat.blt pc 41 then (bif Nat.blt pc 40 then ((.iconst 0), 0, 0, 0) else ((.istore_n 1), 0, 0, 0)) else (bif Nat.blt pc 42 then ((.iload_n 1), 0, 0, 0) else (bif Nat.blt pc 43 then ((.iconst 4), 0, 0, 0) else ((.if_icmp .ge 22), 65, 0, 0)))) else (bif Nat.blt pc 50 then (bif Nat.blt pc 47 then ((.aload_n 0), 0, 0, 0) else ((.getfield 25), 8, 3, 0)) else (bif Nat.blt pc 51 then ((.iload_n 1), 0, 0, 0) else (bif Nat.blt pc 54 then ((.new 23), 6, 0, 0) else ((.dup), 0, 0, 0))))) else (bif Nat.blt pc 66 then (bif Nat.blt pc 59 then (bif Nat.blt pc 58 then ((.invokespecial 29), 35, 1, 12) else ((.aastore), 0, 0, 0)) else (bif Nat.blt pc 62 then ((.iinc 1 1), 0, 0, 0) else (bif Nat.blt pc 65 then ((.goto (-21)), 41, 0, 0) else ((.aload_n 0), 0, 0, 0)))) else (bif Nat.blt pc 69 then (bif Nat.blt pc 67 then ((.iconst 4), 0, 0, 0) else ((.newarray .boolean), 2000, 0, 0)) else (bif Nat.blt pc 72 then ((.putfield 30), 8, 4, 0) else (bif Nat.blt pc 73 then ((.aload_n 0), 0, 0, 0) else ((.new 34), 3, 0, 0))))))) else (bif Nat.blt pc 117 then (bif Nat.blt pc 95 then (bif Nat.blt pc 84 then (bif Nat.blt pc 80 then (bif Nat.blt pc 77 then ((.dup), 0, 0, 0) else ((.invokespecial 36), 21, 1, 12)) else (bif Nat.blt pc 83 then ((.putfield 37), 8, 5, 0) else ((.aload_n 0), 0, 0, 0))) else (bif Nat.blt pc 88 then (bif Nat.blt pc 87 then ((.new 41), 1, 0, 0) else ((.dup), 0, 0, 0)) else (bif Nat.blt pc 91 then ((.invokespecial 43), 2, 1, 12) else (bif Nat.blt pc 94 then ((.putfield 44), 8, 6, 0) else ((.aload_n 0), 0, 0, 0))))) else (bif Nat.blt pc 106 then (bif Nat.blt pc 99 then (bif Nat.blt pc 98 then ((.new 48), 7, 0, 0) else ((.dup), 0, 0, 0)) else (bif Nat.blt pc 102 then ((.invokespecial 50), 52, 1, 12) else (bif Nat.blt pc 105 then ((.putfield 51), 8, 7, 0) else ((.aload_n 0), 0, 0, 0)))) else (bif Nat.blt pc 110 then (bif Nat.blt pc 109 then ((.new 55), 4, 0, 0) else ((.dup), 0, 0, 0)) else (bif Nat.blt pc 113 then ((.invokespecial 57), 23, 1, 12) else (bif Nat.blt pc 116 then ((.putfield 58), 8, 8, 0) else ((.aload_n 0), 0, 0, 0)))))) else (bif Nat.blt pc 139 then (bif Nat.blt pc 128 then (bif Nat.blt pc 121 then (bif Nat.blt pc 120 then ((.new 62), 5, 0, 0) else ((.dup), 0, 0, 0)) else (bif Nat.blt pc 124 then ((.invokespecial 64), 33, 1, 12) else (bif Nat.blt pc 127 then ((.putfield 65), 8, 9, 0) else ((.aload_n 0), 0, 0, 0)))) else (bif Nat.blt pc 132 then (bif Nat.blt pc 131 then ((.new 69), 2, 0, 0) else ((.dup), 0, 0, 0)) else (bif Nat.blt pc 135 then ((.invokespecial 71), 15, 1, 12) else (bif Nat.blt pc 138 then ((.putfield 72), 8, 10, 0) else ((.aload_n 0), 0, 0, 0))))) else (bif Nat.blt pc 150 then (bif Nat.blt pc 143 then (bif Nat.blt pc 142 then ((.new 23), 6, 0, 0) else ((.dup), 0, 0, 0)) else (bif Nat.blt pc 146 then ((.invokespecial 29), 35, 1, 12) else (bif Nat.blt pc 149 then ((.putfield 76), 8, 11, 0) else ((.aload_n 0), 0, 0, 0)))) else (bif Nat.blt pc 154 then (bif Nat.blt pc 153 then ((.new 23), 6, 0, 0) else ((.dup), 0, 0, 0)) else (bif Nat.blt pc 157 then ((.invokespecial 29), 35, 1, 12) else (bif Nat.blt pc 160 then ((.putfield 80), 8, 12, 0) else ((.return_), 0, 0, 0))))))))
/-- PatternLaboratory appendVariable(I)I -/
def pm_t57 : Nat → pm_En := fun pc => (bif Nat.blt pc 32 then (bif Nat.blt pc 16 then (bif Nat.blt pc 7 then (bif Nat.blt pc 1 then ((.iload_n 1), 0, 0, 0) else (bif Nat.blt pc 4 then ((.invokestatic 83), 104, 1, 0) else ((.ifCond .ne 13), 17, 0, 0))) else (bif Nat.blt pc 11 then (bif Nat.blt pc 10 then ((.new 87), 0, 0, 1) else ((.dup), 0, 0, 0)) else (bif Nat.blt pc 13 then ((.ldc 89), 0, 0, 0) else ((.invokespecial 91), 0, 0, 5)))) else (bif Nat.blt pc 21 then (bif Nat.blt pc 17 then ((.athrow), 0, 0, 0) else (bif Nat.blt pc 18 then ((.aload_n 0), 0, 0, 0) else ((.getfield 12), 8, 0, 0))) else (bif Nat.blt pc 27 then (bif Nat.blt pc 24 then ((.getfield 94), 0, 1, 0) else ((.getfield 97), 6, 1, 0)) else (bif Nat.blt pc 29 then ((.bipush 15), 0, 0, 0) else ((.if_icmp .lt 13), 42, 0, 0))))) else (bif Nat.blt pc 46 then (bif Nat.blt pc 38 then (bif Nat.blt pc 35 then ((.new 101), 1, 0, 1) else (bif Nat.blt pc 36 then ((.dup), 0, 0, 0) else ((.ldc 103), 0, 0, 0))) else (bif Nat.blt pc 42 then (bif Nat.blt pc 41 then ((.invokespecial 105), 0, 0, 5) else ((.athrow), 0, 0, 0)) else (bif Nat.blt pc 43 then ((.aload_n 0), 0, 0, 0) else ((.getfield 12), 8, 0, 0)))) else (bif Nat.blt pc 54 then (bif Nat.blt pc 50 then (bif Nat.blt pc 49 then ((.getfield 94), 0, 1, 0) else ((.iload_n 1), 0, 0, 0)) else (bif Nat.blt pc 53 then ((.invokevirtual 106), 39, 2, 11) else ((.aload_n 0), 0, 0, 0))) else (bif Nat.blt pc 60 then (bif Nat.blt pc 57 then ((.getfield 12), 8, 0, 0) else ((.getfield 94), 0, 1, 0)) else (bif Nat.blt pc 63 then ((.getfield 97), 6, 1, 0) else ((.ireturn), 0, 0, 0))))))
/-- PatternLaboratory clearPattern()I -/
def pm_t58 : Nat → pm_En := fun pc => (bif Nat.blt pc 11 then (bif Nat.blt pc 4 then (bif Nat.blt pc 1 then ((.aload_n 0), 0, 0, 0) else ((.getfield 12), 8, 0, 0)) else (bif Nat.blt pc 7 then ((.getfield 94), 0, 1, 0) else (bif Nat.blt pc 10 then ((.getfield 97), 6, 1, 0) else ((.istore_n 1), 0, 0, 0)))) else (bif Nat.blt pc 18 then (bif Nat.blt pc 12 then ((.aload_n 0), 0, 0, 0) else (bif Nat.blt pc 15 then ((.getfield 12), 8, 0, 0) else ((.getfield 94), 0, 1, 0))) else (bif Nat.blt pc 21 then ((.invokevirtual 110), 41, 1, 11) else (bif Nat.blt pc 22 then ((.iload_n 1), 0, 0, 0) else ((.ireturn), 0, 0, 0)))))
/-- PatternLaboratory patternLength()I -/
def pm_t59 : Nat → pm_En := fun pc => (bif Nat.blt pc 4 then (bif Nat.blt pc 1 then ((.aload_n 0), 0, 0, 0) else ((.getfield 12), 8, 0, 0)) else (bif Nat.blt pc 7 then ((.getfield 94), 0, 1, 0) else (bif Nat.blt pc 10 then ((.getfield 97), 6, 1, 0) else ((.ireturn), 0, 0, 0))))
/-- PatternLaboratory patternVariable(I)I -/
def pm_t60 : Nat → pm_En := fun pc => (bif Nat.blt pc 18 then (bif Nat.blt pc 8 then (bif Nat.blt pc 4 then (bif Nat.blt pc 1 then ((.aload_n 0), 0, 0, 0) else ((.getfield 12), 8, 0, 0)) else (bif Nat.blt pc 7 then ((.getfield 94), 0, 1, 0) else ((.iload_n 1), 0, 0, 0))) else (bif Nat.blt pc 14 then (bif Nat.blt pc 11 then ((.invokevirtual 113), 36, 2, 11) else ((.ifCond .ne 13), 24, 0, 0)) else (bif Nat.blt pc 17 then ((.new 116), 2, 0, 1) else ((.dup), 0, 0, 0)))) else (bif Nat.blt pc 25 then (bif Nat.blt pc 23 then (bif Nat.blt pc 20 then ((.ldc 118), 0, 0, 0) else ((.invokespecial 120), 0, 0, 5)) else (bif Nat.blt pc 24 then ((.athrow), 0, 0, 0) else ((.aload_n 0), 0, 0, 0))) else (bif Nat.blt pc 31 then (bif Nat.blt pc 28 then ((.getfield 12), 8, 0, 0) else ((.getfield 94), 0, 1, 0)) else (bif Nat.blt pc 32 then ((.iload_n 1), 0, 0, 0) else (bif Nat.blt pc 35 then ((.invokevirtual 121), 37, 2, 11) else ((.ireturn), 0, 0, 0))))))
/-- PatternLaboratory variables()I -/
def pm_t61 : Nat → pm_En := fun pc => (bif Nat.blt pc 4 then (bif Nat.blt pc 1 then ((.aload_n 0), 0, 0, 0) else ((.getfield 12), 8, 0, 0)) else (bif Nat.blt pc 7 then ((.getfield 94), 0, 1, 0) else (bif Nat.blt pc 10 then ((.invokevirtual 125), 51, 1, 11) else ((.ireturn), 0, 0, 0))))
/-- PatternLaboratory loadZimin(I)I -/
def pm_t62 : Nat → pm_En := fun pc => (bif Nat.blt pc 12 then (bif Nat.blt pc 5 then (bif Nat.blt pc 1 then ((.iload_n 1), 0, 0, 0) else (bif Nat.blt pc 4 then ((.invokestatic 129), 106, 1, 0) else ((.aload_n 0), 0, 0, 0))) else (bif Nat.blt pc 8 then ((.getfield 12), 8, 0, 0) else (bif Nat.blt pc 11 then ((.getfield 94), 0, 1, 0) else ((.iload_n 1), 0, 0, 0)))) else (bif Nat.blt pc 19 then (bif Nat.blt pc 15 then ((.invokevirtual 132), 46, 2, 11) else (bif Nat.blt pc 16 then ((.aload_n 0), 0, 0, 0) else ((.getfield 12), 8, 0, 0))) else (bif Nat.blt pc 22 then ((.getfield 94), 0, 1, 0) else (bif Nat.blt pc 25 then ((.getfield 97), 6, 1, 0) else ((.ireturn), 0, 0, 0)))))
/-- PatternLaboratory canonicalize()Z -/
def pm_t63 : Nat → pm_En := fun pc => (bif Nat.blt pc 11 then (bif Nat.blt pc 4 then (bif Nat.blt pc 1 then ((.aload_n 0), 0, 0, 0) else ((.getfield 76), 8, 11, 0)) else (bif Nat.blt pc 5 then ((.aload_n 0), 0, 0, 0) else (bif Nat.blt pc 8 then ((.getfield 12), 8, 0, 0) else ((.getfield 94), 0, 1, 0)))) else (bif Nat.blt pc 16 then (bif Nat.blt pc 14 then ((.invokevirtual 135), 45, 2, 11) else (bif Nat.blt pc 15 then ((.aload_n 0), 0, 0, 0) else ((.aload_n 0), 0, 0, 0))) else (bif Nat.blt pc 19 then ((.getfield 76), 8, 11, 0) else (bif Nat.blt pc 22 then ((.invokevirtual 139), 116, 2, 1) else ((.ireturn), 1, 0, 0)))))
/-- PatternLaboratory reversePattern()Z -/
def pm_t64 : Nat → pm_En := fun pc => (bif Nat.blt pc 11 then (bif Nat.blt pc 4 then (bif Nat.blt pc 1 then ((.aload_n 0), 0, 0, 0) else ((.getfield 76), 8, 11, 0)) else (bif Nat.blt pc 5 then ((.aload_n 0), 0, 0, 0) else (bif Nat.blt pc 8 then ((.getfield 12), 8, 0, 0) else ((.getfield 94), 0, 1, 0)))) else (bif Nat.blt pc 16 then (bif Nat.blt pc 14 then ((.invokevirtual 143), 44, 2, 11) else (bif Nat.blt pc 15 then ((.aload_n 0), 0, 0, 0) else ((.aload_n 0), 0, 0, 0))) else (bif Nat.blt pc 19 then ((.getfield 76), 8, 11, 0) else (bif Nat.blt pc 22 then ((.invokevirtual 139), 116, 2, 1) else ((.ireturn), 1, 0, 0)))))
/-- PatternLaboratory occursInZimin(I)Z -/
def pm_t65 : Nat → pm_En := fun pc => (bif Nat.blt pc 16 then (bif Nat.blt pc 8 then (bif Nat.blt pc 4 then (bif Nat.blt pc 1 then ((.iload_n 1), 0, 0, 0) else ((.invokestatic 129), 106, 1, 0)) else (bif Nat.blt pc 5 then ((.aload_n 0), 0, 0, 0) else ((.invokevirtual 146), 110, 1, 1))) else (bif Nat.blt pc 12 then (bif Nat.blt pc 9 then ((.aload_n 0), 0, 0, 0) else ((.getfield 76), 8, 11, 0)) else (bif Nat.blt pc 13 then ((.iload_n 1), 0, 0, 0) else ((.invokevirtual 132), 46, 2, 11)))) else (bif Nat.blt pc 24 then (bif Nat.blt pc 18 then (bif Nat.blt pc 17 then ((.aload_n 0), 0, 0, 0) else ((.aload_n 0), 0, 0, 0)) else (bif Nat.blt pc 21 then ((.getfield 12), 8, 0, 0) else ((.getfield 94), 0, 1, 0))) else (bif Nat.blt pc 28 then (bif Nat.blt pc 25 then ((.aload_n 0), 0, 0, 0) else ((.getfield 76), 8, 11, 0)) else (bif Nat.blt pc 31 then ((.invokevirtual 149), 117, 3, 1) else ((.ireturn), 1, 0, 0)))))
/-- PatternLaboratory shelve(I)I -/
def pm_t66 : Nat → pm_En := fun pc => (bif Nat.blt pc 20 then (bif Nat.blt pc 9 then (bif Nat.blt pc 4 then (bif Nat.blt pc 1 then ((.iload_n 1), 0, 0, 0) else ((.invokestatic 153), 107, 1, 0)) else (bif Nat.blt pc 5 then ((.aload_n 0), 0, 0, 0) else (bif Nat.blt pc 8 then ((.getfield 25), 8, 3, 0) else ((.iload_n 1), 0, 0, 0)))) else (bif Nat.blt pc 11 then (bif Nat.blt pc 10 then ((.aaload), 0, 0, 0) else ((.aload_n 0), 0, 0, 0)) else (bif Nat.blt pc 14 then ((.getfield 12), 8, 0, 0) else (bif Nat.blt pc 17 then ((.getfield 94), 0, 1, 0) else ((.invokevirtual 156), 42, 2, 11))))) else (bif Nat.blt pc 27 then (bif Nat.blt pc 24 then (bif Nat.blt pc 21 then ((.aload_n 0), 0, 0, 0) else ((.getfield 30), 8, 4, 0)) else (bif Nat.blt pc 25 then ((.iload_n 1), 0, 0, 0) else (bif Nat.blt pc 26 then ((.iconst 1), 0, 0, 0) else ((.bastore), 0, 0, 0)))) else (bif Nat.blt pc 31 then (bif Nat.blt pc 28 then ((.aload_n 0), 0, 0, 0) else ((.getfield 12), 8, 0, 0)) else (bif Nat.blt pc 34 then ((.getfield 94), 0, 1, 0) else (bif Nat.blt pc 37 then ((.getfield 97), 6, 1, 0) else ((.ireturn), 0, 0, 0))))))
/-- PatternLaboratory useShelf(I)I -/
def pm_t67 : Nat → pm_En := fun pc => (bif Nat.blt pc 17 then (bif Nat.blt pc 6 then (bif Nat.blt pc 4 then (bif Nat.blt pc 1 then ((.iload_n 1), 0, 0, 0) else ((.invokestatic 153), 107, 1, 0)) else (bif Nat.blt pc 5 then ((.aload_n 0), 0, 0, 0) else ((.iload_n 1), 0, 0, 0))) else (bif Nat.blt pc 10 then (bif Nat.blt pc 9 then ((.invokevirtual 159), 108, 2, 1) else ((.aload_n 0), 0, 0, 0)) else (bif Nat.blt pc 13 then ((.getfield 12), 8, 0, 0) else (bif Nat.blt pc 16 then ((.getfield 94), 0, 1, 0) else ((.aload_n 0), 0, 0, 0))))) else (bif Nat.blt pc 25 then (bif Nat.blt pc 21 then (bif Nat.blt pc 20 then ((.getfield 25), 8, 3, 0) else ((.iload_n 1), 0, 0, 0)) else (bif Nat.blt pc 22 then ((.aaload), 0, 0, 0) else ((.invokevirtual 156), 42, 2, 11))) else (bif Nat.blt pc 29 then (bif Nat.blt pc 26 then ((.aload_n 0), 0, 0, 0) else ((.getfield 12), 8, 0, 0)) else (bif Nat.blt pc 32 then ((.getfield 94), 0, 1, 0) else (bif Nat.blt pc 35 then ((.getfield 97), 6, 1, 0) else ((.ireturn), 0, 0, 0))))))
/-- PatternLaboratory isIsomorphic(I)Z -/
def pm_t68 : Nat → pm_En := fun pc => (bif Nat.blt pc 24 then (bif Nat.blt pc 10 then (bif Nat.blt pc 5 then (bif Nat.blt pc 1 then ((.iload_n 1), 0, 0, 0) else (bif Nat.blt pc 4 then ((.invokestatic 153), 107, 1, 0) else ((.aload_n 0), 0, 0, 0))) else (bif Nat.blt pc 6 then ((.iload_n 1), 0, 0, 0) else (bif Nat.blt pc 9 then ((.invokevirtual 159), 108, 2, 1) else ((.aload_n 0), 0, 0, 0)))) else (bif Nat.blt pc 17 then (bif Nat.blt pc 13 then ((.getfield 76), 8, 11, 0) else (bif Nat.blt pc 14 then ((.aload_n 0), 0, 0, 0) else ((.getfield 12), 8, 0, 0))) else (bif Nat.blt pc 20 then ((.getfield 94), 0, 1, 0) else (bif Nat.blt pc 23 then ((.invokevirtual 135), 45, 2, 11) else ((.aload_n 0), 0, 0, 0))))) else (bif Nat.blt pc 36 then (bif Nat.blt pc 31 then (bif Nat.blt pc 27 then ((.getfield 80), 8, 12, 0) else (bif Nat.blt pc 28 then ((.aload_n 0), 0, 0, 0) else ((.getfield 25), 8, 3, 0))) else (bif Nat.blt pc 32 then ((.iload_n 1), 0, 0, 0) else (bif Nat.blt pc 33 then ((.aaload), 0, 0, 0) else ((.invokevirtual 135), 45, 2, 11)))) else (bif Nat.blt pc 41 then (bif Nat.blt pc 37 then ((.aload_n 0), 0, 0, 0) else (bif Nat.blt pc 40 then ((.getfield 76), 8, 11, 0) else ((.aload_n 0), 0, 0, 0))) else (bif Nat.blt pc 44 then ((.getfield 80), 8, 12, 0) else (bif Nat.blt pc 47 then ((.invokevirtual 162), 48, 2, 11) else ((.ireturn), 1, 0, 0))))))
/-- PatternLaboratory contains(I)Z -/
def pm_t69 : Nat → pm_En := fun pc => (bif Nat.blt pc 25 then (bif Nat.blt pc 10 then (bif Nat.blt pc 5 then (bif Nat.blt pc 1 then ((.iload_n 1), 0, 0, 0) else (bif Nat.blt pc 4 then ((.invokestatic 153), 107, 1, 0) else ((.aload_n 0), 0, 0, 0))) else (bif Nat.blt pc 6 then ((.iload_n 1), 0, 0, 0) else (bif Nat.blt pc 9 then ((.invokevirtual 159), 108, 2, 1) else ((.aload_n 0), 0, 0, 0)))) else (bif Nat.blt pc 15 then (bif Nat.blt pc 13 then ((.getfield 25), 8, 3, 0) else (bif Nat.blt pc 14 then ((.iload_n 1), 0, 0, 0) else ((.aaload), 0, 0, 0))) else (bif Nat.blt pc 21 then (bif Nat.blt pc 18 then ((.getfield 97), 6, 1, 0) else ((.ifCond .ne 13), 31, 0, 0)) else (bif Nat.blt pc 24 then ((.new 101), 1, 0, 1) else ((.dup), 0, 0, 0))))) else (bif Nat.blt pc 36 then (bif Nat.blt pc 31 then (bif Nat.blt pc 27 then ((.ldc 165), 0, 0, 0) else (bif Nat.blt pc 30 then ((.invokespecial 105), 0, 0, 5) else ((.athrow), 0, 0, 0))) else (bif Nat.blt pc 32 then ((.aload_n 0), 0, 0, 0) else (bif Nat.blt pc 33 then ((.aload_n 0), 0, 0, 0) else ((.getfield 25), 8, 3, 0)))) else (bif Nat.blt pc 39 then (bif Nat.blt pc 37 then ((.iload_n 1), 0, 0, 0) else (bif Nat.blt pc 38 then ((.aaload), 0, 0, 0) else ((.aload_n 0), 0, 0, 0))) else (bif Nat.blt pc 45 then (bif Nat.blt pc 42 then ((.getfield 12), 8, 0, 0) else ((.getfield 94), 0, 1, 0)) else (bif Nat.blt pc 48 then ((.invokevirtual 149), 117, 3, 1) else ((.ireturn), 1, 0, 0))))))
/-- PatternLaboratory setLetterCount(I)I -/
def pm_t70 : Nat → pm_En := fun pc => (bif Nat.blt pc 27 then (bif Nat.blt pc 13 then (bif Nat.blt pc 5 then (bif Nat.blt pc 1 then ((.iload_n 1), 0, 0, 0) else (bif Nat.blt pc 2 then ((.iconst 2), 0, 0, 0) else ((.if_icmp .lt 8), 10, 0, 0))) else (bif Nat.blt pc 7 then (bif Nat.blt pc 6 then ((.iload_n 1), 0, 0, 0) else ((.iconst 4), 0, 0, 0)) else (bif Nat.blt pc 10 then ((.if_icmp .le 13), 20, 0, 0) else ((.new 87), 0, 0, 1)))) else (bif Nat.blt pc 19 then (bif Nat.blt pc 14 then ((.dup), 0, 0, 0) else (bif Nat.blt pc 16 then ((.ldc 167), 0, 0, 0) else ((.invokespecial 91), 0, 0, 5))) else (bif Nat.blt pc 21 then (bif Nat.blt pc 20 then ((.athrow), 0, 0, 0) else ((.aload_n 0), 0, 0, 0)) else (bif Nat.blt pc 24 then ((.getfield 12), 8, 0, 0) else ((.getfield 169), 0, 0, 0))))) else (bif Nat.blt pc 40 then (bif Nat.blt pc 32 then (bif Nat.blt pc 28 then ((.istore_n 2), 0, 0, 0) else (bif Nat.blt pc 29 then ((.aload_n 0), 0, 0, 0) else ((.getfield 12), 8, 0, 0))) else (bif Nat.blt pc 36 then (bif Nat.blt pc 33 then ((.iload_n 1), 0, 0, 0) else ((.putfield 169), 0, 0, 0)) else (bif Nat.blt pc 37 then ((.aload_n 0), 0, 0, 0) else ((.getfield 12), 8, 0, 0)))) else (bif Nat.blt pc 50 then (bif Nat.blt pc 46 then (bif Nat.blt pc 43 then ((.getfield 172), 0, 2, 0) else ((.invokevirtual 110), 41, 1, 11)) else (bif Nat.blt pc 47 then ((.aload_n 0), 0, 0, 0) else ((.getfield 12), 8, 0, 0))) else (bif Nat.blt pc 56 then (bif Nat.blt pc 53 then ((.getfield 175), 0, 3, 0) else ((.invokevirtual 178), 16, 1, 11)) else (bif Nat.blt pc 57 then ((.iload_n 2), 0, 0, 0) else ((.ireturn), 0, 0, 0))))))
/-- PatternLaboratory appendLetter(I)I -/
def pm_t71 : Nat → pm_En := fun pc => (bif Nat.blt pc 26 then (bif Nat.blt pc 12 then (bif Nat.blt pc 5 then (bif Nat.blt pc 1 then ((.aload_n 0), 0, 0, 0) else (bif Nat.blt pc 2 then ((.iload_n 1), 0, 0, 0) else ((.invokevirtual 179), 109, 2, 1))) else (bif Nat.blt pc 6 then ((.aload_n 0), 0, 0, 0) else (bif Nat.blt pc 9 then ((.getfield 12), 8, 0, 0) else ((.getfield 172), 0, 2, 0)))) else (bif Nat.blt pc 20 then (bif Nat.blt pc 15 then ((.getfield 97), 6, 1, 0) else (bif Nat.blt pc 17 then ((.bipush 24), 0, 0, 0) else ((.if_icmp .lt 13), 30, 0, 0))) else (bif Nat.blt pc 23 then ((.new 101), 1, 0, 1) else (bif Nat.blt pc 24 then ((.dup), 0, 0, 0) else ((.ldc 182), 0, 0, 0))))) else (bif Nat.blt pc 38 then (bif Nat.blt pc 31 then (bif Nat.blt pc 29 then ((.invokespecial 105), 0, 0, 5) else (bif Nat.blt pc 30 then ((.athrow), 0, 0, 0) else ((.aload_n 0), 0, 0, 0))) else (bif Nat.blt pc 34 then ((.getfield 12), 8, 0, 0) else (bif Nat.blt pc 37 then ((.getfield 172), 0, 2, 0) else ((.iload_n 1), 0, 0, 0)))) else (bif Nat.blt pc 45 then (bif Nat.blt pc 41 then ((.invokevirtual 106), 39, 2, 11) else (bif Nat.blt pc 42 then ((.aload_n 0), 0, 0, 0) else ((.getfield 12), 8, 0, 0))) else (bif Nat.blt pc 48 then ((.getfield 172), 0, 2, 0) else (bif Nat.blt pc 51 then ((.getfield 97), 6, 1, 0) else ((.ireturn), 0, 0, 0))))))
/-- PatternLaboratory clearWord()I -/
def pm_t72 : Nat → pm_En := fun pc => (bif Nat.blt pc 11 then (bif Nat.blt pc 4 then (bif Nat.blt pc 1 then ((.aload_n 0), 0, 0, 0) else ((.getfield 12), 8, 0, 0)) else (bif Nat.blt pc 7 then ((.getfield 172), 0, 2, 0) else (bif Nat.blt pc 10 then ((.getfield 97), 6, 1, 0) else ((.istore_n 1), 0, 0, 0)))) else (bif Nat.blt pc 18 then (bif Nat.blt pc 12 then ((.aload_n 0), 0, 0, 0) else (bif Nat.blt pc 15 then ((.getfield 12), 8, 0, 0) else ((.getfield 172), 0, 2, 0))) else (bif Nat.blt pc 21 then ((.invokevirtual 110), 41, 1, 11) else (bif Nat.blt pc 22 then ((.iload_n 1), 0, 0, 0) else ((.ireturn), 0, 0, 0)))))
/-- PatternLaboratory wordLength()I -/
def pm_t73 : Nat → pm_En := fun pc => (bif Nat.blt pc 4 then (bif Nat.blt pc 1 then ((.aload_n 0), 0, 0, 0) else ((.getfield 12), 8, 0, 0)) else (bif Nat.blt pc 7 then ((.getfield 172), 0, 2, 0) else (bif Nat.blt pc 10 then ((.getfield 97), 6, 1, 0) else ((.ireturn), 0, 0, 0))))
/-- PatternLaboratory letter(I)I -/
def pm_t74 : Nat → pm_En := fun pc => (bif Nat.blt pc 18 then (bif Nat.blt pc 8 then (bif Nat.blt pc 4 then (bif Nat.blt pc 1 then ((.aload_n 0), 0, 0, 0) else ((.getfield 12), 8, 0, 0)) else (bif Nat.blt pc 7 then ((.getfield 172), 0, 2, 0) else ((.iload_n 1), 0, 0, 0))) else (bif Nat.blt pc 14 then (bif Nat.blt pc 11 then ((.invokevirtual 113), 36, 2, 11) else ((.ifCond .ne 13), 24, 0, 0)) else (bif Nat.blt pc 17 then ((.new 116), 2, 0, 1) else ((.dup), 0, 0, 0)))) else (bif Nat.blt pc 25 then (bif Nat.blt pc 23 then (bif Nat.blt pc 20 then ((.ldc 184), 0, 0, 0) else ((.invokespecial 120), 0, 0, 5)) else (bif Nat.blt pc 24 then ((.athrow), 0, 0, 0) else ((.aload_n 0), 0, 0, 0))) else (bif Nat.blt pc 31 then (bif Nat.blt pc 28 then ((.getfield 12), 8, 0, 0) else ((.getfield 172), 0, 2, 0)) else (bif Nat.blt pc 32 then ((.iload_n 1), 0, 0, 0) else (bif Nat.blt pc 35 then ((.invokevirtual 121), 37, 2, 11) else ((.ireturn), 0, 0, 0))))))
/-- PatternLaboratory density(I)F -/
def pm_t75 : Nat → pm_En := fun pc => (bif Nat.blt pc 28 then (bif Nat.blt pc 12 then (bif Nat.blt pc 5 then (bif Nat.blt pc 1 then ((.aload_n 0), 0, 0, 0) else (bif Nat.blt pc 2 then ((.iload_n 1), 0, 0, 0) else ((.invokevirtual 179), 109, 2, 1))) else (bif Nat.blt pc 6 then ((.aload_n 0), 0, 0, 0) else (bif Nat.blt pc 9 then ((.getfield 12), 8, 0, 0) else ((.getfield 172), 0, 2, 0)))) else (bif Nat.blt pc 21 then (bif Nat.blt pc 15 then ((.getfield 97), 6, 1, 0) else (bif Nat.blt pc 18 then ((.ifCond .ne 13), 28, 0, 0) else ((.new 186), 3, 0, 1))) else (bif Nat.blt pc 24 then (bif Nat.blt pc 22 then ((.dup), 0, 0, 0) else ((.ldc 188), 0, 0, 0)) else (bif Nat.blt pc 27 then ((.invokespecial 190), 0, 0, 5) else ((.athrow), 0, 0, 0))))) else (bif Nat.blt pc 40 then (bif Nat.blt pc 35 then (bif Nat.blt pc 29 then ((.aload_n 0), 0, 0, 0) else (bif Nat.blt pc 32 then ((.getfield 12), 8, 0, 0) else ((.getfield 172), 0, 2, 0))) else (bif Nat.blt pc 36 then ((.iload_n 1), 0, 0, 0) else (bif Nat.blt pc 39 then ((.invokevirtual 191), 50, 2, 11) else ((.i2f), 0, 0, 0)))) else (bif Nat.blt pc 47 then (bif Nat.blt pc 41 then ((.aload_n 0), 0, 0, 0) else (bif Nat.blt pc 44 then ((.getfield 12), 8, 0, 0) else ((.getfield 172), 0, 2, 0))) else (bif Nat.blt pc 51 then (bif Nat.blt pc 50 then ((.getfield 97), 6, 1, 0) else ((.i2f), 0, 0, 0)) else (bif Nat.blt pc 52 then ((.fdiv), 0, 0, 0) else ((.freturn), 0, 0, 0))))))
/-- PatternLaboratory discountedSum(D)D -/
def pm_t76 : Nat → pm_En := fun pc => (bif Nat.blt pc 38 then (bif Nat.blt pc 20 then (bif Nat.blt pc 9 then (bif Nat.blt pc 4 then (bif Nat.blt pc 1 then ((.dload_n 1), 0, 0, 0) else ((.ldc2_w 194), 13830554455654793216, 0, 0)) else (bif Nat.blt pc 5 then ((.dcmp .l), 0, 0, 0) else (bif Nat.blt pc 8 then ((.ifCond .lt 9), 14, 0, 0) else ((.dload_n 1), 0, 0, 0)))) else (bif Nat.blt pc 14 then (bif Nat.blt pc 10 then ((.dconst 1), 4607182418800017408, 0, 0) else (bif Nat.blt pc 11 then ((.dcmp .g), 0, 0, 0) else ((.ifCond .le 13), 24, 0, 0))) else (bif Nat.blt pc 17 then ((.new 87), 0, 0, 1) else (bif Nat.blt pc 18 then ((.dup), 0, 0, 0) else ((.ldc 196), 0, 0, 0))))) else (bif Nat.blt pc 27 then (bif Nat.blt pc 24 then (bif Nat.blt pc 23 then ((.invokespecial 91), 0, 0, 5) else ((.athrow), 0, 0, 0)) else (bif Nat.blt pc 25 then ((.dconst 0), 0, 0, 0) else (bif Nat.blt pc 26 then ((.dstore_n 3), 0, 0, 0) else ((.dconst 1), 4607182418800017408, 0, 0)))) else (bif Nat.blt pc 32 then (bif Nat.blt pc 29 then ((.dstore 5), 0, 0, 0) else (bif Nat.blt pc 30 then ((.iconst 0), 0, 0, 0) else ((.istore 7), 0, 0, 0))) else (bif Nat.blt pc 34 then ((.iload 7), 0, 0, 0) else (bif Nat.blt pc 35 then ((.aload_n 0), 0, 0, 0) else ((.getfield 12), 8, 0, 0)))))) else (bif Nat.blt pc 63 then (bif Nat.blt pc 49 then (bif Nat.blt pc 44 then (bif Nat.blt pc 41 then ((.getfield 172), 0, 2, 0) else ((.getfield 97), 6, 1, 0)) else (bif Nat.blt pc 47 then ((.if_icmp .ge 34), 78, 0, 0) else (bif Nat.blt pc 48 then ((.dload_n 3), 0, 0, 0) else ((.aload_n 0), 0, 0, 0)))) else (bif Nat.blt pc 57 then (bif Nat.blt pc 52 then ((.getfield 12), 8, 0, 0) else (bif Nat.blt pc 55 then ((.getfield 172), 0, 2, 0) else ((.iload 7), 0, 0, 0))) else (bif Nat.blt pc 60 then ((.invokevirtual 121), 37, 2, 11) else (bif Nat.blt pc 61 then ((.i2d), 0, 0, 0) else ((.dload 5), 0, 0, 0))))) else (bif Nat.blt pc 69 then (bif Nat.blt pc 65 then (bif Nat.blt pc 64 then ((.dmul), 0, 0, 0) else ((.dadd), 0, 0, 0)) else (bif Nat.blt pc 66 then ((.dstore_n 3), 0, 0, 0) else (bif Nat.blt pc 68 then ((.dload 5), 0, 0, 0) else ((.dload_n 1), 0, 0, 0)))) else (bif Nat.blt pc 75 then (bif Nat.blt pc 70 then ((.dmul), 0, 0, 0) else (bif Nat.blt pc 72 then ((.dstore 5), 0, 0, 0) else ((.iinc 7 1), 0, 0, 0))) else (bif Nat.blt pc 78 then ((.goto (-43)), 32, 0, 0) else (bif Nat.blt pc 79 then ((.dload_n 3), 0, 0, 0) else ((.dreturn), 0, 0, 0)))))))
/-- PatternLaboratory greatestExponent()D -/
def pm_t77 : Nat → pm_En := fun pc => (bif Nat.blt pc 19 then (bif Nat.blt pc 8 then (bif Nat.blt pc 4 then (bif Nat.blt pc 1 then ((.aload_n 0), 0, 0, 0) else ((.invokevirtual 198), 111, 1, 1)) else (bif Nat.blt pc 5 then ((.aload_n 0), 0, 0, 0) else ((.getfield 65), 8, 9, 0))) else (bif Nat.blt pc 12 then (bif Nat.blt pc 9 then ((.aload_n 0), 0, 0, 0) else ((.getfield 12), 8, 0, 0)) else (bif Nat.blt pc 15 then ((.getfield 172), 0, 2, 0) else (bif Nat.blt pc 18 then ((.invokevirtual 201), 34, 2, 11) else ((.aload_n 0), 0, 0, 0))))) else (bif Nat.blt pc 27 then (bif Nat.blt pc 25 then (bif Nat.blt pc 22 then ((.getfield 65), 8, 9, 0) else ((.getfield 204), 5, 1, 0)) else (bif Nat.blt pc 26 then ((.i2d), 0, 0, 0) else ((.aload_n 0), 0, 0, 0))) else (bif Nat.blt pc 33 then (bif Nat.blt pc 30 then ((.getfield 65), 8, 9, 0) else ((.getfield 207), 5, 2, 0)) else (bif Nat.blt pc 34 then ((.i2d), 0, 0, 0) else (bif Nat.blt pc 35 then ((.ddiv), 0, 0, 0) else ((.dreturn), 0, 0, 0))))))
/-- PatternLaboratory strongestFactor(I)I -/
def pm_t78 : Nat → pm_En := fun pc => (bif Nat.blt pc 34 then (bif Nat.blt pc 15 then (bif Nat.blt pc 6 then (bif Nat.blt pc 4 then (bif Nat.blt pc 1 then ((.iload_n 1), 0, 0, 0) else ((.ifCond .lt 8), 9, 0, 0)) else (bif Nat.blt pc 5 then ((.iload_n 1), 0, 0, 0) else ((.iconst 2), 0, 0, 0))) else (bif Nat.blt pc 12 then (bif Nat.blt pc 9 then ((.if_icmp .le 13), 19, 0, 0) else ((.new 87), 0, 0, 1)) else (bif Nat.blt pc 13 then ((.dup), 0, 0, 0) else ((.ldc 210), 0, 0, 0)))) else (bif Nat.blt pc 23 then (bif Nat.blt pc 19 then (bif Nat.blt pc 18 then ((.invokespecial 91), 0, 0, 5) else ((.athrow), 0, 0, 0)) else (bif Nat.blt pc 20 then ((.aload_n 0), 0, 0, 0) else ((.invokevirtual 198), 111, 1, 1))) else (bif Nat.blt pc 27 then (bif Nat.blt pc 24 then ((.aload_n 0), 0, 0, 0) else ((.getfield 65), 8, 9, 0)) else (bif Nat.blt pc 28 then ((.aload_n 0), 0, 0, 0) else (bif Nat.blt pc 31 then ((.getfield 12), 8, 0, 0) else ((.getfield 172), 0, 2, 0)))))) else (bif Nat.blt pc 53 then (bif Nat.blt pc 42 then (bif Nat.blt pc 38 then (bif Nat.blt pc 37 then ((.invokevirtual 201), 34, 2, 11) else ((.iload_n 1), 0, 0, 0)) else (bif Nat.blt pc 41 then ((.ifCond .ne 13), 51, 0, 0) else ((.aload_n 0), 0, 0, 0))) else (bif Nat.blt pc 48 then (bif Nat.blt pc 45 then ((.getfield 65), 8, 9, 0) else ((.getfield 212), 5, 0, 0)) else (bif Nat.blt pc 51 then ((.goto 25), 73, 0, 0) else (bif Nat.blt pc 52 then ((.iload_n 1), 0, 0, 0) else ((.iconst 1), 0, 0, 0))))) else (bif Nat.blt pc 63 then (bif Nat.blt pc 57 then (bif Nat.blt pc 56 then ((.if_icmp .ne 13), 66, 0, 0) else ((.aload_n 0), 0, 0, 0)) else (bif Nat.blt pc 60 then ((.getfield 65), 8, 9, 0) else ((.getfield 204), 5, 1, 0))) else (bif Nat.blt pc 67 then (bif Nat.blt pc 66 then ((.goto 10), 73, 0, 0) else ((.aload_n 0), 0, 0, 0)) else (bif Nat.blt pc 70 then ((.getfield 65), 8, 9, 0) else (bif Nat.blt pc 73 then ((.getfield 207), 5, 2, 0) else ((.ireturn), 0, 0, 0)))))))
/-- PatternLaboratory avoids()Z -/
def pm_t79 : Nat → pm_En := fun pc => (bif Nat.blt pc 13 then (bif Nat.blt pc 5 then (bif Nat.blt pc 1 then ((.aload_n 0), 0, 0, 0) else (bif Nat.blt pc 4 then ((.invokevirtual 146), 110, 1, 1) else ((.aload_n 0), 0, 0, 0))) else (bif Nat.blt pc 9 then (bif Nat.blt pc 6 then ((.aload_n 0), 0, 0, 0) else ((.getfield 12), 8, 0, 0)) else (bif Nat.blt pc 12 then ((.getfield 94), 0, 1, 0) else ((.aload_n 0), 0, 0, 0)))) else (bif Nat.blt pc 25 then (bif Nat.blt pc 19 then (bif Nat.blt pc 16 then ((.getfield 12), 8, 0, 0) else ((.getfield 172), 0, 2, 0)) else (bif Nat.blt pc 22 then ((.invokevirtual 149), 117, 3, 1) else ((.ifCond .ne 7), 29, 0, 0))) else (bif Nat.blt pc 29 then (bif Nat.blt pc 26 then ((.iconst 1), 0, 0, 0) else ((.goto 4), 30, 0, 0)) else (bif Nat.blt pc 30 then ((.iconst 0), 0, 0, 0) else ((.ireturn), 1, 0, 0)))))
/-- PatternLaboratory findOccurrence()I -/
def pm_t80 : Nat → pm_En := fun pc => (bif Nat.blt pc 36 then (bif Nat.blt pc 18 then (bif Nat.blt pc 8 then (bif Nat.blt pc 4 then (bif Nat.blt pc 1 then ((.aload_n 0), 0, 0, 0) else ((.invokevirtual 146), 110, 1, 1)) else (bif Nat.blt pc 5 then ((.aload_n 0), 0, 0, 0) else ((.getfield 44), 8, 6, 0))) else (bif Nat.blt pc 12 then (bif Nat.blt pc 9 then ((.aload_n 0), 0, 0, 0) else ((.getfield 12), 8, 0, 0)) else (bif Nat.blt pc 15 then ((.getfield 94), 0, 1, 0) else ((.invokevirtual 215), 3, 2, 11)))) else (bif Nat.blt pc 26 then (bif Nat.blt pc 22 then (bif Nat.blt pc 19 then ((.aload_n 0), 0, 0, 0) else ((.getfield 44), 8, 6, 0)) else (bif Nat.blt pc 23 then ((.aload_n 0), 0, 0, 0) else ((.getfield 12), 8, 0, 0))) else (bif Nat.blt pc 32 then (bif Nat.blt pc 29 then ((.getfield 172), 0, 2, 0) else ((.invokevirtual 218), 5, 2, 11)) else (bif Nat.blt pc 33 then ((.aload_n 0), 0, 0, 0) else ((.getfield 44), 8, 6, 0))))) else (bif Nat.blt pc 53 then (bif Nat.blt pc 44 then (bif Nat.blt pc 40 then (bif Nat.blt pc 39 then ((.invokevirtual 221), 6, 1, 11) else ((.istore_n 1), 0, 0, 0)) else (bif Nat.blt pc 41 then ((.iload_n 1), 0, 0, 0) else ((.ifCond .ge 13), 54, 0, 0))) else (bif Nat.blt pc 48 then (bif Nat.blt pc 47 then ((.new 224), 5, 0, 1) else ((.dup), 0, 0, 0)) else (bif Nat.blt pc 50 then ((.ldc 226), 0, 0, 0) else ((.invokespecial 228), 0, 0, 5)))) else (bif Nat.blt pc 59 then (bif Nat.blt pc 55 then (bif Nat.blt pc 54 then ((.athrow), 0, 0, 0) else ((.aload_n 0), 0, 0, 0)) else (bif Nat.blt pc 58 then ((.getfield 37), 8, 5, 0) else ((.aload_n 0), 0, 0, 0))) else (bif Nat.blt pc 65 then (bif Nat.blt pc 62 then ((.getfield 44), 8, 6, 0) else ((.invokevirtual 229), 22, 2, 11)) else (bif Nat.blt pc 66 then ((.iload_n 1), 0, 0, 0) else ((.ireturn), 0, 0, 0))))))
/-- PatternLaboratory imageLength(I)I -/
def pm_t81 : Nat → pm_En := fun pc => (bif Nat.blt pc 9 then (bif Nat.blt pc 2 then (bif Nat.blt pc 1 then ((.aload_n 0), 0, 0, 0) else ((.iload_n 1), 0, 0, 0)) else (bif Nat.blt pc 5 then ((.invokevirtual 233), 112, 2, 1) else (bif Nat.blt pc 6 then ((.aload_n 0), 0, 0, 0) else ((.getfield 37), 8, 5, 0)))) else (bif Nat.blt pc 13 then (bif Nat.blt pc 12 then ((.getfield 236), 3, 1, 0) else ((.iload_n 1), 0, 0, 0)) else (bif Nat.blt pc 14 then ((.aaload), 0, 0, 0) else (bif Nat.blt pc 17 then ((.getfield 97), 6, 1, 0) else ((.ireturn), 0, 0, 0)))))
/-- PatternLaboratory imageLetter(II)I -/
def pm_t82 : Nat → pm_En := fun pc => (bif Nat.blt pc 24 then (bif Nat.blt pc 12 then (bif Nat.blt pc 5 then (bif Nat.blt pc 1 then ((.aload_n 0), 0, 0, 0) else (bif Nat.blt pc 2 then ((.iload_n 1), 0, 0, 0) else ((.invokevirtual 233), 112, 2, 1))) else (bif Nat.blt pc 6 then ((.aload_n 0), 0, 0, 0) else (bif Nat.blt pc 9 then ((.getfield 37), 8, 5, 0) else ((.getfield 236), 3, 1, 0)))) else (bif Nat.blt pc 15 then (bif Nat.blt pc 13 then ((.iload_n 1), 0, 0, 0) else (bif Nat.blt pc 14 then ((.aaload), 0, 0, 0) else ((.iload_n 2), 0, 0, 0))) else (bif Nat.blt pc 18 then ((.invokevirtual 113), 36, 2, 11) else (bif Nat.blt pc 21 then ((.ifCond .ne 13), 31, 0, 0) else ((.new 116), 2, 0, 1))))) else (bif Nat.blt pc 35 then (bif Nat.blt pc 30 then (bif Nat.blt pc 25 then ((.dup), 0, 0, 0) else (bif Nat.blt pc 27 then ((.ldc 239), 0, 0, 0) else ((.invokespecial 120), 0, 0, 5))) else (bif Nat.blt pc 31 then ((.athrow), 0, 0, 0) else (bif Nat.blt pc 32 then ((.aload_n 0), 0, 0, 0) else ((.getfield 37), 8, 5, 0)))) else (bif Nat.blt pc 40 then (bif Nat.blt pc 38 then ((.getfield 236), 3, 1, 0) else (bif Nat.blt pc 39 then ((.iload_n 1), 0, 0, 0) else ((.aaload), 0, 0, 0))) else (bif Nat.blt pc 41 then ((.iload_n 2), 0, 0, 0) else (bif Nat.blt pc 44 then ((.invokevirtual 121), 37, 2, 11) else ((.ireturn), 0, 0, 0))))))
/-- PatternLaboratory occurrenceCount()I -/
def pm_t83 : Nat → pm_En := fun pc => (bif Nat.blt pc 19 then (bif Nat.blt pc 8 then (bif Nat.blt pc 4 then (bif Nat.blt pc 1 then ((.aload_n 0), 0, 0, 0) else ((.invokevirtual 146), 110, 1, 1)) else (bif Nat.blt pc 5 then ((.aload_n 0), 0, 0, 0) else ((.getfield 44), 8, 6, 0))) else (bif Nat.blt pc 12 then (bif Nat.blt pc 9 then ((.aload_n 0), 0, 0, 0) else ((.getfield 12), 8, 0, 0)) else (bif Nat.blt pc 15 then ((.getfield 94), 0, 1, 0) else (bif Nat.blt pc 18 then ((.invokevirtual 215), 3, 2, 11) else ((.aload_n 0), 0, 0, 0))))) else (bif Nat.blt pc 29 then (bif Nat.blt pc 23 then (bif Nat.blt pc 22 then ((.getfield 44), 8, 6, 0) else ((.aload_n 0), 0, 0, 0)) else (bif Nat.blt pc 26 then ((.getfield 12), 8, 0, 0) else ((.getfield 172), 0, 2, 0))) else (bif Nat.blt pc 33 then (bif Nat.blt pc 32 then ((.invokevirtual 218), 5, 2, 11) else ((.aload_n 0), 0, 0, 0)) else (bif Nat.blt pc 36 then ((.getfield 44), 8, 6, 0) else (bif Nat.blt pc 39 then ((.invokevirtual 241), 8, 1, 11) else ((.ireturn), 0, 0, 0))))))
/-- PatternLaboratory areConnected(II)Z -/
def pm_t84 : Nat → pm_En := fun pc => (bif Nat.blt pc 38 then (bif Nat.blt pc 19 then (bif Nat.blt pc 10 then (bif Nat.blt pc 4 then (bif Nat.blt pc 1 then ((.aload_n 0), 0, 0, 0) else ((.getfield 12), 8, 0, 0)) else (bif Nat.blt pc 7 then ((.getfield 94), 0, 1, 0) else ((.invokevirtual 125), 51, 1, 11))) else (bif Nat.blt pc 12 then (bif Nat.blt pc 11 then ((.istore_n 3), 0, 0, 0) else ((.iload_n 1), 0, 0, 0)) else (bif Nat.blt pc 15 then ((.invokestatic 83), 104, 1, 0) else (bif Nat.blt pc 18 then ((.ifCond .eq 26), 41, 0, 0) else ((.iload_n 2), 0, 0, 0))))) else (bif Nat.blt pc 27 then (bif Nat.blt pc 25 then (bif Nat.blt pc 22 then ((.invokestatic 83), 104, 1, 0) else ((.ifCond .eq 19), 41, 0, 0)) else (bif Nat.blt pc 26 then ((.iload_n 3), 0, 0, 0) else ((.iload_n 1), 0, 0, 0))) else (bif Nat.blt pc 33 then (bif Nat.blt pc 30 then ((.invokestatic 244), 105, 2, 0) else ((.ifCond .eq 11), 41, 0, 0)) else (bif Nat.blt pc 34 then ((.iload_n 3), 0, 0, 0) else (bif Nat.blt pc 35 then ((.iload_n 2), 0, 0, 0) else ((.invokestatic 244), 105, 2, 0)))))) else (bif Nat.blt pc 56 then (bif Nat.blt pc 47 then (bif Nat.blt pc 44 then (bif Nat.blt pc 41 then ((.ifCond .ne 13), 51, 0, 0) else ((.new 87), 0, 0, 1)) else (bif Nat.blt pc 45 then ((.dup), 0, 0, 0) else ((.ldc 248), 0, 0, 0))) else (bif Nat.blt pc 51 then (bif Nat.blt pc 50 then ((.invokespecial 91), 0, 0, 5) else ((.athrow), 0, 0, 0)) else (bif Nat.blt pc 52 then ((.aload_n 0), 0, 0, 0) else (bif Nat.blt pc 55 then ((.getfield 58), 8, 8, 0) else ((.aload_n 0), 0, 0, 0))))) else (bif Nat.blt pc 67 then (bif Nat.blt pc 62 then (bif Nat.blt pc 59 then ((.getfield 12), 8, 0, 0) else ((.getfield 94), 0, 1, 0)) else (bif Nat.blt pc 63 then ((.iload_n 3), 0, 0, 0) else (bif Nat.blt pc 66 then ((.invokevirtual 250), 24, 3, 11) else ((.aload_n 0), 0, 0, 0)))) else (bif Nat.blt pc 71 then (bif Nat.blt pc 70 then ((.getfield 58), 8, 8, 0) else ((.iload_n 1), 0, 0, 0)) else (bif Nat.blt pc 72 then ((.iload_n 2), 0, 0, 0) else (bif Nat.blt pc 75 then ((.invokevirtual 254), 26, 3, 11) else ((.ireturn), 1, 0, 0)))))))
/-- PatternLaboratory isFree(I)Z -/
def pm_t85 : Nat → pm_En := fun pc => (bif Nat.blt pc 17 then (bif Nat.blt pc 6 then (bif Nat.blt pc 2 then (bif Nat.blt pc 1 then ((.aload_n 0), 0, 0, 0) else ((.iload_n 1), 0, 0, 0)) else (bif Nat.blt pc 5 then ((.invokevirtual 257), 113, 2, 1) else ((.aload_n 0), 0, 0, 0))) else (bif Nat.blt pc 10 then (bif Nat.blt pc 9 then ((.getfield 58), 8, 8, 0) else ((.aload_n 0), 0, 0, 0)) else (bif Nat.blt pc 13 then ((.getfield 12), 8, 0, 0) else (bif Nat.blt pc 16 then ((.getfield 94), 0, 1, 0) else ((.aload_n 0), 0, 0, 0))))) else (bif Nat.blt pc 29 then (bif Nat.blt pc 23 then (bif Nat.blt pc 20 then ((.getfield 12), 8, 0, 0) else ((.getfield 94), 0, 1, 0)) else (bif Nat.blt pc 26 then ((.invokevirtual 125), 51, 1, 11) else ((.invokevirtual 250), 24, 3, 11))) else (bif Nat.blt pc 33 then (bif Nat.blt pc 30 then ((.aload_n 0), 0, 0, 0) else ((.getfield 58), 8, 8, 0)) else (bif Nat.blt pc 34 then ((.iload_n 1), 0, 0, 0) else (bif Nat.blt pc 37 then ((.invokevirtual 260), 27, 2, 11) else ((.ireturn), 1, 0, 0))))))
/-- PatternLaboratory freeSetCount()I -/
def pm_t86 : Nat → pm_En := fun pc => (bif Nat.blt pc 5 then (bif Nat.blt pc 1 then ((.aload_n 0), 0, 0, 0) else (bif Nat.blt pc 4 then ((.getfield 58), 8, 8, 0) else ((.aload_n 0), 0, 0, 0))) else (bif Nat.blt pc 11 then (bif Nat.blt pc 8 then ((.getfield 12), 8, 0, 0) else ((.getfield 94), 0, 1, 0)) else (bif Nat.blt pc 14 then ((.invokevirtual 263), 28, 2, 11) else ((.ireturn), 0, 0, 0))))
/-- PatternLaboratory freeSet(I)I -/
def pm_t87 : Nat → pm_En := fun pc => (bif Nat.blt pc 16 then (bif Nat.blt pc 8 then (bif Nat.blt pc 4 then (bif Nat.blt pc 1 then ((.aload_n 0), 0, 0, 0) else ((.getfield 58), 8, 8, 0)) else (bif Nat.blt pc 5 then ((.aload_n 0), 0, 0, 0) else ((.getfield 12), 8, 0, 0))) else (bif Nat.blt pc 12 then (bif Nat.blt pc 11 then ((.getfield 94), 0, 1, 0) else ((.iload_n 1), 0, 0, 0)) else (bif Nat.blt pc 15 then ((.invokevirtual 267), 29, 3, 11) else ((.istore_n 2), 0, 0, 0)))) else (bif Nat.blt pc 24 then (bif Nat.blt pc 20 then (bif Nat.blt pc 17 then ((.iload_n 2), 0, 0, 0) else ((.ifCond .ne 14), 31, 0, 0)) else (bif Nat.blt pc 23 then ((.new 116), 2, 0, 1) else ((.dup), 0, 0, 0))) else (bif Nat.blt pc 30 then (bif Nat.blt pc 27 then ((.ldc_w 271), 0, 0, 0) else ((.invokespecial 120), 0, 0, 5)) else (bif Nat.blt pc 31 then ((.athrow), 0, 0, 0) else (bif Nat.blt pc 32 then ((.iload_n 2), 0, 0, 0) else ((.ireturn), 0, 0, 0))))))
/-- PatternLaboratory delete(I)I -/
def pm_t88 : Nat → pm_En := fun pc => (bif Nat.blt pc 34 then (bif Nat.blt pc 16 then (bif Nat.blt pc 6 then (bif Nat.blt pc 2 then (bif Nat.blt pc 1 then ((.aload_n 0), 0, 0, 0) else ((.iload_n 1), 0, 0, 0)) else (bif Nat.blt pc 5 then ((.invokevirtual 257), 113, 2, 1) else ((.aload_n 0), 0, 0, 0))) else (bif Nat.blt pc 10 then (bif Nat.blt pc 9 then ((.getfield 58), 8, 8, 0) else ((.aload_n 0), 0, 0, 0)) else (bif Nat.blt pc 13 then ((.getfield 12), 8, 0, 0) else ((.getfield 94), 0, 1, 0)))) else (bif Nat.blt pc 26 then (bif Nat.blt pc 20 then (bif Nat.blt pc 17 then ((.aload_n 0), 0, 0, 0) else ((.getfield 12), 8, 0, 0)) else (bif Nat.blt pc 23 then ((.getfield 94), 0, 1, 0) else ((.invokevirtual 125), 51, 1, 11))) else (bif Nat.blt pc 30 then (bif Nat.blt pc 29 then ((.invokevirtual 250), 24, 3, 11) else ((.aload_n 0), 0, 0, 0)) else (bif Nat.blt pc 33 then ((.getfield 58), 8, 8, 0) else ((.iload_n 1), 0, 0, 0))))) else (bif Nat.blt pc 52 then (bif Nat.blt pc 44 then (bif Nat.blt pc 40 then (bif Nat.blt pc 37 then ((.invokevirtual 260), 27, 2, 11) else ((.ifCond .ne 14), 51, 0, 0)) else (bif Nat.blt pc 43 then ((.new 101), 1, 0, 1) else ((.dup), 0, 0, 0))) else (bif Nat.blt pc 50 then (bif Nat.blt pc 47 then ((.ldc_w 273), 0, 0, 0) else ((.invokespecial 105), 0, 0, 5)) else (bif Nat.blt pc 51 then ((.athrow), 0, 0, 0) else ((.aload_n 0), 0, 0, 0)))) else (bif Nat.blt pc 62 then (bif Nat.blt pc 58 then (bif Nat.blt pc 55 then ((.getfield 12), 8, 0, 0) else ((.getfield 94), 0, 1, 0)) else (bif Nat.blt pc 59 then ((.iload_n 1), 0, 0, 0) else ((.invokevirtual 275), 47, 2, 11))) else (bif Nat.blt pc 66 then (bif Nat.blt pc 63 then ((.aload_n 0), 0, 0, 0) else ((.getfield 12), 8, 0, 0)) else (bif Nat.blt pc 69 then ((.getfield 94), 0, 1, 0) else (bif Nat.blt pc 72 then ((.getfield 97), 6, 1, 0) else ((.ireturn), 0, 0, 0)))))))
/-- PatternLaboratory isUnavoidable()Z -/
def pm_t89 : Nat → pm_En := fun pc => (bif Nat.blt pc 14 then (bif Nat.blt pc 5 then (bif Nat.blt pc 1 then ((.aload_n 0), 0, 0, 0) else (bif Nat.blt pc 4 then ((.getfield 58), 8, 8, 0) else ((.aload_n 0), 0, 0, 0))) else (bif Nat.blt pc 8 then ((.getfield 12), 8, 0, 0) else (bif Nat.blt pc 11 then ((.getfield 94), 0, 1, 0) else ((.invokevirtual 278), 30, 2, 11)))) else (bif Nat.blt pc 20 then (bif Nat.blt pc 16 then ((.bipush 100), 0, 0, 0) else (bif Nat.blt pc 19 then ((.if_icmp .ge 7), 23, 0, 0) else ((.iconst 1), 0, 0, 0))) else (bif Nat.blt pc 23 then ((.goto 4), 24, 0, 0) else (bif Nat.blt pc 24 then ((.iconst 0), 0, 0, 0) else ((.ireturn), 1, 0, 0)))))
/-- PatternLaboratory reductionLength()I -/
def pm_t90 : Nat → pm_En := fun pc => (bif Nat.blt pc 1 then ((.aload_n 0), 0, 0, 0) else (bif Nat.blt pc 4 then ((.invokevirtual 281), 114, 1, 1) else ((.ireturn), 0, 0, 0)))
/-- PatternLaboratory reductionSet(I)I -/
def pm_t91 : Nat → pm_En := fun pc => (bif Nat.blt pc 21 then (bif Nat.blt pc 9 then (bif Nat.blt pc 4 then (bif Nat.blt pc 1 then ((.aload_n 0), 0, 0, 0) else ((.invokevirtual 281), 114, 1, 1)) else (bif Nat.blt pc 5 then ((.istore_n 2), 0, 0, 0) else (bif Nat.blt pc 6 then ((.iload_n 1), 0, 0, 0) else ((.ifCond .lt 8), 14, 0, 0)))) else (bif Nat.blt pc 14 then (bif Nat.blt pc 10 then ((.iload_n 1), 0, 0, 0) else (bif Nat.blt pc 11 then ((.iload_n 2), 0, 0, 0) else ((.if_icmp .lt 14), 25, 0, 0))) else (bif Nat.blt pc 17 then ((.new 116), 2, 0, 1) else (bif Nat.blt pc 18 then ((.dup), 0, 0, 0) else ((.ldc_w 284), 0, 0, 0))))) else (bif Nat.blt pc 30 then (bif Nat.blt pc 25 then (bif Nat.blt pc 24 then ((.invokespecial 120), 0, 0, 5) else ((.athrow), 0, 0, 0)) else (bif Nat.blt pc 26 then ((.aload_n 0), 0, 0, 0) else (bif Nat.blt pc 29 then ((.getfield 58), 8, 8, 0) else ((.aload_n 0), 0, 0, 0)))) else (bif Nat.blt pc 39 then (bif Nat.blt pc 33 then ((.getfield 12), 8, 0, 0) else (bif Nat.blt pc 36 then ((.getfield 94), 0, 1, 0) else ((.invokevirtual 125), 51, 1, 11))) else (bif Nat.blt pc 40 then ((.iload_n 1), 0, 0, 0) else (bif Nat.blt pc 43 then ((.invokevirtual 286), 32, 3, 11) else ((.ireturn), 0, 0, 0))))))
/-- PatternLaboratory extend(I)I -/
def pm_t92 : Nat → pm_En := fun pc => (bif Nat.blt pc 100 then (bif Nat.blt pc 50 then (bif Nat.blt pc 24 then (bif Nat.blt pc 11 then (bif Nat.blt pc 2 then (bif Nat.blt pc 1 then ((.iload_n 1), 0, 0, 0) else ((.aload_n 0), 0, 0, 0)) else (bif Nat.blt pc 5 then ((.getfield 12), 8, 0, 0) else (bif Nat.blt pc 8 then ((.getfield 172), 0, 2, 0) else ((.getfield 97), 6, 1, 0)))) else (bif Nat.blt pc 17 then (bif Nat.blt pc 14 then ((.if_icmp .lt 9), 20, 0, 0) else (bif Nat.blt pc 15 then ((.iload_n 1), 0, 0, 0) else ((.bipush 24), 0, 0, 0))) else (bif Nat.blt pc 20 then ((.if_icmp .le 14), 31, 0, 0) else (bif Nat.blt pc 23 then ((.new 87), 0, 0, 1) else ((.dup), 0, 0, 0))))) else (bif Nat.blt pc 36 then (bif Nat.blt pc 31 then (bif Nat.blt pc 27 then ((.ldc_w 290), 0, 0, 0) else (bif Nat.blt pc 30 then ((.invokespecial 91), 0, 0, 5) else ((.athrow), 0, 0, 0))) else (bif Nat.blt pc 32 then ((.aload_n 0), 0, 0, 0) else (bif Nat.blt pc 35 then ((.invokevirtual 146), 110, 1, 1) else ((.aload_n 0), 0, 0, 0)))) else (bif Nat.blt pc 43 then (bif Nat.blt pc 37 then ((.aload_n 0), 0, 0, 0) else (bif Nat.blt pc 40 then ((.getfield 12), 8, 0, 0) else ((.getfield 94), 0, 1, 0))) else (bif Nat.blt pc 44 then ((.aload_n 0), 0, 0, 0) else (bif Nat.blt pc 47 then ((.getfield 12), 8, 0, 0) else ((.getfield 172), 0, 2, 0)))))) else (bif Nat.blt pc 78 then (bif Nat.blt pc 66 then (bif Nat.blt pc 59 then (bif Nat.blt pc 53 then ((.invokevirtual 149), 117, 3, 1) else (bif Nat.blt pc 56 then ((.ifCond .eq 14), 67, 0, 0) else ((.new 224), 5, 0, 1))) else (bif Nat.blt pc 60 then ((.dup), 0, 0, 0) else (bif Nat.blt pc 63 then ((.ldc_w 292), 0, 0, 0) else ((.invokespecial 228), 0, 0, 5)))) else (bif Nat.blt pc 71 then (bif Nat.blt pc 67 then ((.athrow), 0, 0, 0) else (bif Nat.blt pc 68 then ((.aload_n 0), 0, 0, 0) else ((.getfield 51), 8, 7, 0))) else (bif Nat.blt pc 72 then ((.aload_n 0), 0, 0, 0) else (bif Nat.blt pc 75 then ((.getfield 12), 8, 0, 0) else ((.getfield 94), 0, 1, 0))))) else (bif Nat.blt pc 92 then (bif Nat.blt pc 85 then (bif Nat.blt pc 79 then ((.aload_n 0), 0, 0, 0) else (bif Nat.blt pc 82 then ((.getfield 12), 8, 0, 0) else ((.getfield 169), 0, 0, 0))) else (bif Nat.blt pc 86 then ((.aload_n 0), 0, 0, 0) else (bif Nat.blt pc 89 then ((.getfield 12), 8, 0, 0) else ((.getfield 172), 0, 2, 0)))) else (bif Nat.blt pc 97 then (bif Nat.blt pc 95 then ((.invokevirtual 294), 53, 4, 11) else (bif Nat.blt pc 96 then ((.iconst 1), 0, 0, 0) else ((.istore_n 2), 0, 0, 0))) else (bif Nat.blt pc 98 then ((.iconst 0), 0, 0, 0) else (bif Nat.blt pc 99 then ((.istore_n 3), 0, 0, 0) else ((.iload_n 3), 0, 0, 0))))))) else (bif Nat.blt pc 156 then (bif Nat.blt pc 128 then (bif Nat.blt pc 114 then (bif Nat.blt pc 107 then (bif Nat.blt pc 103 then ((.sipush 1500), 0, 0, 0) else (bif Nat.blt pc 106 then ((.if_icmp .gt 36), 139, 0, 0) else ((.iload_n 2), 0, 0, 0))) else (bif Nat.blt pc 110 then ((.ifCond .eq 32), 139, 0, 0) else (bif Nat.blt pc 111 then ((.aload_n 0), 0, 0, 0) else ((.getfield 51), 8, 7, 0)))) else (bif Nat.blt pc 121 then (bif Nat.blt pc 117 then ((.getfield 298), 7, 2, 0) else (bif Nat.blt pc 120 then ((.getfield 97), 6, 1, 0) else ((.iload_n 1), 0, 0, 0))) else (bif Nat.blt pc 124 then ((.if_icmp .ge 18), 139, 0, 0) else (bif Nat.blt pc 125 then ((.aload_n 0), 0, 0, 0) else ((.getfield 51), 8, 7, 0))))) else (bif Nat.blt pc 140 then (bif Nat.blt pc 133 then (bif Nat.blt pc 129 then ((.iload_n 1), 0, 0, 0) else (bif Nat.blt pc 132 then ((.invokevirtual 299), 55, 2, 11) else ((.istore_n 2), 0, 0, 0))) else (bif Nat.blt pc 136 then ((.iinc 3 1), 0, 0, 0) else (bif Nat.blt pc 139 then ((.goto (-37)), 99, 0, 0) else ((.aload_n 0), 0, 0, 0)))) else (bif Nat.blt pc 149 then (bif Nat.blt pc 143 then ((.getfield 51), 8, 7, 0) else (bif Nat.blt pc 146 then ((.getfield 302), 7, 6, 1) else ((.ifCond .eq 14), 160, 0, 0))) else (bif Nat.blt pc 152 then ((.new 305), 4, 0, 1) else (bif Nat.blt pc 153 then ((.dup), 0, 0, 0) else ((.ldc_w 307), 0, 0, 0)))))) else (bif Nat.blt pc 184 then (bif Nat.blt pc 170 then (bif Nat.blt pc 161 then (bif Nat.blt pc 159 then ((.invokespecial 309), 0, 0, 5) else (bif Nat.blt pc 160 then ((.athrow), 0, 0, 0) else ((.aload_n 0), 0, 0, 0))) else (bif Nat.blt pc 164 then ((.getfield 51), 8, 7, 0) else (bif Nat.blt pc 167 then ((.getfield 298), 7, 2, 0) else ((.getfield 97), 6, 1, 0)))) else (bif Nat.blt pc 177 then (bif Nat.blt pc 171 then ((.iload_n 1), 0, 0, 0) else (bif Nat.blt pc 174 then ((.if_icmp .ge 14), 185, 0, 0) else ((.new 224), 5, 0, 1))) else (bif Nat.blt pc 178 then ((.dup), 0, 0, 0) else (bif Nat.blt pc 181 then ((.ldc_w 310), 0, 0, 0) else ((.invokespecial 228), 0, 0, 5))))) else (bif Nat.blt pc 196 then (bif Nat.blt pc 189 then (bif Nat.blt pc 185 then ((.athrow), 0, 0, 0) else (bif Nat.blt pc 186 then ((.aload_n 0), 0, 0, 0) else ((.getfield 12), 8, 0, 0))) else (bif Nat.blt pc 192 then ((.getfield 172), 0, 2, 0) else (bif Nat.blt pc 193 then ((.aload_n 0), 0, 0, 0) else ((.getfield 51), 8, 7, 0)))) else (bif Nat.blt pc 203 then (bif Nat.blt pc 199 then ((.getfield 298), 7, 2, 0) else (bif Nat.blt pc 202 then ((.invokevirtual 156), 42, 2, 11) else ((.aload_n 0), 0, 0, 0))) else (bif Nat.blt pc 206 then ((.getfield 51), 8, 7, 0) else (bif Nat.blt pc 209 then ((.getfield 312), 7, 5, 0) else ((.ireturn), 0, 0, 0))))))))
/-- PatternLaboratory longestAvoiding(I)I -/
def pm_t93 : Nat → pm_En := fun pc => (bif Nat.blt pc 41 then (bif Nat.blt pc 22 then (bif Nat.blt pc 8 then (bif Nat.blt pc 2 then (bif Nat.blt pc 1 then ((.iload_n 1), 0, 0, 0) else ((.iconst 1), 0, 0, 0)) else (bif Nat.blt pc 5 then ((.if_icmp .lt 9), 11, 0, 0) else (bif Nat.blt pc 6 then ((.iload_n 1), 0, 0, 0) else ((.bipush 20), 0, 0, 0)))) else (bif Nat.blt pc 15 then (bif Nat.blt pc 11 then ((.if_icmp .le 14), 22, 0, 0) else (bif Nat.blt pc 14 then ((.new 87), 0, 0, 1) else ((.dup), 0, 0, 0))) else (bif Nat.blt pc 18 then ((.ldc_w 315), 0, 0, 0) else (bif Nat.blt pc 21 then ((.invokespecial 91), 0, 0, 5) else ((.athrow), 0, 0, 0))))) else (bif Nat.blt pc 31 then (bif Nat.blt pc 26 then (bif Nat.blt pc 23 then ((.aload_n 0), 0, 0, 0) else ((.invokevirtual 146), 110, 1, 1)) else (bif Nat.blt pc 27 then ((.aload_n 0), 0, 0, 0) else (bif Nat.blt pc 30 then ((.invokevirtual 317), 118, 1, 1) else ((.iconst 0), 0, 0, 0)))) else (bif Nat.blt pc 34 then (bif Nat.blt pc 32 then ((.istore_n 2), 0, 0, 0) else (bif Nat.blt pc 33 then ((.iconst 0), 0, 0, 0) else ((.istore_n 3), 0, 0, 0))) else (bif Nat.blt pc 35 then ((.iload_n 3), 0, 0, 0) else (bif Nat.blt pc 38 then ((.sipush 1500), 0, 0, 0) else ((.if_icmp .gt 40), 78, 0, 0)))))) else (bif Nat.blt pc 62 then (bif Nat.blt pc 50 then (bif Nat.blt pc 43 then (bif Nat.blt pc 42 then ((.iload_n 2), 0, 0, 0) else ((.iload_n 1), 0, 0, 0)) else (bif Nat.blt pc 46 then ((.if_icmp .ge 35), 78, 0, 0) else (bif Nat.blt pc 47 then ((.aload_n 0), 0, 0, 0) else ((.getfield 51), 8, 7, 0)))) else (bif Nat.blt pc 57 then (bif Nat.blt pc 51 then ((.iload_n 1), 0, 0, 0) else (bif Nat.blt pc 54 then ((.invokevirtual 299), 55, 2, 11) else ((.ifCond .eq 24), 78, 0, 0))) else (bif Nat.blt pc 58 then ((.iload_n 2), 0, 0, 0) else (bif Nat.blt pc 59 then ((.aload_n 0), 0, 0, 0) else ((.getfield 51), 8, 7, 0))))) else (bif Nat.blt pc 78 then (bif Nat.blt pc 71 then (bif Nat.blt pc 65 then ((.getfield 298), 7, 2, 0) else (bif Nat.blt pc 68 then ((.getfield 97), 6, 1, 0) else ((.invokestatic 320), 0, 0, 7))) else (bif Nat.blt pc 72 then ((.istore_n 2), 0, 0, 0) else (bif Nat.blt pc 75 then ((.iinc 3 1), 0, 0, 0) else ((.goto (-41)), 34, 0, 0)))) else (bif Nat.blt pc 85 then (bif Nat.blt pc 79 then ((.aload_n 0), 0, 0, 0) else (bif Nat.blt pc 82 then ((.getfield 51), 8, 7, 0) else ((.getfield 302), 7, 6, 1))) else (bif Nat.blt pc 88 then ((.invokestatic 325), 115, 1, 0) else (bif Nat.blt pc 89 then ((.iload_n 2), 0, 0, 0) else ((.ireturn), 0, 0, 0)))))))
/-- PatternLaboratory countAvoiding(I)I -/
def pm_t94 : Nat → pm_En := fun pc => (bif Nat.blt pc 25 then (bif Nat.blt pc 13 then (bif Nat.blt pc 5 then (bif Nat.blt pc 1 then ((.iload_n 1), 0, 0, 0) else (bif Nat.blt pc 4 then ((.ifCond .lt 9), 10, 0, 0) else ((.iload_n 1), 0, 0, 0))) else (bif Nat.blt pc 7 then ((.bipush 10), 0, 0, 0) else (bif Nat.blt pc 10 then ((.if_icmp .le 14), 21, 0, 0) else ((.new 87), 0, 0, 1)))) else (bif Nat.blt pc 20 then (bif Nat.blt pc 14 then ((.dup), 0, 0, 0) else (bif Nat.blt pc 17 then ((.ldc_w 290), 0, 0, 0) else ((.invokespecial 91), 0, 0, 5))) else (bif Nat.blt pc 21 then ((.athrow), 0, 0, 0) else (bif Nat.blt pc 22 then ((.aload_n 0), 0, 0, 0) else ((.invokevirtual 146), 110, 1, 1))))) else (bif Nat.blt pc 33 then (bif Nat.blt pc 30 then (bif Nat.blt pc 26 then ((.aload_n 0), 0, 0, 0) else (bif Nat.blt pc 27 then ((.iload_n 1), 0, 0, 0) else ((.invokevirtual 329), 119, 2, 1))) else (bif Nat.blt pc 31 then ((.istore_n 2), 0, 0, 0) else (bif Nat.blt pc 32 then ((.iload_n 2), 0, 0, 0) else ((.iconst (-1)), 0, 0, 0)))) else (bif Nat.blt pc 40 then (bif Nat.blt pc 36 then ((.if_icmp .ne 7), 40, 0, 0) else (bif Nat.blt pc 37 then ((.iconst 1), 0, 0, 0) else ((.goto 4), 41, 0, 0))) else (bif Nat.blt pc 44 then (bif Nat.blt pc 41 then ((.iconst 0), 0, 0, 0) else ((.invokestatic 325), 115, 1, 0)) else (bif Nat.blt pc 45 then ((.iload_n 2), 0, 0, 0) else ((.ireturn), 0, 0, 0))))))
/-- PatternLaboratory growth(I)D -/
def pm_t95 : Nat → pm_En := fun pc => (bif Nat.blt pc 40 then (bif Nat.blt pc 22 then (bif Nat.blt pc 8 then (bif Nat.blt pc 2 then (bif Nat.blt pc 1 then ((.iload_n 1), 0, 0, 0) else ((.iconst 1), 0, 0, 0)) else (bif Nat.blt pc 5 then ((.if_icmp .lt 9), 11, 0, 0) else (bif Nat.blt pc 6 then ((.iload_n 1), 0, 0, 0) else ((.bipush 10), 0, 0, 0)))) else (bif Nat.blt pc 15 then (bif Nat.blt pc 11 then ((.if_icmp .le 14), 22, 0, 0) else (bif Nat.blt pc 14 then ((.new 87), 0, 0, 1) else ((.dup), 0, 0, 0))) else (bif Nat.blt pc 18 then ((.ldc_w 290), 0, 0, 0) else (bif Nat.blt pc 21 then ((.invokespecial 91), 0, 0, 5) else ((.athrow), 0, 0, 0))))) else (bif Nat.blt pc 32 then (bif Nat.blt pc 27 then (bif Nat.blt pc 23 then ((.aload_n 0), 0, 0, 0) else (bif Nat.blt pc 26 then ((.invokevirtual 146), 110, 1, 1) else ((.aload_n 0), 0, 0, 0))) else (bif Nat.blt pc 28 then ((.iload_n 1), 0, 0, 0) else (bif Nat.blt pc 31 then ((.invokevirtual 329), 119, 2, 1) else ((.istore_n 2), 0, 0, 0)))) else (bif Nat.blt pc 35 then (bif Nat.blt pc 33 then ((.aload_n 0), 0, 0, 0) else (bif Nat.blt pc 34 then ((.iload_n 1), 0, 0, 0) else ((.iconst 1), 0, 0, 0))) else (bif Nat.blt pc 36 then ((.isub), 0, 0, 0) else (bif Nat.blt pc 39 then ((.invokevirtual 329), 119, 2, 1) else ((.istore_n 3), 0, 0, 0)))))) else (bif Nat.blt pc 59 then (bif Nat.blt pc 47 then (bif Nat.blt pc 42 then (bif Nat.blt pc 41 then ((.iload_n 2), 0, 0, 0) else ((.iconst (-1)), 0, 0, 0)) else (bif Nat.blt pc 45 then ((.if_icmp .eq 8), 50, 0, 0) else (bif Nat.blt pc 46 then ((.iload_n 3), 0, 0, 0) else ((.iconst (-1)), 0, 0, 0)))) else (bif Nat.blt pc 54 then (bif Nat.blt pc 50 then ((.if_icmp .ne 7), 54, 0, 0) else (bif Nat.blt pc 51 then ((.iconst 1), 0, 0, 0) else ((.goto 4), 55, 0, 0))) else (bif Nat.blt pc 55 then ((.iconst 0), 0, 0, 0) else (bif Nat.blt pc 58 then ((.invokestatic 325), 115, 1, 0) else ((.iload_n 3), 0, 0, 0))))) else (bif Nat.blt pc 73 then (bif Nat.blt pc 66 then (bif Nat.blt pc 62 then ((.ifCond .ne 14), 73, 0, 0) else (bif Nat.blt pc 65 then ((.new 186), 3, 0, 1) else ((.dup), 0, 0, 0))) else (bif Nat.blt pc 69 then ((.ldc_w 332), 0, 0, 0) else (bif Nat.blt pc 72 then ((.invokespecial 190), 0, 0, 5) else ((.athrow), 0, 0, 0)))) else (bif Nat.blt pc 76 then (bif Nat.blt pc 74 then ((.iload_n 2), 0, 0, 0) else (bif Nat.blt pc 75 then ((.i2d), 0, 0, 0) else ((.iload_n 3), 0, 0, 0))) else (bif Nat.blt pc 77 then ((.i2d), 0, 0, 0) else (bif Nat.blt pc 78 then ((.ddiv), 0, 0, 0) else ((.dreturn), 0, 0, 0)))))))
/-- PatternLaboratory appendImage(II)I -/
def pm_t96 : Nat → pm_En := fun pc => (bif Nat.blt pc 24 then (bif Nat.blt pc 11 then (bif Nat.blt pc 5 then (bif Nat.blt pc 1 then ((.aload_n 0), 0, 0, 0) else (bif Nat.blt pc 2 then ((.iload_n 1), 0, 0, 0) else ((.invokevirtual 179), 109, 2, 1))) else (bif Nat.blt pc 7 then (bif Nat.blt pc 6 then ((.aload_n 0), 0, 0, 0) else ((.iload_n 2), 0, 0, 0)) else (bif Nat.blt pc 10 then ((.invokevirtual 179), 109, 2, 1) else ((.aload_n 0), 0, 0, 0)))) else (bif Nat.blt pc 20 then (bif Nat.blt pc 14 then ((.getfield 12), 8, 0, 0) else (bif Nat.blt pc 17 then ((.getfield 175), 0, 3, 0) else ((.getfield 334), 2, 0, 0))) else (bif Nat.blt pc 22 then (bif Nat.blt pc 21 then ((.iload_n 1), 0, 0, 0) else ((.aaload), 0, 0, 0)) else (bif Nat.blt pc 23 then ((.astore_n 3), 0, 0, 0) else ((.aload_n 3), 0, 0, 0))))) else (bif Nat.blt pc 41 then (bif Nat.blt pc 31 then (bif Nat.blt pc 27 then ((.getfield 97), 6, 1, 0) else (bif Nat.blt pc 28 then ((.iconst 4), 0, 0, 0) else ((.if_icmp .lt 14), 42, 0, 0))) else (bif Nat.blt pc 35 then (bif Nat.blt pc 34 then ((.new 101), 1, 0, 1) else ((.dup), 0, 0, 0)) else (bif Nat.blt pc 38 then ((.ldc_w 335), 0, 0, 0) else ((.invokespecial 105), 0, 0, 5)))) else (bif Nat.blt pc 44 then (bif Nat.blt pc 42 then ((.athrow), 0, 0, 0) else (bif Nat.blt pc 43 then ((.aload_n 3), 0, 0, 0) else ((.iload_n 2), 0, 0, 0))) else (bif Nat.blt pc 48 then (bif Nat.blt pc 47 then ((.invokevirtual 106), 39, 2, 11) else ((.aload_n 3), 0, 0, 0)) else (bif Nat.blt pc 51 then ((.getfield 97), 6, 1, 0) else ((.ireturn), 0, 0, 0))))))
/-- PatternLaboratory clearImage(I)I -/
def pm_t97 : Nat → pm_En := fun pc => (bif Nat.blt pc 16 then (bif Nat.blt pc 6 then (bif Nat.blt pc 2 then (bif Nat.blt pc 1 then ((.aload_n 0), 0, 0, 0) else ((.iload_n 1), 0, 0, 0)) else (bif Nat.blt pc 5 then ((.invokevirtual 179), 109, 2, 1) else ((.aload_n 0), 0, 0, 0))) else (bif Nat.blt pc 12 then (bif Nat.blt pc 9 then ((.getfield 12), 8, 0, 0) else ((.getfield 175), 0, 3, 0)) else (bif Nat.blt pc 15 then ((.getfield 334), 2, 0, 0) else ((.iload_n 1), 0, 0, 0)))) else (bif Nat.blt pc 22 then (bif Nat.blt pc 18 then (bif Nat.blt pc 17 then ((.aaload), 0, 0, 0) else ((.astore_n 2), 0, 0, 0)) else (bif Nat.blt pc 19 then ((.aload_n 2), 0, 0, 0) else ((.getfield 97), 6, 1, 0))) else (bif Nat.blt pc 24 then (bif Nat.blt pc 23 then ((.istore_n 3), 0, 0, 0) else ((.aload_n 2), 0, 0, 0)) else (bif Nat.blt pc 27 then ((.invokevirtual 110), 41, 1, 11) else (bif Nat.blt pc 28 then ((.iload_n 3), 0, 0, 0) else ((.ireturn), 0, 0, 0))))))
/-- PatternLaboratory applyMorphism()I -/
def pm_t98 : Nat → pm_En := fun pc => (bif Nat.blt pc 31 then (bif Nat.blt pc 14 then (bif Nat.blt pc 7 then (bif Nat.blt pc 1 then ((.aload_n 0), 0, 0, 0) else (bif Nat.blt pc 4 then ((.getfield 12), 8, 0, 0) else ((.getfield 175), 0, 3, 0))) else (bif Nat.blt pc 8 then ((.aload_n 0), 0, 0, 0) else (bif Nat.blt pc 11 then ((.getfield 12), 8, 0, 0) else ((.getfield 172), 0, 2, 0)))) else (bif Nat.blt pc 21 then (bif Nat.blt pc 15 then ((.aload_n 0), 0, 0, 0) else (bif Nat.blt pc 18 then ((.getfield 80), 8, 12, 0) else ((.invokevirtual 337), 20, 3, 11))) else (bif Nat.blt pc 27 then (bif Nat.blt pc 24 then ((.ifCond .ne 14), 35, 0, 0) else ((.new 101), 1, 0, 1)) else (bif Nat.blt pc 28 then ((.dup), 0, 0, 0) else ((.ldc_w 340), 0, 0, 0))))) else (bif Nat.blt pc 43 then (bif Nat.blt pc 36 then (bif Nat.blt pc 34 then ((.invokespecial 105), 0, 0, 5) else (bif Nat.blt pc 35 then ((.athrow), 0, 0, 0) else ((.aload_n 0), 0, 0, 0))) else (bif Nat.blt pc 39 then ((.getfield 12), 8, 0, 0) else (bif Nat.blt pc 42 then ((.getfield 172), 0, 2, 0) else ((.aload_n 0), 0, 0, 0)))) else (bif Nat.blt pc 50 then (bif Nat.blt pc 46 then ((.getfield 80), 8, 12, 0) else (bif Nat.blt pc 49 then ((.invokevirtual 156), 42, 2, 11) else ((.aload_n 0), 0, 0, 0))) else (bif Nat.blt pc 56 then (bif Nat.blt pc 53 then ((.getfield 12), 8, 0, 0) else ((.getfield 172), 0, 2, 0)) else (bif Nat.blt pc 59 then ((.getfield 97), 6, 1, 0) else ((.ireturn), 0, 0, 0))))))
/-- PatternLaboratory iterate(II)I -/
def pm_t99 : Nat → pm_En := fun pc => (bif Nat.blt pc 55 then (bif Nat.blt pc 27 then (bif Nat.blt pc 12 then (bif Nat.blt pc 5 then (bif Nat.blt pc 1 then ((.aload_n 0), 0, 0, 0) else (bif Nat.blt pc 2 then ((.iload_n 1), 0, 0, 0) else ((.invokevirtual 179), 109, 2, 1))) else (bif Nat.blt pc 9 then (bif Nat.blt pc 6 then ((.iload_n 2), 0, 0, 0) else ((.ifCond .lt 9), 15, 0, 0)) else (bif Nat.blt pc 10 then ((.iload_n 2), 0, 0, 0) else ((.bipush 10), 0, 0, 0)))) else (bif Nat.blt pc 19 then (bif Nat.blt pc 15 then ((.if_icmp .le 14), 26, 0, 0) else (bif Nat.blt pc 18 then ((.new 87), 0, 0, 1) else ((.dup), 0, 0, 0))) else (bif Nat.blt pc 25 then (bif Nat.blt pc 22 then ((.ldc_w 342), 0, 0, 0) else ((.invokespecial 91), 0, 0, 5)) else (bif Nat.blt pc 26 then ((.athrow), 0, 0, 0) else ((.aload_n 0), 0, 0, 0))))) else (bif Nat.blt pc 42 then (bif Nat.blt pc 34 then (bif Nat.blt pc 30 then ((.getfield 76), 8, 11, 0) else (bif Nat.blt pc 33 then ((.invokevirtual 110), 41, 1, 11) else ((.aload_n 0), 0, 0, 0))) else (bif Nat.blt pc 38 then (bif Nat.blt pc 37 then ((.getfield 76), 8, 11, 0) else ((.iload_n 1), 0, 0, 0)) else (bif Nat.blt pc 41 then ((.invokevirtual 106), 39, 2, 11) else ((.iconst 0), 0, 0, 0)))) else (bif Nat.blt pc 45 then (bif Nat.blt pc 43 then ((.istore_n 3), 0, 0, 0) else (bif Nat.blt pc 44 then ((.iload_n 3), 0, 0, 0) else ((.iload_n 2), 0, 0, 0))) else (bif Nat.blt pc 49 then (bif Nat.blt pc 48 then ((.if_icmp .ge 52), 97, 0, 0) else ((.aload_n 0), 0, 0, 0)) else (bif Nat.blt pc 52 then ((.getfield 12), 8, 0, 0) else ((.getfield 175), 0, 3, 0)))))) else (bif Nat.blt pc 85 then (bif Nat.blt pc 72 then (bif Nat.blt pc 60 then (bif Nat.blt pc 56 then ((.aload_n 0), 0, 0, 0) else (bif Nat.blt pc 59 then ((.getfield 76), 8, 11, 0) else ((.aload_n 0), 0, 0, 0))) else (bif Nat.blt pc 66 then (bif Nat.blt pc 63 then ((.getfield 80), 8, 12, 0) else ((.invokevirtual 337), 20, 3, 11)) else (bif Nat.blt pc 69 then ((.ifCond .ne 14), 80, 0, 0) else ((.new 101), 1, 0, 1)))) else (bif Nat.blt pc 79 then (bif Nat.blt pc 73 then ((.dup), 0, 0, 0) else (bif Nat.blt pc 76 then ((.ldc_w 344), 0, 0, 0) else ((.invokespecial 105), 0, 0, 5))) else (bif Nat.blt pc 81 then (bif Nat.blt pc 80 then ((.athrow), 0, 0, 0) else ((.aload_n 0), 0, 0, 0)) else (bif Nat.blt pc 84 then ((.getfield 76), 8, 11, 0) else ((.aload_n 0), 0, 0, 0))))) else (bif Nat.blt pc 104 then (bif Nat.blt pc 94 then (bif Nat.blt pc 88 then ((.getfield 80), 8, 12, 0) else (bif Nat.blt pc 91 then ((.invokevirtual 156), 42, 2, 11) else ((.iinc 3 1), 0, 0, 0))) else (bif Nat.blt pc 98 then (bif Nat.blt pc 97 then ((.goto (-51)), 43, 0, 0) else ((.aload_n 0), 0, 0, 0)) else (bif Nat.blt pc 101 then ((.getfield 12), 8, 0, 0) else ((.getfield 172), 0, 2, 0)))) else (bif Nat.blt pc 112 then (bif Nat.blt pc 108 then (bif Nat.blt pc 105 then ((.aload_n 0), 0, 0, 0) else ((.getfield 76), 8, 11, 0)) else (bif Nat.blt pc 111 then ((.invokevirtual 156), 42, 2, 11) else ((.aload_n 0), 0, 0, 0))) else (bif Nat.blt pc 118 then (bif Nat.blt pc 115 then ((.getfield 12), 8, 0, 0) else ((.getfield 172), 0, 2, 0)) else (bif Nat.blt pc 121 then ((.getfield 97), 6, 1, 0) else ((.ireturn), 0, 0, 0)))))))
/-- PatternLaboratory findMorphism(II)I -/
def pm_t100 : Nat → pm_En := fun pc => (bif Nat.blt pc 66 then (bif Nat.blt pc 31 then (bif Nat.blt pc 12 then (bif Nat.blt pc 6 then (bif Nat.blt pc 2 then (bif Nat.blt pc 1 then ((.iload_n 1), 0, 0, 0) else ((.iconst 1), 0, 0, 0)) else (bif Nat.blt pc 5 then ((.if_icmp .lt 18), 20, 0, 0) else ((.iload_n 1), 0, 0, 0))) else (bif Nat.blt pc 10 then (bif Nat.blt pc 7 then ((.iconst 3), 0, 0, 0) else ((.if_icmp .gt 13), 20, 0, 0)) else (bif Nat.blt pc 11 then ((.iload_n 2), 0, 0, 0) else ((.iconst 1), 0, 0, 0)))) else (bif Nat.blt pc 20 then (bif Nat.blt pc 16 then (bif Nat.blt pc 15 then ((.if_icmp .lt 8), 20, 0, 0) else ((.iload_n 2), 0, 0, 0)) else (bif Nat.blt pc 17 then ((.iconst 2), 0, 0, 0) else ((.if_icmp .le 14), 31, 0, 0))) else (bif Nat.blt pc 24 then (bif Nat.blt pc 23 then ((.new 87), 0, 0, 1) else ((.dup), 0, 0, 0)) else (bif Nat.blt pc 27 then ((.ldc_w 346), 0, 0, 0) else (bif Nat.blt pc 30 then ((.invokespecial 91), 0, 0, 5) else ((.athrow), 0, 0, 0)))))) else (bif Nat.blt pc 50 then (bif Nat.blt pc 39 then (bif Nat.blt pc 35 then (bif Nat.blt pc 32 then ((.aload_n 0), 0, 0, 0) else ((.invokevirtual 146), 110, 1, 1)) else (bif Nat.blt pc 36 then ((.aload_n 0), 0, 0, 0) else ((.getfield 72), 8, 10, 0))) else (bif Nat.blt pc 43 then (bif Nat.blt pc 40 then ((.aload_n 0), 0, 0, 0) else ((.getfield 12), 8, 0, 0)) else (bif Nat.blt pc 46 then ((.getfield 169), 0, 0, 0) else (bif Nat.blt pc 47 then ((.iload_n 1), 0, 0, 0) else ((.invokevirtual 348), 18, 3, 11))))) else (bif Nat.blt pc 55 then (bif Nat.blt pc 52 then (bif Nat.blt pc 51 then ((.iconst 1), 0, 0, 0) else ((.istore_n 3), 0, 0, 0)) else (bif Nat.blt pc 53 then ((.iconst 1), 0, 0, 0) else ((.istore 4), 0, 0, 0))) else (bif Nat.blt pc 59 then (bif Nat.blt pc 57 then ((.iload 4), 0, 0, 0) else ((.bipush 100), 0, 0, 0)) else (bif Nat.blt pc 62 then ((.if_icmp .gt 57), 116, 0, 0) else (bif Nat.blt pc 63 then ((.iload_n 3), 0, 0, 0) else ((.ifCond .eq 53), 116, 0, 0))))))) else (bif Nat.blt pc 100 then (bif Nat.blt pc 82 then (bif Nat.blt pc 72 then (bif Nat.blt pc 68 then (bif Nat.blt pc 67 then ((.aload_n 0), 0, 0, 0) else ((.aload_n 0), 0, 0, 0)) else (bif Nat.blt pc 71 then ((.getfield 72), 8, 10, 0) else ((.iload_n 2), 0, 0, 0))) else (bif Nat.blt pc 78 then (bif Nat.blt pc 75 then ((.invokevirtual 352), 120, 3, 1) else ((.ifCond .ne 20), 95, 0, 0)) else (bif Nat.blt pc 79 then ((.aload_n 0), 0, 0, 0) else ((.getfield 12), 8, 0, 0)))) else (bif Nat.blt pc 92 then (bif Nat.blt pc 86 then (bif Nat.blt pc 85 then ((.getfield 175), 0, 3, 0) else ((.aload_n 0), 0, 0, 0)) else (bif Nat.blt pc 89 then ((.getfield 72), 8, 10, 0) else ((.invokevirtual 356), 17, 2, 11))) else (bif Nat.blt pc 95 then (bif Nat.blt pc 94 then ((.iload 4), 0, 0, 0) else ((.ireturn), 0, 0, 0)) else (bif Nat.blt pc 96 then ((.aload_n 0), 0, 0, 0) else (bif Nat.blt pc 99 then ((.getfield 72), 8, 10, 0) else ((.aload_n 0), 0, 0, 0)))))) else (bif Nat.blt pc 123 then (bif Nat.blt pc 110 then (bif Nat.blt pc 106 then (bif Nat.blt pc 103 then ((.getfield 12), 8, 0, 0) else ((.getfield 169), 0, 0, 0)) else (bif Nat.blt pc 109 then ((.invokevirtual 359), 19, 2, 11) else ((.istore_n 3), 0, 0, 0))) else (bif Nat.blt pc 116 then (bif Nat.blt pc 113 then ((.iinc 4 1), 0, 0, 0) else ((.goto (-58)), 55, 0, 0)) else (bif Nat.blt pc 117 then ((.iload_n 3), 0, 0, 0) else (bif Nat.blt pc 120 then ((.ifCond .eq 14), 131, 0, 0) else ((.new 305), 4, 0, 1))))) else (bif Nat.blt pc 131 then (bif Nat.blt pc 127 then (bif Nat.blt pc 124 then ((.dup), 0, 0, 0) else ((.ldc_w 362), 0, 0, 0)) else (bif Nat.blt pc 130 then ((.invokespecial 309), 0, 0, 5) else ((.athrow), 0, 0, 0))) else (bif Nat.blt pc 135 then (bif Nat.blt pc 134 then ((.new 224), 5, 0, 1) else ((.dup), 0, 0, 0)) else (bif Nat.blt pc 138 then ((.ldc_w 364), 0, 0, 0) else (bif Nat.blt pc 141 then ((.invokespecial 228), 0, 0, 5) else ((.athrow), 0, 0, 0))))))))
/-- PatternLaboratory countSpoiled(I)I -/
def pm_t101 : Nat → pm_En := fun pc => (bif Nat.blt pc 26 then (bif Nat.blt pc 13 then (bif Nat.blt pc 5 then (bif Nat.blt pc 1 then ((.iload_n 1), 0, 0, 0) else (bif Nat.blt pc 4 then ((.ifCond .lt 8), 9, 0, 0) else ((.iload_n 1), 0, 0, 0))) else (bif Nat.blt pc 9 then (bif Nat.blt pc 6 then ((.iconst 5), 0, 0, 0) else ((.if_icmp .le 14), 20, 0, 0)) else (bif Nat.blt pc 12 then ((.new 87), 0, 0, 1) else ((.dup), 0, 0, 0)))) else (bif Nat.blt pc 20 then (bif Nat.blt pc 16 then ((.ldc_w 290), 0, 0, 0) else (bif Nat.blt pc 19 then ((.invokespecial 91), 0, 0, 5) else ((.athrow), 0, 0, 0))) else (bif Nat.blt pc 24 then (bif Nat.blt pc 21 then ((.aload_n 0), 0, 0, 0) else ((.invokevirtual 146), 110, 1, 1)) else (bif Nat.blt pc 25 then ((.aload_n 0), 0, 0, 0) else ((.aload_n 0), 0, 0, 0))))) else (bif Nat.blt pc 39 then (bif Nat.blt pc 33 then (bif Nat.blt pc 29 then ((.getfield 12), 8, 0, 0) else (bif Nat.blt pc 32 then ((.getfield 175), 0, 3, 0) else ((.iload_n 1), 0, 0, 0))) else (bif Nat.blt pc 37 then (bif Nat.blt pc 36 then ((.invokevirtual 352), 120, 3, 1) else ((.istore_n 2), 0, 0, 0)) else (bif Nat.blt pc 38 then ((.iload_n 2), 0, 0, 0) else ((.iconst (-1)), 0, 0, 0)))) else (bif Nat.blt pc 46 then (bif Nat.blt pc 42 then ((.if_icmp .ne 7), 46, 0, 0) else (bif Nat.blt pc 43 then ((.iconst 1), 0, 0, 0) else ((.goto 4), 47, 0, 0))) else (bif Nat.blt pc 50 then (bif Nat.blt pc 47 then ((.iconst 0), 0, 0, 0) else ((.invokestatic 325), 115, 1, 0)) else (bif Nat.blt pc 51 then ((.iload_n 2), 0, 0, 0) else ((.ireturn), 0, 0, 0))))))
/-- PatternLaboratory save()I -/
def pm_t102 : Nat → pm_En := fun pc => (bif Nat.blt pc 12 then (bif Nat.blt pc 5 then (bif Nat.blt pc 1 then ((.aload_n 0), 0, 0, 0) else (bif Nat.blt pc 4 then ((.getfield 16), 8, 1, 0) else ((.aload_n 0), 0, 0, 0))) else (bif Nat.blt pc 8 then ((.getfield 12), 8, 0, 0) else (bif Nat.blt pc 11 then ((.invokevirtual 366), 1, 2, 11) else ((.aload_n 0), 0, 0, 0)))) else (bif Nat.blt pc 17 then (bif Nat.blt pc 13 then ((.iconst 1), 0, 0, 0) else (bif Nat.blt pc 16 then ((.putfield 19), 8, 2, 1) else ((.aload_n 0), 0, 0, 0))) else (bif Nat.blt pc 23 then (bif Nat.blt pc 20 then ((.getfield 12), 8, 0, 0) else ((.getfield 172), 0, 2, 0)) else (bif Nat.blt pc 26 then ((.getfield 97), 6, 1, 0) else ((.ireturn), 0, 0, 0)))))
/-- PatternLaboratory restore()I -/
def pm_t103 : Nat → pm_En := fun pc => (bif Nat.blt pc 19 then (bif Nat.blt pc 10 then (bif Nat.blt pc 4 then (bif Nat.blt pc 1 then ((.aload_n 0), 0, 0, 0) else ((.getfield 19), 8, 2, 1)) else (bif Nat.blt pc 7 then ((.ifCond .ne 14), 18, 0, 0) else ((.new 101), 1, 0, 1))) else (bif Nat.blt pc 14 then (bif Nat.blt pc 11 then ((.dup), 0, 0, 0) else ((.ldc_w 369), 0, 0, 0)) else (bif Nat.blt pc 17 then ((.invokespecial 105), 0, 0, 5) else (bif Nat.blt pc 18 then ((.athrow), 0, 0, 0) else ((.aload_n 0), 0, 0, 0))))) else (bif Nat.blt pc 29 then (bif Nat.blt pc 23 then (bif Nat.blt pc 22 then ((.getfield 12), 8, 0, 0) else ((.aload_n 0), 0, 0, 0)) else (bif Nat.blt pc 26 then ((.getfield 16), 8, 1, 0) else ((.invokevirtual 366), 1, 2, 11))) else (bif Nat.blt pc 33 then (bif Nat.blt pc 30 then ((.aload_n 0), 0, 0, 0) else ((.getfield 12), 8, 0, 0)) else (bif Nat.blt pc 36 then ((.getfield 172), 0, 2, 0) else (bif Nat.blt pc 39 then ((.getfield 97), 6, 1, 0) else ((.ireturn), 0, 0, 0))))))
/-- PatternLaboratory isVariable(I)Z -/
def pm_t104 : Nat → pm_En := fun pc => (bif Nat.blt pc 6 then (bif Nat.blt pc 4 then (bif Nat.blt pc 1 then ((.iload_n 0), 0, 0, 0) else ((.ifCond .lt 12), 13, 0, 0)) else (bif Nat.blt pc 5 then ((.iload_n 0), 0, 0, 0) else ((.iconst 5), 0, 0, 0))) else (bif Nat.blt pc 10 then (bif Nat.blt pc 9 then ((.if_icmp .ge 7), 13, 0, 0) else ((.iconst 1), 0, 0, 0)) else (bif Nat.blt pc 13 then ((.goto 4), 14, 0, 0) else (bif Nat.blt pc 14 then ((.iconst 0), 0, 0, 0) else ((.ireturn), 1, 0, 0)))))
/-- PatternLaboratory holds(II)Z -/
def pm_t105 : Nat → pm_En := fun pc => (bif Nat.blt pc 5 then (bif Nat.blt pc 2 then (bif Nat.blt pc 1 then ((.iload_n 0), 0, 0, 0) else ((.iconst 1), 0, 0, 0)) else (bif Nat.blt pc 3 then ((.iload_n 1), 0, 0, 0) else (bif Nat.blt pc 4 then ((.ishl), 0, 0, 0) else ((.iand), 0, 0, 0)))) else (bif Nat.blt pc 9 then (bif Nat.blt pc 8 then ((.ifCond .eq 7), 12, 0, 0) else ((.iconst 1), 0, 0, 0)) else (bif Nat.blt pc 12 then ((.goto 4), 13, 0, 0) else (bif Nat.blt pc 13 then ((.iconst 0), 0, 0, 0) else ((.ireturn), 1, 0, 0)))))
/-- PatternLaboratory requireZimin(I)V -/
def pm_t106 : Nat → pm_En := fun pc => (bif Nat.blt pc 10 then (bif Nat.blt pc 5 then (bif Nat.blt pc 1 then ((.iload_n 0), 0, 0, 0) else (bif Nat.blt pc 2 then ((.iconst 1), 0, 0, 0) else ((.if_icmp .lt 8), 10, 0, 0))) else (bif Nat.blt pc 6 then ((.iload_n 0), 0, 0, 0) else (bif Nat.blt pc 7 then ((.iconst 4), 0, 0, 0) else ((.if_icmp .le 14), 21, 0, 0)))) else (bif Nat.blt pc 17 then (bif Nat.blt pc 13 then ((.new 87), 0, 0, 1) else (bif Nat.blt pc 14 then ((.dup), 0, 0, 0) else ((.ldc_w 371), 0, 0, 0))) else (bif Nat.blt pc 20 then ((.invokespecial 91), 0, 0, 5) else (bif Nat.blt pc 21 then ((.athrow), 0, 0, 0) else ((.return_), 0, 0, 0)))))
/-- PatternLaboratory requireShelf(I)V -/
def pm_t107 : Nat → pm_En := fun pc => (bif Nat.blt pc 9 then (bif Nat.blt pc 4 then (bif Nat.blt pc 1 then ((.iload_n 0), 0, 0, 0) else ((.ifCond .lt 8), 9, 0, 0)) else (bif Nat.blt pc 5 then ((.iload_n 0), 0, 0, 0) else (bif Nat.blt pc 6 then ((.iconst 4), 0, 0, 0) else ((.if_icmp .lt 14), 20, 0, 0)))) else (bif Nat.blt pc 16 then (bif Nat.blt pc 12 then ((.new 116), 2, 0, 1) else (bif Nat.blt pc 13 then ((.dup), 0, 0, 0) else ((.ldc_w 373), 0, 0, 0))) else (bif Nat.blt pc 19 then ((.invokespecial 120), 0, 0, 5) else (bif Nat.blt pc 20 then ((.athrow), 0, 0, 0) else ((.return_), 0, 0, 0)))))
/-- PatternLaboratory requireFilled(I)V -/
def pm_t108 : Nat → pm_En := fun pc => (bif Nat.blt pc 9 then (bif Nat.blt pc 4 then (bif Nat.blt pc 1 then ((.aload_n 0), 0, 0, 0) else ((.getfield 30), 8, 4, 0)) else (bif Nat.blt pc 5 then ((.iload_n 1), 0, 0, 0) else (bif Nat.blt pc 6 then ((.baload), 0, 0, 0) else ((.ifCond .ne 14), 20, 0, 0)))) else (bif Nat.blt pc 16 then (bif Nat.blt pc 12 then ((.new 101), 1, 0, 1) else (bif Nat.blt pc 13 then ((.dup), 0, 0, 0) else ((.ldc_w 375), 0, 0, 0))) else (bif Nat.blt pc 19 then ((.invokespecial 105), 0, 0, 5) else (bif Nat.blt pc 20 then ((.athrow), 0, 0, 0) else ((.return_), 0, 0, 0)))))
/-- PatternLaboratory requireLetter(I)V -/
def pm_t109 : Nat → pm_En := fun pc => (bif Nat.blt pc 12 then (bif Nat.blt pc 5 then (bif Nat.blt pc 1 then ((.iload_n 1), 0, 0, 0) else (bif Nat.blt pc 4 then ((.ifCond .lt 14), 15, 0, 0) else ((.iload_n 1), 0, 0, 0))) else (bif Nat.blt pc 6 then ((.aload_n 0), 0, 0, 0) else (bif Nat.blt pc 9 then ((.getfield 12), 8, 0, 0) else ((.getfield 169), 0, 0, 0)))) else (bif Nat.blt pc 19 then (bif Nat.blt pc 15 then ((.if_icmp .lt 14), 26, 0, 0) else (bif Nat.blt pc 18 then ((.new 87), 0, 0, 1) else ((.dup), 0, 0, 0))) else (bif Nat.blt pc 25 then (bif Nat.blt pc 22 then ((.ldc_w 377), 0, 0, 0) else ((.invokespecial 91), 0, 0, 5)) else (bif Nat.blt pc 26 then ((.athrow), 0, 0, 0) else ((.return_), 0, 0, 0)))))
/-- PatternLaboratory requirePattern()V -/
def pm_t110 : Nat → pm_En := fun pc => (bif Nat.blt pc 13 then (bif Nat.blt pc 4 then (bif Nat.blt pc 1 then ((.aload_n 0), 0, 0, 0) else ((.getfield 12), 8, 0, 0)) else (bif Nat.blt pc 7 then ((.getfield 94), 0, 1, 0) else (bif Nat.blt pc 10 then ((.getfield 97), 6, 1, 0) else ((.ifCond .ne 14), 24, 0, 0)))) else (bif Nat.blt pc 20 then (bif Nat.blt pc 16 then ((.new 101), 1, 0, 1) else (bif Nat.blt pc 17 then ((.dup), 0, 0, 0) else ((.ldc_w 379), 0, 0, 0))) else (bif Nat.blt pc 23 then ((.invokespecial 105), 0, 0, 5) else (bif Nat.blt pc 24 then ((.athrow), 0, 0, 0) else ((.return_), 0, 0, 0)))))
/-- PatternLaboratory requireWord()V -/
def pm_t111 : Nat → pm_En := fun pc => (bif Nat.blt pc 13 then (bif Nat.blt pc 4 then (bif Nat.blt pc 1 then ((.aload_n 0), 0, 0, 0) else ((.getfield 12), 8, 0, 0)) else (bif Nat.blt pc 7 then ((.getfield 172), 0, 2, 0) else (bif Nat.blt pc 10 then ((.getfield 97), 6, 1, 0) else ((.ifCond .ne 13), 23, 0, 0)))) else (bif Nat.blt pc 19 then (bif Nat.blt pc 16 then ((.new 101), 1, 0, 1) else (bif Nat.blt pc 17 then ((.dup), 0, 0, 0) else ((.ldc 188), 0, 0, 0))) else (bif Nat.blt pc 22 then ((.invokespecial 105), 0, 0, 5) else (bif Nat.blt pc 23 then ((.athrow), 0, 0, 0) else ((.return_), 0, 0, 0)))))
/-- PatternLaboratory requireRemembered(I)V -/
def pm_t112 : Nat → pm_En := fun pc => (bif Nat.blt pc 18 then (bif Nat.blt pc 10 then (bif Nat.blt pc 4 then (bif Nat.blt pc 1 then ((.iload_n 1), 0, 0, 0) else ((.invokestatic 83), 104, 1, 0)) else (bif Nat.blt pc 7 then ((.ifCond .ne 13), 17, 0, 0) else ((.new 87), 0, 0, 1))) else (bif Nat.blt pc 13 then (bif Nat.blt pc 11 then ((.dup), 0, 0, 0) else ((.ldc 89), 0, 0, 0)) else (bif Nat.blt pc 16 then ((.invokespecial 91), 0, 0, 5) else (bif Nat.blt pc 17 then ((.athrow), 0, 0, 0) else ((.aload_n 0), 0, 0, 0))))) else (bif Nat.blt pc 30 then (bif Nat.blt pc 24 then (bif Nat.blt pc 21 then ((.getfield 37), 8, 5, 0) else ((.getfield 381), 3, 0, 1)) else (bif Nat.blt pc 27 then ((.ifCond .ne 14), 38, 0, 0) else ((.new 101), 1, 0, 1))) else (bif Nat.blt pc 34 then (bif Nat.blt pc 31 then ((.dup), 0, 0, 0) else ((.ldc_w 384), 0, 0, 0)) else (bif Nat.blt pc 37 then ((.invokespecial 105), 0, 0, 5) else (bif Nat.blt pc 38 then ((.athrow), 0, 0, 0) else ((.return_), 0, 0, 0))))))
/-- PatternLaboratory requireSet(I)V -/
def pm_t113 : Nat → pm_En := fun pc => (bif Nat.blt pc 16 then (bif Nat.blt pc 6 then (bif Nat.blt pc 4 then (bif Nat.blt pc 1 then ((.iload_n 1), 0, 0, 0) else ((.ifCond .eq 20), 21, 0, 0)) else (bif Nat.blt pc 5 then ((.iload_n 1), 0, 0, 0) else ((.aload_n 0), 0, 0, 0))) else (bif Nat.blt pc 12 then (bif Nat.blt pc 9 then ((.getfield 12), 8, 0, 0) else ((.getfield 94), 0, 1, 0)) else (bif Nat.blt pc 15 then ((.invokevirtual 125), 51, 1, 11) else ((.iconst (-1)), 0, 0, 0)))) else (bif Nat.blt pc 24 then (bif Nat.blt pc 18 then (bif Nat.blt pc 17 then ((.ixor), 0, 0, 0) else ((.iand), 0, 0, 0)) else (bif Nat.blt pc 21 then ((.ifCond .eq 14), 32, 0, 0) else ((.new 87), 0, 0, 1))) else (bif Nat.blt pc 28 then (bif Nat.blt pc 25 then ((.dup), 0, 0, 0) else ((.ldc_w 386), 0, 0, 0)) else (bif Nat.blt pc 31 then ((.invokespecial 91), 0, 0, 5) else (bif Nat.blt pc 32 then ((.athrow), 0, 0, 0) else ((.return_), 0, 0, 0))))))
/-- PatternLaboratory requireReduction()I -/
def pm_t114 : Nat → pm_En := fun pc => (bif Nat.blt pc 16 then (bif Nat.blt pc 8 then (bif Nat.blt pc 4 then (bif Nat.blt pc 1 then ((.aload_n 0), 0, 0, 0) else ((.getfield 58), 8, 8, 0)) else (bif Nat.blt pc 5 then ((.aload_n 0), 0, 0, 0) else ((.getfield 12), 8, 0, 0))) else (bif Nat.blt pc 14 then (bif Nat.blt pc 11 then ((.getfield 94), 0, 1, 0) else ((.invokevirtual 278), 30, 2, 11)) else (bif Nat.blt pc 15 then ((.istore_n 1), 0, 0, 0) else ((.iload_n 1), 0, 0, 0)))) else (bif Nat.blt pc 25 then (bif Nat.blt pc 21 then (bif Nat.blt pc 18 then ((.bipush 100), 0, 0, 0) else ((.if_icmp .lt 14), 32, 0, 0)) else (bif Nat.blt pc 24 then ((.new 224), 5, 0, 1) else ((.dup), 0, 0, 0))) else (bif Nat.blt pc 31 then (bif Nat.blt pc 28 then ((.ldc_w 388), 0, 0, 0) else ((.invokespecial 228), 0, 0, 5)) else (bif Nat.blt pc 32 then ((.athrow), 0, 0, 0) else (bif Nat.blt pc 33 then ((.iload_n 1), 0, 0, 0) else ((.ireturn), 0, 0, 0))))))
/-- PatternLaboratory requireEnd(Z)V -/
def pm_t115 : Nat → pm_En := fun pc => (bif Nat.blt pc 8 then (bif Nat.blt pc 4 then (bif Nat.blt pc 1 then ((.iload_n 0), 0, 0, 0) else ((.ifCond .eq 14), 15, 0, 0)) else (bif Nat.blt pc 7 then ((.new 305), 4, 0, 1) else ((.dup), 0, 0, 0))) else (bif Nat.blt pc 14 then (bif Nat.blt pc 11 then ((.ldc_w 307), 0, 0, 0) else ((.invokespecial 309), 0, 0, 5)) else (bif Nat.blt pc 15 then ((.athrow), 0, 0, 0) else ((.return_), 0, 0, 0))))
/-- PatternLaboratory changePattern(LPatternLaboratory$Row;)Z -/
def pm_t116 : Nat → pm_En := fun pc => (bif Nat.blt pc 18 then (bif Nat.blt pc 8 then (bif Nat.blt pc 4 then (bif Nat.blt pc 1 then ((.aload_n 0), 0, 0, 0) else ((.getfield 12), 8, 0, 0)) else (bif Nat.blt pc 7 then ((.getfield 94), 0, 1, 0) else ((.aload_n 1), 0, 0, 0))) else (bif Nat.blt pc 14 then (bif Nat.blt pc 11 then ((.invokevirtual 162), 48, 2, 11) else ((.ifCond .ne 7), 18, 0, 0)) else (bif Nat.blt pc 15 then ((.iconst 1), 0, 0, 0) else ((.goto 4), 19, 0, 0)))) else (bif Nat.blt pc 24 then (bif Nat.blt pc 20 then (bif Nat.blt pc 19 then ((.iconst 0), 0, 0, 0) else ((.istore_n 2), 0, 0, 0)) else (bif Nat.blt pc 21 then ((.aload_n 0), 0, 0, 0) else ((.getfield 12), 8, 0, 0))) else (bif Nat.blt pc 28 then (bif Nat.blt pc 27 then ((.getfield 94), 0, 1, 0) else ((.aload_n 1), 0, 0, 0)) else (bif Nat.blt pc 31 then ((.invokevirtual 156), 42, 2, 11) else (bif Nat.blt pc 32 then ((.iload_n 2), 0, 0, 0) else ((.ireturn), 1, 0, 0))))))
/-- PatternLaboratory occurs(LPatternLaboratory$Row;LPatternLaboratory$Row;)Z -/
def pm_t117 : Nat → pm_En := fun pc => (bif Nat.blt pc 16 then (bif Nat.blt pc 8 then (bif Nat.blt pc 4 then (bif Nat.blt pc 1 then ((.aload_n 0), 0, 0, 0) else ((.getfield 44), 8, 6, 0)) else (bif Nat.blt pc 5 then ((.aload_n 1), 0, 0, 0) else ((.invokevirtual 215), 3, 2, 11))) else (bif Nat.blt pc 12 then (bif Nat.blt pc 9 then ((.aload_n 0), 0, 0, 0) else ((.getfield 44), 8, 6, 0)) else (bif Nat.blt pc 13 then ((.aload_n 2), 0, 0, 0) else ((.invokevirtual 218), 5, 2, 11)))) else (bif Nat.blt pc 26 then (bif Nat.blt pc 20 then (bif Nat.blt pc 17 then ((.aload_n 0), 0, 0, 0) else ((.getfield 44), 8, 6, 0)) else (bif Nat.blt pc 23 then ((.invokevirtual 221), 6, 1, 11) else ((.ifCond .lt 7), 30, 0, 0))) else (bif Nat.blt pc 30 then (bif Nat.blt pc 27 then ((.iconst 1), 0, 0, 0) else ((.goto 4), 31, 0, 0)) else (bif Nat.blt pc 31 then ((.iconst 0), 0, 0, 0) else ((.ireturn), 1, 0, 0)))))
/-- PatternLaboratory beginWithNothing()V -/
def pm_t118 : Nat → pm_En := fun pc => (bif Nat.blt pc 15 then (bif Nat.blt pc 7 then (bif Nat.blt pc 1 then ((.aload_n 0), 0, 0, 0) else (bif Nat.blt pc 4 then ((.getfield 76), 8, 11, 0) else ((.invokevirtual 110), 41, 1, 11))) else (bif Nat.blt pc 11 then (bif Nat.blt pc 8 then ((.aload_n 0), 0, 0, 0) else ((.getfield 51), 8, 7, 0)) else (bif Nat.blt pc 12 then ((.aload_n 0), 0, 0, 0) else ((.getfield 12), 8, 0, 0)))) else (bif Nat.blt pc 25 then (bif Nat.blt pc 19 then (bif Nat.blt pc 18 then ((.getfield 94), 0, 1, 0) else ((.aload_n 0), 0, 0, 0)) else (bif Nat.blt pc 22 then ((.getfield 12), 8, 0, 0) else ((.getfield 169), 0, 0, 0))) else (bif Nat.blt pc 29 then (bif Nat.blt pc 26 then ((.aload_n 0), 0, 0, 0) else ((.getfield 76), 8, 11, 0)) else (bif Nat.blt pc 32 then ((.invokevirtual 294), 53, 4, 11) else ((.return_), 0, 0, 0)))))
/-- PatternLaboratory countWords(I)I -/
def pm_t119 : Nat → pm_En := fun pc => (bif Nat.blt pc 31 then (bif Nat.blt pc 14 then (bif Nat.blt pc 8 then (bif Nat.blt pc 4 then (bif Nat.blt pc 1 then ((.aload_n 0), 0, 0, 0) else ((.invokevirtual 317), 118, 1, 1)) else (bif Nat.blt pc 5 then ((.iload_n 1), 0, 0, 0) else ((.ifCond .ne 7), 12, 0, 0))) else (bif Nat.blt pc 12 then (bif Nat.blt pc 9 then ((.iconst 1), 0, 0, 0) else ((.goto 4), 13, 0, 0)) else (bif Nat.blt pc 13 then ((.iconst 0), 0, 0, 0) else ((.istore_n 2), 0, 0, 0)))) else (bif Nat.blt pc 20 then (bif Nat.blt pc 16 then (bif Nat.blt pc 15 then ((.iconst 0), 0, 0, 0) else ((.istore_n 3), 0, 0, 0)) else (bif Nat.blt pc 17 then ((.iload_n 3), 0, 0, 0) else ((.sipush 1500), 0, 0, 0))) else (bif Nat.blt pc 24 then (bif Nat.blt pc 23 then ((.if_icmp .gt 37), 57, 0, 0) else ((.aload_n 0), 0, 0, 0)) else (bif Nat.blt pc 27 then ((.getfield 51), 8, 7, 0) else (bif Nat.blt pc 28 then ((.iload_n 1), 0, 0, 0) else ((.invokevirtual 299), 55, 2, 11)))))) else (bif Nat.blt pc 54 then (bif Nat.blt pc 41 then (bif Nat.blt pc 35 then (bif Nat.blt pc 34 then ((.ifCond .eq 26), 57, 0, 0) else ((.aload_n 0), 0, 0, 0)) else (bif Nat.blt pc 38 then ((.getfield 51), 8, 7, 0) else ((.getfield 298), 7, 2, 0))) else (bif Nat.blt pc 45 then (bif Nat.blt pc 44 then ((.getfield 97), 6, 1, 0) else ((.iload_n 1), 0, 0, 0)) else (bif Nat.blt pc 48 then ((.if_icmp .ne 6), 51, 0, 0) else (bif Nat.blt pc 51 then ((.iinc 2 1), 0, 0, 0) else ((.iinc 3 1), 0, 0, 0))))) else (bif Nat.blt pc 64 then (bif Nat.blt pc 58 then (bif Nat.blt pc 57 then ((.goto (-38)), 16, 0, 0) else ((.aload_n 0), 0, 0, 0)) else (bif Nat.blt pc 61 then ((.getfield 51), 8, 7, 0) else ((.getfield 302), 7, 6, 1))) else (bif Nat.blt pc 68 then (bif Nat.blt pc 67 then ((.ifCond .eq 7), 71, 0, 0) else ((.iconst (-1)), 0, 0, 0)) else (bif Nat.blt pc 71 then ((.goto 4), 72, 0, 0) else (bif Nat.blt pc 72 then ((.iload_n 2), 0, 0, 0) else ((.ireturn), 0, 0, 0)))))))
/-- PatternLaboratory countSpoiledBy(LPatternLaboratory$Morphism;I)I -/
def pm_t120 : Nat → pm_En := fun pc => (bif Nat.blt pc 46 then (bif Nat.blt pc 21 then (bif Nat.blt pc 9 then (bif Nat.blt pc 4 then (bif Nat.blt pc 1 then ((.aload_n 0), 0, 0, 0) else ((.invokevirtual 317), 118, 1, 1)) else (bif Nat.blt pc 5 then ((.aload_n 0), 0, 0, 0) else (bif Nat.blt pc 8 then ((.getfield 44), 8, 6, 0) else ((.aload_n 0), 0, 0, 0)))) else (bif Nat.blt pc 18 then (bif Nat.blt pc 12 then ((.getfield 12), 8, 0, 0) else (bif Nat.blt pc 15 then ((.getfield 94), 0, 1, 0) else ((.invokevirtual 215), 3, 2, 11))) else (bif Nat.blt pc 19 then ((.iconst 0), 0, 0, 0) else (bif Nat.blt pc 20 then ((.istore_n 3), 0, 0, 0) else ((.iconst 0), 0, 0, 0))))) else (bif Nat.blt pc 32 then (bif Nat.blt pc 25 then (bif Nat.blt pc 23 then ((.istore 4), 0, 0, 0) else ((.iload 4), 0, 0, 0)) else (bif Nat.blt pc 28 then ((.sipush 1500), 0, 0, 0) else (bif Nat.blt pc 31 then ((.if_icmp .gt 52), 80, 0, 0) else ((.aload_n 0), 0, 0, 0)))) else (bif Nat.blt pc 39 then (bif Nat.blt pc 35 then ((.getfield 51), 8, 7, 0) else (bif Nat.blt pc 36 then ((.iload_n 2), 0, 0, 0) else ((.invokevirtual 299), 55, 2, 11))) else (bif Nat.blt pc 42 then ((.ifCond .eq 41), 80, 0, 0) else (bif Nat.blt pc 43 then ((.aload_n 0), 0, 0, 0) else ((.getfield 51), 8, 7, 0)))))) else (bif Nat.blt pc 71 then (bif Nat.blt pc 57 then (bif Nat.blt pc 52 then (bif Nat.blt pc 49 then ((.getfield 298), 7, 2, 0) else ((.getfield 97), 6, 1, 0)) else (bif Nat.blt pc 53 then ((.iload_n 2), 0, 0, 0) else (bif Nat.blt pc 56 then ((.if_icmp .ne 21), 74, 0, 0) else ((.aload_n 0), 0, 0, 0)))) else (bif Nat.blt pc 62 then (bif Nat.blt pc 58 then ((.aload_n 1), 0, 0, 0) else (bif Nat.blt pc 59 then ((.aload_n 0), 0, 0, 0) else ((.getfield 51), 8, 7, 0))) else (bif Nat.blt pc 65 then ((.getfield 298), 7, 2, 0) else (bif Nat.blt pc 68 then ((.invokevirtual 390), 121, 3, 1) else ((.ifCond .eq 6), 74, 0, 0))))) else (bif Nat.blt pc 84 then (bif Nat.blt pc 77 then (bif Nat.blt pc 74 then ((.iinc 3 1), 0, 0, 0) else ((.iinc 4 1), 0, 0, 0)) else (bif Nat.blt pc 80 then ((.goto (-54)), 23, 0, 0) else (bif Nat.blt pc 81 then ((.aload_n 0), 0, 0, 0) else ((.getfield 51), 8, 7, 0)))) else (bif Nat.blt pc 91 then (bif Nat.blt pc 87 then ((.getfield 302), 7, 6, 1) else (bif Nat.blt pc 90 then ((.ifCond .eq 7), 94, 0, 0) else ((.iconst (-1)), 0, 0, 0))) else (bif Nat.blt pc 94 then ((.goto 4), 95, 0, 0) else (bif Nat.blt pc 95 then ((.iload_n 3), 0, 0, 0) else ((.ireturn), 0, 0, 0)))))))
/-- PatternLaboratory spoils(LPatternLaboratory$Morphism;LPatternLaboratory$Row;)Z -/
def pm_t121 : Nat → pm_En := fun pc => (bif Nat.blt pc 18 then (bif Nat.blt pc 9 then (bif Nat.blt pc 2 then (bif Nat.blt pc 1 then ((.aload_n 1), 0, 0, 0) else ((.aload_n 2), 0, 0, 0)) else (bif Nat.blt pc 3 then ((.aload_n 0), 0, 0, 0) else (bif Nat.blt pc 6 then ((.getfield 80), 8, 12, 0) else ((.invokevirtual 337), 20, 3, 11)))) else (bif Nat.blt pc 13 then (bif Nat.blt pc 12 then ((.ifCond .ne 5), 14, 0, 0) else ((.iconst 0), 0, 0, 0)) else (bif Nat.blt pc 14 then ((.ireturn), 1, 0, 0) else (bif Nat.blt pc 15 then ((.aload_n 0), 0, 0, 0) else ((.getfield 44), 8, 6, 0))))) else (bif Nat.blt pc 29 then (bif Nat.blt pc 22 then (bif Nat.blt pc 19 then ((.aload_n 0), 0, 0, 0) else ((.getfield 80), 8, 12, 0)) else (bif Nat.blt pc 25 then ((.invokevirtual 218), 5, 2, 11) else (bif Nat.blt pc 26 then ((.aload_n 0), 0, 0, 0) else ((.getfield 44), 8, 6, 0)))) else (bif Nat.blt pc 36 then (bif Nat.blt pc 32 then ((.invokevirtual 221), 6, 1, 11) else (bif Nat.blt pc 35 then ((.ifCond .lt 7), 39, 0, 0) else ((.iconst 1), 0, 0, 0))) else (bif Nat.blt pc 39 then ((.goto 4), 40, 0, 0) else (bif Nat.blt pc 40 then ((.iconst 0), 0, 0, 0) else ((.ireturn), 1, 0, 0))))))
/-- PatternLaboratoryModel <init>()V -/
def pm_t122 : Nat → pm_En := fun pc => (bif Nat.blt pc 108 then (bif Nat.blt pc 52 then (bif Nat.blt pc 26 then (bif Nat.blt pc 13 then (bif Nat.blt pc 5 then (bif Nat.blt pc 1 then ((.aload_n 0), 0, 0, 0) else (bif Nat.blt pc 4 then ((.invokespecial 1), 0, 0, 9) else ((.aload_n 0), 0, 0, 0))) else (bif Nat.blt pc 9 then (bif Nat.blt pc 7 then ((.bipush 15), 0, 0, 0) else ((.newarray .int), 1000, 0, 0)) else (bif Nat.blt pc 12 then ((.putfield 7), 9, 2, 0) else ((.aload_n 0), 0, 0, 0)))) else (bif Nat.blt pc 18 then (bif Nat.blt pc 14 then ((.iconst 2), 0, 0, 0) else (bif Nat.blt pc 17 then ((.putfield 13), 9, 3, 0) else ((.aload_n 0), 0, 0, 0))) else (bif Nat.blt pc 22 then (bif Nat.blt pc 20 then ((.bipush 24), 0, 0, 0) else ((.newarray .int), 1000, 0, 0)) else (bif Nat.blt pc 25 then ((.putfield 17), 9, 5, 0) else ((.aload_n 0), 0, 0, 0))))) else (bif Nat.blt pc 40 then (bif Nat.blt pc 32 then (bif Nat.blt pc 27 then ((.iconst 4), 0, 0, 0) else (bif Nat.blt pc 29 then ((.newarray .int), 1000, 0, 0) else ((.putfield 20), 9, 6, 0))) else (bif Nat.blt pc 35 then (bif Nat.blt pc 33 then ((.aload_n 0), 0, 0, 0) else ((.bipush 16), 0, 0, 0)) else (bif Nat.blt pc 37 then ((.newarray .int), 1000, 0, 0) else ((.putfield 23), 9, 7, 0)))) else (bif Nat.blt pc 44 then (bif Nat.blt pc 41 then ((.aload_n 0), 0, 0, 0) else (bif Nat.blt pc 42 then ((.iconst 4), 0, 0, 0) else ((.newarray .int), 1000, 0, 0))) else (bif Nat.blt pc 48 then (bif Nat.blt pc 47 then ((.putfield 26), 9, 8, 0) else ((.aload_n 0), 0, 0, 0)) else (bif Nat.blt pc 50 then ((.bipush 60), 0, 0, 0) else ((.newarray .int), 1000, 0, 0)))))) else (bif Nat.blt pc 79 then (bif Nat.blt pc 65 then (bif Nat.blt pc 57 then (bif Nat.blt pc 55 then ((.putfield 29), 9, 9, 0) else (bif Nat.blt pc 56 then ((.aload_n 0), 0, 0, 0) else ((.iconst 5), 0, 0, 0))) else (bif Nat.blt pc 62 then (bif Nat.blt pc 59 then ((.newarray .int), 1000, 0, 0) else ((.putfield 32), 9, 12, 0)) else (bif Nat.blt pc 63 then ((.aload_n 0), 0, 0, 0) else ((.bipush 120), 0, 0, 0)))) else (bif Nat.blt pc 71 then (bif Nat.blt pc 67 then ((.newarray .int), 1000, 0, 0) else (bif Nat.blt pc 70 then ((.putfield 35), 9, 13, 0) else ((.aload_n 0), 0, 0, 0))) else (bif Nat.blt pc 75 then (bif Nat.blt pc 73 then ((.bipush 15), 0, 0, 0) else ((.newarray .int), 1000, 0, 0)) else (bif Nat.blt pc 78 then ((.putfield 38), 9, 18, 0) else ((.aload_n 0), 0, 0, 0))))) else (bif Nat.blt pc 93 then (bif Nat.blt pc 86 then (bif Nat.blt pc 81 then ((.bipush 24), 0, 0, 0) else (bif Nat.blt pc 83 then ((.newarray .int), 1000, 0, 0) else ((.putfield 41), 9, 19, 0))) else (bif Nat.blt pc 88 then (bif Nat.blt pc 87 then ((.aload_n 0), 0, 0, 0) else ((.iconst 4), 0, 0, 0)) else (bif Nat.blt pc 90 then ((.newarray .int), 1000, 0, 0) else ((.putfield 44), 9, 20, 0)))) else (bif Nat.blt pc 101 then (bif Nat.blt pc 96 then (bif Nat.blt pc 94 then ((.aload_n 0), 0, 0, 0) else ((.bipush 16), 0, 0, 0)) else (bif Nat.blt pc 98 then ((.newarray .int), 1000, 0, 0) else ((.putfield 47), 9, 21, 0))) else (bif Nat.blt pc 103 then (bif Nat.blt pc 102 then ((.aload_n 0), 0, 0, 0) else ((.iconst 5), 0, 0, 0)) else (bif Nat.blt pc 105 then ((.newarray .int), 1000, 0, 0) else ((.putfield 50), 9, 22, 0))))))) else (bif Nat.blt pc 162 then (bif Nat.blt pc 133 then (bif Nat.blt pc 121 then (bif Nat.blt pc 113 then (bif Nat.blt pc 109 then ((.aload_n 0), 0, 0, 0) else (bif Nat.blt pc 111 then ((.bipush 15), 0, 0, 0) else ((.newarray .int), 1000, 0, 0))) else (bif Nat.blt pc 117 then (bif Nat.blt pc 116 then ((.putfield 53), 9, 24, 0) else ((.aload_n 0), 0, 0, 0)) else (bif Nat.blt pc 119 then ((.bipush 24), 0, 0, 0) else ((.newarray .int), 1000, 0, 0)))) else (bif Nat.blt pc 126 then (bif Nat.blt pc 124 then ((.putfield 56), 9, 26, 0) else (bif Nat.blt pc 125 then ((.aload_n 0), 0, 0, 0) else ((.iconst 5), 0, 0, 0))) else (bif Nat.blt pc 131 then (bif Nat.blt pc 128 then ((.newarray .int), 1000, 0, 0) else ((.putfield 59), 9, 27, 0)) else (bif Nat.blt pc 132 then ((.aload_n 0), 0, 0, 0) else ((.iconst 5), 0, 0, 0))))) else (bif Nat.blt pc 147 then (bif Nat.blt pc 139 then (bif Nat.blt pc 135 then ((.newarray .int), 1000, 0, 0) else (bif Nat.blt pc 138 then ((.putfield 62), 9, 28, 0) else ((.aload_n 0), 0, 0, 0))) else (bif Nat.blt pc 143 then (bif Nat.blt pc 141 then ((.bipush 10), 0, 0, 0) else ((.newarray .int), 1000, 0, 0)) else (bif Nat.blt pc 146 then ((.putfield 65), 9, 33, 0) else ((.aload_n 0), 0, 0, 0)))) else (bif Nat.blt pc 154 then (bif Nat.blt pc 149 then ((.bipush 32), 0, 0, 0) else (bif Nat.blt pc 151 then ((.newarray .int), 1000, 0, 0) else ((.putfield 68), 9, 34, 0))) else (bif Nat.blt pc 157 then (bif Nat.blt pc 155 then ((.aload_n 0), 0, 0, 0) else ((.bipush 32), 0, 0, 0)) else (bif Nat.blt pc 159 then ((.newarray .int), 1000, 0, 0) else ((.putfield 71), 9, 35, 0)))))) else (bif Nat.blt pc 188 then (bif Nat.blt pc 175 then (bif Nat.blt pc 167 then (bif Nat.blt pc 163 then ((.aload_n 0), 0, 0, 0) else (bif Nat.blt pc 165 then ((.bipush 24), 0, 0, 0) else ((.newarray .int), 1000, 0, 0))) else (bif Nat.blt pc 171 then (bif Nat.blt pc 170 then ((.putfield 74), 9, 41, 0) else ((.aload_n 0), 0, 0, 0)) else (bif Nat.blt pc 173 then ((.bipush 96), 0, 0, 0) else ((.newarray .int), 1000, 0, 0)))) else (bif Nat.blt pc 180 then (bif Nat.blt pc 178 then ((.putfield 77), 9, 42, 0) else (bif Nat.blt pc 179 then ((.aload_n 0), 0, 0, 0) else ((.iconst 4), 0, 0, 0))) else (bif Nat.blt pc 185 then (bif Nat.blt pc 182 then ((.newarray .int), 1000, 0, 0) else ((.putfield 80), 9, 43, 0)) else (bif Nat.blt pc 186 then ((.aload_n 0), 0, 0, 0) else ((.bipush 16), 0, 0, 0))))) else (bif Nat.blt pc 200 then (bif Nat.blt pc 194 then (bif Nat.blt pc 190 then ((.newarray .int), 1000, 0, 0) else (bif Nat.blt pc 193 then ((.putfield 83), 9, 44, 0) else ((.iconst 0), 0, 0, 0))) else (bif Nat.blt pc 196 then (bif Nat.blt pc 195 then ((.istore_n 1), 0, 0, 0) else ((.iload_n 1), 0, 0, 0)) else (bif Nat.blt pc 197 then ((.iconst 4), 0, 0, 0) else ((.if_icmp .ge 16), 213, 0, 0)))) else (bif Nat.blt pc 206 then (bif Nat.blt pc 204 then (bif Nat.blt pc 201 then ((.aload_n 0), 0, 0, 0) else ((.getfield 26), 9, 8, 0)) else (bif Nat.blt pc 205 then ((.iload_n 1), 0, 0, 0) else ((.iconst (-1)), 0, 0, 0))) else (bif Nat.blt pc 210 then (bif Nat.blt pc 207 then ((.iastore), 0, 0, 0) else ((.iinc 1 1), 0, 0, 0)) else (bif Nat.blt pc 213 then ((.goto (-15)), 195, 0, 0) else ((.return_), 0, 0, 0))))))))
/-- PatternLaboratoryModel thrown()I -/
def pm_t123 : Nat → pm_En := fun pc => (bif Nat.blt pc 1 then ((.aload_n 0), 0, 0, 0) else (bif Nat.blt pc 4 then ((.getfield 86), 9, 0, 0) else ((.ireturn), 0, 0, 0)))
/-- PatternLaboratoryModel in(III)Z -/
def pm_t124 : Nat → pm_En := fun pc => (bif Nat.blt pc 7 then (bif Nat.blt pc 2 then (bif Nat.blt pc 1 then ((.iload_n 0), 0, 0, 0) else ((.iload_n 1), 0, 0, 0)) else (bif Nat.blt pc 5 then ((.if_icmp .lt 12), 14, 0, 0) else (bif Nat.blt pc 6 then ((.iload_n 0), 0, 0, 0) else ((.iload_n 2), 0, 0, 0)))) else (bif Nat.blt pc 11 then (bif Nat.blt pc 10 then ((.if_icmp .gt 7), 14, 0, 0) else ((.iconst 1), 0, 0, 0)) else (bif Nat.blt pc 14 then ((.goto 4), 15, 0, 0) else (bif Nat.blt pc 15 then ((.iconst 0), 0, 0, 0) else ((.ireturn), 1, 0, 0)))))
/-- PatternLaboratoryModel fails(I)I -/
def pm_t125 : Nat → pm_En := fun pc => (bif Nat.blt pc 2 then (bif Nat.blt pc 1 then ((.aload_n 0), 0, 0, 0) else ((.iload_n 1), 0, 0, 0)) else (bif Nat.blt pc 5 then ((.putfield 86), 9, 0, 0) else (bif Nat.blt pc 6 then ((.iconst 0), 0, 0, 0) else ((.ireturn), 0, 0, 0))))
/-- PatternLaboratoryModel done(I)I -/
def pm_t126 : Nat → pm_En := fun pc => (bif Nat.blt pc 2 then (bif Nat.blt pc 1 then ((.aload_n 0), 0, 0, 0) else ((.iconst 0), 0, 0, 0)) else (bif Nat.blt pc 5 then ((.putfield 86), 9, 0, 0) else (bif Nat.blt pc 6 then ((.iload_n 1), 0, 0, 0) else ((.ireturn), 0, 0, 0))))
/-- PatternLaboratoryModel so(Z)Z -/
def pm_t127 : Nat → pm_En := fun pc => (bif Nat.blt pc 2 then (bif Nat.blt pc 1 then ((.aload_n 0), 0, 0, 0) else ((.iconst 0), 0, 0, 0)) else (bif Nat.blt pc 5 then ((.putfield 86), 9, 0, 0) else (bif Nat.blt pc 6 then ((.iload_n 1), 0, 0, 0) else ((.ireturn), 1, 0, 0))))
/-- PatternLaboratoryModel not(I)Z -/
def pm_t128 : Nat → pm_En := fun pc => (bif Nat.blt pc 2 then (bif Nat.blt pc 1 then ((.aload_n 0), 0, 0, 0) else ((.iload_n 1), 0, 0, 0)) else (bif Nat.blt pc 5 then ((.putfield 86), 9, 0, 0) else (bif Nat.blt pc 6 then ((.iconst 0), 0, 0, 0) else ((.ireturn), 1, 0, 0))))
/-- PatternLaboratoryModel appendVariable(I)I -/
def pm_t129 : Nat → pm_En := fun pc => (bif Nat.blt pc 30 then (bif Nat.blt pc 14 then (bif Nat.blt pc 6 then (bif Nat.blt pc 2 then (bif Nat.blt pc 1 then ((.iload_n 1), 0, 0, 0) else ((.iconst 0), 0, 0, 0)) else (bif Nat.blt pc 3 then ((.iconst 4), 0, 0, 0) else ((.invokestatic 89), 124, 3, 0))) else (bif Nat.blt pc 10 then (bif Nat.blt pc 9 then ((.ifCond .ne 9), 15, 0, 0) else ((.aload_n 0), 0, 0, 0)) else (bif Nat.blt pc 11 then ((.iconst 1), 0, 0, 0) else ((.invokevirtual 93), 125, 2, 1)))) else (bif Nat.blt pc 21 then (bif Nat.blt pc 16 then (bif Nat.blt pc 15 then ((.ireturn), 0, 0, 0) else ((.aload_n 0), 0, 0, 0)) else (bif Nat.blt pc 19 then ((.getfield 97), 9, 1, 0) else ((.bipush 15), 0, 0, 0))) else (bif Nat.blt pc 25 then (bif Nat.blt pc 24 then ((.if_icmp .ne 9), 30, 0, 0) else ((.aload_n 0), 0, 0, 0)) else (bif Nat.blt pc 26 then ((.iconst 2), 0, 0, 0) else (bif Nat.blt pc 29 then ((.invokevirtual 93), 125, 2, 1) else ((.ireturn), 0, 0, 0)))))) else (bif Nat.blt pc 42 then (bif Nat.blt pc 38 then (bif Nat.blt pc 34 then (bif Nat.blt pc 31 then ((.aload_n 0), 0, 0, 0) else ((.getfield 7), 9, 2, 0)) else (bif Nat.blt pc 35 then ((.aload_n 0), 0, 0, 0) else ((.getfield 97), 9, 1, 0))) else (bif Nat.blt pc 40 then (bif Nat.blt pc 39 then ((.iload_n 1), 0, 0, 0) else ((.iastore), 0, 0, 0)) else (bif Nat.blt pc 41 then ((.aload_n 0), 0, 0, 0) else ((.dup), 0, 0, 0)))) else (bif Nat.blt pc 50 then (bif Nat.blt pc 46 then (bif Nat.blt pc 45 then ((.getfield 97), 9, 1, 0) else ((.iconst 1), 0, 0, 0)) else (bif Nat.blt pc 47 then ((.iadd), 0, 0, 0) else ((.putfield 97), 9, 1, 0))) else (bif Nat.blt pc 52 then (bif Nat.blt pc 51 then ((.aload_n 0), 0, 0, 0) else ((.aload_n 0), 0, 0, 0)) else (bif Nat.blt pc 55 then ((.getfield 97), 9, 1, 0) else (bif Nat.blt pc 58 then ((.invokevirtual 100), 126, 2, 1) else ((.ireturn), 0, 0, 0)))))))
/-- PatternLaboratoryModel clearPattern()I -/
def pm_t130 : Nat → pm_En := fun pc => (bif Nat.blt pc 7 then (bif Nat.blt pc 4 then (bif Nat.blt pc 1 then ((.aload_n 0), 0, 0, 0) else ((.getfield 97), 9, 1, 0)) else (bif Nat.blt pc 5 then ((.istore_n 1), 0, 0, 0) else (bif Nat.blt pc 6 then ((.aload_n 0), 0, 0, 0) else ((.iconst 0), 0, 0, 0)))) else (bif Nat.blt pc 11 then (bif Nat.blt pc 10 then ((.putfield 97), 9, 1, 0) else ((.aload_n 0), 0, 0, 0)) else (bif Nat.blt pc 12 then ((.iload_n 1), 0, 0, 0) else (bif Nat.blt pc 15 then ((.invokevirtual 100), 126, 2, 1) else ((.ireturn), 0, 0, 0)))))
/-- PatternLaboratoryModel patternLength()I -/
def pm_t131 : Nat → pm_En := fun pc => (bif Nat.blt pc 2 then (bif Nat.blt pc 1 then ((.aload_n 0), 0, 0, 0) else ((.aload_n 0), 0, 0, 0)) else (bif Nat.blt pc 5 then ((.getfield 97), 9, 1, 0) else (bif Nat.blt pc 8 then ((.invokevirtual 100), 126, 2, 1) else ((.ireturn), 0, 0, 0))))
/-- PatternLaboratoryModel patternVariable(I)I -/
def pm_t132 : Nat → pm_En := fun pc => (bif Nat.blt pc 15 then (bif Nat.blt pc 6 then (bif Nat.blt pc 2 then (bif Nat.blt pc 1 then ((.iload_n 1), 0, 0, 0) else ((.iconst 0), 0, 0, 0)) else (bif Nat.blt pc 3 then ((.aload_n 0), 0, 0, 0) else ((.getfield 97), 9, 1, 0))) else (bif Nat.blt pc 8 then (bif Nat.blt pc 7 then ((.iconst 1), 0, 0, 0) else ((.isub), 0, 0, 0)) else (bif Nat.blt pc 11 then ((.invokestatic 89), 124, 3, 0) else (bif Nat.blt pc 14 then ((.ifCond .eq 16), 27, 0, 0) else ((.aload_n 0), 0, 0, 0))))) else (bif Nat.blt pc 24 then (bif Nat.blt pc 19 then (bif Nat.blt pc 16 then ((.aload_n 0), 0, 0, 0) else ((.getfield 7), 9, 2, 0)) else (bif Nat.blt pc 20 then ((.iload_n 1), 0, 0, 0) else (bif Nat.blt pc 21 then ((.iaload), 0, 0, 0) else ((.invokevirtual 100), 126, 2, 1)))) else (bif Nat.blt pc 28 then (bif Nat.blt pc 27 then ((.goto 8), 32, 0, 0) else ((.aload_n 0), 0, 0, 0)) else (bif Nat.blt pc 29 then ((.iconst 1), 0, 0, 0) else (bif Nat.blt pc 32 then ((.invokevirtual 93), 125, 2, 1) else ((.ireturn), 0, 0, 0))))))
/-- PatternLaboratoryModel variablesOf()I -/
def pm_t133 : Nat → pm_En := fun pc => (bif Nat.blt pc 14 then (bif Nat.blt pc 5 then (bif Nat.blt pc 2 then (bif Nat.blt pc 1 then ((.iconst 0), 0, 0, 0) else ((.istore_n 1), 0, 0, 0)) else (bif Nat.blt pc 3 then ((.iconst 0), 0, 0, 0) else (bif Nat.blt pc 4 then ((.istore_n 2), 0, 0, 0) else ((.iload_n 2), 0, 0, 0)))) else (bif Nat.blt pc 9 then (bif Nat.blt pc 6 then ((.aload_n 0), 0, 0, 0) else ((.getfield 97), 9, 1, 0)) else (bif Nat.blt pc 12 then ((.if_icmp .ge 20), 29, 0, 0) else (bif Nat.blt pc 13 then ((.iload_n 1), 0, 0, 0) else ((.iconst 1), 0, 0, 0))))) else (bif Nat.blt pc 21 then (bif Nat.blt pc 18 then (bif Nat.blt pc 15 then ((.aload_n 0), 0, 0, 0) else ((.getfield 7), 9, 2, 0)) else (bif Nat.blt pc 19 then ((.iload_n 2), 0, 0, 0) else (bif Nat.blt pc 20 then ((.iaload), 0, 0, 0) else ((.ishl), 0, 0, 0)))) else (bif Nat.blt pc 26 then (bif Nat.blt pc 22 then ((.ior), 0, 0, 0) else (bif Nat.blt pc 23 then ((.istore_n 1), 0, 0, 0) else ((.iinc 2 1), 0, 0, 0))) else (bif Nat.blt pc 29 then ((.goto (-22)), 4, 0, 0) else (bif Nat.blt pc 30 then ((.iload_n 1), 0, 0, 0) else ((.ireturn), 0, 0, 0))))))
/-- PatternLaboratoryModel variables()I -/
def pm_t134 : Nat → pm_En := fun pc => (bif Nat.blt pc 2 then (bif Nat.blt pc 1 then ((.aload_n 0), 0, 0, 0) else ((.aload_n 0), 0, 0, 0)) else (bif Nat.blt pc 5 then ((.invokevirtual 103), 133, 1, 1) else (bif Nat.blt pc 8 then ((.invokevirtual 100), 126, 2, 1) else ((.ireturn), 0, 0, 0))))
/-- PatternLaboratoryModel zimin(I)I -/
def pm_t135 : Nat → pm_En := fun pc => (bif Nat.blt pc 9 then (bif Nat.blt pc 4 then (bif Nat.blt pc 2 then (bif Nat.blt pc 1 then ((.iconst 0), 0, 0, 0) else ((.istore_n 1), 0, 0, 0)) else (bif Nat.blt pc 3 then ((.iload_n 0), 0, 0, 0) else ((.iconst 1), 0, 0, 0))) else (bif Nat.blt pc 6 then (bif Nat.blt pc 5 then ((.iadd), 0, 0, 0) else ((.istore_n 2), 0, 0, 0)) else (bif Nat.blt pc 7 then ((.iload_n 2), 0, 0, 0) else (bif Nat.blt pc 8 then ((.iconst 2), 0, 0, 0) else ((.irem), 0, 0, 0))))) else (bif Nat.blt pc 15 then (bif Nat.blt pc 13 then (bif Nat.blt pc 12 then ((.ifCond .ne 13), 22, 0, 0) else ((.iload_n 2), 0, 0, 0)) else (bif Nat.blt pc 14 then ((.iconst 2), 0, 0, 0) else ((.idiv), 0, 0, 0))) else (bif Nat.blt pc 19 then (bif Nat.blt pc 16 then ((.istore_n 2), 0, 0, 0) else ((.iinc 1 1), 0, 0, 0)) else (bif Nat.blt pc 22 then ((.goto (-13)), 6, 0, 0) else (bif Nat.blt pc 23 then ((.iload_n 1), 0, 0, 0) else ((.ireturn), 0, 0, 0))))))
/-- PatternLaboratoryModel loadZimin(I)I -/
def pm_t136 : Nat → pm_En := fun pc => (bif Nat.blt pc 25 then (bif Nat.blt pc 14 then (bif Nat.blt pc 6 then (bif Nat.blt pc 2 then (bif Nat.blt pc 1 then ((.iload_n 1), 0, 0, 0) else ((.iconst 1), 0, 0, 0)) else (bif Nat.blt pc 3 then ((.iconst 4), 0, 0, 0) else ((.invokestatic 89), 124, 3, 0))) else (bif Nat.blt pc 10 then (bif Nat.blt pc 9 then ((.ifCond .ne 9), 15, 0, 0) else ((.aload_n 0), 0, 0, 0)) else (bif Nat.blt pc 11 then ((.iconst 1), 0, 0, 0) else ((.invokevirtual 93), 125, 2, 1)))) else (bif Nat.blt pc 18 then (bif Nat.blt pc 16 then (bif Nat.blt pc 15 then ((.ireturn), 0, 0, 0) else ((.aload_n 0), 0, 0, 0)) else (bif Nat.blt pc 17 then ((.iconst 1), 0, 0, 0) else ((.iload_n 1), 0, 0, 0))) else (bif Nat.blt pc 20 then (bif Nat.blt pc 19 then ((.ishl), 0, 0, 0) else ((.iconst 1), 0, 0, 0)) else (bif Nat.blt pc 21 then ((.isub), 0, 0, 0) else (bif Nat.blt pc 24 then ((.putfield 97), 9, 1, 0) else ((.iconst 0), 0, 0, 0)))))) else (bif Nat.blt pc 40 then (bif Nat.blt pc 31 then (bif Nat.blt pc 27 then (bif Nat.blt pc 26 then ((.istore_n 2), 0, 0, 0) else ((.iload_n 2), 0, 0, 0)) else (bif Nat.blt pc 28 then ((.aload_n 0), 0, 0, 0) else ((.getfield 97), 9, 1, 0))) else (bif Nat.blt pc 35 then (bif Nat.blt pc 34 then ((.if_icmp .ge 19), 50, 0, 0) else ((.aload_n 0), 0, 0, 0)) else (bif Nat.blt pc 38 then ((.getfield 7), 9, 2, 0) else (bif Nat.blt pc 39 then ((.iload_n 2), 0, 0, 0) else ((.iload_n 2), 0, 0, 0))))) else (bif Nat.blt pc 50 then (bif Nat.blt pc 44 then (bif Nat.blt pc 43 then ((.invokestatic 107), 135, 1, 0) else ((.iastore), 0, 0, 0)) else (bif Nat.blt pc 47 then ((.iinc 2 1), 0, 0, 0) else ((.goto (-21)), 26, 0, 0))) else (bif Nat.blt pc 52 then (bif Nat.blt pc 51 then ((.aload_n 0), 0, 0, 0) else ((.aload_n 0), 0, 0, 0)) else (bif Nat.blt pc 55 then ((.getfield 97), 9, 1, 0) else (bif Nat.blt pc 58 then ((.invokevirtual 100), 126, 2, 1) else ((.ireturn), 0, 0, 0)))))))
/-- PatternLaboratoryModel tellNames([III)V -/
def pm_t137 : Nat → pm_En := fun pc => (bif Nat.blt pc 39 then (bif Nat.blt pc 18 then (bif Nat.blt pc 8 then (bif Nat.blt pc 3 then (bif Nat.blt pc 1 then ((.iconst 0), 0, 0, 0) else ((.istore 4), 0, 0, 0)) else (bif Nat.blt pc 4 then ((.iconst 0), 0, 0, 0) else (bif Nat.blt pc 6 then ((.istore 5), 0, 0, 0) else ((.iload 5), 0, 0, 0)))) else (bif Nat.blt pc 12 then (bif Nat.blt pc 9 then ((.iconst 5), 0, 0, 0) else ((.if_icmp .ge 17), 26, 0, 0)) else (bif Nat.blt pc 13 then ((.aload_n 0), 0, 0, 0) else (bif Nat.blt pc 16 then ((.getfield 50), 9, 22, 0) else ((.iload 5), 0, 0, 0))))) else (bif Nat.blt pc 27 then (bif Nat.blt pc 20 then (bif Nat.blt pc 19 then ((.iconst (-1)), 0, 0, 0) else ((.iastore), 0, 0, 0)) else (bif Nat.blt pc 23 then ((.iinc 5 1), 0, 0, 0) else (bif Nat.blt pc 26 then ((.goto (-17)), 6, 0, 0) else ((.iconst 0), 0, 0, 0)))) else (bif Nat.blt pc 32 then (bif Nat.blt pc 29 then ((.istore 5), 0, 0, 0) else (bif Nat.blt pc 31 then ((.iload 5), 0, 0, 0) else ((.iload_n 3), 0, 0, 0))) else (bif Nat.blt pc 35 then ((.if_icmp .ge 40), 72, 0, 0) else (bif Nat.blt pc 36 then ((.aload_n 0), 0, 0, 0) else ((.getfield 50), 9, 22, 0)))))) else (bif Nat.blt pc 54 then (bif Nat.blt pc 45 then (bif Nat.blt pc 41 then (bif Nat.blt pc 40 then ((.aload_n 1), 0, 0, 0) else ((.iload_n 2), 0, 0, 0)) else (bif Nat.blt pc 43 then ((.iload 5), 0, 0, 0) else (bif Nat.blt pc 44 then ((.iadd), 0, 0, 0) else ((.iaload), 0, 0, 0)))) else (bif Nat.blt pc 47 then (bif Nat.blt pc 46 then ((.iaload), 0, 0, 0) else ((.iconst (-1)), 0, 0, 0)) else (bif Nat.blt pc 50 then ((.if_icmp .ne 19), 66, 0, 0) else (bif Nat.blt pc 51 then ((.aload_n 0), 0, 0, 0) else ((.getfield 50), 9, 22, 0))))) else (bif Nat.blt pc 60 then (bif Nat.blt pc 56 then (bif Nat.blt pc 55 then ((.aload_n 1), 0, 0, 0) else ((.iload_n 2), 0, 0, 0)) else (bif Nat.blt pc 58 then ((.iload 5), 0, 0, 0) else (bif Nat.blt pc 59 then ((.iadd), 0, 0, 0) else ((.iaload), 0, 0, 0)))) else (bif Nat.blt pc 66 then (bif Nat.blt pc 62 then ((.iload 4), 0, 0, 0) else (bif Nat.blt pc 63 then ((.iastore), 0, 0, 0) else ((.iinc 4 1), 0, 0, 0))) else (bif Nat.blt pc 69 then ((.iinc 5 1), 0, 0, 0) else (bif Nat.blt pc 72 then ((.goto (-40)), 29, 0, 0) else ((.return_), 0, 0, 0)))))))
/-- PatternLaboratoryModel canonicalize()Z -/
def pm_t138 : Nat → pm_En := fun pc => (bif Nat.blt pc 41 then (bif Nat.blt pc 18 then (bif Nat.blt pc 10 then (bif Nat.blt pc 5 then (bif Nat.blt pc 1 then ((.aload_n 0), 0, 0, 0) else (bif Nat.blt pc 2 then ((.aload_n 0), 0, 0, 0) else ((.getfield 7), 9, 2, 0))) else (bif Nat.blt pc 6 then ((.iconst 0), 0, 0, 0) else (bif Nat.blt pc 7 then ((.aload_n 0), 0, 0, 0) else ((.getfield 97), 9, 1, 0)))) else (bif Nat.blt pc 15 then (bif Nat.blt pc 13 then ((.invokevirtual 110), 137, 4, 1) else (bif Nat.blt pc 14 then ((.iconst 0), 0, 0, 0) else ((.istore_n 1), 0, 0, 0))) else (bif Nat.blt pc 16 then ((.iconst 0), 0, 0, 0) else (bif Nat.blt pc 17 then ((.istore_n 2), 0, 0, 0) else ((.iload_n 2), 0, 0, 0))))) else (bif Nat.blt pc 30 then (bif Nat.blt pc 25 then (bif Nat.blt pc 19 then ((.aload_n 0), 0, 0, 0) else (bif Nat.blt pc 22 then ((.getfield 97), 9, 1, 0) else ((.if_icmp .ge 56), 78, 0, 0))) else (bif Nat.blt pc 26 then ((.iload_n 1), 0, 0, 0) else (bif Nat.blt pc 29 then ((.ifCond .ne 23), 49, 0, 0) else ((.aload_n 0), 0, 0, 0)))) else (bif Nat.blt pc 37 then (bif Nat.blt pc 33 then ((.getfield 50), 9, 22, 0) else (bif Nat.blt pc 34 then ((.aload_n 0), 0, 0, 0) else ((.getfield 7), 9, 2, 0))) else (bif Nat.blt pc 39 then (bif Nat.blt pc 38 then ((.iload_n 2), 0, 0, 0) else ((.iaload), 0, 0, 0)) else (bif Nat.blt pc 40 then ((.iaload), 0, 0, 0) else ((.aload_n 0), 0, 0, 0)))))) else (bif Nat.blt pc 61 then (bif Nat.blt pc 53 then (bif Nat.blt pc 46 then (bif Nat.blt pc 44 then ((.getfield 7), 9, 2, 0) else (bif Nat.blt pc 45 then ((.iload_n 2), 0, 0, 0) else ((.iaload), 0, 0, 0))) else (bif Nat.blt pc 49 then ((.if_icmp .eq 7), 53, 0, 0) else (bif Nat.blt pc 50 then ((.iconst 1), 0, 0, 0) else ((.goto 4), 54, 0, 0)))) else (bif Nat.blt pc 56 then (bif Nat.blt pc 54 then ((.iconst 0), 0, 0, 0) else (bif Nat.blt pc 55 then ((.istore_n 1), 0, 0, 0) else ((.aload_n 0), 0, 0, 0))) else (bif Nat.blt pc 59 then ((.getfield 7), 9, 2, 0) else (bif Nat.blt pc 60 then ((.iload_n 2), 0, 0, 0) else ((.aload_n 0), 0, 0, 0))))) else (bif Nat.blt pc 71 then (bif Nat.blt pc 68 then (bif Nat.blt pc 64 then ((.getfield 50), 9, 22, 0) else (bif Nat.blt pc 65 then ((.aload_n 0), 0, 0, 0) else ((.getfield 7), 9, 2, 0))) else (bif Nat.blt pc 69 then ((.iload_n 2), 0, 0, 0) else (bif Nat.blt pc 70 then ((.iaload), 0, 0, 0) else ((.iaload), 0, 0, 0)))) else (bif Nat.blt pc 78 then (bif Nat.blt pc 72 then ((.iastore), 0, 0, 0) else (bif Nat.blt pc 75 then ((.iinc 2 1), 0, 0, 0) else ((.goto (-58)), 17, 0, 0))) else (bif Nat.blt pc 80 then (bif Nat.blt pc 79 then ((.aload_n 0), 0, 0, 0) else ((.iload_n 1), 0, 0, 0)) else (bif Nat.blt pc 83 then ((.invokevirtual 114), 127, 2, 1) else ((.ireturn), 1, 0, 0)))))))
/-- PatternLaboratoryModel reversePattern()Z -/
def pm_t139 : Nat → pm_En := fun pc => (bif Nat.blt pc 58 then (bif Nat.blt pc 30 then (bif Nat.blt pc 13 then (bif Nat.blt pc 4 then (bif Nat.blt pc 2 then (bif Nat.blt pc 1 then ((.iconst 0), 0, 0, 0) else ((.istore_n 1), 0, 0, 0)) else (bif Nat.blt pc 3 then ((.iconst 0), 0, 0, 0) else ((.istore_n 2), 0, 0, 0))) else (bif Nat.blt pc 6 then (bif Nat.blt pc 5 then ((.iload_n 2), 0, 0, 0) else ((.aload_n 0), 0, 0, 0)) else (bif Nat.blt pc 9 then ((.getfield 97), 9, 1, 0) else (bif Nat.blt pc 12 then ((.if_icmp .ge 41), 50, 0, 0) else ((.iload_n 1), 0, 0, 0))))) else (bif Nat.blt pc 21 then (bif Nat.blt pc 17 then (bif Nat.blt pc 16 then ((.ifCond .ne 25), 38, 0, 0) else ((.aload_n 0), 0, 0, 0)) else (bif Nat.blt pc 20 then ((.getfield 7), 9, 2, 0) else ((.iload_n 2), 0, 0, 0))) else (bif Nat.blt pc 23 then (bif Nat.blt pc 22 then ((.iaload), 0, 0, 0) else ((.aload_n 0), 0, 0, 0)) else (bif Nat.blt pc 26 then ((.getfield 7), 9, 2, 0) else (bif Nat.blt pc 27 then ((.aload_n 0), 0, 0, 0) else ((.getfield 97), 9, 1, 0)))))) else (bif Nat.blt pc 43 then (bif Nat.blt pc 34 then (bif Nat.blt pc 32 then (bif Nat.blt pc 31 then ((.iconst 1), 0, 0, 0) else ((.isub), 0, 0, 0)) else (bif Nat.blt pc 33 then ((.iload_n 2), 0, 0, 0) else ((.isub), 0, 0, 0))) else (bif Nat.blt pc 38 then (bif Nat.blt pc 35 then ((.iaload), 0, 0, 0) else ((.if_icmp .eq 7), 42, 0, 0)) else (bif Nat.blt pc 39 then ((.iconst 1), 0, 0, 0) else (bif Nat.blt pc 42 then ((.goto 4), 43, 0, 0) else ((.iconst 0), 0, 0, 0))))) else (bif Nat.blt pc 51 then (bif Nat.blt pc 47 then (bif Nat.blt pc 44 then ((.istore_n 1), 0, 0, 0) else ((.iinc 2 1), 0, 0, 0)) else (bif Nat.blt pc 50 then ((.goto (-43)), 4, 0, 0) else ((.iconst 0), 0, 0, 0))) else (bif Nat.blt pc 53 then (bif Nat.blt pc 52 then ((.istore_n 2), 0, 0, 0) else ((.iload_n 2), 0, 0, 0)) else (bif Nat.blt pc 54 then ((.aload_n 0), 0, 0, 0) else (bif Nat.blt pc 57 then ((.getfield 97), 9, 1, 0) else ((.iconst 2), 0, 0, 0))))))) else (bif Nat.blt pc 86 then (bif Nat.blt pc 73 then (bif Nat.blt pc 66 then (bif Nat.blt pc 62 then (bif Nat.blt pc 59 then ((.idiv), 0, 0, 0) else ((.if_icmp .ge 49), 108, 0, 0)) else (bif Nat.blt pc 63 then ((.aload_n 0), 0, 0, 0) else ((.getfield 7), 9, 2, 0))) else (bif Nat.blt pc 68 then (bif Nat.blt pc 67 then ((.iload_n 2), 0, 0, 0) else ((.iaload), 0, 0, 0)) else (bif Nat.blt pc 69 then ((.istore_n 3), 0, 0, 0) else (bif Nat.blt pc 70 then ((.aload_n 0), 0, 0, 0) else ((.getfield 7), 9, 2, 0))))) else (bif Nat.blt pc 79 then (bif Nat.blt pc 75 then (bif Nat.blt pc 74 then ((.iload_n 2), 0, 0, 0) else ((.aload_n 0), 0, 0, 0)) else (bif Nat.blt pc 78 then ((.getfield 7), 9, 2, 0) else ((.aload_n 0), 0, 0, 0))) else (bif Nat.blt pc 83 then (bif Nat.blt pc 82 then ((.getfield 97), 9, 1, 0) else ((.iconst 1), 0, 0, 0)) else (bif Nat.blt pc 84 then ((.isub), 0, 0, 0) else (bif Nat.blt pc 85 then ((.iload_n 2), 0, 0, 0) else ((.isub), 0, 0, 0)))))) else (bif Nat.blt pc 99 then (bif Nat.blt pc 92 then (bif Nat.blt pc 88 then (bif Nat.blt pc 87 then ((.iaload), 0, 0, 0) else ((.iastore), 0, 0, 0)) else (bif Nat.blt pc 89 then ((.aload_n 0), 0, 0, 0) else ((.getfield 7), 9, 2, 0))) else (bif Nat.blt pc 96 then (bif Nat.blt pc 93 then ((.aload_n 0), 0, 0, 0) else ((.getfield 97), 9, 1, 0)) else (bif Nat.blt pc 97 then ((.iconst 1), 0, 0, 0) else (bif Nat.blt pc 98 then ((.isub), 0, 0, 0) else ((.iload_n 2), 0, 0, 0))))) else (bif Nat.blt pc 105 then (bif Nat.blt pc 101 then (bif Nat.blt pc 100 then ((.isub), 0, 0, 0) else ((.iload_n 3), 0, 0, 0)) else (bif Nat.blt pc 102 then ((.iastore), 0, 0, 0) else ((.iinc 2 1), 0, 0, 0))) else (bif Nat.blt pc 109 then (bif Nat.blt pc 108 then ((.goto (-53)), 52, 0, 0) else ((.aload_n 0), 0, 0, 0)) else (bif Nat.blt pc 110 then ((.iload_n 1), 0, 0, 0) else (bif Nat.blt pc 113 then ((.invokevirtual 114), 127, 2, 1) else ((.ireturn), 1, 0, 0))))))))
/-- PatternLaboratoryModel seek([III)V -/
def pm_t140 : Nat → pm_En := fun pc => (bif Nat.blt pc 18 then (bif Nat.blt pc 8 then (bif Nat.blt pc 2 then (bif Nat.blt pc 1 then ((.aload_n 0), 0, 0, 0) else ((.iload_n 3), 0, 0, 0)) else (bif Nat.blt pc 5 then ((.putfield 118), 9, 23, 0) else (bif Nat.blt pc 6 then ((.iconst 0), 0, 0, 0) else ((.istore 4), 0, 0, 0)))) else (bif Nat.blt pc 11 then (bif Nat.blt pc 10 then ((.iload 4), 0, 0, 0) else ((.iload_n 3), 0, 0, 0)) else (bif Nat.blt pc 14 then ((.if_icmp .ge 22), 33, 0, 0) else (bif Nat.blt pc 15 then ((.aload_n 0), 0, 0, 0) else ((.getfield 53), 9, 24, 0))))) else (bif Nat.blt pc 25 then (bif Nat.blt pc 21 then (bif Nat.blt pc 20 then ((.iload 4), 0, 0, 0) else ((.aload_n 1), 0, 0, 0)) else (bif Nat.blt pc 22 then ((.iload_n 2), 0, 0, 0) else (bif Nat.blt pc 24 then ((.iload 4), 0, 0, 0) else ((.iadd), 0, 0, 0)))) else (bif Nat.blt pc 27 then (bif Nat.blt pc 26 then ((.iaload), 0, 0, 0) else ((.iastore), 0, 0, 0)) else (bif Nat.blt pc 30 then ((.iinc 4 1), 0, 0, 0) else (bif Nat.blt pc 33 then ((.goto (-22)), 8, 0, 0) else ((.return_), 0, 0, 0))))))
/-- PatternLaboratoryModel goesOn(LPatternLaboratoryModel;IIZI)Z -/
def pm_t141 : Nat → pm_En := fun pc => (bif Nat.blt pc 93 then (bif Nat.blt pc 50 then (bif Nat.blt pc 25 then (bif Nat.blt pc 10 then (bif Nat.blt pc 5 then (bif Nat.blt pc 1 then ((.iload_n 1), 0, 0, 0) else (bif Nat.blt pc 2 then ((.aload_n 0), 0, 0, 0) else ((.getfield 118), 9, 23, 0))) else (bif Nat.blt pc 8 then ((.if_icmp .ne 46), 51, 0, 0) else (bif Nat.blt pc 9 then ((.aload_n 0), 0, 0, 0) else ((.dup), 0, 0, 0)))) else (bif Nat.blt pc 16 then (bif Nat.blt pc 13 then ((.getfield 121), 9, 29, 0) else (bif Nat.blt pc 15 then ((.iload 4), 0, 0, 0) else ((.iconst (-1)), 0, 0, 0))) else (bif Nat.blt pc 20 then (bif Nat.blt pc 19 then ((.if_icmp .eq 9), 25, 0, 0) else ((.iload_n 2), 0, 0, 0)) else (bif Nat.blt pc 22 then ((.iload 4), 0, 0, 0) else ((.if_icmp .ne 7), 29, 0, 0))))) else (bif Nat.blt pc 35 then (bif Nat.blt pc 30 then (bif Nat.blt pc 26 then ((.iconst 1), 0, 0, 0) else (bif Nat.blt pc 29 then ((.goto 4), 30, 0, 0) else ((.iconst 0), 0, 0, 0))) else (bif Nat.blt pc 31 then ((.iadd), 0, 0, 0) else (bif Nat.blt pc 34 then ((.putfield 121), 9, 29, 0) else ((.iload_n 3), 0, 0, 0)))) else (bif Nat.blt pc 42 then (bif Nat.blt pc 38 then ((.ifCond .eq 14), 49, 0, 0) else (bif Nat.blt pc 39 then ((.aload_n 0), 0, 0, 0) else ((.getfield 121), 9, 29, 0))) else (bif Nat.blt pc 46 then (bif Nat.blt pc 45 then ((.ifCond .le 7), 49, 0, 0) else ((.iconst 1), 0, 0, 0)) else (bif Nat.blt pc 49 then ((.goto 4), 50, 0, 0) else ((.iconst 0), 0, 0, 0)))))) else (bif Nat.blt pc 72 then (bif Nat.blt pc 59 then (bif Nat.blt pc 55 then (bif Nat.blt pc 51 then ((.ireturn), 1, 0, 0) else (bif Nat.blt pc 52 then ((.aload_n 0), 0, 0, 0) else ((.getfield 53), 9, 24, 0))) else (bif Nat.blt pc 56 then ((.iload_n 1), 0, 0, 0) else (bif Nat.blt pc 57 then ((.iaload), 0, 0, 0) else ((.istore 5), 0, 0, 0)))) else (bif Nat.blt pc 65 then (bif Nat.blt pc 60 then ((.aload_n 0), 0, 0, 0) else (bif Nat.blt pc 63 then ((.getfield 62), 9, 28, 0) else ((.iload 5), 0, 0, 0))) else (bif Nat.blt pc 69 then (bif Nat.blt pc 66 then ((.iaload), 0, 0, 0) else ((.ifCond .le 41), 107, 0, 0)) else (bif Nat.blt pc 70 then ((.aload_n 0), 0, 0, 0) else ((.iload 5), 0, 0, 0))))) else (bif Nat.blt pc 83 then (bif Nat.blt pc 79 then (bif Nat.blt pc 73 then ((.iload_n 2), 0, 0, 0) else (bif Nat.blt pc 76 then ((.invokevirtual 124), 142, 3, 1) else ((.ifCond .eq 29), 105, 0, 0))) else (bif Nat.blt pc 81 then (bif Nat.blt pc 80 then ((.aload_n 0), 0, 0, 0) else ((.iload_n 1), 0, 0, 0)) else (bif Nat.blt pc 82 then ((.iconst 1), 0, 0, 0) else ((.iadd), 0, 0, 0)))) else (bif Nat.blt pc 88 then (bif Nat.blt pc 84 then ((.iload_n 2), 0, 0, 0) else (bif Nat.blt pc 85 then ((.aload_n 0), 0, 0, 0) else ((.getfield 62), 9, 28, 0))) else (bif Nat.blt pc 91 then (bif Nat.blt pc 90 then ((.iload 5), 0, 0, 0) else ((.iaload), 0, 0, 0)) else (bif Nat.blt pc 92 then ((.iadd), 0, 0, 0) else ((.iload_n 3), 0, 0, 0))))))) else (bif Nat.blt pc 138 then (bif Nat.blt pc 115 then (bif Nat.blt pc 106 then (bif Nat.blt pc 101 then (bif Nat.blt pc 95 then ((.iload 4), 0, 0, 0) else (bif Nat.blt pc 98 then ((.invokestatic 128), 141, 5, 0) else ((.ifCond .eq 7), 105, 0, 0))) else (bif Nat.blt pc 102 then ((.iconst 1), 0, 0, 0) else (bif Nat.blt pc 105 then ((.goto 4), 106, 0, 0) else ((.iconst 0), 0, 0, 0)))) else (bif Nat.blt pc 110 then (bif Nat.blt pc 107 then ((.ireturn), 1, 0, 0) else (bif Nat.blt pc 108 then ((.iconst 1), 0, 0, 0) else ((.istore 6), 0, 0, 0))) else (bif Nat.blt pc 113 then (bif Nat.blt pc 111 then ((.iload_n 2), 0, 0, 0) else ((.iload 6), 0, 0, 0)) else (bif Nat.blt pc 114 then ((.iadd), 0, 0, 0) else ((.aload_n 0), 0, 0, 0))))) else (bif Nat.blt pc 124 then (bif Nat.blt pc 120 then (bif Nat.blt pc 118 then ((.getfield 118), 9, 23, 0) else (bif Nat.blt pc 119 then ((.iadd), 0, 0, 0) else ((.iconst 1), 0, 0, 0))) else (bif Nat.blt pc 122 then (bif Nat.blt pc 121 then ((.isub), 0, 0, 0) else ((.iload_n 1), 0, 0, 0)) else (bif Nat.blt pc 123 then ((.isub), 0, 0, 0) else ((.aload_n 0), 0, 0, 0)))) else (bif Nat.blt pc 131 then (bif Nat.blt pc 127 then ((.getfield 132), 9, 25, 0) else (bif Nat.blt pc 130 then ((.if_icmp .gt 45), 172, 0, 0) else ((.aload_n 0), 0, 0, 0))) else (bif Nat.blt pc 136 then (bif Nat.blt pc 134 then ((.getfield 59), 9, 27, 0) else ((.iload 5), 0, 0, 0)) else (bif Nat.blt pc 137 then ((.iload_n 2), 0, 0, 0) else ((.iastore), 0, 0, 0)))))) else (bif Nat.blt pc 156 then (bif Nat.blt pc 148 then (bif Nat.blt pc 144 then (bif Nat.blt pc 139 then ((.aload_n 0), 0, 0, 0) else (bif Nat.blt pc 142 then ((.getfield 62), 9, 28, 0) else ((.iload 5), 0, 0, 0))) else (bif Nat.blt pc 146 then ((.iload 6), 0, 0, 0) else (bif Nat.blt pc 147 then ((.iastore), 0, 0, 0) else ((.aload_n 0), 0, 0, 0)))) else (bif Nat.blt pc 151 then (bif Nat.blt pc 149 then ((.iload_n 1), 0, 0, 0) else (bif Nat.blt pc 150 then ((.iconst 1), 0, 0, 0) else ((.iadd), 0, 0, 0))) else (bif Nat.blt pc 154 then (bif Nat.blt pc 152 then ((.iload_n 2), 0, 0, 0) else ((.iload 6), 0, 0, 0)) else (bif Nat.blt pc 155 then ((.iadd), 0, 0, 0) else ((.iload_n 3), 0, 0, 0))))) else (bif Nat.blt pc 172 then (bif Nat.blt pc 164 then (bif Nat.blt pc 158 then ((.iload 4), 0, 0, 0) else (bif Nat.blt pc 161 then ((.invokestatic 128), 141, 5, 0) else ((.ifCond .eq 5), 166, 0, 0))) else (bif Nat.blt pc 166 then (bif Nat.blt pc 165 then ((.iconst 1), 0, 0, 0) else ((.ireturn), 1, 0, 0)) else (bif Nat.blt pc 169 then ((.iinc 6 1), 0, 0, 0) else ((.goto (-59)), 110, 0, 0)))) else (bif Nat.blt pc 178 then (bif Nat.blt pc 173 then ((.aload_n 0), 0, 0, 0) else (bif Nat.blt pc 176 then ((.getfield 62), 9, 28, 0) else ((.iload 5), 0, 0, 0))) else (bif Nat.blt pc 180 then (bif Nat.blt pc 179 then ((.iconst 0), 0, 0, 0) else ((.iastore), 0, 0, 0)) else (bif Nat.blt pc 181 then ((.iconst 0), 0, 0, 0) else ((.ireturn), 1, 0, 0))))))))
/-- PatternLaboratoryModel standsAgain(II)Z -/
def pm_t142 : Nat → pm_En := fun pc => (bif Nat.blt pc 39 then (bif Nat.blt pc 19 then (bif Nat.blt pc 7 then (bif Nat.blt pc 2 then (bif Nat.blt pc 1 then ((.iload_n 2), 0, 0, 0) else ((.aload_n 0), 0, 0, 0)) else (bif Nat.blt pc 5 then ((.getfield 62), 9, 28, 0) else (bif Nat.blt pc 6 then ((.iload_n 1), 0, 0, 0) else ((.iaload), 0, 0, 0)))) else (bif Nat.blt pc 12 then (bif Nat.blt pc 8 then ((.iadd), 0, 0, 0) else (bif Nat.blt pc 9 then ((.aload_n 0), 0, 0, 0) else ((.getfield 132), 9, 25, 0))) else (bif Nat.blt pc 15 then ((.if_icmp .gt 7), 19, 0, 0) else (bif Nat.blt pc 16 then ((.iconst 1), 0, 0, 0) else ((.goto 4), 20, 0, 0))))) else (bif Nat.blt pc 28 then (bif Nat.blt pc 22 then (bif Nat.blt pc 20 then ((.iconst 0), 0, 0, 0) else (bif Nat.blt pc 21 then ((.istore_n 3), 0, 0, 0) else ((.iconst 0), 0, 0, 0))) else (bif Nat.blt pc 24 then ((.istore 4), 0, 0, 0) else (bif Nat.blt pc 25 then ((.iload_n 3), 0, 0, 0) else ((.ifCond .eq 52), 77, 0, 0)))) else (bif Nat.blt pc 34 then (bif Nat.blt pc 30 then ((.iload 4), 0, 0, 0) else (bif Nat.blt pc 31 then ((.aload_n 0), 0, 0, 0) else ((.getfield 62), 9, 28, 0))) else (bif Nat.blt pc 35 then ((.iload_n 1), 0, 0, 0) else (bif Nat.blt pc 36 then ((.iaload), 0, 0, 0) else ((.if_icmp .ge 41), 77, 0, 0)))))) else (bif Nat.blt pc 58 then (bif Nat.blt pc 49 then (bif Nat.blt pc 44 then (bif Nat.blt pc 40 then ((.aload_n 0), 0, 0, 0) else (bif Nat.blt pc 43 then ((.getfield 56), 9, 26, 0) else ((.aload_n 0), 0, 0, 0))) else (bif Nat.blt pc 47 then ((.getfield 59), 9, 27, 0) else (bif Nat.blt pc 48 then ((.iload_n 1), 0, 0, 0) else ((.iaload), 0, 0, 0)))) else (bif Nat.blt pc 53 then (bif Nat.blt pc 51 then ((.iload 4), 0, 0, 0) else (bif Nat.blt pc 52 then ((.iadd), 0, 0, 0) else ((.iaload), 0, 0, 0))) else (bif Nat.blt pc 54 then ((.aload_n 0), 0, 0, 0) else (bif Nat.blt pc 57 then ((.getfield 56), 9, 26, 0) else ((.iload_n 2), 0, 0, 0))))) else (bif Nat.blt pc 69 then (bif Nat.blt pc 62 then (bif Nat.blt pc 60 then ((.iload 4), 0, 0, 0) else (bif Nat.blt pc 61 then ((.iadd), 0, 0, 0) else ((.iaload), 0, 0, 0))) else (bif Nat.blt pc 65 then ((.if_icmp .ne 7), 69, 0, 0) else (bif Nat.blt pc 66 then ((.iconst 1), 0, 0, 0) else ((.goto 4), 70, 0, 0)))) else (bif Nat.blt pc 74 then (bif Nat.blt pc 70 then ((.iconst 0), 0, 0, 0) else (bif Nat.blt pc 71 then ((.istore_n 3), 0, 0, 0) else ((.iinc 4 1), 0, 0, 0))) else (bif Nat.blt pc 77 then ((.goto (-50)), 24, 0, 0) else (bif Nat.blt pc 78 then ((.iload_n 3), 0, 0, 0) else ((.ireturn), 1, 0, 0)))))))
/-- PatternLaboratoryModel first(I)I -/
def pm_t143 : Nat → pm_En := fun pc => (bif Nat.blt pc 27 then (bif Nat.blt pc 12 then (bif Nat.blt pc 6 then (bif Nat.blt pc 2 then (bif Nat.blt pc 1 then ((.aload_n 0), 0, 0, 0) else ((.iconst 0), 0, 0, 0)) else (bif Nat.blt pc 5 then ((.putfield 121), 9, 29, 0) else ((.iconst 0), 0, 0, 0))) else (bif Nat.blt pc 8 then (bif Nat.blt pc 7 then ((.istore_n 2), 0, 0, 0) else ((.iload_n 2), 0, 0, 0)) else (bif Nat.blt pc 9 then ((.aload_n 0), 0, 0, 0) else ((.getfield 132), 9, 25, 0)))) else (bif Nat.blt pc 18 then (bif Nat.blt pc 16 then (bif Nat.blt pc 15 then ((.if_icmp .ge 42), 54, 0, 0) else ((.iconst 0), 0, 0, 0)) else (bif Nat.blt pc 17 then ((.istore_n 3), 0, 0, 0) else ((.iload_n 3), 0, 0, 0))) else (bif Nat.blt pc 22 then (bif Nat.blt pc 19 then ((.iconst 5), 0, 0, 0) else ((.if_icmp .ge 16), 35, 0, 0)) else (bif Nat.blt pc 23 then ((.aload_n 0), 0, 0, 0) else (bif Nat.blt pc 26 then ((.getfield 62), 9, 28, 0) else ((.iload_n 3), 0, 0, 0)))))) else (bif Nat.blt pc 39 then (bif Nat.blt pc 35 then (bif Nat.blt pc 29 then (bif Nat.blt pc 28 then ((.iconst 0), 0, 0, 0) else ((.iastore), 0, 0, 0)) else (bif Nat.blt pc 32 then ((.iinc 3 1), 0, 0, 0) else ((.goto (-15)), 17, 0, 0))) else (bif Nat.blt pc 37 then (bif Nat.blt pc 36 then ((.aload_n 0), 0, 0, 0) else ((.iconst 0), 0, 0, 0)) else (bif Nat.blt pc 38 then ((.iload_n 2), 0, 0, 0) else ((.iconst 1), 0, 0, 0)))) else (bif Nat.blt pc 47 then (bif Nat.blt pc 43 then (bif Nat.blt pc 40 then ((.iload_n 1), 0, 0, 0) else ((.invokestatic 128), 141, 5, 0)) else (bif Nat.blt pc 46 then ((.ifCond .eq 5), 48, 0, 0) else ((.iload_n 2), 0, 0, 0))) else (bif Nat.blt pc 51 then (bif Nat.blt pc 48 then ((.ireturn), 0, 0, 0) else ((.iinc 2 1), 0, 0, 0)) else (bif Nat.blt pc 54 then ((.goto (-44)), 7, 0, 0) else (bif Nat.blt pc 55 then ((.iconst (-1)), 0, 0, 0) else ((.ireturn), 0, 0, 0)))))))
/-- PatternLaboratoryModel layWord()V -/
def pm_t144 : Nat → pm_En := fun pc => (bif Nat.blt pc 18 then (bif Nat.blt pc 9 then (bif Nat.blt pc 2 then (bif Nat.blt pc 1 then ((.aload_n 0), 0, 0, 0) else ((.aload_n 0), 0, 0, 0)) else (bif Nat.blt pc 5 then ((.getfield 135), 9, 4, 0) else (bif Nat.blt pc 8 then ((.putfield 132), 9, 25, 0) else ((.iconst 0), 0, 0, 0)))) else (bif Nat.blt pc 11 then (bif Nat.blt pc 10 then ((.istore_n 1), 0, 0, 0) else ((.iload_n 1), 0, 0, 0)) else (bif Nat.blt pc 12 then ((.aload_n 0), 0, 0, 0) else (bif Nat.blt pc 15 then ((.getfield 135), 9, 4, 0) else ((.if_icmp .ge 21), 36, 0, 0))))) else (bif Nat.blt pc 27 then (bif Nat.blt pc 22 then (bif Nat.blt pc 19 then ((.aload_n 0), 0, 0, 0) else ((.getfield 56), 9, 26, 0)) else (bif Nat.blt pc 23 then ((.iload_n 1), 0, 0, 0) else (bif Nat.blt pc 24 then ((.aload_n 0), 0, 0, 0) else ((.getfield 17), 9, 5, 0)))) else (bif Nat.blt pc 30 then (bif Nat.blt pc 28 then ((.iload_n 1), 0, 0, 0) else (bif Nat.blt pc 29 then ((.iaload), 0, 0, 0) else ((.iastore), 0, 0, 0))) else (bif Nat.blt pc 33 then ((.iinc 1 1), 0, 0, 0) else (bif Nat.blt pc 36 then ((.goto (-23)), 10, 0, 0) else ((.return_), 0, 0, 0))))))
/-- PatternLaboratoryModel occursInZimin(I)Z -/
def pm_t145 : Nat → pm_En := fun pc => (bif Nat.blt pc 45 then (bif Nat.blt pc 23 then (bif Nat.blt pc 10 then (bif Nat.blt pc 3 then (bif Nat.blt pc 1 then ((.iload_n 1), 0, 0, 0) else (bif Nat.blt pc 2 then ((.iconst 1), 0, 0, 0) else ((.iconst 4), 0, 0, 0))) else (bif Nat.blt pc 6 then ((.invokestatic 89), 124, 3, 0) else (bif Nat.blt pc 9 then ((.ifCond .ne 9), 15, 0, 0) else ((.aload_n 0), 0, 0, 0)))) else (bif Nat.blt pc 15 then (bif Nat.blt pc 11 then ((.iconst 1), 0, 0, 0) else (bif Nat.blt pc 14 then ((.invokevirtual 138), 128, 2, 1) else ((.ireturn), 1, 0, 0))) else (bif Nat.blt pc 19 then (bif Nat.blt pc 16 then ((.aload_n 0), 0, 0, 0) else ((.getfield 97), 9, 1, 0)) else (bif Nat.blt pc 22 then ((.ifCond .ne 9), 28, 0, 0) else ((.aload_n 0), 0, 0, 0))))) else (bif Nat.blt pc 34 then (bif Nat.blt pc 28 then (bif Nat.blt pc 24 then ((.iconst 2), 0, 0, 0) else (bif Nat.blt pc 27 then ((.invokevirtual 138), 128, 2, 1) else ((.ireturn), 1, 0, 0))) else (bif Nat.blt pc 30 then (bif Nat.blt pc 29 then ((.aload_n 0), 0, 0, 0) else ((.aload_n 0), 0, 0, 0)) else (bif Nat.blt pc 33 then ((.getfield 7), 9, 2, 0) else ((.iconst 0), 0, 0, 0)))) else (bif Nat.blt pc 41 then (bif Nat.blt pc 35 then ((.aload_n 0), 0, 0, 0) else (bif Nat.blt pc 38 then ((.getfield 97), 9, 1, 0) else ((.invokevirtual 142), 140, 4, 1))) else (bif Nat.blt pc 43 then (bif Nat.blt pc 42 then ((.aload_n 0), 0, 0, 0) else ((.iconst 1), 0, 0, 0)) else (bif Nat.blt pc 44 then ((.iload_n 1), 0, 0, 0) else ((.ishl), 0, 0, 0)))))) else (bif Nat.blt pc 69 then (bif Nat.blt pc 54 then (bif Nat.blt pc 50 then (bif Nat.blt pc 46 then ((.iconst 1), 0, 0, 0) else (bif Nat.blt pc 47 then ((.isub), 0, 0, 0) else ((.putfield 132), 9, 25, 0))) else (bif Nat.blt pc 52 then (bif Nat.blt pc 51 then ((.iconst 0), 0, 0, 0) else ((.istore_n 2), 0, 0, 0)) else (bif Nat.blt pc 53 then ((.iload_n 2), 0, 0, 0) else ((.aload_n 0), 0, 0, 0)))) else (bif Nat.blt pc 61 then (bif Nat.blt pc 57 then ((.getfield 132), 9, 25, 0) else (bif Nat.blt pc 60 then ((.if_icmp .ge 19), 76, 0, 0) else ((.aload_n 0), 0, 0, 0))) else (bif Nat.blt pc 65 then (bif Nat.blt pc 64 then ((.getfield 56), 9, 26, 0) else ((.iload_n 2), 0, 0, 0)) else (bif Nat.blt pc 66 then ((.iload_n 2), 0, 0, 0) else ((.invokestatic 107), 135, 1, 0))))) else (bif Nat.blt pc 82 then (bif Nat.blt pc 76 then (bif Nat.blt pc 70 then ((.iastore), 0, 0, 0) else (bif Nat.blt pc 73 then ((.iinc 2 1), 0, 0, 0) else ((.goto (-21)), 52, 0, 0))) else (bif Nat.blt pc 78 then (bif Nat.blt pc 77 then ((.aload_n 0), 0, 0, 0) else ((.aload_n 0), 0, 0, 0)) else (bif Nat.blt pc 79 then ((.iconst (-1)), 0, 0, 0) else ((.invokevirtual 145), 143, 2, 1)))) else (bif Nat.blt pc 87 then (bif Nat.blt pc 83 then ((.iconst (-1)), 0, 0, 0) else (bif Nat.blt pc 86 then ((.if_icmp .eq 7), 90, 0, 0) else ((.iconst 1), 0, 0, 0))) else (bif Nat.blt pc 91 then (bif Nat.blt pc 90 then ((.goto 4), 91, 0, 0) else ((.iconst 0), 0, 0, 0)) else (bif Nat.blt pc 94 then ((.invokevirtual 114), 127, 2, 1) else ((.ireturn), 1, 0, 0)))))))
/-- PatternLaboratoryModel shelve(I)I -/
def pm_t146 : Nat → pm_En := fun pc => (bif Nat.blt pc 32 then (bif Nat.blt pc 16 then (bif Nat.blt pc 9 then (bif Nat.blt pc 2 then (bif Nat.blt pc 1 then ((.iload_n 1), 0, 0, 0) else ((.iconst 0), 0, 0, 0)) else (bif Nat.blt pc 3 then ((.iconst 3), 0, 0, 0) else (bif Nat.blt pc 6 then ((.invokestatic 89), 124, 3, 0) else ((.ifCond .ne 9), 15, 0, 0)))) else (bif Nat.blt pc 11 then (bif Nat.blt pc 10 then ((.aload_n 0), 0, 0, 0) else ((.iconst 1), 0, 0, 0)) else (bif Nat.blt pc 14 then ((.invokevirtual 93), 125, 2, 1) else (bif Nat.blt pc 15 then ((.ireturn), 0, 0, 0) else ((.aload_n 0), 0, 0, 0))))) else (bif Nat.blt pc 25 then (bif Nat.blt pc 20 then (bif Nat.blt pc 19 then ((.getfield 26), 9, 8, 0) else ((.iload_n 1), 0, 0, 0)) else (bif Nat.blt pc 21 then ((.aload_n 0), 0, 0, 0) else (bif Nat.blt pc 24 then ((.getfield 97), 9, 1, 0) else ((.iastore), 0, 0, 0)))) else (bif Nat.blt pc 27 then (bif Nat.blt pc 26 then ((.iconst 0), 0, 0, 0) else ((.istore_n 2), 0, 0, 0)) else (bif Nat.blt pc 28 then ((.iload_n 2), 0, 0, 0) else (bif Nat.blt pc 29 then ((.aload_n 0), 0, 0, 0) else ((.getfield 97), 9, 1, 0)))))) else (bif Nat.blt pc 49 then (bif Nat.blt pc 42 then (bif Nat.blt pc 36 then (bif Nat.blt pc 35 then ((.if_icmp .ge 26), 58, 0, 0) else ((.aload_n 0), 0, 0, 0)) else (bif Nat.blt pc 39 then ((.getfield 29), 9, 9, 0) else (bif Nat.blt pc 41 then ((.bipush 15), 0, 0, 0) else ((.iload_n 1), 0, 0, 0)))) else (bif Nat.blt pc 44 then (bif Nat.blt pc 43 then ((.imul), 0, 0, 0) else ((.iload_n 2), 0, 0, 0)) else (bif Nat.blt pc 45 then ((.iadd), 0, 0, 0) else (bif Nat.blt pc 46 then ((.aload_n 0), 0, 0, 0) else ((.getfield 7), 9, 2, 0))))) else (bif Nat.blt pc 58 then (bif Nat.blt pc 51 then (bif Nat.blt pc 50 then ((.iload_n 2), 0, 0, 0) else ((.iaload), 0, 0, 0)) else (bif Nat.blt pc 52 then ((.iastore), 0, 0, 0) else (bif Nat.blt pc 55 then ((.iinc 2 1), 0, 0, 0) else ((.goto (-28)), 27, 0, 0)))) else (bif Nat.blt pc 60 then (bif Nat.blt pc 59 then ((.aload_n 0), 0, 0, 0) else ((.aload_n 0), 0, 0, 0)) else (bif Nat.blt pc 63 then ((.getfield 97), 9, 1, 0) else (bif Nat.blt pc 66 then ((.invokevirtual 100), 126, 2, 1) else ((.ireturn), 0, 0, 0)))))))
/-- PatternLaboratoryModel useShelf(I)I -/
def pm_t147 : Nat → pm_En := fun pc => (bif Nat.blt pc 41 then (bif Nat.blt pc 20 then (bif Nat.blt pc 10 then (bif Nat.blt pc 3 then (bif Nat.blt pc 1 then ((.iload_n 1), 0, 0, 0) else (bif Nat.blt pc 2 then ((.iconst 0), 0, 0, 0) else ((.iconst 3), 0, 0, 0))) else (bif Nat.blt pc 6 then ((.invokestatic 89), 124, 3, 0) else (bif Nat.blt pc 9 then ((.ifCond .ne 9), 15, 0, 0) else ((.aload_n 0), 0, 0, 0)))) else (bif Nat.blt pc 15 then (bif Nat.blt pc 11 then ((.iconst 1), 0, 0, 0) else (bif Nat.blt pc 14 then ((.invokevirtual 93), 125, 2, 1) else ((.ireturn), 0, 0, 0))) else (bif Nat.blt pc 16 then ((.aload_n 0), 0, 0, 0) else (bif Nat.blt pc 19 then ((.getfield 26), 9, 8, 0) else ((.iload_n 1), 0, 0, 0))))) else (bif Nat.blt pc 30 then (bif Nat.blt pc 25 then (bif Nat.blt pc 21 then ((.iaload), 0, 0, 0) else (bif Nat.blt pc 22 then ((.iconst (-1)), 0, 0, 0) else ((.if_icmp .ne 9), 31, 0, 0))) else (bif Nat.blt pc 26 then ((.aload_n 0), 0, 0, 0) else (bif Nat.blt pc 27 then ((.iconst 2), 0, 0, 0) else ((.invokevirtual 93), 125, 2, 1)))) else (bif Nat.blt pc 33 then (bif Nat.blt pc 31 then ((.ireturn), 0, 0, 0) else (bif Nat.blt pc 32 then ((.aload_n 0), 0, 0, 0) else ((.aload_n 0), 0, 0, 0))) else (bif Nat.blt pc 37 then (bif Nat.blt pc 36 then ((.getfield 26), 9, 8, 0) else ((.iload_n 1), 0, 0, 0)) else (bif Nat.blt pc 38 then ((.iaload), 0, 0, 0) else ((.putfield 97), 9, 1, 0)))))) else (bif Nat.blt pc 62 then (bif Nat.blt pc 51 then (bif Nat.blt pc 44 then (bif Nat.blt pc 42 then ((.iconst 0), 0, 0, 0) else (bif Nat.blt pc 43 then ((.istore_n 2), 0, 0, 0) else ((.iload_n 2), 0, 0, 0))) else (bif Nat.blt pc 45 then ((.aload_n 0), 0, 0, 0) else (bif Nat.blt pc 48 then ((.getfield 97), 9, 1, 0) else ((.if_icmp .ge 26), 74, 0, 0)))) else (bif Nat.blt pc 56 then (bif Nat.blt pc 52 then ((.aload_n 0), 0, 0, 0) else (bif Nat.blt pc 55 then ((.getfield 7), 9, 2, 0) else ((.iload_n 2), 0, 0, 0))) else (bif Nat.blt pc 57 then ((.aload_n 0), 0, 0, 0) else (bif Nat.blt pc 60 then ((.getfield 29), 9, 9, 0) else ((.bipush 15), 0, 0, 0))))) else (bif Nat.blt pc 68 then (bif Nat.blt pc 65 then (bif Nat.blt pc 63 then ((.iload_n 1), 0, 0, 0) else (bif Nat.blt pc 64 then ((.imul), 0, 0, 0) else ((.iload_n 2), 0, 0, 0))) else (bif Nat.blt pc 66 then ((.iadd), 0, 0, 0) else (bif Nat.blt pc 67 then ((.iaload), 0, 0, 0) else ((.iastore), 0, 0, 0)))) else (bif Nat.blt pc 75 then (bif Nat.blt pc 71 then ((.iinc 2 1), 0, 0, 0) else (bif Nat.blt pc 74 then ((.goto (-28)), 43, 0, 0) else ((.aload_n 0), 0, 0, 0))) else (bif Nat.blt pc 79 then (bif Nat.blt pc 76 then ((.aload_n 0), 0, 0, 0) else ((.getfield 97), 9, 1, 0)) else (bif Nat.blt pc 82 then ((.invokevirtual 100), 126, 2, 1) else ((.ireturn), 0, 0, 0)))))))
/-- PatternLaboratoryModel isIsomorphic(I)Z -/
def pm_t148 : Nat → pm_En := fun pc => (bif Nat.blt pc 77 then (bif Nat.blt pc 36 then (bif Nat.blt pc 19 then (bif Nat.blt pc 9 then (bif Nat.blt pc 2 then (bif Nat.blt pc 1 then ((.iload_n 1), 0, 0, 0) else ((.iconst 0), 0, 0, 0)) else (bif Nat.blt pc 3 then ((.iconst 3), 0, 0, 0) else (bif Nat.blt pc 6 then ((.invokestatic 89), 124, 3, 0) else ((.ifCond .ne 9), 15, 0, 0)))) else (bif Nat.blt pc 14 then (bif Nat.blt pc 10 then ((.aload_n 0), 0, 0, 0) else (bif Nat.blt pc 11 then ((.iconst 1), 0, 0, 0) else ((.invokevirtual 138), 128, 2, 1))) else (bif Nat.blt pc 15 then ((.ireturn), 1, 0, 0) else (bif Nat.blt pc 16 then ((.aload_n 0), 0, 0, 0) else ((.getfield 26), 9, 8, 0))))) else (bif Nat.blt pc 26 then (bif Nat.blt pc 21 then (bif Nat.blt pc 20 then ((.iload_n 1), 0, 0, 0) else ((.iaload), 0, 0, 0)) else (bif Nat.blt pc 22 then ((.iconst (-1)), 0, 0, 0) else (bif Nat.blt pc 25 then ((.if_icmp .ne 9), 31, 0, 0) else ((.aload_n 0), 0, 0, 0)))) else (bif Nat.blt pc 31 then (bif Nat.blt pc 27 then ((.iconst 2), 0, 0, 0) else (bif Nat.blt pc 30 then ((.invokevirtual 138), 128, 2, 1) else ((.ireturn), 1, 0, 0))) else (bif Nat.blt pc 32 then ((.aload_n 0), 0, 0, 0) else (bif Nat.blt pc 35 then ((.getfield 26), 9, 8, 0) else ((.iload_n 1), 0, 0, 0)))))) else (bif Nat.blt pc 53 then (bif Nat.blt pc 45 then (bif Nat.blt pc 38 then (bif Nat.blt pc 37 then ((.iaload), 0, 0, 0) else ((.aload_n 0), 0, 0, 0)) else (bif Nat.blt pc 41 then ((.getfield 97), 9, 1, 0) else (bif Nat.blt pc 44 then ((.if_icmp .ne 7), 48, 0, 0) else ((.iconst 1), 0, 0, 0)))) else (bif Nat.blt pc 50 then (bif Nat.blt pc 48 then ((.goto 4), 49, 0, 0) else (bif Nat.blt pc 49 then ((.iconst 0), 0, 0, 0) else ((.istore_n 2), 0, 0, 0))) else (bif Nat.blt pc 51 then ((.iconst 0), 0, 0, 0) else (bif Nat.blt pc 52 then ((.istore_n 3), 0, 0, 0) else ((.iload_n 2), 0, 0, 0))))) else (bif Nat.blt pc 65 then (bif Nat.blt pc 58 then (bif Nat.blt pc 56 then ((.ifCond .eq 97), 150, 0, 0) else (bif Nat.blt pc 57 then ((.iload_n 3), 0, 0, 0) else ((.aload_n 0), 0, 0, 0))) else (bif Nat.blt pc 61 then ((.getfield 97), 9, 1, 0) else (bif Nat.blt pc 64 then ((.if_icmp .ge 89), 150, 0, 0) else ((.iconst 0), 0, 0, 0)))) else (bif Nat.blt pc 70 then (bif Nat.blt pc 67 then ((.istore 4), 0, 0, 0) else (bif Nat.blt pc 69 then ((.iload 4), 0, 0, 0) else ((.iload_n 3), 0, 0, 0))) else (bif Nat.blt pc 73 then ((.if_icmp .ge 74), 144, 0, 0) else (bif Nat.blt pc 74 then ((.iload_n 2), 0, 0, 0) else ((.ifCond .eq 62), 136, 0, 0))))))) else (bif Nat.blt pc 113 then (bif Nat.blt pc 97 then (bif Nat.blt pc 84 then (bif Nat.blt pc 81 then (bif Nat.blt pc 78 then ((.aload_n 0), 0, 0, 0) else ((.getfield 7), 9, 2, 0)) else (bif Nat.blt pc 82 then ((.iload_n 3), 0, 0, 0) else (bif Nat.blt pc 83 then ((.iaload), 0, 0, 0) else ((.aload_n 0), 0, 0, 0)))) else (bif Nat.blt pc 90 then (bif Nat.blt pc 87 then ((.getfield 7), 9, 2, 0) else (bif Nat.blt pc 89 then ((.iload 4), 0, 0, 0) else ((.iaload), 0, 0, 0))) else (bif Nat.blt pc 93 then ((.if_icmp .ne 7), 97, 0, 0) else (bif Nat.blt pc 94 then ((.iconst 1), 0, 0, 0) else ((.goto 4), 98, 0, 0))))) else (bif Nat.blt pc 105 then (bif Nat.blt pc 99 then (bif Nat.blt pc 98 then ((.iconst 0), 0, 0, 0) else ((.aload_n 0), 0, 0, 0)) else (bif Nat.blt pc 102 then ((.getfield 29), 9, 9, 0) else (bif Nat.blt pc 104 then ((.bipush 15), 0, 0, 0) else ((.iload_n 1), 0, 0, 0)))) else (bif Nat.blt pc 108 then (bif Nat.blt pc 106 then ((.imul), 0, 0, 0) else (bif Nat.blt pc 107 then ((.iload_n 3), 0, 0, 0) else ((.iadd), 0, 0, 0))) else (bif Nat.blt pc 109 then ((.iaload), 0, 0, 0) else (bif Nat.blt pc 110 then ((.aload_n 0), 0, 0, 0) else ((.getfield 29), 9, 9, 0)))))) else (bif Nat.blt pc 132 then (bif Nat.blt pc 120 then (bif Nat.blt pc 116 then (bif Nat.blt pc 115 then ((.bipush 15), 0, 0, 0) else ((.iload_n 1), 0, 0, 0)) else (bif Nat.blt pc 117 then ((.imul), 0, 0, 0) else (bif Nat.blt pc 119 then ((.iload 4), 0, 0, 0) else ((.iadd), 0, 0, 0)))) else (bif Nat.blt pc 125 then (bif Nat.blt pc 121 then ((.iaload), 0, 0, 0) else (bif Nat.blt pc 124 then ((.if_icmp .ne 7), 128, 0, 0) else ((.iconst 1), 0, 0, 0))) else (bif Nat.blt pc 128 then ((.goto 4), 129, 0, 0) else (bif Nat.blt pc 129 then ((.iconst 0), 0, 0, 0) else ((.if_icmp .ne 7), 136, 0, 0))))) else (bif Nat.blt pc 144 then (bif Nat.blt pc 137 then (bif Nat.blt pc 133 then ((.iconst 1), 0, 0, 0) else (bif Nat.blt pc 136 then ((.goto 4), 137, 0, 0) else ((.iconst 0), 0, 0, 0))) else (bif Nat.blt pc 138 then ((.istore_n 2), 0, 0, 0) else (bif Nat.blt pc 141 then ((.iinc 4 1), 0, 0, 0) else ((.goto (-74)), 67, 0, 0)))) else (bif Nat.blt pc 151 then (bif Nat.blt pc 147 then ((.iinc 3 1), 0, 0, 0) else (bif Nat.blt pc 150 then ((.goto (-95)), 52, 0, 0) else ((.aload_n 0), 0, 0, 0))) else (bif Nat.blt pc 152 then ((.iload_n 2), 0, 0, 0) else (bif Nat.blt pc 155 then ((.invokevirtual 114), 127, 2, 1) else ((.ireturn), 1, 0, 0))))))))
/-- PatternLaboratoryModel contains(I)Z -/
def pm_t149 : Nat → pm_En := fun pc => (bif Nat.blt pc 49 then (bif Nat.blt pc 25 then (bif Nat.blt pc 11 then (bif Nat.blt pc 3 then (bif Nat.blt pc 1 then ((.iload_n 1), 0, 0, 0) else (bif Nat.blt pc 2 then ((.iconst 0), 0, 0, 0) else ((.iconst 3), 0, 0, 0))) else (bif Nat.blt pc 9 then (bif Nat.blt pc 6 then ((.invokestatic 89), 124, 3, 0) else ((.ifCond .ne 9), 15, 0, 0)) else (bif Nat.blt pc 10 then ((.aload_n 0), 0, 0, 0) else ((.iconst 1), 0, 0, 0)))) else (bif Nat.blt pc 19 then (bif Nat.blt pc 15 then (bif Nat.blt pc 14 then ((.invokevirtual 138), 128, 2, 1) else ((.ireturn), 1, 0, 0)) else (bif Nat.blt pc 16 then ((.aload_n 0), 0, 0, 0) else ((.getfield 26), 9, 8, 0))) else (bif Nat.blt pc 21 then (bif Nat.blt pc 20 then ((.iload_n 1), 0, 0, 0) else ((.iaload), 0, 0, 0)) else (bif Nat.blt pc 22 then ((.iconst 1), 0, 0, 0) else ((.if_icmp .ge 9), 31, 0, 0))))) else (bif Nat.blt pc 36 then (bif Nat.blt pc 30 then (bif Nat.blt pc 26 then ((.aload_n 0), 0, 0, 0) else (bif Nat.blt pc 27 then ((.iconst 2), 0, 0, 0) else ((.invokevirtual 138), 128, 2, 1))) else (bif Nat.blt pc 32 then (bif Nat.blt pc 31 then ((.ireturn), 1, 0, 0) else ((.aload_n 0), 0, 0, 0)) else (bif Nat.blt pc 33 then ((.aload_n 0), 0, 0, 0) else ((.getfield 29), 9, 9, 0)))) else (bif Nat.blt pc 41 then (bif Nat.blt pc 39 then (bif Nat.blt pc 38 then ((.bipush 15), 0, 0, 0) else ((.iload_n 1), 0, 0, 0)) else (bif Nat.blt pc 40 then ((.imul), 0, 0, 0) else ((.aload_n 0), 0, 0, 0))) else (bif Nat.blt pc 45 then (bif Nat.blt pc 44 then ((.getfield 26), 9, 8, 0) else ((.iload_n 1), 0, 0, 0)) else (bif Nat.blt pc 46 then ((.iaload), 0, 0, 0) else ((.invokevirtual 142), 140, 4, 1)))))) else (bif Nat.blt pc 76 then (bif Nat.blt pc 60 then (bif Nat.blt pc 54 then (bif Nat.blt pc 50 then ((.aload_n 0), 0, 0, 0) else (bif Nat.blt pc 51 then ((.aload_n 0), 0, 0, 0) else ((.getfield 97), 9, 1, 0))) else (bif Nat.blt pc 58 then (bif Nat.blt pc 57 then ((.putfield 132), 9, 25, 0) else ((.iconst 0), 0, 0, 0)) else (bif Nat.blt pc 59 then ((.istore_n 2), 0, 0, 0) else ((.iload_n 2), 0, 0, 0)))) else (bif Nat.blt pc 68 then (bif Nat.blt pc 64 then (bif Nat.blt pc 61 then ((.aload_n 0), 0, 0, 0) else ((.getfield 97), 9, 1, 0)) else (bif Nat.blt pc 67 then ((.if_icmp .ge 21), 85, 0, 0) else ((.aload_n 0), 0, 0, 0))) else (bif Nat.blt pc 72 then (bif Nat.blt pc 71 then ((.getfield 56), 9, 26, 0) else ((.iload_n 2), 0, 0, 0)) else (bif Nat.blt pc 73 then ((.aload_n 0), 0, 0, 0) else ((.getfield 7), 9, 2, 0))))) else (bif Nat.blt pc 88 then (bif Nat.blt pc 82 then (bif Nat.blt pc 78 then (bif Nat.blt pc 77 then ((.iload_n 2), 0, 0, 0) else ((.iaload), 0, 0, 0)) else (bif Nat.blt pc 79 then ((.iastore), 0, 0, 0) else ((.iinc 2 1), 0, 0, 0))) else (bif Nat.blt pc 86 then (bif Nat.blt pc 85 then ((.goto (-23)), 59, 0, 0) else ((.aload_n 0), 0, 0, 0)) else (bif Nat.blt pc 87 then ((.aload_n 0), 0, 0, 0) else ((.iconst (-1)), 0, 0, 0)))) else (bif Nat.blt pc 96 then (bif Nat.blt pc 92 then (bif Nat.blt pc 91 then ((.invokevirtual 145), 143, 2, 1) else ((.iconst (-1)), 0, 0, 0)) else (bif Nat.blt pc 95 then ((.if_icmp .eq 7), 99, 0, 0) else ((.iconst 1), 0, 0, 0))) else (bif Nat.blt pc 100 then (bif Nat.blt pc 99 then ((.goto 4), 100, 0, 0) else ((.iconst 0), 0, 0, 0)) else (bif Nat.blt pc 103 then ((.invokevirtual 114), 127, 2, 1) else ((.ireturn), 1, 0, 0)))))))
/-- PatternLaboratoryModel isLetter(I)Z -/
def pm_t150 : Nat → pm_En := fun pc => (bif Nat.blt pc 6 then (bif Nat.blt pc 2 then (bif Nat.blt pc 1 then ((.iload_n 1), 0, 0, 0) else ((.iconst 0), 0, 0, 0)) else (bif Nat.blt pc 3 then ((.aload_n 0), 0, 0, 0) else ((.getfield 13), 9, 3, 0))) else (bif Nat.blt pc 8 then (bif Nat.blt pc 7 then ((.iconst 1), 0, 0, 0) else ((.isub), 0, 0, 0)) else (bif Nat.blt pc 11 then ((.invokestatic 89), 124, 3, 0) else ((.ireturn), 1, 0, 0))))
/-- PatternLaboratoryModel setLetterCount(I)I -/
def pm_t151 : Nat → pm_En := fun pc => (bif Nat.blt pc 27 then (bif Nat.blt pc 14 then (bif Nat.blt pc 6 then (bif Nat.blt pc 2 then (bif Nat.blt pc 1 then ((.iload_n 1), 0, 0, 0) else ((.iconst 2), 0, 0, 0)) else (bif Nat.blt pc 3 then ((.iconst 4), 0, 0, 0) else ((.invokestatic 89), 124, 3, 0))) else (bif Nat.blt pc 10 then (bif Nat.blt pc 9 then ((.ifCond .ne 9), 15, 0, 0) else ((.aload_n 0), 0, 0, 0)) else (bif Nat.blt pc 11 then ((.iconst 1), 0, 0, 0) else ((.invokevirtual 93), 125, 2, 1)))) else (bif Nat.blt pc 20 then (bif Nat.blt pc 16 then (bif Nat.blt pc 15 then ((.ireturn), 0, 0, 0) else ((.aload_n 0), 0, 0, 0)) else (bif Nat.blt pc 19 then ((.getfield 13), 9, 3, 0) else ((.istore_n 2), 0, 0, 0))) else (bif Nat.blt pc 22 then (bif Nat.blt pc 21 then ((.aload_n 0), 0, 0, 0) else ((.iload_n 1), 0, 0, 0)) else (bif Nat.blt pc 25 then ((.putfield 13), 9, 3, 0) else (bif Nat.blt pc 26 then ((.aload_n 0), 0, 0, 0) else ((.iconst 0), 0, 0, 0)))))) else (bif Nat.blt pc 41 then (bif Nat.blt pc 33 then (bif Nat.blt pc 31 then (bif Nat.blt pc 30 then ((.putfield 135), 9, 4, 0) else ((.iconst 0), 0, 0, 0)) else (bif Nat.blt pc 32 then ((.istore_n 3), 0, 0, 0) else ((.iload_n 3), 0, 0, 0))) else (bif Nat.blt pc 37 then (bif Nat.blt pc 34 then ((.iconst 4), 0, 0, 0) else ((.if_icmp .ge 16), 50, 0, 0)) else (bif Nat.blt pc 38 then ((.aload_n 0), 0, 0, 0) else ((.getfield 20), 9, 6, 0)))) else (bif Nat.blt pc 47 then (bif Nat.blt pc 43 then (bif Nat.blt pc 42 then ((.iload_n 3), 0, 0, 0) else ((.iconst 0), 0, 0, 0)) else (bif Nat.blt pc 44 then ((.iastore), 0, 0, 0) else ((.iinc 3 1), 0, 0, 0))) else (bif Nat.blt pc 51 then (bif Nat.blt pc 50 then ((.goto (-15)), 32, 0, 0) else ((.aload_n 0), 0, 0, 0)) else (bif Nat.blt pc 52 then ((.iload_n 2), 0, 0, 0) else (bif Nat.blt pc 55 then ((.invokevirtual 100), 126, 2, 1) else ((.ireturn), 0, 0, 0)))))))
/-- PatternLaboratoryModel appendLetter(I)I -/
def pm_t152 : Nat → pm_En := fun pc => (bif Nat.blt pc 29 then (bif Nat.blt pc 14 then (bif Nat.blt pc 8 then (bif Nat.blt pc 2 then (bif Nat.blt pc 1 then ((.aload_n 0), 0, 0, 0) else ((.iload_n 1), 0, 0, 0)) else (bif Nat.blt pc 5 then ((.invokevirtual 148), 150, 2, 1) else ((.ifCond .ne 9), 14, 0, 0))) else (bif Nat.blt pc 10 then (bif Nat.blt pc 9 then ((.aload_n 0), 0, 0, 0) else ((.iconst 1), 0, 0, 0)) else (bif Nat.blt pc 13 then ((.invokevirtual 93), 125, 2, 1) else ((.ireturn), 0, 0, 0)))) else (bif Nat.blt pc 23 then (bif Nat.blt pc 18 then (bif Nat.blt pc 15 then ((.aload_n 0), 0, 0, 0) else ((.getfield 135), 9, 4, 0)) else (bif Nat.blt pc 20 then ((.bipush 24), 0, 0, 0) else ((.if_icmp .ne 9), 29, 0, 0))) else (bif Nat.blt pc 25 then (bif Nat.blt pc 24 then ((.aload_n 0), 0, 0, 0) else ((.iconst 2), 0, 0, 0)) else (bif Nat.blt pc 28 then ((.invokevirtual 93), 125, 2, 1) else ((.ireturn), 0, 0, 0))))) else (bif Nat.blt pc 41 then (bif Nat.blt pc 37 then (bif Nat.blt pc 33 then (bif Nat.blt pc 30 then ((.aload_n 0), 0, 0, 0) else ((.getfield 17), 9, 5, 0)) else (bif Nat.blt pc 34 then ((.aload_n 0), 0, 0, 0) else ((.getfield 135), 9, 4, 0))) else (bif Nat.blt pc 39 then (bif Nat.blt pc 38 then ((.iload_n 1), 0, 0, 0) else ((.iastore), 0, 0, 0)) else (bif Nat.blt pc 40 then ((.aload_n 0), 0, 0, 0) else ((.dup), 0, 0, 0)))) else (bif Nat.blt pc 49 then (bif Nat.blt pc 45 then (bif Nat.blt pc 44 then ((.getfield 135), 9, 4, 0) else ((.iconst 1), 0, 0, 0)) else (bif Nat.blt pc 46 then ((.iadd), 0, 0, 0) else ((.putfield 135), 9, 4, 0))) else (bif Nat.blt pc 51 then (bif Nat.blt pc 50 then ((.aload_n 0), 0, 0, 0) else ((.aload_n 0), 0, 0, 0)) else (bif Nat.blt pc 54 then ((.getfield 135), 9, 4, 0) else (bif Nat.blt pc 57 then ((.invokevirtual 100), 126, 2, 1) else ((.ireturn), 0, 0, 0)))))))
/-- PatternLaboratoryModel clearWord()I -/
def pm_t153 : Nat → pm_En := fun pc => (bif Nat.blt pc 7 then (bif Nat.blt pc 4 then (bif Nat.blt pc 1 then ((.aload_n 0), 0, 0, 0) else ((.getfield 135), 9, 4, 0)) else (bif Nat.blt pc 5 then ((.istore_n 1), 0, 0, 0) else (bif Nat.blt pc 6 then ((.aload_n 0), 0, 0, 0) else ((.iconst 0), 0, 0, 0)))) else (bif Nat.blt pc 11 then (bif Nat.blt pc 10 then ((.putfield 135), 9, 4, 0) else ((.aload_n 0), 0, 0, 0)) else (bif Nat.blt pc 12 then ((.iload_n 1), 0, 0, 0) else (bif Nat.blt pc 15 then ((.invokevirtual 100), 126, 2, 1) else ((.ireturn), 0, 0, 0)))))
/-- PatternLaboratoryModel wordLength()I -/
def pm_t154 : Nat → pm_En := fun pc => (bif Nat.blt pc 2 then (bif Nat.blt pc 1 then ((.aload_n 0), 0, 0, 0) else ((.aload_n 0), 0, 0, 0)) else (bif Nat.blt pc 5 then ((.getfield 135), 9, 4, 0) else (bif Nat.blt pc 8 then ((.invokevirtual 100), 126, 2, 1) else ((.ireturn), 0, 0, 0))))
/-- PatternLaboratoryModel letter(I)I -/
def pm_t155 : Nat → pm_En := fun pc => (bif Nat.blt pc 15 then (bif Nat.blt pc 6 then (bif Nat.blt pc 2 then (bif Nat.blt pc 1 then ((.iload_n 1), 0, 0, 0) else ((.iconst 0), 0, 0, 0)) else (bif Nat.blt pc 3 then ((.aload_n 0), 0, 0, 0) else ((.getfield 135), 9, 4, 0))) else (bif Nat.blt pc 8 then (bif Nat.blt pc 7 then ((.iconst 1), 0, 0, 0) else ((.isub), 0, 0, 0)) else (bif Nat.blt pc 11 then ((.invokestatic 89), 124, 3, 0) else (bif Nat.blt pc 14 then ((.ifCond .eq 16), 27, 0, 0) else ((.aload_n 0), 0, 0, 0))))) else (bif Nat.blt pc 24 then (bif Nat.blt pc 19 then (bif Nat.blt pc 16 then ((.aload_n 0), 0, 0, 0) else ((.getfield 17), 9, 5, 0)) else (bif Nat.blt pc 20 then ((.iload_n 1), 0, 0, 0) else (bif Nat.blt pc 21 then ((.iaload), 0, 0, 0) else ((.invokevirtual 100), 126, 2, 1)))) else (bif Nat.blt pc 28 then (bif Nat.blt pc 27 then ((.goto 8), 32, 0, 0) else ((.aload_n 0), 0, 0, 0)) else (bif Nat.blt pc 29 then ((.iconst 1), 0, 0, 0) else (bif Nat.blt pc 32 then ((.invokevirtual 93), 125, 2, 1) else ((.ireturn), 0, 0, 0))))))
/-- PatternLaboratoryModel density(I)F -/
def pm_t156 : Nat → pm_En := fun pc => (bif Nat.blt pc 38 then (bif Nat.blt pc 22 then (bif Nat.blt pc 10 then (bif Nat.blt pc 5 then (bif Nat.blt pc 1 then ((.aload_n 0), 0, 0, 0) else (bif Nat.blt pc 2 then ((.iload_n 1), 0, 0, 0) else ((.invokevirtual 148), 150, 2, 1))) else (bif Nat.blt pc 8 then ((.ifCond .ne 10), 15, 0, 0) else (bif Nat.blt pc 9 then ((.aload_n 0), 0, 0, 0) else ((.iconst 1), 0, 0, 0)))) else (bif Nat.blt pc 15 then (bif Nat.blt pc 13 then ((.putfield 86), 9, 0, 0) else (bif Nat.blt pc 14 then ((.fconst 0), 0, 0, 0) else ((.freturn), 0, 0, 0))) else (bif Nat.blt pc 16 then ((.aload_n 0), 0, 0, 0) else (bif Nat.blt pc 19 then ((.getfield 135), 9, 4, 0) else ((.ifCond .ne 10), 29, 0, 0))))) else (bif Nat.blt pc 30 then (bif Nat.blt pc 27 then (bif Nat.blt pc 23 then ((.aload_n 0), 0, 0, 0) else (bif Nat.blt pc 24 then ((.iconst 2), 0, 0, 0) else ((.putfield 86), 9, 0, 0))) else (bif Nat.blt pc 28 then ((.fconst 0), 0, 0, 0) else (bif Nat.blt pc 29 then ((.freturn), 0, 0, 0) else ((.iconst 0), 0, 0, 0)))) else (bif Nat.blt pc 33 then (bif Nat.blt pc 31 then ((.istore_n 2), 0, 0, 0) else (bif Nat.blt pc 32 then ((.iconst 0), 0, 0, 0) else ((.istore_n 3), 0, 0, 0))) else (bif Nat.blt pc 34 then ((.iload_n 3), 0, 0, 0) else (bif Nat.blt pc 35 then ((.aload_n 0), 0, 0, 0) else ((.getfield 135), 9, 4, 0)))))) else (bif Nat.blt pc 58 then (bif Nat.blt pc 48 then (bif Nat.blt pc 43 then (bif Nat.blt pc 41 then ((.if_icmp .ge 27), 65, 0, 0) else (bif Nat.blt pc 42 then ((.iload_n 2), 0, 0, 0) else ((.aload_n 0), 0, 0, 0))) else (bif Nat.blt pc 46 then ((.getfield 17), 9, 5, 0) else (bif Nat.blt pc 47 then ((.iload_n 3), 0, 0, 0) else ((.iaload), 0, 0, 0)))) else (bif Nat.blt pc 53 then (bif Nat.blt pc 49 then ((.iload_n 1), 0, 0, 0) else (bif Nat.blt pc 52 then ((.if_icmp .ne 7), 56, 0, 0) else ((.iconst 1), 0, 0, 0))) else (bif Nat.blt pc 56 then ((.goto 4), 57, 0, 0) else (bif Nat.blt pc 57 then ((.iconst 0), 0, 0, 0) else ((.iadd), 0, 0, 0))))) else (bif Nat.blt pc 70 then (bif Nat.blt pc 65 then (bif Nat.blt pc 59 then ((.istore_n 2), 0, 0, 0) else (bif Nat.blt pc 62 then ((.iinc 3 1), 0, 0, 0) else ((.goto (-29)), 33, 0, 0))) else (bif Nat.blt pc 66 then ((.aload_n 0), 0, 0, 0) else (bif Nat.blt pc 67 then ((.iconst 0), 0, 0, 0) else ((.putfield 86), 9, 0, 0)))) else (bif Nat.blt pc 73 then (bif Nat.blt pc 71 then ((.iload_n 2), 0, 0, 0) else (bif Nat.blt pc 72 then ((.i2f), 0, 0, 0) else ((.aload_n 0), 0, 0, 0))) else (bif Nat.blt pc 77 then (bif Nat.blt pc 76 then ((.getfield 135), 9, 4, 0) else ((.i2f), 0, 0, 0)) else (bif Nat.blt pc 78 then ((.fdiv), 0, 0, 0) else ((.freturn), 0, 0, 0)))))))
/-- PatternLaboratoryModel discountedSum(D)D -/
def pm_t157 : Nat → pm_En := fun pc => (bif Nat.blt pc 35 then (bif Nat.blt pc 19 then (bif Nat.blt pc 9 then (bif Nat.blt pc 4 then (bif Nat.blt pc 1 then ((.dload_n 1), 0, 0, 0) else ((.ldc2_w 151), 13830554455654793216, 0, 0)) else (bif Nat.blt pc 5 then ((.dcmp .l), 0, 0, 0) else (bif Nat.blt pc 8 then ((.ifCond .lt 9), 14, 0, 0) else ((.dload_n 1), 0, 0, 0)))) else (bif Nat.blt pc 14 then (bif Nat.blt pc 10 then ((.dconst 1), 4607182418800017408, 0, 0) else (bif Nat.blt pc 11 then ((.dcmp .g), 0, 0, 0) else ((.ifCond .le 10), 21, 0, 0))) else (bif Nat.blt pc 15 then ((.aload_n 0), 0, 0, 0) else (bif Nat.blt pc 16 then ((.iconst 1), 0, 0, 0) else ((.putfield 86), 9, 0, 0))))) else (bif Nat.blt pc 24 then (bif Nat.blt pc 21 then (bif Nat.blt pc 20 then ((.dconst 0), 0, 0, 0) else ((.dreturn), 0, 0, 0)) else (bif Nat.blt pc 22 then ((.dconst 0), 0, 0, 0) else (bif Nat.blt pc 23 then ((.dstore_n 3), 0, 0, 0) else ((.dconst 1), 4607182418800017408, 0, 0)))) else (bif Nat.blt pc 29 then (bif Nat.blt pc 26 then ((.dstore 5), 0, 0, 0) else (bif Nat.blt pc 27 then ((.iconst 0), 0, 0, 0) else ((.istore 7), 0, 0, 0))) else (bif Nat.blt pc 31 then ((.iload 7), 0, 0, 0) else (bif Nat.blt pc 32 then ((.aload_n 0), 0, 0, 0) else ((.getfield 135), 9, 4, 0)))))) else (bif Nat.blt pc 52 then (bif Nat.blt pc 45 then (bif Nat.blt pc 39 then (bif Nat.blt pc 38 then ((.if_icmp .ge 29), 64, 0, 0) else ((.dload_n 3), 0, 0, 0)) else (bif Nat.blt pc 40 then ((.aload_n 0), 0, 0, 0) else (bif Nat.blt pc 43 then ((.getfield 17), 9, 5, 0) else ((.iload 7), 0, 0, 0)))) else (bif Nat.blt pc 49 then (bif Nat.blt pc 46 then ((.iaload), 0, 0, 0) else (bif Nat.blt pc 47 then ((.i2d), 0, 0, 0) else ((.dload 5), 0, 0, 0))) else (bif Nat.blt pc 50 then ((.dmul), 0, 0, 0) else (bif Nat.blt pc 51 then ((.dadd), 0, 0, 0) else ((.dstore_n 3), 0, 0, 0))))) else (bif Nat.blt pc 61 then (bif Nat.blt pc 55 then (bif Nat.blt pc 54 then ((.dload 5), 0, 0, 0) else ((.dload_n 1), 0, 0, 0)) else (bif Nat.blt pc 56 then ((.dmul), 0, 0, 0) else (bif Nat.blt pc 58 then ((.dstore 5), 0, 0, 0) else ((.iinc 7 1), 0, 0, 0)))) else (bif Nat.blt pc 66 then (bif Nat.blt pc 64 then ((.goto (-32)), 29, 0, 0) else (bif Nat.blt pc 65 then ((.aload_n 0), 0, 0, 0) else ((.iconst 0), 0, 0, 0))) else (bif Nat.blt pc 69 then ((.putfield 86), 9, 0, 0) else (bif Nat.blt pc 70 then ((.dload_n 3), 0, 0, 0) else ((.dreturn), 0, 0, 0)))))))
/-- PatternLaboratoryModel period(II)I -/
def pm_t158 : Nat → pm_En := fun pc => (bif Nat.blt pc 38 then (bif Nat.blt pc 18 then (bif Nat.blt pc 7 then (bif Nat.blt pc 2 then (bif Nat.blt pc 1 then ((.iconst 1), 0, 0, 0) else ((.istore_n 3), 0, 0, 0)) else (bif Nat.blt pc 3 then ((.iconst 0), 0, 0, 0) else (bif Nat.blt pc 5 then ((.istore 4), 0, 0, 0) else ((.iload 4), 0, 0, 0)))) else (bif Nat.blt pc 13 then (bif Nat.blt pc 10 then ((.ifCond .ne 72), 79, 0, 0) else (bif Nat.blt pc 11 then ((.iconst 1), 0, 0, 0) else ((.istore 4), 0, 0, 0))) else (bif Nat.blt pc 14 then ((.iload_n 1), 0, 0, 0) else (bif Nat.blt pc 16 then ((.istore 5), 0, 0, 0) else ((.iload 5), 0, 0, 0))))) else (bif Nat.blt pc 26 then (bif Nat.blt pc 21 then (bif Nat.blt pc 19 then ((.iload_n 3), 0, 0, 0) else (bif Nat.blt pc 20 then ((.iadd), 0, 0, 0) else ((.iload_n 1), 0, 0, 0))) else (bif Nat.blt pc 22 then ((.iload_n 2), 0, 0, 0) else (bif Nat.blt pc 23 then ((.iadd), 0, 0, 0) else ((.if_icmp .ge 40), 63, 0, 0)))) else (bif Nat.blt pc 32 then (bif Nat.blt pc 28 then ((.iload 4), 0, 0, 0) else (bif Nat.blt pc 31 then ((.ifCond .eq 26), 54, 0, 0) else ((.aload_n 0), 0, 0, 0))) else (bif Nat.blt pc 35 then ((.getfield 17), 9, 5, 0) else (bif Nat.blt pc 37 then ((.iload 5), 0, 0, 0) else ((.iaload), 0, 0, 0)))))) else (bif Nat.blt pc 60 then (bif Nat.blt pc 47 then (bif Nat.blt pc 44 then (bif Nat.blt pc 39 then ((.aload_n 0), 0, 0, 0) else (bif Nat.blt pc 42 then ((.getfield 17), 9, 5, 0) else ((.iload 5), 0, 0, 0))) else (bif Nat.blt pc 45 then ((.iload_n 3), 0, 0, 0) else (bif Nat.blt pc 46 then ((.iadd), 0, 0, 0) else ((.iaload), 0, 0, 0)))) else (bif Nat.blt pc 54 then (bif Nat.blt pc 50 then ((.if_icmp .ne 7), 54, 0, 0) else (bif Nat.blt pc 51 then ((.iconst 1), 0, 0, 0) else ((.goto 4), 55, 0, 0))) else (bif Nat.blt pc 55 then ((.iconst 0), 0, 0, 0) else (bif Nat.blt pc 57 then ((.istore 4), 0, 0, 0) else ((.iinc 5 1), 0, 0, 0))))) else (bif Nat.blt pc 73 then (bif Nat.blt pc 66 then (bif Nat.blt pc 63 then ((.goto (-44)), 16, 0, 0) else (bif Nat.blt pc 64 then ((.iload_n 3), 0, 0, 0) else ((.iload 4), 0, 0, 0))) else (bif Nat.blt pc 69 then ((.ifCond .eq 7), 73, 0, 0) else (bif Nat.blt pc 70 then ((.iconst 0), 0, 0, 0) else ((.goto 4), 74, 0, 0)))) else (bif Nat.blt pc 76 then (bif Nat.blt pc 74 then ((.iconst 1), 0, 0, 0) else (bif Nat.blt pc 75 then ((.iadd), 0, 0, 0) else ((.istore_n 3), 0, 0, 0))) else (bif Nat.blt pc 79 then ((.goto (-71)), 5, 0, 0) else (bif Nat.blt pc 80 then ((.iload_n 3), 0, 0, 0) else ((.ireturn), 0, 0, 0)))))))
/-- PatternLaboratoryModel tellStrongest()V -/
def pm_t159 : Nat → pm_En := fun pc => (bif Nat.blt pc 39 then (bif Nat.blt pc 18 then (bif Nat.blt pc 10 then (bif Nat.blt pc 5 then (bif Nat.blt pc 1 then ((.aload_n 0), 0, 0, 0) else (bif Nat.blt pc 2 then ((.iconst 0), 0, 0, 0) else ((.putfield 153), 9, 30, 0))) else (bif Nat.blt pc 6 then ((.aload_n 0), 0, 0, 0) else (bif Nat.blt pc 7 then ((.iconst 1), 0, 0, 0) else ((.putfield 156), 9, 31, 0)))) else (bif Nat.blt pc 15 then (bif Nat.blt pc 11 then ((.aload_n 0), 0, 0, 0) else (bif Nat.blt pc 12 then ((.iconst 1), 0, 0, 0) else ((.putfield 159), 9, 32, 0))) else (bif Nat.blt pc 16 then ((.iconst 0), 0, 0, 0) else (bif Nat.blt pc 17 then ((.istore_n 1), 0, 0, 0) else ((.iload_n 1), 0, 0, 0))))) else (bif Nat.blt pc 28 then (bif Nat.blt pc 25 then (bif Nat.blt pc 19 then ((.aload_n 0), 0, 0, 0) else (bif Nat.blt pc 22 then ((.getfield 135), 9, 4, 0) else ((.if_icmp .ge 64), 86, 0, 0))) else (bif Nat.blt pc 26 then ((.iconst 1), 0, 0, 0) else (bif Nat.blt pc 27 then ((.istore_n 2), 0, 0, 0) else ((.iload_n 1), 0, 0, 0)))) else (bif Nat.blt pc 31 then (bif Nat.blt pc 29 then ((.iload_n 2), 0, 0, 0) else (bif Nat.blt pc 30 then ((.iadd), 0, 0, 0) else ((.aload_n 0), 0, 0, 0))) else (bif Nat.blt pc 37 then (bif Nat.blt pc 34 then ((.getfield 135), 9, 4, 0) else ((.if_icmp .gt 46), 80, 0, 0)) else (bif Nat.blt pc 38 then ((.aload_n 0), 0, 0, 0) else ((.iload_n 1), 0, 0, 0)))))) else (bif Nat.blt pc 60 then (bif Nat.blt pc 49 then (bif Nat.blt pc 44 then (bif Nat.blt pc 40 then ((.iload_n 2), 0, 0, 0) else (bif Nat.blt pc 43 then ((.invokevirtual 162), 158, 3, 1) else ((.istore_n 3), 0, 0, 0))) else (bif Nat.blt pc 45 then ((.iload_n 2), 0, 0, 0) else (bif Nat.blt pc 46 then ((.aload_n 0), 0, 0, 0) else ((.getfield 159), 9, 32, 0)))) else (bif Nat.blt pc 54 then (bif Nat.blt pc 50 then ((.imul), 0, 0, 0) else (bif Nat.blt pc 51 then ((.aload_n 0), 0, 0, 0) else ((.getfield 156), 9, 31, 0))) else (bif Nat.blt pc 56 then (bif Nat.blt pc 55 then ((.iload_n 3), 0, 0, 0) else ((.imul), 0, 0, 0)) else (bif Nat.blt pc 59 then ((.if_icmp .le 18), 74, 0, 0) else ((.aload_n 0), 0, 0, 0))))) else (bif Nat.blt pc 70 then (bif Nat.blt pc 65 then (bif Nat.blt pc 61 then ((.iload_n 1), 0, 0, 0) else (bif Nat.blt pc 64 then ((.putfield 153), 9, 30, 0) else ((.aload_n 0), 0, 0, 0))) else (bif Nat.blt pc 66 then ((.iload_n 2), 0, 0, 0) else (bif Nat.blt pc 69 then ((.putfield 156), 9, 31, 0) else ((.aload_n 0), 0, 0, 0)))) else (bif Nat.blt pc 77 then (bif Nat.blt pc 71 then ((.iload_n 3), 0, 0, 0) else (bif Nat.blt pc 74 then ((.putfield 159), 9, 32, 0) else ((.iinc 2 1), 0, 0, 0))) else (bif Nat.blt pc 83 then (bif Nat.blt pc 80 then ((.goto (-50)), 27, 0, 0) else ((.iinc 1 1), 0, 0, 0)) else (bif Nat.blt pc 86 then ((.goto (-66)), 17, 0, 0) else ((.return_), 0, 0, 0)))))))
/-- PatternLaboratoryModel greatestExponent()D -/
def pm_t160 : Nat → pm_En := fun pc => (bif Nat.blt pc 18 then (bif Nat.blt pc 9 then (bif Nat.blt pc 4 then (bif Nat.blt pc 1 then ((.aload_n 0), 0, 0, 0) else ((.getfield 135), 9, 4, 0)) else (bif Nat.blt pc 7 then ((.ifCond .ne 10), 14, 0, 0) else (bif Nat.blt pc 8 then ((.aload_n 0), 0, 0, 0) else ((.iconst 1), 0, 0, 0)))) else (bif Nat.blt pc 13 then (bif Nat.blt pc 12 then ((.putfield 86), 9, 0, 0) else ((.dconst 0), 0, 0, 0)) else (bif Nat.blt pc 14 then ((.dreturn), 0, 0, 0) else (bif Nat.blt pc 15 then ((.aload_n 0), 0, 0, 0) else ((.invokevirtual 166), 159, 1, 1))))) else (bif Nat.blt pc 27 then (bif Nat.blt pc 20 then (bif Nat.blt pc 19 then ((.aload_n 0), 0, 0, 0) else ((.iconst 0), 0, 0, 0)) else (bif Nat.blt pc 23 then ((.putfield 86), 9, 0, 0) else (bif Nat.blt pc 24 then ((.aload_n 0), 0, 0, 0) else ((.getfield 156), 9, 31, 0)))) else (bif Nat.blt pc 32 then (bif Nat.blt pc 28 then ((.i2d), 0, 0, 0) else (bif Nat.blt pc 29 then ((.aload_n 0), 0, 0, 0) else ((.getfield 159), 9, 32, 0))) else (bif Nat.blt pc 33 then ((.i2d), 0, 0, 0) else (bif Nat.blt pc 34 then ((.ddiv), 0, 0, 0) else ((.dreturn), 0, 0, 0))))))
/-- PatternLaboratoryModel strongestFactor(I)I -/
def pm_t161 : Nat → pm_En := fun pc => (bif Nat.blt pc 29 then (bif Nat.blt pc 14 then (bif Nat.blt pc 6 then (bif Nat.blt pc 2 then (bif Nat.blt pc 1 then ((.iload_n 1), 0, 0, 0) else ((.iconst 0), 0, 0, 0)) else (bif Nat.blt pc 3 then ((.iconst 2), 0, 0, 0) else ((.invokestatic 89), 124, 3, 0))) else (bif Nat.blt pc 10 then (bif Nat.blt pc 9 then ((.ifCond .ne 9), 15, 0, 0) else ((.aload_n 0), 0, 0, 0)) else (bif Nat.blt pc 11 then ((.iconst 1), 0, 0, 0) else ((.invokevirtual 93), 125, 2, 1)))) else (bif Nat.blt pc 22 then (bif Nat.blt pc 16 then (bif Nat.blt pc 15 then ((.ireturn), 0, 0, 0) else ((.aload_n 0), 0, 0, 0)) else (bif Nat.blt pc 19 then ((.getfield 135), 9, 4, 0) else ((.ifCond .ne 9), 28, 0, 0))) else (bif Nat.blt pc 24 then (bif Nat.blt pc 23 then ((.aload_n 0), 0, 0, 0) else ((.iconst 2), 0, 0, 0)) else (bif Nat.blt pc 27 then ((.invokevirtual 93), 125, 2, 1) else (bif Nat.blt pc 28 then ((.ireturn), 0, 0, 0) else ((.aload_n 0), 0, 0, 0)))))) else (bif Nat.blt pc 45 then (bif Nat.blt pc 37 then (bif Nat.blt pc 33 then (bif Nat.blt pc 32 then ((.invokevirtual 166), 159, 1, 1) else ((.aload_n 0), 0, 0, 0)) else (bif Nat.blt pc 34 then ((.iload_n 1), 0, 0, 0) else ((.ifCond .ne 10), 44, 0, 0))) else (bif Nat.blt pc 41 then (bif Nat.blt pc 38 then ((.aload_n 0), 0, 0, 0) else ((.getfield 153), 9, 30, 0)) else (bif Nat.blt pc 44 then ((.goto 19), 60, 0, 0) else ((.iload_n 1), 0, 0, 0)))) else (bif Nat.blt pc 53 then (bif Nat.blt pc 49 then (bif Nat.blt pc 46 then ((.iconst 1), 0, 0, 0) else ((.if_icmp .ne 10), 56, 0, 0)) else (bif Nat.blt pc 50 then ((.aload_n 0), 0, 0, 0) else ((.getfield 156), 9, 31, 0))) else (bif Nat.blt pc 57 then (bif Nat.blt pc 56 then ((.goto 7), 60, 0, 0) else ((.aload_n 0), 0, 0, 0)) else (bif Nat.blt pc 60 then ((.getfield 159), 9, 32, 0) else (bif Nat.blt pc 63 then ((.invokevirtual 100), 126, 2, 1) else ((.ireturn), 0, 0, 0)))))))
/-- PatternLaboratoryModel doesAvoid()Z -/
def pm_t162 : Nat → pm_En := fun pc => (bif Nat.blt pc 17 then (bif Nat.blt pc 6 then (bif Nat.blt pc 2 then (bif Nat.blt pc 1 then ((.aload_n 0), 0, 0, 0) else ((.aload_n 0), 0, 0, 0)) else (bif Nat.blt pc 5 then ((.getfield 7), 9, 2, 0) else ((.iconst 0), 0, 0, 0))) else (bif Nat.blt pc 10 then (bif Nat.blt pc 7 then ((.aload_n 0), 0, 0, 0) else ((.getfield 97), 9, 1, 0)) else (bif Nat.blt pc 13 then ((.invokevirtual 142), 140, 4, 1) else (bif Nat.blt pc 14 then ((.aload_n 0), 0, 0, 0) else ((.invokevirtual 169), 144, 1, 1))))) else (bif Nat.blt pc 23 then (bif Nat.blt pc 19 then (bif Nat.blt pc 18 then ((.aload_n 0), 0, 0, 0) else ((.iconst (-1)), 0, 0, 0)) else (bif Nat.blt pc 22 then ((.invokevirtual 145), 143, 2, 1) else ((.iconst (-1)), 0, 0, 0))) else (bif Nat.blt pc 27 then (bif Nat.blt pc 26 then ((.if_icmp .ne 7), 30, 0, 0) else ((.iconst 1), 0, 0, 0)) else (bif Nat.blt pc 30 then ((.goto 4), 31, 0, 0) else (bif Nat.blt pc 31 then ((.iconst 0), 0, 0, 0) else ((.ireturn), 1, 0, 0))))))
/-- PatternLaboratoryModel avoids()Z -/
def pm_t163 : Nat → pm_En := fun pc => (bif Nat.blt pc 12 then (bif Nat.blt pc 7 then (bif Nat.blt pc 1 then ((.aload_n 0), 0, 0, 0) else (bif Nat.blt pc 4 then ((.getfield 97), 9, 1, 0) else ((.ifCond .ne 11), 15, 0, 0))) else (bif Nat.blt pc 8 then ((.aload_n 0), 0, 0, 0) else (bif Nat.blt pc 9 then ((.iconst 1), 0, 0, 0) else ((.invokevirtual 138), 128, 2, 1)))) else (bif Nat.blt pc 17 then (bif Nat.blt pc 15 then ((.goto 11), 23, 0, 0) else (bif Nat.blt pc 16 then ((.aload_n 0), 0, 0, 0) else ((.aload_n 0), 0, 0, 0))) else (bif Nat.blt pc 20 then ((.invokevirtual 172), 162, 1, 1) else (bif Nat.blt pc 23 then ((.invokevirtual 114), 127, 2, 1) else ((.ireturn), 1, 0, 0)))))
/-- PatternLaboratoryModel findOccurrence()I -/
def pm_t164 : Nat → pm_En := fun pc => (bif Nat.blt pc 59 then (bif Nat.blt pc 31 then (bif Nat.blt pc 14 then (bif Nat.blt pc 8 then (bif Nat.blt pc 4 then (bif Nat.blt pc 1 then ((.aload_n 0), 0, 0, 0) else ((.getfield 97), 9, 1, 0)) else (bif Nat.blt pc 7 then ((.ifCond .ne 9), 13, 0, 0) else ((.aload_n 0), 0, 0, 0))) else (bif Nat.blt pc 12 then (bif Nat.blt pc 9 then ((.iconst 1), 0, 0, 0) else ((.invokevirtual 93), 125, 2, 1)) else (bif Nat.blt pc 13 then ((.ireturn), 0, 0, 0) else ((.aload_n 0), 0, 0, 0)))) else (bif Nat.blt pc 22 then (bif Nat.blt pc 20 then (bif Nat.blt pc 17 then ((.invokevirtual 172), 162, 1, 1) else ((.ifCond .eq 9), 26, 0, 0)) else (bif Nat.blt pc 21 then ((.aload_n 0), 0, 0, 0) else ((.iconst 2), 0, 0, 0))) else (bif Nat.blt pc 26 then (bif Nat.blt pc 25 then ((.invokevirtual 93), 125, 2, 1) else ((.ireturn), 0, 0, 0)) else (bif Nat.blt pc 27 then ((.aload_n 0), 0, 0, 0) else (bif Nat.blt pc 28 then ((.iconst (-1)), 0, 0, 0) else ((.invokevirtual 145), 143, 2, 1)))))) else (bif Nat.blt pc 44 then (bif Nat.blt pc 37 then (bif Nat.blt pc 33 then (bif Nat.blt pc 32 then ((.istore_n 1), 0, 0, 0) else ((.aload_n 0), 0, 0, 0)) else (bif Nat.blt pc 34 then ((.iconst 1), 0, 0, 0) else ((.putfield 176), 9, 10, 1))) else (bif Nat.blt pc 39 then (bif Nat.blt pc 38 then ((.aload_n 0), 0, 0, 0) else ((.iload_n 1), 0, 0, 0)) else (bif Nat.blt pc 42 then ((.putfield 180), 9, 11, 0) else (bif Nat.blt pc 43 then ((.iconst 0), 0, 0, 0) else ((.istore_n 2), 0, 0, 0))))) else (bif Nat.blt pc 50 then (bif Nat.blt pc 46 then (bif Nat.blt pc 45 then ((.iload_n 2), 0, 0, 0) else ((.iconst 5), 0, 0, 0)) else (bif Nat.blt pc 49 then ((.if_icmp .ge 63), 109, 0, 0) else ((.aload_n 0), 0, 0, 0))) else (bif Nat.blt pc 54 then (bif Nat.blt pc 53 then ((.getfield 32), 9, 12, 0) else ((.iload_n 2), 0, 0, 0)) else (bif Nat.blt pc 55 then ((.aload_n 0), 0, 0, 0) else (bif Nat.blt pc 58 then ((.getfield 62), 9, 28, 0) else ((.iload_n 2), 0, 0, 0))))))) else (bif Nat.blt pc 83 then (bif Nat.blt pc 69 then (bif Nat.blt pc 63 then (bif Nat.blt pc 61 then (bif Nat.blt pc 60 then ((.iaload), 0, 0, 0) else ((.iastore), 0, 0, 0)) else (bif Nat.blt pc 62 then ((.iconst 0), 0, 0, 0) else ((.istore_n 3), 0, 0, 0))) else (bif Nat.blt pc 65 then (bif Nat.blt pc 64 then ((.iload_n 3), 0, 0, 0) else ((.aload_n 0), 0, 0, 0)) else (bif Nat.blt pc 68 then ((.getfield 62), 9, 28, 0) else ((.iload_n 2), 0, 0, 0)))) else (bif Nat.blt pc 77 then (bif Nat.blt pc 73 then (bif Nat.blt pc 70 then ((.iaload), 0, 0, 0) else ((.if_icmp .ge 33), 103, 0, 0)) else (bif Nat.blt pc 74 then ((.aload_n 0), 0, 0, 0) else ((.getfield 35), 9, 13, 0))) else (bif Nat.blt pc 80 then (bif Nat.blt pc 79 then ((.bipush 24), 0, 0, 0) else ((.iload_n 2), 0, 0, 0)) else (bif Nat.blt pc 81 then ((.imul), 0, 0, 0) else (bif Nat.blt pc 82 then ((.iload_n 3), 0, 0, 0) else ((.iadd), 0, 0, 0)))))) else (bif Nat.blt pc 96 then (bif Nat.blt pc 91 then (bif Nat.blt pc 87 then (bif Nat.blt pc 84 then ((.aload_n 0), 0, 0, 0) else ((.getfield 56), 9, 26, 0)) else (bif Nat.blt pc 88 then ((.aload_n 0), 0, 0, 0) else ((.getfield 59), 9, 27, 0))) else (bif Nat.blt pc 93 then (bif Nat.blt pc 92 then ((.iload_n 2), 0, 0, 0) else ((.iaload), 0, 0, 0)) else (bif Nat.blt pc 94 then ((.iload_n 3), 0, 0, 0) else (bif Nat.blt pc 95 then ((.iadd), 0, 0, 0) else ((.iaload), 0, 0, 0))))) else (bif Nat.blt pc 106 then (bif Nat.blt pc 100 then (bif Nat.blt pc 97 then ((.iastore), 0, 0, 0) else ((.iinc 3 1), 0, 0, 0)) else (bif Nat.blt pc 103 then ((.goto (-37)), 63, 0, 0) else ((.iinc 2 1), 0, 0, 0))) else (bif Nat.blt pc 110 then (bif Nat.blt pc 109 then ((.goto (-62)), 44, 0, 0) else ((.aload_n 0), 0, 0, 0)) else (bif Nat.blt pc 111 then ((.iload_n 1), 0, 0, 0) else (bif Nat.blt pc 114 then ((.invokevirtual 100), 126, 2, 1) else ((.ireturn), 0, 0, 0))))))))
/-- PatternLaboratoryModel imageLength(I)I -/
def pm_t165 : Nat → pm_En := fun pc => (bif Nat.blt pc 19 then (bif Nat.blt pc 9 then (bif Nat.blt pc 2 then (bif Nat.blt pc 1 then ((.iload_n 1), 0, 0, 0) else ((.iconst 0), 0, 0, 0)) else (bif Nat.blt pc 3 then ((.iconst 4), 0, 0, 0) else (bif Nat.blt pc 6 then ((.invokestatic 89), 124, 3, 0) else ((.ifCond .ne 9), 15, 0, 0)))) else (bif Nat.blt pc 14 then (bif Nat.blt pc 10 then ((.aload_n 0), 0, 0, 0) else (bif Nat.blt pc 11 then ((.iconst 1), 0, 0, 0) else ((.invokevirtual 93), 125, 2, 1))) else (bif Nat.blt pc 15 then ((.ireturn), 0, 0, 0) else (bif Nat.blt pc 16 then ((.aload_n 0), 0, 0, 0) else ((.getfield 176), 9, 10, 1))))) else (bif Nat.blt pc 29 then (bif Nat.blt pc 24 then (bif Nat.blt pc 22 then ((.ifCond .eq 16), 35, 0, 0) else (bif Nat.blt pc 23 then ((.aload_n 0), 0, 0, 0) else ((.aload_n 0), 0, 0, 0))) else (bif Nat.blt pc 27 then ((.getfield 32), 9, 12, 0) else (bif Nat.blt pc 28 then ((.iload_n 1), 0, 0, 0) else ((.iaload), 0, 0, 0)))) else (bif Nat.blt pc 36 then (bif Nat.blt pc 32 then ((.invokevirtual 100), 126, 2, 1) else (bif Nat.blt pc 35 then ((.goto 8), 40, 0, 0) else ((.aload_n 0), 0, 0, 0))) else (bif Nat.blt pc 37 then ((.iconst 2), 0, 0, 0) else (bif Nat.blt pc 40 then ((.invokevirtual 93), 125, 2, 1) else ((.ireturn), 0, 0, 0))))))
/-- PatternLaboratoryModel imageLetter(II)I -/
def pm_t166 : Nat → pm_En := fun pc => (bif Nat.blt pc 34 then (bif Nat.blt pc 16 then (bif Nat.blt pc 9 then (bif Nat.blt pc 2 then (bif Nat.blt pc 1 then ((.iload_n 1), 0, 0, 0) else ((.iconst 0), 0, 0, 0)) else (bif Nat.blt pc 3 then ((.iconst 4), 0, 0, 0) else (bif Nat.blt pc 6 then ((.invokestatic 89), 124, 3, 0) else ((.ifCond .ne 9), 15, 0, 0)))) else (bif Nat.blt pc 11 then (bif Nat.blt pc 10 then ((.aload_n 0), 0, 0, 0) else ((.iconst 1), 0, 0, 0)) else (bif Nat.blt pc 14 then ((.invokevirtual 93), 125, 2, 1) else (bif Nat.blt pc 15 then ((.ireturn), 0, 0, 0) else ((.aload_n 0), 0, 0, 0))))) else (bif Nat.blt pc 27 then (bif Nat.blt pc 22 then (bif Nat.blt pc 19 then ((.getfield 176), 9, 10, 1) else ((.ifCond .ne 9), 28, 0, 0)) else (bif Nat.blt pc 23 then ((.aload_n 0), 0, 0, 0) else (bif Nat.blt pc 24 then ((.iconst 2), 0, 0, 0) else ((.invokevirtual 93), 125, 2, 1)))) else (bif Nat.blt pc 29 then (bif Nat.blt pc 28 then ((.ireturn), 0, 0, 0) else ((.iload_n 2), 0, 0, 0)) else (bif Nat.blt pc 30 then ((.iconst 0), 0, 0, 0) else (bif Nat.blt pc 31 then ((.aload_n 0), 0, 0, 0) else ((.getfield 32), 9, 12, 0)))))) else (bif Nat.blt pc 51 then (bif Nat.blt pc 41 then (bif Nat.blt pc 36 then (bif Nat.blt pc 35 then ((.iload_n 1), 0, 0, 0) else ((.iaload), 0, 0, 0)) else (bif Nat.blt pc 37 then ((.iconst 1), 0, 0, 0) else (bif Nat.blt pc 38 then ((.isub), 0, 0, 0) else ((.invokestatic 89), 124, 3, 0)))) else (bif Nat.blt pc 45 then (bif Nat.blt pc 44 then ((.ifCond .eq 21), 62, 0, 0) else ((.aload_n 0), 0, 0, 0)) else (bif Nat.blt pc 46 then ((.aload_n 0), 0, 0, 0) else (bif Nat.blt pc 49 then ((.getfield 35), 9, 13, 0) else ((.bipush 24), 0, 0, 0))))) else (bif Nat.blt pc 56 then (bif Nat.blt pc 53 then (bif Nat.blt pc 52 then ((.iload_n 1), 0, 0, 0) else ((.imul), 0, 0, 0)) else (bif Nat.blt pc 54 then ((.iload_n 2), 0, 0, 0) else (bif Nat.blt pc 55 then ((.iadd), 0, 0, 0) else ((.iaload), 0, 0, 0)))) else (bif Nat.blt pc 63 then (bif Nat.blt pc 59 then ((.invokevirtual 100), 126, 2, 1) else (bif Nat.blt pc 62 then ((.goto 8), 67, 0, 0) else ((.aload_n 0), 0, 0, 0))) else (bif Nat.blt pc 64 then ((.iconst 3), 0, 0, 0) else (bif Nat.blt pc 67 then ((.invokevirtual 93), 125, 2, 1) else ((.ireturn), 0, 0, 0)))))))
/-- PatternLaboratoryModel occurrenceCount()I -/
def pm_t167 : Nat → pm_En := fun pc => (bif Nat.blt pc 45 then (bif Nat.blt pc 20 then (bif Nat.blt pc 12 then (bif Nat.blt pc 7 then (bif Nat.blt pc 1 then ((.aload_n 0), 0, 0, 0) else (bif Nat.blt pc 4 then ((.getfield 97), 9, 1, 0) else ((.ifCond .ne 9), 13, 0, 0))) else (bif Nat.blt pc 8 then ((.aload_n 0), 0, 0, 0) else (bif Nat.blt pc 9 then ((.iconst 1), 0, 0, 0) else ((.invokevirtual 93), 125, 2, 1)))) else (bif Nat.blt pc 15 then (bif Nat.blt pc 13 then ((.ireturn), 0, 0, 0) else (bif Nat.blt pc 14 then ((.aload_n 0), 0, 0, 0) else ((.aload_n 0), 0, 0, 0))) else (bif Nat.blt pc 18 then ((.getfield 7), 9, 2, 0) else (bif Nat.blt pc 19 then ((.iconst 0), 0, 0, 0) else ((.aload_n 0), 0, 0, 0))))) else (bif Nat.blt pc 32 then (bif Nat.blt pc 27 then (bif Nat.blt pc 23 then ((.getfield 97), 9, 1, 0) else (bif Nat.blt pc 26 then ((.invokevirtual 142), 140, 4, 1) else ((.aload_n 0), 0, 0, 0))) else (bif Nat.blt pc 30 then ((.invokevirtual 169), 144, 1, 1) else (bif Nat.blt pc 31 then ((.aload_n 0), 0, 0, 0) else ((.iconst 0), 0, 0, 0)))) else (bif Nat.blt pc 37 then (bif Nat.blt pc 35 then ((.putfield 121), 9, 29, 0) else (bif Nat.blt pc 36 then ((.iconst 0), 0, 0, 0) else ((.istore_n 1), 0, 0, 0))) else (bif Nat.blt pc 39 then (bif Nat.blt pc 38 then ((.iload_n 1), 0, 0, 0) else ((.aload_n 0), 0, 0, 0)) else (bif Nat.blt pc 42 then ((.getfield 132), 9, 25, 0) else ((.if_icmp .ge 38), 80, 0, 0)))))) else (bif Nat.blt pc 66 then (bif Nat.blt pc 53 then (bif Nat.blt pc 48 then (bif Nat.blt pc 46 then ((.iconst 0), 0, 0, 0) else (bif Nat.blt pc 47 then ((.istore_n 2), 0, 0, 0) else ((.iload_n 2), 0, 0, 0))) else (bif Nat.blt pc 49 then ((.iconst 5), 0, 0, 0) else (bif Nat.blt pc 52 then ((.if_icmp .ge 16), 65, 0, 0) else ((.aload_n 0), 0, 0, 0)))) else (bif Nat.blt pc 58 then (bif Nat.blt pc 56 then ((.getfield 62), 9, 28, 0) else (bif Nat.blt pc 57 then ((.iload_n 2), 0, 0, 0) else ((.iconst 0), 0, 0, 0))) else (bif Nat.blt pc 62 then (bif Nat.blt pc 59 then ((.iastore), 0, 0, 0) else ((.iinc 2 1), 0, 0, 0)) else (bif Nat.blt pc 65 then ((.goto (-15)), 47, 0, 0) else ((.aload_n 0), 0, 0, 0))))) else (bif Nat.blt pc 74 then (bif Nat.blt pc 69 then (bif Nat.blt pc 67 then ((.iconst 0), 0, 0, 0) else (bif Nat.blt pc 68 then ((.iload_n 1), 0, 0, 0) else ((.iconst 0), 0, 0, 0))) else (bif Nat.blt pc 70 then ((.iconst (-1)), 0, 0, 0) else (bif Nat.blt pc 73 then ((.invokestatic 128), 141, 5, 0) else ((.pop), 0, 0, 0)))) else (bif Nat.blt pc 81 then (bif Nat.blt pc 77 then ((.iinc 1 1), 0, 0, 0) else (bif Nat.blt pc 80 then ((.goto (-40)), 37, 0, 0) else ((.aload_n 0), 0, 0, 0))) else (bif Nat.blt pc 85 then (bif Nat.blt pc 82 then ((.aload_n 0), 0, 0, 0) else ((.getfield 121), 9, 29, 0)) else (bif Nat.blt pc 88 then ((.invokevirtual 100), 126, 2, 1) else ((.ireturn), 0, 0, 0)))))))
/-- PatternLaboratoryModel tellGroups(I)V -/
def pm_t168 : Nat → pm_En := fun pc => (bif Nat.blt pc 42 then (bif Nat.blt pc 22 then (bif Nat.blt pc 9 then (bif Nat.blt pc 3 then (bif Nat.blt pc 1 then ((.iconst 0), 0, 0, 0) else (bif Nat.blt pc 2 then ((.istore_n 2), 0, 0, 0) else ((.iload_n 2), 0, 0, 0))) else (bif Nat.blt pc 5 then ((.bipush 10), 0, 0, 0) else (bif Nat.blt pc 8 then ((.if_icmp .ge 16), 21, 0, 0) else ((.aload_n 0), 0, 0, 0)))) else (bif Nat.blt pc 14 then (bif Nat.blt pc 12 then ((.getfield 65), 9, 33, 0) else (bif Nat.blt pc 13 then ((.iload_n 2), 0, 0, 0) else ((.iload_n 2), 0, 0, 0))) else (bif Nat.blt pc 18 then (bif Nat.blt pc 15 then ((.iastore), 0, 0, 0) else ((.iinc 2 1), 0, 0, 0)) else (bif Nat.blt pc 21 then ((.goto (-16)), 2, 0, 0) else ((.iconst (-1)), 0, 0, 0))))) else (bif Nat.blt pc 33 then (bif Nat.blt pc 25 then (bif Nat.blt pc 23 then ((.istore_n 2), 0, 0, 0) else (bif Nat.blt pc 24 then ((.iconst 0), 0, 0, 0) else ((.istore_n 3), 0, 0, 0))) else (bif Nat.blt pc 27 then (bif Nat.blt pc 26 then ((.iload_n 3), 0, 0, 0) else ((.aload_n 0), 0, 0, 0)) else (bif Nat.blt pc 30 then ((.getfield 97), 9, 1, 0) else ((.if_icmp .ge 57), 87, 0, 0)))) else (bif Nat.blt pc 38 then (bif Nat.blt pc 34 then ((.iload_n 1), 0, 0, 0) else (bif Nat.blt pc 35 then ((.aload_n 0), 0, 0, 0) else ((.getfield 7), 9, 2, 0))) else (bif Nat.blt pc 40 then (bif Nat.blt pc 39 then ((.iload_n 3), 0, 0, 0) else ((.iaload), 0, 0, 0)) else (bif Nat.blt pc 41 then ((.ishr), 0, 0, 0) else ((.iconst 1), 0, 0, 0)))))) else (bif Nat.blt pc 64 then (bif Nat.blt pc 53 then (bif Nat.blt pc 47 then (bif Nat.blt pc 43 then ((.iand), 0, 0, 0) else (bif Nat.blt pc 46 then ((.ifCond .ne 38), 81, 0, 0) else ((.iload_n 2), 0, 0, 0))) else (bif Nat.blt pc 51 then (bif Nat.blt pc 48 then ((.iconst (-1)), 0, 0, 0) else ((.if_icmp .eq 26), 74, 0, 0)) else (bif Nat.blt pc 52 then ((.aload_n 0), 0, 0, 0) else ((.aload_n 0), 0, 0, 0)))) else (bif Nat.blt pc 58 then (bif Nat.blt pc 56 then ((.getfield 65), 9, 33, 0) else (bif Nat.blt pc 57 then ((.iload_n 2), 0, 0, 0) else ((.iaload), 0, 0, 0))) else (bif Nat.blt pc 62 then (bif Nat.blt pc 59 then ((.aload_n 0), 0, 0, 0) else ((.getfield 65), 9, 33, 0)) else (bif Nat.blt pc 63 then ((.iconst 5), 0, 0, 0) else ((.aload_n 0), 0, 0, 0))))) else (bif Nat.blt pc 75 then (bif Nat.blt pc 69 then (bif Nat.blt pc 67 then ((.getfield 7), 9, 2, 0) else (bif Nat.blt pc 68 then ((.iload_n 3), 0, 0, 0) else ((.iaload), 0, 0, 0))) else (bif Nat.blt pc 71 then (bif Nat.blt pc 70 then ((.iadd), 0, 0, 0) else ((.iaload), 0, 0, 0)) else (bif Nat.blt pc 74 then ((.invokevirtual 183), 169, 3, 1) else ((.aload_n 0), 0, 0, 0)))) else (bif Nat.blt pc 80 then (bif Nat.blt pc 78 then ((.getfield 7), 9, 2, 0) else (bif Nat.blt pc 79 then ((.iload_n 3), 0, 0, 0) else ((.iaload), 0, 0, 0))) else (bif Nat.blt pc 84 then (bif Nat.blt pc 81 then ((.istore_n 2), 0, 0, 0) else ((.iinc 3 1), 0, 0, 0)) else (bif Nat.blt pc 87 then ((.goto (-59)), 25, 0, 0) else ((.return_), 0, 0, 0)))))))
/-- PatternLaboratoryModel joins(II)V -/
def pm_t169 : Nat → pm_En := fun pc => (bif Nat.blt pc 19 then (bif Nat.blt pc 9 then (bif Nat.blt pc 3 then (bif Nat.blt pc 1 then ((.iconst 0), 0, 0, 0) else (bif Nat.blt pc 2 then ((.istore_n 3), 0, 0, 0) else ((.iload_n 3), 0, 0, 0))) else (bif Nat.blt pc 5 then ((.bipush 10), 0, 0, 0) else (bif Nat.blt pc 8 then ((.if_icmp .ge 35), 40, 0, 0) else ((.aload_n 0), 0, 0, 0)))) else (bif Nat.blt pc 14 then (bif Nat.blt pc 12 then ((.getfield 65), 9, 33, 0) else (bif Nat.blt pc 13 then ((.iload_n 3), 0, 0, 0) else ((.aload_n 0), 0, 0, 0))) else (bif Nat.blt pc 17 then ((.getfield 65), 9, 33, 0) else (bif Nat.blt pc 18 then ((.iload_n 3), 0, 0, 0) else ((.iaload), 0, 0, 0))))) else (bif Nat.blt pc 31 then (bif Nat.blt pc 24 then (bif Nat.blt pc 20 then ((.iload_n 2), 0, 0, 0) else (bif Nat.blt pc 23 then ((.if_icmp .ne 7), 27, 0, 0) else ((.iload_n 1), 0, 0, 0))) else (bif Nat.blt pc 27 then ((.goto 9), 33, 0, 0) else (bif Nat.blt pc 28 then ((.aload_n 0), 0, 0, 0) else ((.getfield 65), 9, 33, 0)))) else (bif Nat.blt pc 34 then (bif Nat.blt pc 32 then ((.iload_n 3), 0, 0, 0) else (bif Nat.blt pc 33 then ((.iaload), 0, 0, 0) else ((.iastore), 0, 0, 0))) else (bif Nat.blt pc 37 then ((.iinc 3 1), 0, 0, 0) else (bif Nat.blt pc 40 then ((.goto (-35)), 2, 0, 0) else ((.return_), 0, 0, 0))))))
/-- PatternLaboratoryModel isFreeSet(I)Z -/
def pm_t170 : Nat → pm_En := fun pc => (bif Nat.blt pc 34 then (bif Nat.blt pc 15 then (bif Nat.blt pc 5 then (bif Nat.blt pc 2 then (bif Nat.blt pc 1 then ((.iconst 1), 0, 0, 0) else ((.istore_n 2), 0, 0, 0)) else (bif Nat.blt pc 3 then ((.iconst 0), 0, 0, 0) else (bif Nat.blt pc 4 then ((.istore_n 3), 0, 0, 0) else ((.iload_n 3), 0, 0, 0)))) else (bif Nat.blt pc 10 then (bif Nat.blt pc 6 then ((.iconst 5), 0, 0, 0) else (bif Nat.blt pc 9 then ((.if_icmp .ge 69), 75, 0, 0) else ((.iconst 0), 0, 0, 0))) else (bif Nat.blt pc 12 then ((.istore 4), 0, 0, 0) else (bif Nat.blt pc 14 then ((.iload 4), 0, 0, 0) else ((.iconst 5), 0, 0, 0))))) else (bif Nat.blt pc 25 then (bif Nat.blt pc 22 then (bif Nat.blt pc 18 then ((.if_icmp .ge 54), 69, 0, 0) else (bif Nat.blt pc 19 then ((.iload_n 2), 0, 0, 0) else ((.ifCond .eq 42), 61, 0, 0))) else (bif Nat.blt pc 23 then ((.iload_n 1), 0, 0, 0) else (bif Nat.blt pc 24 then ((.iload_n 3), 0, 0, 0) else ((.ishr), 0, 0, 0)))) else (bif Nat.blt pc 30 then (bif Nat.blt pc 26 then ((.iconst 1), 0, 0, 0) else (bif Nat.blt pc 27 then ((.iand), 0, 0, 0) else ((.ifCond .eq 30), 57, 0, 0))) else (bif Nat.blt pc 31 then ((.iload_n 1), 0, 0, 0) else (bif Nat.blt pc 33 then ((.iload 4), 0, 0, 0) else ((.ishr), 0, 0, 0)))))) else (bif Nat.blt pc 53 then (bif Nat.blt pc 44 then (bif Nat.blt pc 39 then (bif Nat.blt pc 35 then ((.iconst 1), 0, 0, 0) else (bif Nat.blt pc 36 then ((.iand), 0, 0, 0) else ((.ifCond .eq 21), 57, 0, 0))) else (bif Nat.blt pc 40 then ((.aload_n 0), 0, 0, 0) else (bif Nat.blt pc 43 then ((.getfield 65), 9, 33, 0) else ((.iload_n 3), 0, 0, 0)))) else (bif Nat.blt pc 49 then (bif Nat.blt pc 45 then ((.iaload), 0, 0, 0) else (bif Nat.blt pc 46 then ((.aload_n 0), 0, 0, 0) else ((.getfield 65), 9, 33, 0))) else (bif Nat.blt pc 50 then ((.iconst 5), 0, 0, 0) else (bif Nat.blt pc 52 then ((.iload 4), 0, 0, 0) else ((.iadd), 0, 0, 0))))) else (bif Nat.blt pc 63 then (bif Nat.blt pc 58 then (bif Nat.blt pc 54 then ((.iaload), 0, 0, 0) else (bif Nat.blt pc 57 then ((.if_icmp .eq 7), 61, 0, 0) else ((.iconst 1), 0, 0, 0))) else (bif Nat.blt pc 61 then ((.goto 4), 62, 0, 0) else (bif Nat.blt pc 62 then ((.iconst 0), 0, 0, 0) else ((.istore_n 2), 0, 0, 0)))) else (bif Nat.blt pc 72 then (bif Nat.blt pc 66 then ((.iinc 4 1), 0, 0, 0) else (bif Nat.blt pc 69 then ((.goto (-54)), 12, 0, 0) else ((.iinc 3 1), 0, 0, 0))) else (bif Nat.blt pc 75 then ((.goto (-68)), 4, 0, 0) else (bif Nat.blt pc 76 then ((.iload_n 2), 0, 0, 0) else ((.ireturn), 1, 0, 0)))))))
/-- PatternLaboratoryModel isOfPattern(I)Z -/
def pm_t171 : Nat → pm_En := fun pc => (bif Nat.blt pc 10 then (bif Nat.blt pc 5 then (bif Nat.blt pc 1 then ((.iload_n 1), 0, 0, 0) else (bif Nat.blt pc 4 then ((.ifCond .le 18), 19, 0, 0) else ((.iload_n 1), 0, 0, 0))) else (bif Nat.blt pc 6 then ((.aload_n 0), 0, 0, 0) else (bif Nat.blt pc 9 then ((.invokevirtual 103), 133, 1, 1) else ((.iconst (-1)), 0, 0, 0)))) else (bif Nat.blt pc 15 then (bif Nat.blt pc 11 then ((.ixor), 0, 0, 0) else (bif Nat.blt pc 12 then ((.iand), 0, 0, 0) else ((.ifCond .ne 7), 19, 0, 0))) else (bif Nat.blt pc 19 then (bif Nat.blt pc 16 then ((.iconst 1), 0, 0, 0) else ((.goto 4), 20, 0, 0)) else (bif Nat.blt pc 20 then ((.iconst 0), 0, 0, 0) else ((.ireturn), 1, 0, 0)))))
/-- PatternLaboratoryModel areConnected(II)Z -/
def pm_t172 : Nat → pm_En := fun pc => (bif Nat.blt pc 42 then (bif Nat.blt pc 23 then (bif Nat.blt pc 10 then (bif Nat.blt pc 3 then (bif Nat.blt pc 1 then ((.iload_n 1), 0, 0, 0) else (bif Nat.blt pc 2 then ((.iconst 0), 0, 0, 0) else ((.iconst 4), 0, 0, 0))) else (bif Nat.blt pc 6 then ((.invokestatic 89), 124, 3, 0) else (bif Nat.blt pc 9 then ((.ifCond .eq 16), 22, 0, 0) else ((.iload_n 2), 0, 0, 0)))) else (bif Nat.blt pc 15 then (bif Nat.blt pc 11 then ((.iconst 0), 0, 0, 0) else (bif Nat.blt pc 12 then ((.iconst 4), 0, 0, 0) else ((.invokestatic 89), 124, 3, 0))) else (bif Nat.blt pc 19 then (bif Nat.blt pc 18 then ((.ifCond .eq 7), 22, 0, 0) else ((.iconst 1), 0, 0, 0)) else (bif Nat.blt pc 22 then ((.goto 4), 23, 0, 0) else ((.iconst 0), 0, 0, 0))))) else (bif Nat.blt pc 31 then (bif Nat.blt pc 28 then (bif Nat.blt pc 24 then ((.istore_n 3), 0, 0, 0) else (bif Nat.blt pc 25 then ((.iload_n 3), 0, 0, 0) else ((.ifCond .eq 23), 48, 0, 0))) else (bif Nat.blt pc 29 then ((.aload_n 0), 0, 0, 0) else (bif Nat.blt pc 30 then ((.iconst 1), 0, 0, 0) else ((.iload_n 1), 0, 0, 0)))) else (bif Nat.blt pc 38 then (bif Nat.blt pc 32 then ((.ishl), 0, 0, 0) else (bif Nat.blt pc 35 then ((.invokevirtual 187), 171, 2, 1) else ((.ifCond .eq 13), 48, 0, 0))) else (bif Nat.blt pc 40 then (bif Nat.blt pc 39 then ((.aload_n 0), 0, 0, 0) else ((.iconst 1), 0, 0, 0)) else (bif Nat.blt pc 41 then ((.iload_n 2), 0, 0, 0) else ((.ishl), 0, 0, 0)))))) else (bif Nat.blt pc 65 then (bif Nat.blt pc 54 then (bif Nat.blt pc 49 then (bif Nat.blt pc 45 then ((.invokevirtual 187), 171, 2, 1) else (bif Nat.blt pc 48 then ((.ifCond .ne 9), 54, 0, 0) else ((.aload_n 0), 0, 0, 0))) else (bif Nat.blt pc 50 then ((.iconst 1), 0, 0, 0) else (bif Nat.blt pc 53 then ((.invokevirtual 138), 128, 2, 1) else ((.ireturn), 1, 0, 0)))) else (bif Nat.blt pc 59 then (bif Nat.blt pc 55 then ((.aload_n 0), 0, 0, 0) else (bif Nat.blt pc 56 then ((.iconst 0), 0, 0, 0) else ((.invokevirtual 190), 168, 2, 1))) else (bif Nat.blt pc 61 then (bif Nat.blt pc 60 then ((.aload_n 0), 0, 0, 0) else ((.aload_n 0), 0, 0, 0)) else (bif Nat.blt pc 64 then ((.getfield 65), 9, 33, 0) else ((.iload_n 1), 0, 0, 0))))) else (bif Nat.blt pc 73 then (bif Nat.blt pc 70 then (bif Nat.blt pc 66 then ((.iaload), 0, 0, 0) else (bif Nat.blt pc 67 then ((.aload_n 0), 0, 0, 0) else ((.getfield 65), 9, 33, 0))) else (bif Nat.blt pc 71 then ((.iconst 5), 0, 0, 0) else (bif Nat.blt pc 72 then ((.iload_n 2), 0, 0, 0) else ((.iadd), 0, 0, 0)))) else (bif Nat.blt pc 78 then (bif Nat.blt pc 74 then ((.iaload), 0, 0, 0) else (bif Nat.blt pc 77 then ((.if_icmp .ne 7), 81, 0, 0) else ((.iconst 1), 0, 0, 0))) else (bif Nat.blt pc 82 then (bif Nat.blt pc 81 then ((.goto 4), 82, 0, 0) else ((.iconst 0), 0, 0, 0)) else (bif Nat.blt pc 85 then ((.invokevirtual 114), 127, 2, 1) else ((.ireturn), 1, 0, 0)))))))
/-- PatternLaboratoryModel isFree(I)Z -/
def pm_t173 : Nat → pm_En := fun pc => (bif Nat.blt pc 14 then (bif Nat.blt pc 8 then (bif Nat.blt pc 2 then (bif Nat.blt pc 1 then ((.aload_n 0), 0, 0, 0) else ((.iload_n 1), 0, 0, 0)) else (bif Nat.blt pc 5 then ((.invokevirtual 187), 171, 2, 1) else ((.ifCond .ne 9), 14, 0, 0))) else (bif Nat.blt pc 10 then (bif Nat.blt pc 9 then ((.aload_n 0), 0, 0, 0) else ((.iconst 1), 0, 0, 0)) else (bif Nat.blt pc 13 then ((.invokevirtual 138), 128, 2, 1) else ((.ireturn), 1, 0, 0)))) else (bif Nat.blt pc 20 then (bif Nat.blt pc 16 then (bif Nat.blt pc 15 then ((.aload_n 0), 0, 0, 0) else ((.iconst 0), 0, 0, 0)) else (bif Nat.blt pc 19 then ((.invokevirtual 190), 168, 2, 1) else ((.aload_n 0), 0, 0, 0))) else (bif Nat.blt pc 22 then (bif Nat.blt pc 21 then ((.aload_n 0), 0, 0, 0) else ((.iload_n 1), 0, 0, 0)) else (bif Nat.blt pc 25 then ((.invokevirtual 194), 170, 2, 1) else (bif Nat.blt pc 28 then ((.invokevirtual 114), 127, 2, 1) else ((.ireturn), 1, 0, 0))))))
/-- PatternLaboratoryModel freeSetCount()I -/
def pm_t174 : Nat → pm_En := fun pc => (bif Nat.blt pc 24 then (bif Nat.blt pc 9 then (bif Nat.blt pc 5 then (bif Nat.blt pc 1 then ((.aload_n 0), 0, 0, 0) else (bif Nat.blt pc 2 then ((.iconst 0), 0, 0, 0) else ((.invokevirtual 190), 168, 2, 1))) else (bif Nat.blt pc 7 then (bif Nat.blt pc 6 then ((.iconst 0), 0, 0, 0) else ((.istore_n 1), 0, 0, 0)) else (bif Nat.blt pc 8 then ((.iconst 1), 0, 0, 0) else ((.istore_n 2), 0, 0, 0)))) else (bif Nat.blt pc 16 then (bif Nat.blt pc 12 then (bif Nat.blt pc 10 then ((.iload_n 2), 0, 0, 0) else ((.bipush 32), 0, 0, 0)) else (bif Nat.blt pc 15 then ((.if_icmp .ge 33), 45, 0, 0) else ((.iload_n 1), 0, 0, 0))) else (bif Nat.blt pc 18 then (bif Nat.blt pc 17 then ((.aload_n 0), 0, 0, 0) else ((.iload_n 2), 0, 0, 0)) else (bif Nat.blt pc 21 then ((.invokevirtual 187), 171, 2, 1) else ((.ifCond .eq 15), 36, 0, 0))))) else (bif Nat.blt pc 37 then (bif Nat.blt pc 29 then (bif Nat.blt pc 25 then ((.aload_n 0), 0, 0, 0) else (bif Nat.blt pc 26 then ((.iload_n 2), 0, 0, 0) else ((.invokevirtual 194), 170, 2, 1))) else (bif Nat.blt pc 33 then (bif Nat.blt pc 32 then ((.ifCond .eq 7), 36, 0, 0) else ((.iconst 1), 0, 0, 0)) else (bif Nat.blt pc 36 then ((.goto 4), 37, 0, 0) else ((.iconst 0), 0, 0, 0)))) else (bif Nat.blt pc 45 then (bif Nat.blt pc 39 then (bif Nat.blt pc 38 then ((.iadd), 0, 0, 0) else ((.istore_n 1), 0, 0, 0)) else (bif Nat.blt pc 42 then ((.iinc 2 1), 0, 0, 0) else ((.goto (-33)), 9, 0, 0))) else (bif Nat.blt pc 47 then (bif Nat.blt pc 46 then ((.aload_n 0), 0, 0, 0) else ((.iload_n 1), 0, 0, 0)) else (bif Nat.blt pc 50 then ((.invokevirtual 100), 126, 2, 1) else ((.ireturn), 0, 0, 0))))))
/-- PatternLaboratoryModel freeSet(I)I -/
def pm_t175 : Nat → pm_En := fun pc => (bif Nat.blt pc 27 then (bif Nat.blt pc 10 then (bif Nat.blt pc 6 then (bif Nat.blt pc 2 then (bif Nat.blt pc 1 then ((.aload_n 0), 0, 0, 0) else ((.iconst 0), 0, 0, 0)) else (bif Nat.blt pc 5 then ((.invokevirtual 190), 168, 2, 1) else ((.iload_n 1), 0, 0, 0))) else (bif Nat.blt pc 8 then (bif Nat.blt pc 7 then ((.istore_n 2), 0, 0, 0) else ((.iconst 1), 0, 0, 0)) else (bif Nat.blt pc 9 then ((.istore_n 3), 0, 0, 0) else ((.iload_n 3), 0, 0, 0)))) else (bif Nat.blt pc 19 then (bif Nat.blt pc 15 then (bif Nat.blt pc 12 then ((.bipush 32), 0, 0, 0) else ((.if_icmp .ge 42), 54, 0, 0)) else (bif Nat.blt pc 16 then ((.iload_n 1), 0, 0, 0) else ((.ifCond .lt 38), 54, 0, 0))) else (bif Nat.blt pc 21 then (bif Nat.blt pc 20 then ((.aload_n 0), 0, 0, 0) else ((.iload_n 3), 0, 0, 0)) else (bif Nat.blt pc 24 then ((.invokevirtual 187), 171, 2, 1) else ((.ifCond .eq 24), 48, 0, 0))))) else (bif Nat.blt pc 41 then (bif Nat.blt pc 35 then (bif Nat.blt pc 29 then (bif Nat.blt pc 28 then ((.aload_n 0), 0, 0, 0) else ((.iload_n 3), 0, 0, 0)) else (bif Nat.blt pc 32 then ((.invokevirtual 194), 170, 2, 1) else ((.ifCond .eq 16), 48, 0, 0))) else (bif Nat.blt pc 39 then (bif Nat.blt pc 36 then ((.iload_n 2), 0, 0, 0) else ((.ifCond .ne 9), 45, 0, 0)) else (bif Nat.blt pc 40 then ((.aload_n 0), 0, 0, 0) else ((.iload_n 3), 0, 0, 0)))) else (bif Nat.blt pc 51 then (bif Nat.blt pc 45 then (bif Nat.blt pc 44 then ((.invokevirtual 100), 126, 2, 1) else ((.ireturn), 0, 0, 0)) else (bif Nat.blt pc 48 then ((.iinc 2 (-1)), 0, 0, 0) else ((.iinc 3 1), 0, 0, 0))) else (bif Nat.blt pc 55 then (bif Nat.blt pc 54 then ((.goto (-42)), 9, 0, 0) else ((.aload_n 0), 0, 0, 0)) else (bif Nat.blt pc 56 then ((.iconst 1), 0, 0, 0) else (bif Nat.blt pc 59 then ((.invokevirtual 93), 125, 2, 1) else ((.ireturn), 0, 0, 0)))))))
/-- PatternLaboratoryModel delete(I)I -/
def pm_t176 : Nat → pm_En := fun pc => (bif Nat.blt pc 45 then (bif Nat.blt pc 21 then (bif Nat.blt pc 10 then (bif Nat.blt pc 5 then (bif Nat.blt pc 1 then ((.aload_n 0), 0, 0, 0) else (bif Nat.blt pc 2 then ((.iload_n 1), 0, 0, 0) else ((.invokevirtual 187), 171, 2, 1))) else (bif Nat.blt pc 8 then ((.ifCond .ne 9), 14, 0, 0) else (bif Nat.blt pc 9 then ((.aload_n 0), 0, 0, 0) else ((.iconst 1), 0, 0, 0)))) else (bif Nat.blt pc 15 then (bif Nat.blt pc 13 then ((.invokevirtual 93), 125, 2, 1) else (bif Nat.blt pc 14 then ((.ireturn), 0, 0, 0) else ((.aload_n 0), 0, 0, 0))) else (bif Nat.blt pc 19 then (bif Nat.blt pc 16 then ((.iconst 0), 0, 0, 0) else ((.invokevirtual 190), 168, 2, 1)) else (bif Nat.blt pc 20 then ((.aload_n 0), 0, 0, 0) else ((.iload_n 1), 0, 0, 0))))) else (bif Nat.blt pc 34 then (bif Nat.blt pc 28 then (bif Nat.blt pc 24 then ((.invokevirtual 194), 170, 2, 1) else (bif Nat.blt pc 27 then ((.ifCond .ne 9), 33, 0, 0) else ((.aload_n 0), 0, 0, 0))) else (bif Nat.blt pc 32 then (bif Nat.blt pc 29 then ((.iconst 2), 0, 0, 0) else ((.invokevirtual 93), 125, 2, 1)) else (bif Nat.blt pc 33 then ((.ireturn), 0, 0, 0) else ((.iconst 0), 0, 0, 0)))) else (bif Nat.blt pc 37 then (bif Nat.blt pc 35 then ((.istore_n 2), 0, 0, 0) else (bif Nat.blt pc 36 then ((.iconst 0), 0, 0, 0) else ((.istore_n 3), 0, 0, 0))) else (bif Nat.blt pc 39 then (bif Nat.blt pc 38 then ((.iload_n 3), 0, 0, 0) else ((.aload_n 0), 0, 0, 0)) else (bif Nat.blt pc 42 then ((.getfield 97), 9, 1, 0) else ((.if_icmp .ge 37), 79, 0, 0)))))) else (bif Nat.blt pc 64 then (bif Nat.blt pc 53 then (bif Nat.blt pc 50 then (bif Nat.blt pc 46 then ((.iload_n 1), 0, 0, 0) else (bif Nat.blt pc 47 then ((.aload_n 0), 0, 0, 0) else ((.getfield 7), 9, 2, 0))) else (bif Nat.blt pc 51 then ((.iload_n 3), 0, 0, 0) else (bif Nat.blt pc 52 then ((.iaload), 0, 0, 0) else ((.ishr), 0, 0, 0)))) else (bif Nat.blt pc 58 then (bif Nat.blt pc 54 then ((.iconst 1), 0, 0, 0) else (bif Nat.blt pc 55 then ((.iand), 0, 0, 0) else ((.ifCond .ne 18), 73, 0, 0))) else (bif Nat.blt pc 62 then (bif Nat.blt pc 59 then ((.aload_n 0), 0, 0, 0) else ((.getfield 7), 9, 2, 0)) else (bif Nat.blt pc 63 then ((.iload_n 2), 0, 0, 0) else ((.aload_n 0), 0, 0, 0))))) else (bif Nat.blt pc 79 then (bif Nat.blt pc 69 then (bif Nat.blt pc 67 then ((.getfield 7), 9, 2, 0) else (bif Nat.blt pc 68 then ((.iload_n 3), 0, 0, 0) else ((.iaload), 0, 0, 0))) else (bif Nat.blt pc 73 then (bif Nat.blt pc 70 then ((.iastore), 0, 0, 0) else ((.iinc 2 1), 0, 0, 0)) else (bif Nat.blt pc 76 then ((.iinc 3 1), 0, 0, 0) else ((.goto (-39)), 37, 0, 0)))) else (bif Nat.blt pc 84 then (bif Nat.blt pc 80 then ((.aload_n 0), 0, 0, 0) else (bif Nat.blt pc 81 then ((.iload_n 2), 0, 0, 0) else ((.putfield 97), 9, 1, 0))) else (bif Nat.blt pc 86 then (bif Nat.blt pc 85 then ((.aload_n 0), 0, 0, 0) else ((.iload_n 2), 0, 0, 0)) else (bif Nat.blt pc 89 then ((.invokevirtual 100), 126, 2, 1) else ((.ireturn), 0, 0, 0)))))))
/-- PatternLaboratoryModel tellReductions()V -/
def pm_t177 : Nat → pm_En := fun pc => (bif Nat.blt pc 69 then (bif Nat.blt pc 33 then (bif Nat.blt pc 18 then (bif Nat.blt pc 8 then (bif Nat.blt pc 4 then (bif Nat.blt pc 1 then ((.aload_n 0), 0, 0, 0) else ((.invokevirtual 103), 133, 1, 1)) else (bif Nat.blt pc 5 then ((.istore_n 1), 0, 0, 0) else (bif Nat.blt pc 7 then ((.bipush 31), 0, 0, 0) else ((.istore_n 2), 0, 0, 0)))) else (bif Nat.blt pc 13 then (bif Nat.blt pc 9 then ((.iload_n 2), 0, 0, 0) else (bif Nat.blt pc 12 then ((.ifCond .lt 139), 148, 0, 0) else ((.aload_n 0), 0, 0, 0))) else (bif Nat.blt pc 16 then ((.getfield 68), 9, 34, 0) else (bif Nat.blt pc 17 then ((.iload_n 2), 0, 0, 0) else ((.iload_n 2), 0, 0, 0))))) else (bif Nat.blt pc 27 then (bif Nat.blt pc 22 then (bif Nat.blt pc 19 then ((.iload_n 1), 0, 0, 0) else ((.if_icmp .ne 7), 26, 0, 0)) else (bif Nat.blt pc 23 then ((.iconst 0), 0, 0, 0) else (bif Nat.blt pc 26 then ((.goto 4), 27, 0, 0) else ((.iconst (-1)), 0, 0, 0)))) else (bif Nat.blt pc 30 then (bif Nat.blt pc 28 then ((.iastore), 0, 0, 0) else (bif Nat.blt pc 29 then ((.iload_n 2), 0, 0, 0) else ((.iload_n 1), 0, 0, 0))) else (bif Nat.blt pc 31 then ((.iconst (-1)), 0, 0, 0) else (bif Nat.blt pc 32 then ((.ixor), 0, 0, 0) else ((.iand), 0, 0, 0)))))) else (bif Nat.blt pc 51 then (bif Nat.blt pc 42 then (bif Nat.blt pc 37 then (bif Nat.blt pc 36 then ((.ifCond .ne 109), 142, 0, 0) else ((.iload_n 2), 0, 0, 0)) else (bif Nat.blt pc 38 then ((.iload_n 1), 0, 0, 0) else (bif Nat.blt pc 41 then ((.if_icmp .eq 104), 142, 0, 0) else ((.aload_n 0), 0, 0, 0)))) else (bif Nat.blt pc 47 then (bif Nat.blt pc 43 then ((.iload_n 2), 0, 0, 0) else (bif Nat.blt pc 46 then ((.invokevirtual 190), 168, 2, 1) else ((.iconst 1), 0, 0, 0))) else (bif Nat.blt pc 48 then ((.istore_n 3), 0, 0, 0) else (bif Nat.blt pc 49 then ((.iload_n 3), 0, 0, 0) else ((.bipush 32), 0, 0, 0))))) else (bif Nat.blt pc 61 then (bif Nat.blt pc 56 then (bif Nat.blt pc 54 then ((.if_icmp .ge 91), 142, 0, 0) else (bif Nat.blt pc 55 then ((.iload_n 3), 0, 0, 0) else ((.iload_n 2), 0, 0, 0))) else (bif Nat.blt pc 57 then ((.iand), 0, 0, 0) else (bif Nat.blt pc 60 then ((.ifCond .ne 30), 87, 0, 0) else ((.iload_n 3), 0, 0, 0)))) else (bif Nat.blt pc 64 then (bif Nat.blt pc 62 then ((.iload_n 1), 0, 0, 0) else (bif Nat.blt pc 63 then ((.iconst (-1)), 0, 0, 0) else ((.ixor), 0, 0, 0))) else (bif Nat.blt pc 65 then ((.iand), 0, 0, 0) else (bif Nat.blt pc 68 then ((.ifCond .ne 22), 87, 0, 0) else ((.aload_n 0), 0, 0, 0))))))) else (bif Nat.blt pc 109 then (bif Nat.blt pc 88 then (bif Nat.blt pc 80 then (bif Nat.blt pc 73 then (bif Nat.blt pc 70 then ((.iload_n 3), 0, 0, 0) else ((.invokevirtual 194), 170, 2, 1)) else (bif Nat.blt pc 76 then ((.ifCond .eq 14), 87, 0, 0) else (bif Nat.blt pc 77 then ((.aload_n 0), 0, 0, 0) else ((.getfield 68), 9, 34, 0)))) else (bif Nat.blt pc 83 then (bif Nat.blt pc 81 then ((.iload_n 2), 0, 0, 0) else (bif Nat.blt pc 82 then ((.iload_n 3), 0, 0, 0) else ((.ior), 0, 0, 0))) else (bif Nat.blt pc 84 then ((.iaload), 0, 0, 0) else (bif Nat.blt pc 87 then ((.goto 4), 88, 0, 0) else ((.iconst (-1)), 0, 0, 0))))) else (bif Nat.blt pc 100 then (bif Nat.blt pc 93 then (bif Nat.blt pc 90 then ((.istore 4), 0, 0, 0) else (bif Nat.blt pc 92 then ((.iload 4), 0, 0, 0) else ((.iconst (-1)), 0, 0, 0))) else (bif Nat.blt pc 96 then ((.if_icmp .eq 43), 136, 0, 0) else (bif Nat.blt pc 97 then ((.aload_n 0), 0, 0, 0) else ((.getfield 68), 9, 34, 0)))) else (bif Nat.blt pc 103 then (bif Nat.blt pc 101 then ((.iload_n 2), 0, 0, 0) else (bif Nat.blt pc 102 then ((.iaload), 0, 0, 0) else ((.iconst (-1)), 0, 0, 0))) else (bif Nat.blt pc 106 then ((.if_icmp .eq 16), 119, 0, 0) else (bif Nat.blt pc 108 then ((.iload 4), 0, 0, 0) else ((.iconst 1), 0, 0, 0)))))) else (bif Nat.blt pc 127 then (bif Nat.blt pc 116 then (bif Nat.blt pc 111 then (bif Nat.blt pc 110 then ((.iadd), 0, 0, 0) else ((.aload_n 0), 0, 0, 0)) else (bif Nat.blt pc 114 then ((.getfield 68), 9, 34, 0) else (bif Nat.blt pc 115 then ((.iload_n 2), 0, 0, 0) else ((.iaload), 0, 0, 0)))) else (bif Nat.blt pc 123 then (bif Nat.blt pc 119 then ((.if_icmp .ge 20), 136, 0, 0) else (bif Nat.blt pc 120 then ((.aload_n 0), 0, 0, 0) else ((.getfield 68), 9, 34, 0))) else (bif Nat.blt pc 124 then ((.iload_n 2), 0, 0, 0) else (bif Nat.blt pc 126 then ((.iload 4), 0, 0, 0) else ((.iconst 1), 0, 0, 0))))) else (bif Nat.blt pc 135 then (bif Nat.blt pc 130 then (bif Nat.blt pc 128 then ((.iadd), 0, 0, 0) else (bif Nat.blt pc 129 then ((.iastore), 0, 0, 0) else ((.aload_n 0), 0, 0, 0))) else (bif Nat.blt pc 133 then ((.getfield 71), 9, 35, 0) else (bif Nat.blt pc 134 then ((.iload_n 2), 0, 0, 0) else ((.iload_n 3), 0, 0, 0)))) else (bif Nat.blt pc 142 then (bif Nat.blt pc 136 then ((.iastore), 0, 0, 0) else (bif Nat.blt pc 139 then ((.iinc 3 1), 0, 0, 0) else ((.goto (-91)), 48, 0, 0))) else (bif Nat.blt pc 145 then ((.iinc 2 (-1)), 0, 0, 0) else (bif Nat.blt pc 148 then ((.goto (-137)), 8, 0, 0) else ((.return_), 0, 0, 0))))))))
/-- PatternLaboratoryModel isUnavoidable()Z -/
def pm_t178 : Nat → pm_En := fun pc => (bif Nat.blt pc 11 then (bif Nat.blt pc 5 then (bif Nat.blt pc 1 then ((.aload_n 0), 0, 0, 0) else (bif Nat.blt pc 4 then ((.invokevirtual 197), 177, 1, 1) else ((.aload_n 0), 0, 0, 0))) else (bif Nat.blt pc 9 then (bif Nat.blt pc 6 then ((.aload_n 0), 0, 0, 0) else ((.getfield 68), 9, 34, 0)) else (bif Nat.blt pc 10 then ((.iconst 0), 0, 0, 0) else ((.iaload), 0, 0, 0)))) else (bif Nat.blt pc 16 then (bif Nat.blt pc 12 then ((.iconst (-1)), 0, 0, 0) else (bif Nat.blt pc 15 then ((.if_icmp .eq 7), 19, 0, 0) else ((.iconst 1), 0, 0, 0))) else (bif Nat.blt pc 20 then (bif Nat.blt pc 19 then ((.goto 4), 20, 0, 0) else ((.iconst 0), 0, 0, 0)) else (bif Nat.blt pc 23 then ((.invokevirtual 114), 127, 2, 1) else ((.ireturn), 1, 0, 0)))))
/-- PatternLaboratoryModel reductionLength()I -/
def pm_t179 : Nat → pm_En := fun pc => (bif Nat.blt pc 15 then (bif Nat.blt pc 8 then (bif Nat.blt pc 4 then (bif Nat.blt pc 1 then ((.aload_n 0), 0, 0, 0) else ((.invokevirtual 197), 177, 1, 1)) else (bif Nat.blt pc 5 then ((.aload_n 0), 0, 0, 0) else ((.getfield 68), 9, 34, 0))) else (bif Nat.blt pc 10 then (bif Nat.blt pc 9 then ((.iconst 0), 0, 0, 0) else ((.iaload), 0, 0, 0)) else (bif Nat.blt pc 11 then ((.iconst (-1)), 0, 0, 0) else (bif Nat.blt pc 14 then ((.if_icmp .ne 11), 22, 0, 0) else ((.aload_n 0), 0, 0, 0))))) else (bif Nat.blt pc 24 then (bif Nat.blt pc 19 then (bif Nat.blt pc 16 then ((.iconst 1), 0, 0, 0) else ((.invokevirtual 93), 125, 2, 1)) else (bif Nat.blt pc 22 then ((.goto 13), 32, 0, 0) else (bif Nat.blt pc 23 then ((.aload_n 0), 0, 0, 0) else ((.aload_n 0), 0, 0, 0)))) else (bif Nat.blt pc 28 then (bif Nat.blt pc 27 then ((.getfield 68), 9, 34, 0) else ((.iconst 0), 0, 0, 0)) else (bif Nat.blt pc 29 then ((.iaload), 0, 0, 0) else (bif Nat.blt pc 32 then ((.invokevirtual 100), 126, 2, 1) else ((.ireturn), 0, 0, 0))))))
/-- PatternLaboratoryModel reductionSet(I)I -/
def pm_t180 : Nat → pm_En := fun pc => (bif Nat.blt pc 38 then (bif Nat.blt pc 20 then (bif Nat.blt pc 10 then (bif Nat.blt pc 5 then (bif Nat.blt pc 1 then ((.aload_n 0), 0, 0, 0) else (bif Nat.blt pc 4 then ((.invokevirtual 197), 177, 1, 1) else ((.aload_n 0), 0, 0, 0))) else (bif Nat.blt pc 8 then ((.getfield 68), 9, 34, 0) else (bif Nat.blt pc 9 then ((.iconst 0), 0, 0, 0) else ((.iaload), 0, 0, 0)))) else (bif Nat.blt pc 15 then (bif Nat.blt pc 11 then ((.iconst (-1)), 0, 0, 0) else (bif Nat.blt pc 14 then ((.if_icmp .ne 9), 20, 0, 0) else ((.aload_n 0), 0, 0, 0))) else (bif Nat.blt pc 16 then ((.iconst 1), 0, 0, 0) else (bif Nat.blt pc 19 then ((.invokevirtual 93), 125, 2, 1) else ((.ireturn), 0, 0, 0))))) else (bif Nat.blt pc 28 then (bif Nat.blt pc 23 then (bif Nat.blt pc 21 then ((.iload_n 1), 0, 0, 0) else (bif Nat.blt pc 22 then ((.iconst 0), 0, 0, 0) else ((.aload_n 0), 0, 0, 0))) else (bif Nat.blt pc 26 then ((.getfield 68), 9, 34, 0) else (bif Nat.blt pc 27 then ((.iconst 0), 0, 0, 0) else ((.iaload), 0, 0, 0)))) else (bif Nat.blt pc 33 then (bif Nat.blt pc 29 then ((.iconst 1), 0, 0, 0) else (bif Nat.blt pc 30 then ((.isub), 0, 0, 0) else ((.invokestatic 89), 124, 3, 0))) else (bif Nat.blt pc 36 then ((.ifCond .ne 9), 42, 0, 0) else (bif Nat.blt pc 37 then ((.aload_n 0), 0, 0, 0) else ((.iconst 2), 0, 0, 0)))))) else (bif Nat.blt pc 56 then (bif Nat.blt pc 46 then (bif Nat.blt pc 43 then (bif Nat.blt pc 41 then ((.invokevirtual 93), 125, 2, 1) else (bif Nat.blt pc 42 then ((.ireturn), 0, 0, 0) else ((.iconst 0), 0, 0, 0))) else (bif Nat.blt pc 44 then ((.istore_n 2), 0, 0, 0) else (bif Nat.blt pc 45 then ((.iconst 0), 0, 0, 0) else ((.istore_n 3), 0, 0, 0)))) else (bif Nat.blt pc 51 then (bif Nat.blt pc 47 then ((.iload_n 3), 0, 0, 0) else (bif Nat.blt pc 48 then ((.iload_n 1), 0, 0, 0) else ((.if_icmp .ge 18), 66, 0, 0))) else (bif Nat.blt pc 52 then ((.iload_n 2), 0, 0, 0) else (bif Nat.blt pc 53 then ((.aload_n 0), 0, 0, 0) else ((.getfield 71), 9, 35, 0))))) else (bif Nat.blt pc 66 then (bif Nat.blt pc 59 then (bif Nat.blt pc 57 then ((.iload_n 2), 0, 0, 0) else (bif Nat.blt pc 58 then ((.iaload), 0, 0, 0) else ((.ior), 0, 0, 0))) else (bif Nat.blt pc 60 then ((.istore_n 2), 0, 0, 0) else (bif Nat.blt pc 63 then ((.iinc 3 1), 0, 0, 0) else ((.goto (-17)), 46, 0, 0)))) else (bif Nat.blt pc 71 then (bif Nat.blt pc 67 then ((.aload_n 0), 0, 0, 0) else (bif Nat.blt pc 68 then ((.aload_n 0), 0, 0, 0) else ((.getfield 71), 9, 35, 0))) else (bif Nat.blt pc 73 then (bif Nat.blt pc 72 then ((.iload_n 2), 0, 0, 0) else ((.iaload), 0, 0, 0)) else (bif Nat.blt pc 76 then ((.invokevirtual 100), 126, 2, 1) else ((.ireturn), 0, 0, 0)))))))
/-- PatternLaboratoryModel tries(I)Z -/
def pm_t181 : Nat → pm_En := fun pc => (bif Nat.blt pc 42 then (bif Nat.blt pc 22 then (bif Nat.blt pc 12 then (bif Nat.blt pc 7 then (bif Nat.blt pc 1 then ((.aload_n 0), 0, 0, 0) else (bif Nat.blt pc 4 then ((.getfield 200), 9, 36, 0) else ((.sipush 1500), 0, 0, 0))) else (bif Nat.blt pc 10 then ((.if_icmp .ne 10), 17, 0, 0) else (bif Nat.blt pc 11 then ((.aload_n 0), 0, 0, 0) else ((.iconst 1), 0, 0, 0)))) else (bif Nat.blt pc 17 then (bif Nat.blt pc 15 then ((.putfield 203), 9, 37, 1) else (bif Nat.blt pc 16 then ((.iconst 0), 0, 0, 0) else ((.ireturn), 1, 0, 0))) else (bif Nat.blt pc 18 then ((.aload_n 0), 0, 0, 0) else (bif Nat.blt pc 19 then ((.dup), 0, 0, 0) else ((.getfield 200), 9, 36, 0))))) else (bif Nat.blt pc 32 then (bif Nat.blt pc 27 then (bif Nat.blt pc 23 then ((.iconst 1), 0, 0, 0) else (bif Nat.blt pc 24 then ((.iadd), 0, 0, 0) else ((.putfield 200), 9, 36, 0))) else (bif Nat.blt pc 28 then ((.aload_n 0), 0, 0, 0) else (bif Nat.blt pc 31 then ((.getfield 56), 9, 26, 0) else ((.aload_n 0), 0, 0, 0)))) else (bif Nat.blt pc 37 then (bif Nat.blt pc 35 then ((.getfield 132), 9, 25, 0) else (bif Nat.blt pc 36 then ((.iload_n 1), 0, 0, 0) else ((.iastore), 0, 0, 0))) else (bif Nat.blt pc 38 then ((.aload_n 0), 0, 0, 0) else (bif Nat.blt pc 39 then ((.dup), 0, 0, 0) else ((.getfield 132), 9, 25, 0)))))) else (bif Nat.blt pc 64 then (bif Nat.blt pc 52 then (bif Nat.blt pc 47 then (bif Nat.blt pc 43 then ((.iconst 1), 0, 0, 0) else (bif Nat.blt pc 44 then ((.iadd), 0, 0, 0) else ((.putfield 132), 9, 25, 0))) else (bif Nat.blt pc 48 then ((.aload_n 0), 0, 0, 0) else (bif Nat.blt pc 49 then ((.aload_n 0), 0, 0, 0) else ((.getfield 132), 9, 25, 0)))) else (bif Nat.blt pc 59 then (bif Nat.blt pc 55 then ((.invokevirtual 145), 143, 2, 1) else (bif Nat.blt pc 56 then ((.iconst (-1)), 0, 0, 0) else ((.if_icmp .ne 7), 63, 0, 0))) else (bif Nat.blt pc 60 then ((.iconst 1), 0, 0, 0) else (bif Nat.blt pc 63 then ((.goto 4), 64, 0, 0) else ((.iconst 0), 0, 0, 0))))) else (bif Nat.blt pc 74 then (bif Nat.blt pc 67 then (bif Nat.blt pc 65 then ((.istore_n 2), 0, 0, 0) else (bif Nat.blt pc 66 then ((.aload_n 0), 0, 0, 0) else ((.dup), 0, 0, 0))) else (bif Nat.blt pc 70 then ((.getfield 132), 9, 25, 0) else (bif Nat.blt pc 71 then ((.iload_n 2), 0, 0, 0) else ((.ifCond .eq 7), 78, 0, 0)))) else (bif Nat.blt pc 79 then (bif Nat.blt pc 75 then ((.iconst 0), 0, 0, 0) else (bif Nat.blt pc 78 then ((.goto 4), 79, 0, 0) else ((.iconst 1), 0, 0, 0))) else (bif Nat.blt pc 83 then (bif Nat.blt pc 80 then ((.isub), 0, 0, 0) else ((.putfield 132), 9, 25, 0)) else (bif Nat.blt pc 84 then ((.iload_n 2), 0, 0, 0) else ((.ireturn), 1, 0, 0)))))))
/-- PatternLaboratoryModel extends0(LPatternLaboratoryModel;I)Z -/
def pm_t182 : Nat → pm_En := fun pc => (bif Nat.blt pc 43 then (bif Nat.blt pc 23 then (bif Nat.blt pc 9 then (bif Nat.blt pc 2 then (bif Nat.blt pc 1 then ((.aload_n 0), 0, 0, 0) else ((.aload_n 0), 0, 0, 0)) else (bif Nat.blt pc 5 then ((.getfield 132), 9, 25, 0) else (bif Nat.blt pc 6 then ((.aload_n 0), 0, 0, 0) else ((.getfield 206), 9, 38, 0)))) else (bif Nat.blt pc 16 then (bif Nat.blt pc 12 then ((.if_icmp .le 10), 19, 0, 0) else (bif Nat.blt pc 13 then ((.aload_n 0), 0, 0, 0) else ((.getfield 132), 9, 25, 0))) else (bif Nat.blt pc 19 then ((.goto 7), 23, 0, 0) else (bif Nat.blt pc 20 then ((.aload_n 0), 0, 0, 0) else ((.getfield 206), 9, 38, 0))))) else (bif Nat.blt pc 35 then (bif Nat.blt pc 30 then (bif Nat.blt pc 26 then ((.putfield 206), 9, 38, 0) else (bif Nat.blt pc 27 then ((.aload_n 0), 0, 0, 0) else ((.getfield 132), 9, 25, 0))) else (bif Nat.blt pc 31 then ((.iload_n 1), 0, 0, 0) else (bif Nat.blt pc 34 then ((.if_icmp .ne 5), 36, 0, 0) else ((.iconst 1), 0, 0, 0)))) else (bif Nat.blt pc 38 then (bif Nat.blt pc 36 then ((.ireturn), 1, 0, 0) else (bif Nat.blt pc 37 then ((.iconst 0), 0, 0, 0) else ((.istore_n 2), 0, 0, 0))) else (bif Nat.blt pc 39 then ((.iload_n 2), 0, 0, 0) else (bif Nat.blt pc 40 then ((.aload_n 0), 0, 0, 0) else ((.getfield 13), 9, 3, 0)))))) else (bif Nat.blt pc 69 then (bif Nat.blt pc 55 then (bif Nat.blt pc 50 then (bif Nat.blt pc 46 then ((.if_icmp .ge 44), 87, 0, 0) else (bif Nat.blt pc 47 then ((.aload_n 0), 0, 0, 0) else ((.getfield 203), 9, 37, 1))) else (bif Nat.blt pc 53 then ((.ifCond .ne 37), 87, 0, 0) else (bif Nat.blt pc 54 then ((.aload_n 0), 0, 0, 0) else ((.iload_n 2), 0, 0, 0)))) else (bif Nat.blt pc 62 then (bif Nat.blt pc 58 then ((.invokevirtual 209), 181, 2, 1) else (bif Nat.blt pc 61 then ((.ifCond .eq 23), 81, 0, 0) else ((.aload_n 0), 0, 0, 0))) else (bif Nat.blt pc 63 then ((.iload_n 1), 0, 0, 0) else (bif Nat.blt pc 66 then ((.invokestatic 212), 182, 2, 0) else ((.ifCond .eq 5), 71, 0, 0))))) else (bif Nat.blt pc 77 then (bif Nat.blt pc 72 then (bif Nat.blt pc 70 then ((.iconst 1), 0, 0, 0) else (bif Nat.blt pc 71 then ((.ireturn), 1, 0, 0) else ((.aload_n 0), 0, 0, 0))) else (bif Nat.blt pc 73 then ((.dup), 0, 0, 0) else (bif Nat.blt pc 76 then ((.getfield 132), 9, 25, 0) else ((.iconst 1), 0, 0, 0)))) else (bif Nat.blt pc 84 then (bif Nat.blt pc 78 then ((.isub), 0, 0, 0) else (bif Nat.blt pc 81 then ((.putfield 132), 9, 25, 0) else ((.iinc 2 1), 0, 0, 0))) else (bif Nat.blt pc 87 then ((.goto (-46)), 38, 0, 0) else (bif Nat.blt pc 88 then ((.iconst 0), 0, 0, 0) else ((.ireturn), 1, 0, 0)))))))
/-- PatternLaboratoryModel begins()V -/
def pm_t183 : Nat → pm_En := fun pc => (bif Nat.blt pc 19 then (bif Nat.blt pc 7 then (bif Nat.blt pc 2 then (bif Nat.blt pc 1 then ((.aload_n 0), 0, 0, 0) else ((.aload_n 0), 0, 0, 0)) else (bif Nat.blt pc 5 then ((.getfield 7), 9, 2, 0) else (bif Nat.blt pc 6 then ((.iconst 0), 0, 0, 0) else ((.aload_n 0), 0, 0, 0)))) else (bif Nat.blt pc 14 then (bif Nat.blt pc 10 then ((.getfield 97), 9, 1, 0) else (bif Nat.blt pc 13 then ((.invokevirtual 142), 140, 4, 1) else ((.aload_n 0), 0, 0, 0))) else (bif Nat.blt pc 15 then ((.iconst 0), 0, 0, 0) else (bif Nat.blt pc 18 then ((.putfield 200), 9, 36, 0) else ((.aload_n 0), 0, 0, 0))))) else (bif Nat.blt pc 29 then (bif Nat.blt pc 24 then (bif Nat.blt pc 20 then ((.iconst 0), 0, 0, 0) else (bif Nat.blt pc 23 then ((.putfield 203), 9, 37, 1) else ((.aload_n 0), 0, 0, 0))) else (bif Nat.blt pc 25 then ((.iconst 0), 0, 0, 0) else (bif Nat.blt pc 28 then ((.putfield 206), 9, 38, 0) else ((.aload_n 0), 0, 0, 0)))) else (bif Nat.blt pc 34 then (bif Nat.blt pc 30 then ((.iconst 0), 0, 0, 0) else (bif Nat.blt pc 33 then ((.putfield 216), 9, 39, 0) else ((.aload_n 0), 0, 0, 0))) else (bif Nat.blt pc 35 then ((.iconst 0), 0, 0, 0) else (bif Nat.blt pc 38 then ((.putfield 219), 9, 40, 0) else ((.return_), 0, 0, 0))))))
/-- PatternLaboratoryModel extend(I)I -/
def pm_t184 : Nat → pm_En := fun pc => (bif Nat.blt pc 63 then (bif Nat.blt pc 32 then (bif Nat.blt pc 15 then (bif Nat.blt pc 7 then (bif Nat.blt pc 2 then (bif Nat.blt pc 1 then ((.iload_n 1), 0, 0, 0) else ((.aload_n 0), 0, 0, 0)) else (bif Nat.blt pc 5 then ((.getfield 135), 9, 4, 0) else ((.bipush 24), 0, 0, 0))) else (bif Nat.blt pc 13 then (bif Nat.blt pc 10 then ((.invokestatic 89), 124, 3, 0) else ((.ifCond .ne 9), 19, 0, 0)) else (bif Nat.blt pc 14 then ((.aload_n 0), 0, 0, 0) else ((.iconst 1), 0, 0, 0)))) else (bif Nat.blt pc 23 then (bif Nat.blt pc 19 then (bif Nat.blt pc 18 then ((.invokevirtual 93), 125, 2, 1) else ((.ireturn), 0, 0, 0)) else (bif Nat.blt pc 20 then ((.aload_n 0), 0, 0, 0) else ((.getfield 97), 9, 1, 0))) else (bif Nat.blt pc 27 then (bif Nat.blt pc 26 then ((.ifCond .ne 9), 32, 0, 0) else ((.aload_n 0), 0, 0, 0)) else (bif Nat.blt pc 28 then ((.iconst 2), 0, 0, 0) else (bif Nat.blt pc 31 then ((.invokevirtual 93), 125, 2, 1) else ((.ireturn), 0, 0, 0)))))) else (bif Nat.blt pc 46 then (bif Nat.blt pc 40 then (bif Nat.blt pc 36 then (bif Nat.blt pc 33 then ((.aload_n 0), 0, 0, 0) else ((.invokevirtual 172), 162, 1, 1)) else (bif Nat.blt pc 39 then ((.ifCond .ne 9), 45, 0, 0) else ((.aload_n 0), 0, 0, 0))) else (bif Nat.blt pc 44 then (bif Nat.blt pc 41 then ((.iconst 3), 0, 0, 0) else ((.invokevirtual 93), 125, 2, 1)) else (bif Nat.blt pc 45 then ((.ireturn), 0, 0, 0) else ((.aload_n 0), 0, 0, 0)))) else (bif Nat.blt pc 54 then (bif Nat.blt pc 50 then (bif Nat.blt pc 49 then ((.invokevirtual 222), 183, 1, 1) else ((.aload_n 0), 0, 0, 0)) else (bif Nat.blt pc 53 then ((.invokevirtual 169), 144, 1, 1) else ((.aload_n 0), 0, 0, 0))) else (bif Nat.blt pc 58 then (bif Nat.blt pc 55 then ((.iload_n 1), 0, 0, 0) else ((.invokestatic 212), 182, 2, 0)) else (bif Nat.blt pc 59 then ((.istore_n 2), 0, 0, 0) else (bif Nat.blt pc 60 then ((.aload_n 0), 0, 0, 0) else ((.getfield 203), 9, 37, 1))))))) else (bif Nat.blt pc 90 then (bif Nat.blt pc 77 then (bif Nat.blt pc 71 then (bif Nat.blt pc 67 then (bif Nat.blt pc 66 then ((.ifCond .eq 9), 72, 0, 0) else ((.aload_n 0), 0, 0, 0)) else (bif Nat.blt pc 68 then ((.iconst 4), 0, 0, 0) else ((.invokevirtual 93), 125, 2, 1))) else (bif Nat.blt pc 73 then (bif Nat.blt pc 72 then ((.ireturn), 0, 0, 0) else ((.iload_n 2), 0, 0, 0)) else (bif Nat.blt pc 76 then ((.ifCond .ne 9), 82, 0, 0) else ((.aload_n 0), 0, 0, 0)))) else (bif Nat.blt pc 83 then (bif Nat.blt pc 81 then (bif Nat.blt pc 78 then ((.iconst 3), 0, 0, 0) else ((.invokevirtual 93), 125, 2, 1)) else (bif Nat.blt pc 82 then ((.ireturn), 0, 0, 0) else ((.aload_n 0), 0, 0, 0))) else (bif Nat.blt pc 87 then (bif Nat.blt pc 84 then ((.iload_n 1), 0, 0, 0) else ((.putfield 135), 9, 4, 0)) else (bif Nat.blt pc 88 then ((.iconst 0), 0, 0, 0) else (bif Nat.blt pc 89 then ((.istore_n 3), 0, 0, 0) else ((.iload_n 3), 0, 0, 0)))))) else (bif Nat.blt pc 104 then (bif Nat.blt pc 98 then (bif Nat.blt pc 94 then (bif Nat.blt pc 91 then ((.iload_n 1), 0, 0, 0) else ((.if_icmp .ge 21), 112, 0, 0)) else (bif Nat.blt pc 95 then ((.aload_n 0), 0, 0, 0) else ((.getfield 17), 9, 5, 0))) else (bif Nat.blt pc 100 then (bif Nat.blt pc 99 then ((.iload_n 3), 0, 0, 0) else ((.aload_n 0), 0, 0, 0)) else (bif Nat.blt pc 103 then ((.getfield 56), 9, 26, 0) else ((.iload_n 3), 0, 0, 0)))) else (bif Nat.blt pc 112 then (bif Nat.blt pc 106 then (bif Nat.blt pc 105 then ((.iaload), 0, 0, 0) else ((.iastore), 0, 0, 0)) else (bif Nat.blt pc 109 then ((.iinc 3 1), 0, 0, 0) else ((.goto (-20)), 89, 0, 0))) else (bif Nat.blt pc 114 then (bif Nat.blt pc 113 then ((.aload_n 0), 0, 0, 0) else ((.aload_n 0), 0, 0, 0)) else (bif Nat.blt pc 117 then ((.getfield 200), 9, 36, 0) else (bif Nat.blt pc 120 then ((.invokevirtual 100), 126, 2, 1) else ((.ireturn), 0, 0, 0))))))))
/-- PatternLaboratoryModel longestAvoiding(I)I -/
def pm_t185 : Nat → pm_En := fun pc => (bif Nat.blt pc 33 then (bif Nat.blt pc 16 then (bif Nat.blt pc 7 then (bif Nat.blt pc 2 then (bif Nat.blt pc 1 then ((.iload_n 1), 0, 0, 0) else ((.iconst 1), 0, 0, 0)) else (bif Nat.blt pc 4 then ((.bipush 20), 0, 0, 0) else ((.invokestatic 89), 124, 3, 0))) else (bif Nat.blt pc 11 then (bif Nat.blt pc 10 then ((.ifCond .ne 9), 16, 0, 0) else ((.aload_n 0), 0, 0, 0)) else (bif Nat.blt pc 12 then ((.iconst 1), 0, 0, 0) else (bif Nat.blt pc 15 then ((.invokevirtual 93), 125, 2, 1) else ((.ireturn), 0, 0, 0))))) else (bif Nat.blt pc 24 then (bif Nat.blt pc 20 then (bif Nat.blt pc 17 then ((.aload_n 0), 0, 0, 0) else ((.getfield 97), 9, 1, 0)) else (bif Nat.blt pc 23 then ((.ifCond .ne 9), 29, 0, 0) else ((.aload_n 0), 0, 0, 0))) else (bif Nat.blt pc 28 then (bif Nat.blt pc 25 then ((.iconst 2), 0, 0, 0) else ((.invokevirtual 93), 125, 2, 1)) else (bif Nat.blt pc 29 then ((.ireturn), 0, 0, 0) else (bif Nat.blt pc 30 then ((.aload_n 0), 0, 0, 0) else ((.invokevirtual 222), 183, 1, 1)))))) else (bif Nat.blt pc 48 then (bif Nat.blt pc 39 then (bif Nat.blt pc 35 then (bif Nat.blt pc 34 then ((.aload_n 0), 0, 0, 0) else ((.iconst 0), 0, 0, 0)) else (bif Nat.blt pc 38 then ((.putfield 132), 9, 25, 0) else ((.aload_n 0), 0, 0, 0))) else (bif Nat.blt pc 43 then (bif Nat.blt pc 40 then ((.iload_n 1), 0, 0, 0) else ((.invokestatic 212), 182, 2, 0)) else (bif Nat.blt pc 44 then ((.pop), 0, 0, 0) else (bif Nat.blt pc 45 then ((.aload_n 0), 0, 0, 0) else ((.getfield 203), 9, 37, 1))))) else (bif Nat.blt pc 59 then (bif Nat.blt pc 52 then (bif Nat.blt pc 51 then ((.ifCond .eq 11), 59, 0, 0) else ((.aload_n 0), 0, 0, 0)) else (bif Nat.blt pc 53 then ((.iconst 3), 0, 0, 0) else (bif Nat.blt pc 56 then ((.invokevirtual 93), 125, 2, 1) else ((.goto 11), 67, 0, 0)))) else (bif Nat.blt pc 61 then (bif Nat.blt pc 60 then ((.aload_n 0), 0, 0, 0) else ((.aload_n 0), 0, 0, 0)) else (bif Nat.blt pc 64 then ((.getfield 206), 9, 38, 0) else (bif Nat.blt pc 67 then ((.invokevirtual 100), 126, 2, 1) else ((.ireturn), 0, 0, 0)))))))
/-- PatternLaboratoryModel counts(LPatternLaboratoryModel;IZ)V -/
def pm_t186 : Nat → pm_En := fun pc => (bif Nat.blt pc 45 then (bif Nat.blt pc 20 then (bif Nat.blt pc 10 then (bif Nat.blt pc 5 then (bif Nat.blt pc 1 then ((.aload_n 0), 0, 0, 0) else (bif Nat.blt pc 4 then ((.getfield 132), 9, 25, 0) else ((.iload_n 1), 0, 0, 0))) else (bif Nat.blt pc 8 then ((.if_icmp .ne 39), 44, 0, 0) else (bif Nat.blt pc 9 then ((.aload_n 0), 0, 0, 0) else ((.dup), 0, 0, 0)))) else (bif Nat.blt pc 15 then (bif Nat.blt pc 13 then ((.getfield 216), 9, 39, 0) else (bif Nat.blt pc 14 then ((.iconst 1), 0, 0, 0) else ((.iadd), 0, 0, 0))) else (bif Nat.blt pc 18 then ((.putfield 216), 9, 39, 0) else (bif Nat.blt pc 19 then ((.aload_n 0), 0, 0, 0) else ((.dup), 0, 0, 0))))) else (bif Nat.blt pc 34 then (bif Nat.blt pc 27 then (bif Nat.blt pc 23 then ((.getfield 219), 9, 40, 0) else (bif Nat.blt pc 24 then ((.iload_n 2), 0, 0, 0) else ((.ifCond .eq 14), 38, 0, 0))) else (bif Nat.blt pc 28 then ((.aload_n 0), 0, 0, 0) else (bif Nat.blt pc 31 then ((.invokevirtual 225), 187, 1, 1) else ((.ifCond .eq 7), 38, 0, 0)))) else (bif Nat.blt pc 39 then (bif Nat.blt pc 35 then ((.iconst 1), 0, 0, 0) else (bif Nat.blt pc 38 then ((.goto 4), 39, 0, 0) else ((.iconst 0), 0, 0, 0))) else (bif Nat.blt pc 43 then (bif Nat.blt pc 40 then ((.iadd), 0, 0, 0) else ((.putfield 219), 9, 40, 0)) else (bif Nat.blt pc 44 then ((.return_), 0, 0, 0) else ((.iconst 0), 0, 0, 0)))))) else (bif Nat.blt pc 69 then (bif Nat.blt pc 55 then (bif Nat.blt pc 48 then (bif Nat.blt pc 46 then ((.istore_n 3), 0, 0, 0) else (bif Nat.blt pc 47 then ((.iload_n 3), 0, 0, 0) else ((.aload_n 0), 0, 0, 0))) else (bif Nat.blt pc 51 then ((.getfield 13), 9, 3, 0) else (bif Nat.blt pc 54 then ((.if_icmp .ge 40), 91, 0, 0) else ((.aload_n 0), 0, 0, 0)))) else (bif Nat.blt pc 62 then (bif Nat.blt pc 58 then ((.getfield 203), 9, 37, 1) else (bif Nat.blt pc 61 then ((.ifCond .ne 33), 91, 0, 0) else ((.aload_n 0), 0, 0, 0))) else (bif Nat.blt pc 63 then ((.iload_n 3), 0, 0, 0) else (bif Nat.blt pc 66 then ((.invokevirtual 209), 181, 2, 1) else ((.ifCond .eq 19), 85, 0, 0))))) else (bif Nat.blt pc 77 then (bif Nat.blt pc 72 then (bif Nat.blt pc 70 then ((.aload_n 0), 0, 0, 0) else (bif Nat.blt pc 71 then ((.iload_n 1), 0, 0, 0) else ((.iload_n 2), 0, 0, 0))) else (bif Nat.blt pc 75 then ((.invokestatic 228), 186, 3, 0) else (bif Nat.blt pc 76 then ((.aload_n 0), 0, 0, 0) else ((.dup), 0, 0, 0)))) else (bif Nat.blt pc 82 then (bif Nat.blt pc 80 then ((.getfield 132), 9, 25, 0) else (bif Nat.blt pc 81 then ((.iconst 1), 0, 0, 0) else ((.isub), 0, 0, 0))) else (bif Nat.blt pc 88 then (bif Nat.blt pc 85 then ((.putfield 132), 9, 25, 0) else ((.iinc 3 1), 0, 0, 0)) else (bif Nat.blt pc 91 then ((.goto (-42)), 46, 0, 0) else ((.return_), 0, 0, 0)))))))
/-- PatternLaboratoryModel isSpoiled()Z -/
def pm_t187 : Nat → pm_En := fun pc => (bif Nat.blt pc 76 then (bif Nat.blt pc 37 then (bif Nat.blt pc 17 then (bif Nat.blt pc 7 then (bif Nat.blt pc 4 then (bif Nat.blt pc 1 then ((.aload_n 0), 0, 0, 0) else ((.getfield 132), 9, 25, 0)) else (bif Nat.blt pc 5 then ((.istore_n 1), 0, 0, 0) else (bif Nat.blt pc 6 then ((.iconst 0), 0, 0, 0) else ((.istore_n 2), 0, 0, 0)))) else (bif Nat.blt pc 12 then (bif Nat.blt pc 8 then ((.iload_n 2), 0, 0, 0) else (bif Nat.blt pc 9 then ((.iload_n 1), 0, 0, 0) else ((.if_icmp .ge 21), 30, 0, 0))) else (bif Nat.blt pc 13 then ((.aload_n 0), 0, 0, 0) else (bif Nat.blt pc 16 then ((.getfield 74), 9, 41, 0) else ((.iload_n 2), 0, 0, 0))))) else (bif Nat.blt pc 27 then (bif Nat.blt pc 22 then (bif Nat.blt pc 18 then ((.aload_n 0), 0, 0, 0) else (bif Nat.blt pc 21 then ((.getfield 56), 9, 26, 0) else ((.iload_n 2), 0, 0, 0))) else (bif Nat.blt pc 23 then ((.iaload), 0, 0, 0) else (bif Nat.blt pc 24 then ((.iastore), 0, 0, 0) else ((.iinc 2 1), 0, 0, 0)))) else (bif Nat.blt pc 32 then (bif Nat.blt pc 30 then ((.goto (-20)), 7, 0, 0) else (bif Nat.blt pc 31 then ((.aload_n 0), 0, 0, 0) else ((.iconst 0), 0, 0, 0))) else (bif Nat.blt pc 35 then ((.putfield 132), 9, 25, 0) else (bif Nat.blt pc 36 then ((.iconst 0), 0, 0, 0) else ((.istore_n 2), 0, 0, 0)))))) else (bif Nat.blt pc 54 then (bif Nat.blt pc 44 then (bif Nat.blt pc 39 then (bif Nat.blt pc 38 then ((.iload_n 2), 0, 0, 0) else ((.iload_n 1), 0, 0, 0)) else (bif Nat.blt pc 42 then ((.if_icmp .ge 66), 105, 0, 0) else (bif Nat.blt pc 43 then ((.iconst 0), 0, 0, 0) else ((.istore_n 3), 0, 0, 0)))) else (bif Nat.blt pc 49 then (bif Nat.blt pc 45 then ((.iload_n 3), 0, 0, 0) else (bif Nat.blt pc 46 then ((.aload_n 0), 0, 0, 0) else ((.getfield 20), 9, 6, 0))) else (bif Nat.blt pc 50 then ((.aload_n 0), 0, 0, 0) else (bif Nat.blt pc 53 then ((.getfield 74), 9, 41, 0) else ((.iload_n 2), 0, 0, 0))))) else (bif Nat.blt pc 64 then (bif Nat.blt pc 59 then (bif Nat.blt pc 55 then ((.iaload), 0, 0, 0) else (bif Nat.blt pc 56 then ((.iaload), 0, 0, 0) else ((.if_icmp .ge 43), 99, 0, 0))) else (bif Nat.blt pc 60 then ((.aload_n 0), 0, 0, 0) else (bif Nat.blt pc 63 then ((.getfield 56), 9, 26, 0) else ((.aload_n 0), 0, 0, 0)))) else (bif Nat.blt pc 71 then (bif Nat.blt pc 67 then ((.getfield 132), 9, 25, 0) else (bif Nat.blt pc 68 then ((.aload_n 0), 0, 0, 0) else ((.getfield 23), 9, 7, 0))) else (bif Nat.blt pc 72 then ((.iconst 4), 0, 0, 0) else (bif Nat.blt pc 73 then ((.aload_n 0), 0, 0, 0) else ((.getfield 74), 9, 41, 0))))))) else (bif Nat.blt pc 115 then (bif Nat.blt pc 89 then (bif Nat.blt pc 81 then (bif Nat.blt pc 78 then (bif Nat.blt pc 77 then ((.iload_n 2), 0, 0, 0) else ((.iaload), 0, 0, 0)) else (bif Nat.blt pc 79 then ((.imul), 0, 0, 0) else (bif Nat.blt pc 80 then ((.iload_n 3), 0, 0, 0) else ((.iadd), 0, 0, 0)))) else (bif Nat.blt pc 84 then (bif Nat.blt pc 82 then ((.iaload), 0, 0, 0) else (bif Nat.blt pc 83 then ((.iastore), 0, 0, 0) else ((.aload_n 0), 0, 0, 0))) else (bif Nat.blt pc 85 then ((.dup), 0, 0, 0) else (bif Nat.blt pc 88 then ((.getfield 132), 9, 25, 0) else ((.iconst 1), 0, 0, 0))))) else (bif Nat.blt pc 105 then (bif Nat.blt pc 96 then (bif Nat.blt pc 90 then ((.iadd), 0, 0, 0) else (bif Nat.blt pc 93 then ((.putfield 132), 9, 25, 0) else ((.iinc 3 1), 0, 0, 0))) else (bif Nat.blt pc 99 then ((.goto (-52)), 44, 0, 0) else (bif Nat.blt pc 102 then ((.iinc 2 1), 0, 0, 0) else ((.goto (-65)), 37, 0, 0)))) else (bif Nat.blt pc 110 then (bif Nat.blt pc 106 then ((.aload_n 0), 0, 0, 0) else (bif Nat.blt pc 107 then ((.iconst (-1)), 0, 0, 0) else ((.invokevirtual 145), 143, 2, 1))) else (bif Nat.blt pc 111 then ((.iconst (-1)), 0, 0, 0) else (bif Nat.blt pc 114 then ((.if_icmp .eq 7), 118, 0, 0) else ((.iconst 1), 0, 0, 0)))))) else (bif Nat.blt pc 132 then (bif Nat.blt pc 122 then (bif Nat.blt pc 119 then (bif Nat.blt pc 118 then ((.goto 4), 119, 0, 0) else ((.iconst 0), 0, 0, 0)) else (bif Nat.blt pc 120 then ((.istore_n 2), 0, 0, 0) else (bif Nat.blt pc 121 then ((.aload_n 0), 0, 0, 0) else ((.iload_n 1), 0, 0, 0)))) else (bif Nat.blt pc 127 then (bif Nat.blt pc 125 then ((.putfield 132), 9, 25, 0) else (bif Nat.blt pc 126 then ((.iconst 0), 0, 0, 0) else ((.istore_n 3), 0, 0, 0))) else (bif Nat.blt pc 128 then ((.iload_n 3), 0, 0, 0) else (bif Nat.blt pc 129 then ((.iload_n 1), 0, 0, 0) else ((.if_icmp .ge 21), 150, 0, 0))))) else (bif Nat.blt pc 142 then (bif Nat.blt pc 137 then (bif Nat.blt pc 133 then ((.aload_n 0), 0, 0, 0) else (bif Nat.blt pc 136 then ((.getfield 56), 9, 26, 0) else ((.iload_n 3), 0, 0, 0))) else (bif Nat.blt pc 138 then ((.aload_n 0), 0, 0, 0) else (bif Nat.blt pc 141 then ((.getfield 74), 9, 41, 0) else ((.iload_n 3), 0, 0, 0)))) else (bif Nat.blt pc 147 then (bif Nat.blt pc 143 then ((.iaload), 0, 0, 0) else (bif Nat.blt pc 144 then ((.iastore), 0, 0, 0) else ((.iinc 3 1), 0, 0, 0))) else (bif Nat.blt pc 150 then ((.goto (-20)), 127, 0, 0) else (bif Nat.blt pc 151 then ((.iload_n 2), 0, 0, 0) else ((.ireturn), 1, 0, 0))))))))
/-- PatternLaboratoryModel countAll(IZ)V -/
def pm_t188 : Nat → pm_En := fun pc => (bif Nat.blt pc 9 then (bif Nat.blt pc 4 then (bif Nat.blt pc 1 then ((.aload_n 0), 0, 0, 0) else ((.invokevirtual 222), 183, 1, 1)) else (bif Nat.blt pc 5 then ((.aload_n 0), 0, 0, 0) else (bif Nat.blt pc 6 then ((.iconst 0), 0, 0, 0) else ((.putfield 132), 9, 25, 0)))) else (bif Nat.blt pc 11 then (bif Nat.blt pc 10 then ((.aload_n 0), 0, 0, 0) else ((.iload_n 1), 0, 0, 0)) else (bif Nat.blt pc 12 then ((.iload_n 2), 0, 0, 0) else (bif Nat.blt pc 15 then ((.invokestatic 228), 186, 3, 0) else ((.return_), 0, 0, 0)))))
/-- PatternLaboratoryModel countAvoiding(I)I -/
def pm_t189 : Nat → pm_En := fun pc => (bif Nat.blt pc 29 then (bif Nat.blt pc 15 then (bif Nat.blt pc 7 then (bif Nat.blt pc 2 then (bif Nat.blt pc 1 then ((.iload_n 1), 0, 0, 0) else ((.iconst 0), 0, 0, 0)) else (bif Nat.blt pc 4 then ((.bipush 10), 0, 0, 0) else ((.invokestatic 89), 124, 3, 0))) else (bif Nat.blt pc 11 then (bif Nat.blt pc 10 then ((.ifCond .ne 9), 16, 0, 0) else ((.aload_n 0), 0, 0, 0)) else (bif Nat.blt pc 12 then ((.iconst 1), 0, 0, 0) else ((.invokevirtual 93), 125, 2, 1)))) else (bif Nat.blt pc 23 then (bif Nat.blt pc 17 then (bif Nat.blt pc 16 then ((.ireturn), 0, 0, 0) else ((.aload_n 0), 0, 0, 0)) else (bif Nat.blt pc 20 then ((.getfield 97), 9, 1, 0) else ((.ifCond .ne 9), 29, 0, 0))) else (bif Nat.blt pc 25 then (bif Nat.blt pc 24 then ((.aload_n 0), 0, 0, 0) else ((.iconst 2), 0, 0, 0)) else (bif Nat.blt pc 28 then ((.invokevirtual 93), 125, 2, 1) else ((.ireturn), 0, 0, 0))))) else (bif Nat.blt pc 43 then (bif Nat.blt pc 35 then (bif Nat.blt pc 31 then (bif Nat.blt pc 30 then ((.aload_n 0), 0, 0, 0) else ((.iload_n 1), 0, 0, 0)) else (bif Nat.blt pc 32 then ((.iconst 0), 0, 0, 0) else ((.invokevirtual 232), 188, 3, 1))) else (bif Nat.blt pc 39 then (bif Nat.blt pc 36 then ((.aload_n 0), 0, 0, 0) else ((.getfield 203), 9, 37, 1)) else (bif Nat.blt pc 42 then ((.ifCond .eq 11), 50, 0, 0) else ((.aload_n 0), 0, 0, 0)))) else (bif Nat.blt pc 51 then (bif Nat.blt pc 47 then (bif Nat.blt pc 44 then ((.iconst 3), 0, 0, 0) else ((.invokevirtual 93), 125, 2, 1)) else (bif Nat.blt pc 50 then ((.goto 11), 58, 0, 0) else ((.aload_n 0), 0, 0, 0))) else (bif Nat.blt pc 55 then (bif Nat.blt pc 52 then ((.aload_n 0), 0, 0, 0) else ((.getfield 216), 9, 39, 0)) else (bif Nat.blt pc 58 then ((.invokevirtual 100), 126, 2, 1) else ((.ireturn), 0, 0, 0))))))
/-- PatternLaboratoryModel growth(I)D -/
def pm_t190 : Nat → pm_En := fun pc => (bif Nat.blt pc 56 then (bif Nat.blt pc 30 then (bif Nat.blt pc 12 then (bif Nat.blt pc 3 then (bif Nat.blt pc 1 then ((.aload_n 0), 0, 0, 0) else (bif Nat.blt pc 2 then ((.iload_n 1), 0, 0, 0) else ((.iconst 1), 0, 0, 0))) else (bif Nat.blt pc 8 then (bif Nat.blt pc 5 then ((.bipush 10), 0, 0, 0) else ((.invokestatic 89), 124, 3, 0)) else (bif Nat.blt pc 11 then ((.ifCond .ne 7), 15, 0, 0) else ((.iconst 1), 0, 0, 0)))) else (bif Nat.blt pc 22 then (bif Nat.blt pc 16 then (bif Nat.blt pc 15 then ((.goto 15), 27, 0, 0) else ((.aload_n 0), 0, 0, 0)) else (bif Nat.blt pc 19 then ((.getfield 97), 9, 1, 0) else ((.ifCond .ne 7), 26, 0, 0))) else (bif Nat.blt pc 26 then (bif Nat.blt pc 23 then ((.iconst 2), 0, 0, 0) else ((.goto 4), 27, 0, 0)) else (bif Nat.blt pc 27 then ((.iconst 0), 0, 0, 0) else ((.putfield 86), 9, 0, 0))))) else (bif Nat.blt pc 42 then (bif Nat.blt pc 38 then (bif Nat.blt pc 34 then (bif Nat.blt pc 31 then ((.aload_n 0), 0, 0, 0) else ((.getfield 86), 9, 0, 0)) else (bif Nat.blt pc 37 then ((.ifCond .eq 5), 39, 0, 0) else ((.dconst 0), 0, 0, 0))) else (bif Nat.blt pc 40 then (bif Nat.blt pc 39 then ((.dreturn), 0, 0, 0) else ((.aload_n 0), 0, 0, 0)) else (bif Nat.blt pc 41 then ((.iload_n 1), 0, 0, 0) else ((.iconst 0), 0, 0, 0)))) else (bif Nat.blt pc 50 then (bif Nat.blt pc 46 then (bif Nat.blt pc 45 then ((.invokevirtual 232), 188, 3, 1) else ((.aload_n 0), 0, 0, 0)) else (bif Nat.blt pc 49 then ((.getfield 216), 9, 39, 0) else ((.istore_n 2), 0, 0, 0))) else (bif Nat.blt pc 54 then (bif Nat.blt pc 51 then ((.aload_n 0), 0, 0, 0) else ((.getfield 203), 9, 37, 1)) else (bif Nat.blt pc 55 then ((.istore_n 3), 0, 0, 0) else ((.aload_n 0), 0, 0, 0)))))) else (bif Nat.blt pc 86 then (bif Nat.blt pc 68 then (bif Nat.blt pc 60 then (bif Nat.blt pc 58 then (bif Nat.blt pc 57 then ((.iload_n 1), 0, 0, 0) else ((.iconst 1), 0, 0, 0)) else (bif Nat.blt pc 59 then ((.isub), 0, 0, 0) else ((.iconst 0), 0, 0, 0))) else (bif Nat.blt pc 64 then (bif Nat.blt pc 63 then ((.invokevirtual 232), 188, 3, 1) else ((.aload_n 0), 0, 0, 0)) else (bif Nat.blt pc 65 then ((.iload_n 3), 0, 0, 0) else ((.ifCond .ne 10), 75, 0, 0)))) else (bif Nat.blt pc 76 then (bif Nat.blt pc 72 then (bif Nat.blt pc 69 then ((.aload_n 0), 0, 0, 0) else ((.getfield 203), 9, 37, 1)) else (bif Nat.blt pc 75 then ((.ifCond .eq 7), 79, 0, 0) else ((.iconst 3), 0, 0, 0))) else (bif Nat.blt pc 80 then (bif Nat.blt pc 79 then ((.goto 15), 91, 0, 0) else ((.aload_n 0), 0, 0, 0)) else (bif Nat.blt pc 83 then ((.getfield 216), 9, 39, 0) else ((.ifCond .ne 7), 90, 0, 0))))) else (bif Nat.blt pc 102 then (bif Nat.blt pc 94 then (bif Nat.blt pc 90 then (bif Nat.blt pc 87 then ((.iconst 4), 0, 0, 0) else ((.goto 4), 91, 0, 0)) else (bif Nat.blt pc 91 then ((.iconst 0), 0, 0, 0) else ((.putfield 86), 9, 0, 0))) else (bif Nat.blt pc 98 then (bif Nat.blt pc 95 then ((.aload_n 0), 0, 0, 0) else ((.getfield 86), 9, 0, 0)) else (bif Nat.blt pc 101 then ((.ifCond .eq 7), 105, 0, 0) else ((.dconst 0), 0, 0, 0)))) else (bif Nat.blt pc 108 then (bif Nat.blt pc 106 then (bif Nat.blt pc 105 then ((.goto 11), 113, 0, 0) else ((.iload_n 2), 0, 0, 0)) else (bif Nat.blt pc 107 then ((.i2d), 0, 0, 0) else ((.aload_n 0), 0, 0, 0))) else (bif Nat.blt pc 112 then (bif Nat.blt pc 111 then ((.getfield 216), 9, 39, 0) else ((.i2d), 0, 0, 0)) else (bif Nat.blt pc 113 then ((.ddiv), 0, 0, 0) else ((.dreturn), 0, 0, 0)))))))
/-- PatternLaboratoryModel appendImage(II)I -/
def pm_t191 : Nat → pm_En := fun pc => (bif Nat.blt pc 42 then (bif Nat.blt pc 22 then (bif Nat.blt pc 10 then (bif Nat.blt pc 5 then (bif Nat.blt pc 1 then ((.aload_n 0), 0, 0, 0) else (bif Nat.blt pc 2 then ((.iload_n 1), 0, 0, 0) else ((.invokevirtual 148), 150, 2, 1))) else (bif Nat.blt pc 8 then ((.ifCond .eq 11), 16, 0, 0) else (bif Nat.blt pc 9 then ((.aload_n 0), 0, 0, 0) else ((.iload_n 2), 0, 0, 0)))) else (bif Nat.blt pc 17 then (bif Nat.blt pc 13 then ((.invokevirtual 148), 150, 2, 1) else (bif Nat.blt pc 16 then ((.ifCond .ne 9), 22, 0, 0) else ((.aload_n 0), 0, 0, 0))) else (bif Nat.blt pc 18 then ((.iconst 1), 0, 0, 0) else (bif Nat.blt pc 21 then ((.invokevirtual 93), 125, 2, 1) else ((.ireturn), 0, 0, 0))))) else (bif Nat.blt pc 32 then (bif Nat.blt pc 27 then (bif Nat.blt pc 23 then ((.aload_n 0), 0, 0, 0) else (bif Nat.blt pc 26 then ((.getfield 20), 9, 6, 0) else ((.iload_n 1), 0, 0, 0))) else (bif Nat.blt pc 28 then ((.iaload), 0, 0, 0) else (bif Nat.blt pc 29 then ((.iconst 4), 0, 0, 0) else ((.if_icmp .ne 9), 38, 0, 0)))) else (bif Nat.blt pc 37 then (bif Nat.blt pc 33 then ((.aload_n 0), 0, 0, 0) else (bif Nat.blt pc 34 then ((.iconst 2), 0, 0, 0) else ((.invokevirtual 93), 125, 2, 1))) else (bif Nat.blt pc 38 then ((.ireturn), 0, 0, 0) else (bif Nat.blt pc 39 then ((.aload_n 0), 0, 0, 0) else ((.getfield 23), 9, 7, 0)))))) else (bif Nat.blt pc 58 then (bif Nat.blt pc 50 then (bif Nat.blt pc 45 then (bif Nat.blt pc 43 then ((.iconst 4), 0, 0, 0) else (bif Nat.blt pc 44 then ((.iload_n 1), 0, 0, 0) else ((.imul), 0, 0, 0))) else (bif Nat.blt pc 46 then ((.aload_n 0), 0, 0, 0) else (bif Nat.blt pc 49 then ((.getfield 20), 9, 6, 0) else ((.iload_n 1), 0, 0, 0)))) else (bif Nat.blt pc 53 then (bif Nat.blt pc 51 then ((.iaload), 0, 0, 0) else (bif Nat.blt pc 52 then ((.iadd), 0, 0, 0) else ((.iload_n 2), 0, 0, 0))) else (bif Nat.blt pc 54 then ((.iastore), 0, 0, 0) else (bif Nat.blt pc 55 then ((.aload_n 0), 0, 0, 0) else ((.getfield 20), 9, 6, 0))))) else (bif Nat.blt pc 64 then (bif Nat.blt pc 61 then (bif Nat.blt pc 59 then ((.iload_n 1), 0, 0, 0) else (bif Nat.blt pc 60 then ((.dup2), 0, 0, 0) else ((.iaload), 0, 0, 0))) else (bif Nat.blt pc 62 then ((.iconst 1), 0, 0, 0) else (bif Nat.blt pc 63 then ((.iadd), 0, 0, 0) else ((.iastore), 0, 0, 0)))) else (bif Nat.blt pc 69 then (bif Nat.blt pc 65 then ((.aload_n 0), 0, 0, 0) else (bif Nat.blt pc 66 then ((.aload_n 0), 0, 0, 0) else ((.getfield 20), 9, 6, 0))) else (bif Nat.blt pc 71 then (bif Nat.blt pc 70 then ((.iload_n 1), 0, 0, 0) else ((.iaload), 0, 0, 0)) else (bif Nat.blt pc 74 then ((.invokevirtual 100), 126, 2, 1) else ((.ireturn), 0, 0, 0)))))))
/-- PatternLaboratoryModel clearImage(I)I -/
def pm_t192 : Nat → pm_En := fun pc => (bif Nat.blt pc 19 then (bif Nat.blt pc 9 then (bif Nat.blt pc 2 then (bif Nat.blt pc 1 then ((.aload_n 0), 0, 0, 0) else ((.iload_n 1), 0, 0, 0)) else (bif Nat.blt pc 5 then ((.invokevirtual 148), 150, 2, 1) else (bif Nat.blt pc 8 then ((.ifCond .ne 9), 14, 0, 0) else ((.aload_n 0), 0, 0, 0)))) else (bif Nat.blt pc 14 then (bif Nat.blt pc 10 then ((.iconst 1), 0, 0, 0) else (bif Nat.blt pc 13 then ((.invokevirtual 93), 125, 2, 1) else ((.ireturn), 0, 0, 0))) else (bif Nat.blt pc 15 then ((.aload_n 0), 0, 0, 0) else (bif Nat.blt pc 18 then ((.getfield 20), 9, 6, 0) else ((.iload_n 1), 0, 0, 0))))) else (bif Nat.blt pc 26 then (bif Nat.blt pc 21 then (bif Nat.blt pc 20 then ((.iaload), 0, 0, 0) else ((.istore_n 2), 0, 0, 0)) else (bif Nat.blt pc 22 then ((.aload_n 0), 0, 0, 0) else (bif Nat.blt pc 25 then ((.getfield 20), 9, 6, 0) else ((.iload_n 1), 0, 0, 0)))) else (bif Nat.blt pc 29 then (bif Nat.blt pc 27 then ((.iconst 0), 0, 0, 0) else (bif Nat.blt pc 28 then ((.iastore), 0, 0, 0) else ((.aload_n 0), 0, 0, 0))) else (bif Nat.blt pc 30 then ((.iload_n 2), 0, 0, 0) else (bif Nat.blt pc 33 then ((.invokevirtual 100), 126, 2, 1) else ((.ireturn), 0, 0, 0))))))
/-- PatternLaboratoryModel applies()Z -/
def pm_t193 : Nat → pm_En := fun pc => (bif Nat.blt pc 48 then (bif Nat.blt pc 24 then (bif Nat.blt pc 12 then (bif Nat.blt pc 4 then (bif Nat.blt pc 2 then (bif Nat.blt pc 1 then ((.iconst 0), 0, 0, 0) else ((.istore_n 1), 0, 0, 0)) else (bif Nat.blt pc 3 then ((.iconst 0), 0, 0, 0) else ((.istore_n 2), 0, 0, 0))) else (bif Nat.blt pc 6 then (bif Nat.blt pc 5 then ((.iload_n 2), 0, 0, 0) else ((.aload_n 0), 0, 0, 0)) else (bif Nat.blt pc 9 then ((.getfield 132), 9, 25, 0) else ((.if_icmp .ge 56), 65, 0, 0)))) else (bif Nat.blt pc 16 then (bif Nat.blt pc 14 then (bif Nat.blt pc 13 then ((.iconst 0), 0, 0, 0) else ((.istore_n 3), 0, 0, 0)) else (bif Nat.blt pc 15 then ((.iload_n 3), 0, 0, 0) else ((.aload_n 0), 0, 0, 0))) else (bif Nat.blt pc 20 then (bif Nat.blt pc 19 then ((.getfield 20), 9, 6, 0) else ((.aload_n 0), 0, 0, 0)) else (bif Nat.blt pc 23 then ((.getfield 56), 9, 26, 0) else ((.iload_n 2), 0, 0, 0))))) else (bif Nat.blt pc 38 then (bif Nat.blt pc 30 then (bif Nat.blt pc 26 then (bif Nat.blt pc 25 then ((.iaload), 0, 0, 0) else ((.iaload), 0, 0, 0)) else (bif Nat.blt pc 29 then ((.if_icmp .ge 33), 59, 0, 0) else ((.aload_n 0), 0, 0, 0))) else (bif Nat.blt pc 34 then (bif Nat.blt pc 33 then ((.getfield 77), 9, 42, 0) else ((.iload_n 1), 0, 0, 0)) else (bif Nat.blt pc 35 then ((.aload_n 0), 0, 0, 0) else ((.getfield 23), 9, 7, 0)))) else (bif Nat.blt pc 44 then (bif Nat.blt pc 40 then (bif Nat.blt pc 39 then ((.iconst 4), 0, 0, 0) else ((.aload_n 0), 0, 0, 0)) else (bif Nat.blt pc 43 then ((.getfield 56), 9, 26, 0) else ((.iload_n 2), 0, 0, 0))) else (bif Nat.blt pc 46 then (bif Nat.blt pc 45 then ((.iaload), 0, 0, 0) else ((.imul), 0, 0, 0)) else (bif Nat.blt pc 47 then ((.iload_n 3), 0, 0, 0) else ((.iadd), 0, 0, 0)))))) else (bif Nat.blt pc 77 then (bif Nat.blt pc 66 then (bif Nat.blt pc 56 then (bif Nat.blt pc 50 then (bif Nat.blt pc 49 then ((.iaload), 0, 0, 0) else ((.iastore), 0, 0, 0)) else (bif Nat.blt pc 53 then ((.iinc 1 1), 0, 0, 0) else ((.iinc 3 1), 0, 0, 0))) else (bif Nat.blt pc 62 then (bif Nat.blt pc 59 then ((.goto (-42)), 14, 0, 0) else ((.iinc 2 1), 0, 0, 0)) else (bif Nat.blt pc 65 then ((.goto (-58)), 4, 0, 0) else ((.iload_n 1), 0, 0, 0)))) else (bif Nat.blt pc 73 then (bif Nat.blt pc 71 then (bif Nat.blt pc 68 then ((.bipush 24), 0, 0, 0) else ((.if_icmp .le 5), 73, 0, 0)) else (bif Nat.blt pc 72 then ((.iconst 0), 0, 0, 0) else ((.ireturn), 1, 0, 0))) else (bif Nat.blt pc 75 then (bif Nat.blt pc 74 then ((.iconst 0), 0, 0, 0) else ((.istore_n 2), 0, 0, 0)) else (bif Nat.blt pc 76 then ((.iload_n 2), 0, 0, 0) else ((.iload_n 1), 0, 0, 0))))) else (bif Nat.blt pc 91 then (bif Nat.blt pc 85 then (bif Nat.blt pc 81 then (bif Nat.blt pc 80 then ((.if_icmp .ge 21), 98, 0, 0) else ((.aload_n 0), 0, 0, 0)) else (bif Nat.blt pc 84 then ((.getfield 56), 9, 26, 0) else ((.iload_n 2), 0, 0, 0))) else (bif Nat.blt pc 89 then (bif Nat.blt pc 86 then ((.aload_n 0), 0, 0, 0) else ((.getfield 77), 9, 42, 0)) else (bif Nat.blt pc 90 then ((.iload_n 2), 0, 0, 0) else ((.iaload), 0, 0, 0)))) else (bif Nat.blt pc 99 then (bif Nat.blt pc 95 then (bif Nat.blt pc 92 then ((.iastore), 0, 0, 0) else ((.iinc 2 1), 0, 0, 0)) else (bif Nat.blt pc 98 then ((.goto (-20)), 75, 0, 0) else ((.aload_n 0), 0, 0, 0))) else (bif Nat.blt pc 103 then (bif Nat.blt pc 100 then ((.iload_n 1), 0, 0, 0) else ((.putfield 132), 9, 25, 0)) else (bif Nat.blt pc 104 then ((.iconst 1), 0, 0, 0) else ((.ireturn), 1, 0, 0)))))))
/-- PatternLaboratoryModel wordIsText()I -/
def pm_t194 : Nat → pm_En := fun pc => (bif Nat.blt pc 22 then (bif Nat.blt pc 10 then (bif Nat.blt pc 5 then (bif Nat.blt pc 1 then ((.aload_n 0), 0, 0, 0) else (bif Nat.blt pc 2 then ((.aload_n 0), 0, 0, 0) else ((.getfield 132), 9, 25, 0))) else (bif Nat.blt pc 8 then ((.putfield 135), 9, 4, 0) else (bif Nat.blt pc 9 then ((.iconst 0), 0, 0, 0) else ((.istore_n 1), 0, 0, 0)))) else (bif Nat.blt pc 15 then (bif Nat.blt pc 11 then ((.iload_n 1), 0, 0, 0) else (bif Nat.blt pc 12 then ((.aload_n 0), 0, 0, 0) else ((.getfield 135), 9, 4, 0))) else (bif Nat.blt pc 18 then ((.if_icmp .ge 21), 36, 0, 0) else (bif Nat.blt pc 19 then ((.aload_n 0), 0, 0, 0) else ((.getfield 17), 9, 5, 0))))) else (bif Nat.blt pc 30 then (bif Nat.blt pc 27 then (bif Nat.blt pc 23 then ((.iload_n 1), 0, 0, 0) else (bif Nat.blt pc 24 then ((.aload_n 0), 0, 0, 0) else ((.getfield 56), 9, 26, 0))) else (bif Nat.blt pc 28 then ((.iload_n 1), 0, 0, 0) else (bif Nat.blt pc 29 then ((.iaload), 0, 0, 0) else ((.iastore), 0, 0, 0)))) else (bif Nat.blt pc 37 then (bif Nat.blt pc 33 then ((.iinc 1 1), 0, 0, 0) else (bif Nat.blt pc 36 then ((.goto (-23)), 10, 0, 0) else ((.aload_n 0), 0, 0, 0))) else (bif Nat.blt pc 41 then (bif Nat.blt pc 38 then ((.aload_n 0), 0, 0, 0) else ((.getfield 135), 9, 4, 0)) else (bif Nat.blt pc 44 then ((.invokevirtual 100), 126, 2, 1) else ((.ireturn), 0, 0, 0))))))
/-- PatternLaboratoryModel applyMorphism()I -/
def pm_t195 : Nat → pm_En := fun pc => (bif Nat.blt pc 12 then (bif Nat.blt pc 5 then (bif Nat.blt pc 1 then ((.aload_n 0), 0, 0, 0) else (bif Nat.blt pc 4 then ((.invokevirtual 169), 144, 1, 1) else ((.aload_n 0), 0, 0, 0))) else (bif Nat.blt pc 8 then ((.invokevirtual 236), 193, 1, 1) else (bif Nat.blt pc 11 then ((.ifCond .eq 10), 18, 0, 0) else ((.aload_n 0), 0, 0, 0)))) else (bif Nat.blt pc 19 then (bif Nat.blt pc 15 then ((.invokevirtual 239), 194, 1, 1) else (bif Nat.blt pc 18 then ((.goto 8), 23, 0, 0) else ((.aload_n 0), 0, 0, 0))) else (bif Nat.blt pc 20 then ((.iconst 1), 0, 0, 0) else (bif Nat.blt pc 23 then ((.invokevirtual 93), 125, 2, 1) else ((.ireturn), 0, 0, 0)))))
/-- PatternLaboratoryModel iterate(II)I -/
def pm_t196 : Nat → pm_En := fun pc => (bif Nat.blt pc 34 then (bif Nat.blt pc 18 then (bif Nat.blt pc 8 then (bif Nat.blt pc 2 then (bif Nat.blt pc 1 then ((.aload_n 0), 0, 0, 0) else ((.iload_n 1), 0, 0, 0)) else (bif Nat.blt pc 5 then ((.invokevirtual 148), 150, 2, 1) else ((.ifCond .eq 13), 18, 0, 0))) else (bif Nat.blt pc 10 then (bif Nat.blt pc 9 then ((.iload_n 2), 0, 0, 0) else ((.iconst 0), 0, 0, 0)) else (bif Nat.blt pc 12 then ((.bipush 10), 0, 0, 0) else (bif Nat.blt pc 15 then ((.invokestatic 89), 124, 3, 0) else ((.ifCond .ne 9), 24, 0, 0))))) else (bif Nat.blt pc 25 then (bif Nat.blt pc 20 then (bif Nat.blt pc 19 then ((.aload_n 0), 0, 0, 0) else ((.iconst 1), 0, 0, 0)) else (bif Nat.blt pc 23 then ((.invokevirtual 93), 125, 2, 1) else (bif Nat.blt pc 24 then ((.ireturn), 0, 0, 0) else ((.aload_n 0), 0, 0, 0)))) else (bif Nat.blt pc 29 then (bif Nat.blt pc 26 then ((.iconst 1), 0, 0, 0) else ((.putfield 132), 9, 25, 0)) else (bif Nat.blt pc 30 then ((.aload_n 0), 0, 0, 0) else (bif Nat.blt pc 33 then ((.getfield 56), 9, 26, 0) else ((.iconst 0), 0, 0, 0)))))) else (bif Nat.blt pc 47 then (bif Nat.blt pc 38 then (bif Nat.blt pc 36 then (bif Nat.blt pc 35 then ((.iload_n 1), 0, 0, 0) else ((.iastore), 0, 0, 0)) else (bif Nat.blt pc 37 then ((.iconst 0), 0, 0, 0) else ((.istore_n 3), 0, 0, 0))) else (bif Nat.blt pc 40 then (bif Nat.blt pc 39 then ((.iload_n 3), 0, 0, 0) else ((.iload_n 2), 0, 0, 0)) else (bif Nat.blt pc 43 then ((.if_icmp .ge 22), 62, 0, 0) else (bif Nat.blt pc 44 then ((.aload_n 0), 0, 0, 0) else ((.invokevirtual 236), 193, 1, 1))))) else (bif Nat.blt pc 56 then (bif Nat.blt pc 51 then (bif Nat.blt pc 50 then ((.ifCond .ne 9), 56, 0, 0) else ((.aload_n 0), 0, 0, 0)) else (bif Nat.blt pc 52 then ((.iconst 2), 0, 0, 0) else (bif Nat.blt pc 55 then ((.invokevirtual 93), 125, 2, 1) else ((.ireturn), 0, 0, 0)))) else (bif Nat.blt pc 62 then (bif Nat.blt pc 59 then ((.iinc 3 1), 0, 0, 0) else ((.goto (-21)), 38, 0, 0)) else (bif Nat.blt pc 63 then ((.aload_n 0), 0, 0, 0) else (bif Nat.blt pc 66 then ((.invokevirtual 239), 194, 1, 1) else ((.ireturn), 0, 0, 0)))))))
/-- PatternLaboratoryModel copyImages([I[I[I[I)V -/
def pm_t197 : Nat → pm_En := fun pc => (bif Nat.blt pc 23 then (bif Nat.blt pc 10 then (bif Nat.blt pc 5 then (bif Nat.blt pc 1 then ((.iconst 0), 0, 0, 0) else (bif Nat.blt pc 3 then ((.istore 5), 0, 0, 0) else ((.iload 5), 0, 0, 0))) else (bif Nat.blt pc 6 then ((.iconst 4), 0, 0, 0) else (bif Nat.blt pc 9 then ((.if_icmp .ge 17), 23, 0, 0) else ((.aload_n 3), 0, 0, 0)))) else (bif Nat.blt pc 15 then (bif Nat.blt pc 12 then ((.iload 5), 0, 0, 0) else (bif Nat.blt pc 13 then ((.aload_n 1), 0, 0, 0) else ((.iload 5), 0, 0, 0))) else (bif Nat.blt pc 17 then (bif Nat.blt pc 16 then ((.iaload), 0, 0, 0) else ((.iastore), 0, 0, 0)) else (bif Nat.blt pc 20 then ((.iinc 5 1), 0, 0, 0) else ((.goto (-17)), 3, 0, 0))))) else (bif Nat.blt pc 37 then (bif Nat.blt pc 28 then (bif Nat.blt pc 24 then ((.iconst 0), 0, 0, 0) else (bif Nat.blt pc 26 then ((.istore 5), 0, 0, 0) else ((.iload 5), 0, 0, 0))) else (bif Nat.blt pc 33 then (bif Nat.blt pc 30 then ((.bipush 16), 0, 0, 0) else ((.if_icmp .ge 18), 48, 0, 0)) else (bif Nat.blt pc 35 then ((.aload 4), 0, 0, 0) else ((.iload 5), 0, 0, 0)))) else (bif Nat.blt pc 41 then (bif Nat.blt pc 38 then ((.aload_n 2), 0, 0, 0) else (bif Nat.blt pc 40 then ((.iload 5), 0, 0, 0) else ((.iaload), 0, 0, 0))) else (bif Nat.blt pc 45 then (bif Nat.blt pc 42 then ((.iastore), 0, 0, 0) else ((.iinc 5 1), 0, 0, 0)) else (bif Nat.blt pc 48 then ((.goto (-19)), 26, 0, 0) else ((.return_), 0, 0, 0))))))
/-- PatternLaboratoryModel setImages(II)V -/
def pm_t198 : Nat → pm_En := fun pc => (bif Nat.blt pc 34 then (bif Nat.blt pc 16 then (bif Nat.blt pc 7 then (bif Nat.blt pc 2 then (bif Nat.blt pc 1 then ((.iload_n 1), 0, 0, 0) else ((.istore_n 3), 0, 0, 0)) else (bif Nat.blt pc 3 then ((.aload_n 0), 0, 0, 0) else (bif Nat.blt pc 6 then ((.getfield 13), 9, 3, 0) else ((.iconst 1), 0, 0, 0)))) else (bif Nat.blt pc 10 then (bif Nat.blt pc 8 then ((.isub), 0, 0, 0) else ((.istore 4), 0, 0, 0)) else (bif Nat.blt pc 12 then ((.iload 4), 0, 0, 0) else (bif Nat.blt pc 15 then ((.ifCond .lt 58), 70, 0, 0) else ((.aload_n 0), 0, 0, 0))))) else (bif Nat.blt pc 24 then (bif Nat.blt pc 21 then (bif Nat.blt pc 19 then ((.getfield 20), 9, 6, 0) else ((.iload 4), 0, 0, 0)) else (bif Nat.blt pc 22 then ((.iload_n 2), 0, 0, 0) else (bif Nat.blt pc 23 then ((.iastore), 0, 0, 0) else ((.iload_n 2), 0, 0, 0)))) else (bif Nat.blt pc 28 then (bif Nat.blt pc 25 then ((.iconst 1), 0, 0, 0) else (bif Nat.blt pc 26 then ((.isub), 0, 0, 0) else ((.istore 5), 0, 0, 0))) else (bif Nat.blt pc 30 then ((.iload 5), 0, 0, 0) else (bif Nat.blt pc 33 then ((.ifCond .lt 34), 64, 0, 0) else ((.aload_n 0), 0, 0, 0)))))) else (bif Nat.blt pc 50 then (bif Nat.blt pc 43 then (bif Nat.blt pc 38 then (bif Nat.blt pc 37 then ((.getfield 23), 9, 7, 0) else ((.iconst 4), 0, 0, 0)) else (bif Nat.blt pc 40 then ((.iload 4), 0, 0, 0) else (bif Nat.blt pc 41 then ((.imul), 0, 0, 0) else ((.iload 5), 0, 0, 0)))) else (bif Nat.blt pc 45 then (bif Nat.blt pc 44 then ((.iadd), 0, 0, 0) else ((.iload_n 3), 0, 0, 0)) else (bif Nat.blt pc 46 then ((.aload_n 0), 0, 0, 0) else (bif Nat.blt pc 49 then ((.getfield 13), 9, 3, 0) else ((.irem), 0, 0, 0))))) else (bif Nat.blt pc 57 then (bif Nat.blt pc 52 then (bif Nat.blt pc 51 then ((.iastore), 0, 0, 0) else ((.iload_n 3), 0, 0, 0)) else (bif Nat.blt pc 53 then ((.aload_n 0), 0, 0, 0) else (bif Nat.blt pc 56 then ((.getfield 13), 9, 3, 0) else ((.idiv), 0, 0, 0)))) else (bif Nat.blt pc 64 then (bif Nat.blt pc 58 then ((.istore_n 3), 0, 0, 0) else (bif Nat.blt pc 61 then ((.iinc 5 (-1)), 0, 0, 0) else ((.goto (-33)), 28, 0, 0))) else (bif Nat.blt pc 67 then ((.iinc 4 (-1)), 0, 0, 0) else (bif Nat.blt pc 70 then ((.goto (-57)), 10, 0, 0) else ((.return_), 0, 0, 0)))))))
/-- PatternLaboratoryModel findMorphism(II)I -/
def pm_t199 : Nat → pm_En := fun pc => (bif Nat.blt pc 83 then (bif Nat.blt pc 39 then (bif Nat.blt pc 19 then (bif Nat.blt pc 9 then (bif Nat.blt pc 2 then (bif Nat.blt pc 1 then ((.iload_n 1), 0, 0, 0) else ((.iconst 1), 0, 0, 0)) else (bif Nat.blt pc 3 then ((.iconst 3), 0, 0, 0) else (bif Nat.blt pc 6 then ((.invokestatic 89), 124, 3, 0) else ((.ifCond .eq 12), 18, 0, 0)))) else (bif Nat.blt pc 12 then (bif Nat.blt pc 10 then ((.iload_n 2), 0, 0, 0) else (bif Nat.blt pc 11 then ((.iconst 1), 0, 0, 0) else ((.iconst 2), 0, 0, 0))) else (bif Nat.blt pc 15 then ((.invokestatic 89), 124, 3, 0) else (bif Nat.blt pc 18 then ((.ifCond .ne 9), 24, 0, 0) else ((.aload_n 0), 0, 0, 0))))) else (bif Nat.blt pc 31 then (bif Nat.blt pc 24 then (bif Nat.blt pc 20 then ((.iconst 1), 0, 0, 0) else (bif Nat.blt pc 23 then ((.invokevirtual 93), 125, 2, 1) else ((.ireturn), 0, 0, 0))) else (bif Nat.blt pc 25 then ((.aload_n 0), 0, 0, 0) else (bif Nat.blt pc 28 then ((.getfield 97), 9, 1, 0) else ((.ifCond .ne 9), 37, 0, 0)))) else (bif Nat.blt pc 36 then (bif Nat.blt pc 32 then ((.aload_n 0), 0, 0, 0) else (bif Nat.blt pc 33 then ((.iconst 2), 0, 0, 0) else ((.invokevirtual 93), 125, 2, 1))) else (bif Nat.blt pc 37 then ((.ireturn), 0, 0, 0) else (bif Nat.blt pc 38 then ((.iconst 1), 0, 0, 0) else ((.istore_n 3), 0, 0, 0)))))) else (bif Nat.blt pc 59 then (bif Nat.blt pc 49 then (bif Nat.blt pc 44 then (bif Nat.blt pc 40 then ((.iconst 0), 0, 0, 0) else (bif Nat.blt pc 42 then ((.istore 4), 0, 0, 0) else ((.iload 4), 0, 0, 0))) else (bif Nat.blt pc 45 then ((.aload_n 0), 0, 0, 0) else (bif Nat.blt pc 48 then ((.getfield 13), 9, 3, 0) else ((.iload_n 1), 0, 0, 0)))) else (bif Nat.blt pc 54 then (bif Nat.blt pc 50 then ((.imul), 0, 0, 0) else (bif Nat.blt pc 53 then ((.if_icmp .ge 16), 66, 0, 0) else ((.iload_n 3), 0, 0, 0))) else (bif Nat.blt pc 55 then ((.aload_n 0), 0, 0, 0) else (bif Nat.blt pc 58 then ((.getfield 13), 9, 3, 0) else ((.imul), 0, 0, 0))))) else (bif Nat.blt pc 71 then (bif Nat.blt pc 66 then (bif Nat.blt pc 60 then ((.istore_n 3), 0, 0, 0) else (bif Nat.blt pc 63 then ((.iinc 4 1), 0, 0, 0) else ((.goto (-21)), 42, 0, 0))) else (bif Nat.blt pc 67 then ((.aload_n 0), 0, 0, 0) else (bif Nat.blt pc 68 then ((.aload_n 0), 0, 0, 0) else ((.getfield 20), 9, 6, 0)))) else (bif Nat.blt pc 76 then (bif Nat.blt pc 72 then ((.aload_n 0), 0, 0, 0) else (bif Nat.blt pc 75 then ((.getfield 23), 9, 7, 0) else ((.aload_n 0), 0, 0, 0))) else (bif Nat.blt pc 79 then ((.getfield 80), 9, 43, 0) else (bif Nat.blt pc 80 then ((.aload_n 0), 0, 0, 0) else ((.getfield 83), 9, 44, 0))))))) else (bif Nat.blt pc 126 then (bif Nat.blt pc 105 then (bif Nat.blt pc 92 then (bif Nat.blt pc 87 then (bif Nat.blt pc 86 then ((.invokevirtual 242), 197, 5, 1) else ((.iconst 0), 0, 0, 0)) else (bif Nat.blt pc 89 then ((.istore 4), 0, 0, 0) else (bif Nat.blt pc 91 then ((.iload 4), 0, 0, 0) else ((.iload_n 3), 0, 0, 0)))) else (bif Nat.blt pc 99 then (bif Nat.blt pc 95 then ((.if_icmp .ge 45), 137, 0, 0) else (bif Nat.blt pc 97 then ((.iload 4), 0, 0, 0) else ((.bipush 100), 0, 0, 0))) else (bif Nat.blt pc 102 then ((.if_icmp .ge 38), 137, 0, 0) else (bif Nat.blt pc 103 then ((.aload_n 0), 0, 0, 0) else ((.iload 4), 0, 0, 0))))) else (bif Nat.blt pc 115 then (bif Nat.blt pc 110 then (bif Nat.blt pc 106 then ((.iload_n 1), 0, 0, 0) else (bif Nat.blt pc 109 then ((.invokevirtual 246), 198, 3, 1) else ((.aload_n 0), 0, 0, 0))) else (bif Nat.blt pc 111 then ((.iload_n 2), 0, 0, 0) else (bif Nat.blt pc 112 then ((.iconst 1), 0, 0, 0) else ((.invokevirtual 232), 188, 3, 1)))) else (bif Nat.blt pc 122 then (bif Nat.blt pc 116 then ((.aload_n 0), 0, 0, 0) else (bif Nat.blt pc 119 then ((.getfield 219), 9, 40, 0) else ((.ifCond .ne 12), 131, 0, 0))) else (bif Nat.blt pc 123 then ((.aload_n 0), 0, 0, 0) else (bif Nat.blt pc 125 then ((.iload 4), 0, 0, 0) else ((.iconst 1), 0, 0, 0)))))) else (bif Nat.blt pc 150 then (bif Nat.blt pc 138 then (bif Nat.blt pc 131 then (bif Nat.blt pc 127 then ((.iadd), 0, 0, 0) else (bif Nat.blt pc 130 then ((.invokevirtual 100), 126, 2, 1) else ((.ireturn), 0, 0, 0))) else (bif Nat.blt pc 134 then ((.iinc 4 1), 0, 0, 0) else (bif Nat.blt pc 137 then ((.goto (-45)), 89, 0, 0) else ((.aload_n 0), 0, 0, 0)))) else (bif Nat.blt pc 143 then (bif Nat.blt pc 139 then ((.aload_n 0), 0, 0, 0) else (bif Nat.blt pc 142 then ((.getfield 80), 9, 43, 0) else ((.aload_n 0), 0, 0, 0))) else (bif Nat.blt pc 146 then ((.getfield 83), 9, 44, 0) else (bif Nat.blt pc 147 then ((.aload_n 0), 0, 0, 0) else ((.getfield 20), 9, 6, 0))))) else (bif Nat.blt pc 161 then (bif Nat.blt pc 157 then (bif Nat.blt pc 151 then ((.aload_n 0), 0, 0, 0) else (bif Nat.blt pc 154 then ((.getfield 23), 9, 7, 0) else ((.invokevirtual 242), 197, 5, 1))) else (bif Nat.blt pc 158 then ((.aload_n 0), 0, 0, 0) else (bif Nat.blt pc 159 then ((.iload_n 3), 0, 0, 0) else ((.bipush 100), 0, 0, 0)))) else (bif Nat.blt pc 168 then (bif Nat.blt pc 164 then ((.if_icmp .le 7), 168, 0, 0) else (bif Nat.blt pc 165 then ((.iconst 3), 0, 0, 0) else ((.goto 4), 169, 0, 0))) else (bif Nat.blt pc 169 then ((.iconst 4), 0, 0, 0) else (bif Nat.blt pc 172 then ((.invokevirtual 93), 125, 2, 1) else ((.ireturn), 0, 0, 0))))))))
/-- PatternLaboratoryModel countSpoiled(I)I -/
def pm_t200 : Nat → pm_En := fun pc => (bif Nat.blt pc 28 then (bif Nat.blt pc 14 then (bif Nat.blt pc 6 then (bif Nat.blt pc 2 then (bif Nat.blt pc 1 then ((.iload_n 1), 0, 0, 0) else ((.iconst 0), 0, 0, 0)) else (bif Nat.blt pc 3 then ((.iconst 5), 0, 0, 0) else ((.invokestatic 89), 124, 3, 0))) else (bif Nat.blt pc 10 then (bif Nat.blt pc 9 then ((.ifCond .ne 9), 15, 0, 0) else ((.aload_n 0), 0, 0, 0)) else (bif Nat.blt pc 11 then ((.iconst 1), 0, 0, 0) else ((.invokevirtual 93), 125, 2, 1)))) else (bif Nat.blt pc 22 then (bif Nat.blt pc 16 then (bif Nat.blt pc 15 then ((.ireturn), 0, 0, 0) else ((.aload_n 0), 0, 0, 0)) else (bif Nat.blt pc 19 then ((.getfield 97), 9, 1, 0) else ((.ifCond .ne 9), 28, 0, 0))) else (bif Nat.blt pc 24 then (bif Nat.blt pc 23 then ((.aload_n 0), 0, 0, 0) else ((.iconst 2), 0, 0, 0)) else (bif Nat.blt pc 27 then ((.invokevirtual 93), 125, 2, 1) else ((.ireturn), 0, 0, 0))))) else (bif Nat.blt pc 42 then (bif Nat.blt pc 34 then (bif Nat.blt pc 30 then (bif Nat.blt pc 29 then ((.aload_n 0), 0, 0, 0) else ((.iload_n 1), 0, 0, 0)) else (bif Nat.blt pc 31 then ((.iconst 1), 0, 0, 0) else ((.invokevirtual 232), 188, 3, 1))) else (bif Nat.blt pc 38 then (bif Nat.blt pc 35 then ((.aload_n 0), 0, 0, 0) else ((.getfield 203), 9, 37, 1)) else (bif Nat.blt pc 41 then ((.ifCond .eq 11), 49, 0, 0) else ((.aload_n 0), 0, 0, 0)))) else (bif Nat.blt pc 50 then (bif Nat.blt pc 46 then (bif Nat.blt pc 43 then ((.iconst 3), 0, 0, 0) else ((.invokevirtual 93), 125, 2, 1)) else (bif Nat.blt pc 49 then ((.goto 11), 57, 0, 0) else ((.aload_n 0), 0, 0, 0))) else (bif Nat.blt pc 54 then (bif Nat.blt pc 51 then ((.aload_n 0), 0, 0, 0) else ((.getfield 219), 9, 40, 0)) else (bif Nat.blt pc 57 then ((.invokevirtual 100), 126, 2, 1) else ((.ireturn), 0, 0, 0))))))
/-- PatternLaboratoryModel save()I -/
def pm_t201 : Nat → pm_En := fun pc => (bif Nat.blt pc 55 then (bif Nat.blt pc 29 then (bif Nat.blt pc 13 then (bif Nat.blt pc 5 then (bif Nat.blt pc 1 then ((.aload_n 0), 0, 0, 0) else (bif Nat.blt pc 2 then ((.iconst 1), 0, 0, 0) else ((.putfield 249), 9, 14, 1))) else (bif Nat.blt pc 7 then (bif Nat.blt pc 6 then ((.aload_n 0), 0, 0, 0) else ((.aload_n 0), 0, 0, 0)) else (bif Nat.blt pc 10 then ((.getfield 13), 9, 3, 0) else ((.putfield 252), 9, 15, 0)))) else (bif Nat.blt pc 21 then (bif Nat.blt pc 15 then (bif Nat.blt pc 14 then ((.aload_n 0), 0, 0, 0) else ((.aload_n 0), 0, 0, 0)) else (bif Nat.blt pc 18 then ((.getfield 97), 9, 1, 0) else ((.putfield 255), 9, 16, 0))) else (bif Nat.blt pc 23 then (bif Nat.blt pc 22 then ((.aload_n 0), 0, 0, 0) else ((.aload_n 0), 0, 0, 0)) else (bif Nat.blt pc 26 then ((.getfield 135), 9, 4, 0) else ((.putfield 258), 9, 17, 0))))) else (bif Nat.blt pc 41 then (bif Nat.blt pc 32 then (bif Nat.blt pc 30 then ((.iconst 0), 0, 0, 0) else (bif Nat.blt pc 31 then ((.istore_n 1), 0, 0, 0) else ((.iload_n 1), 0, 0, 0))) else (bif Nat.blt pc 37 then (bif Nat.blt pc 34 then ((.bipush 15), 0, 0, 0) else ((.if_icmp .ge 21), 55, 0, 0)) else (bif Nat.blt pc 38 then ((.aload_n 0), 0, 0, 0) else ((.getfield 38), 9, 18, 0)))) else (bif Nat.blt pc 47 then (bif Nat.blt pc 43 then (bif Nat.blt pc 42 then ((.iload_n 1), 0, 0, 0) else ((.aload_n 0), 0, 0, 0)) else (bif Nat.blt pc 46 then ((.getfield 7), 9, 2, 0) else ((.iload_n 1), 0, 0, 0))) else (bif Nat.blt pc 49 then (bif Nat.blt pc 48 then ((.iaload), 0, 0, 0) else ((.iastore), 0, 0, 0)) else (bif Nat.blt pc 52 then ((.iinc 1 1), 0, 0, 0) else ((.goto (-21)), 31, 0, 0)))))) else (bif Nat.blt pc 81 then (bif Nat.blt pc 67 then (bif Nat.blt pc 58 then (bif Nat.blt pc 56 then ((.iconst 0), 0, 0, 0) else (bif Nat.blt pc 57 then ((.istore_n 1), 0, 0, 0) else ((.iload_n 1), 0, 0, 0))) else (bif Nat.blt pc 63 then (bif Nat.blt pc 60 then ((.bipush 24), 0, 0, 0) else ((.if_icmp .ge 21), 81, 0, 0)) else (bif Nat.blt pc 64 then ((.aload_n 0), 0, 0, 0) else ((.getfield 41), 9, 19, 0)))) else (bif Nat.blt pc 73 then (bif Nat.blt pc 69 then (bif Nat.blt pc 68 then ((.iload_n 1), 0, 0, 0) else ((.aload_n 0), 0, 0, 0)) else (bif Nat.blt pc 72 then ((.getfield 17), 9, 5, 0) else ((.iload_n 1), 0, 0, 0))) else (bif Nat.blt pc 75 then (bif Nat.blt pc 74 then ((.iaload), 0, 0, 0) else ((.iastore), 0, 0, 0)) else (bif Nat.blt pc 78 then ((.iinc 1 1), 0, 0, 0) else ((.goto (-21)), 57, 0, 0))))) else (bif Nat.blt pc 94 then (bif Nat.blt pc 86 then (bif Nat.blt pc 82 then ((.aload_n 0), 0, 0, 0) else (bif Nat.blt pc 83 then ((.aload_n 0), 0, 0, 0) else ((.getfield 20), 9, 6, 0))) else (bif Nat.blt pc 90 then (bif Nat.blt pc 87 then ((.aload_n 0), 0, 0, 0) else ((.getfield 23), 9, 7, 0)) else (bif Nat.blt pc 91 then ((.aload_n 0), 0, 0, 0) else ((.getfield 44), 9, 20, 0)))) else (bif Nat.blt pc 102 then (bif Nat.blt pc 98 then (bif Nat.blt pc 95 then ((.aload_n 0), 0, 0, 0) else ((.getfield 47), 9, 21, 0)) else (bif Nat.blt pc 101 then ((.invokevirtual 242), 197, 5, 1) else ((.aload_n 0), 0, 0, 0))) else (bif Nat.blt pc 106 then (bif Nat.blt pc 103 then ((.aload_n 0), 0, 0, 0) else ((.getfield 135), 9, 4, 0)) else (bif Nat.blt pc 109 then ((.invokevirtual 100), 126, 2, 1) else ((.ireturn), 0, 0, 0)))))))
/-- PatternLaboratoryModel restore()I -/
def pm_t202 : Nat → pm_En := fun pc => (bif Nat.blt pc 57 then (bif Nat.blt pc 30 then (bif Nat.blt pc 14 then (bif Nat.blt pc 8 then (bif Nat.blt pc 4 then (bif Nat.blt pc 1 then ((.aload_n 0), 0, 0, 0) else ((.getfield 249), 9, 14, 1)) else (bif Nat.blt pc 7 then ((.ifCond .ne 9), 13, 0, 0) else ((.aload_n 0), 0, 0, 0))) else (bif Nat.blt pc 12 then (bif Nat.blt pc 9 then ((.iconst 1), 0, 0, 0) else ((.invokevirtual 93), 125, 2, 1)) else (bif Nat.blt pc 13 then ((.ireturn), 0, 0, 0) else ((.aload_n 0), 0, 0, 0)))) else (bif Nat.blt pc 22 then (bif Nat.blt pc 18 then (bif Nat.blt pc 15 then ((.aload_n 0), 0, 0, 0) else ((.getfield 252), 9, 15, 0)) else (bif Nat.blt pc 21 then ((.putfield 13), 9, 3, 0) else ((.aload_n 0), 0, 0, 0))) else (bif Nat.blt pc 26 then (bif Nat.blt pc 23 then ((.aload_n 0), 0, 0, 0) else ((.getfield 255), 9, 16, 0)) else (bif Nat.blt pc 29 then ((.putfield 97), 9, 1, 0) else ((.aload_n 0), 0, 0, 0))))) else (bif Nat.blt pc 45 then (bif Nat.blt pc 38 then (bif Nat.blt pc 34 then (bif Nat.blt pc 31 then ((.aload_n 0), 0, 0, 0) else ((.getfield 258), 9, 17, 0)) else (bif Nat.blt pc 37 then ((.putfield 135), 9, 4, 0) else ((.iconst 0), 0, 0, 0))) else (bif Nat.blt pc 40 then (bif Nat.blt pc 39 then ((.istore_n 1), 0, 0, 0) else ((.iload_n 1), 0, 0, 0)) else (bif Nat.blt pc 42 then ((.bipush 15), 0, 0, 0) else ((.if_icmp .ge 21), 63, 0, 0)))) else (bif Nat.blt pc 51 then (bif Nat.blt pc 49 then (bif Nat.blt pc 46 then ((.aload_n 0), 0, 0, 0) else ((.getfield 7), 9, 2, 0)) else (bif Nat.blt pc 50 then ((.iload_n 1), 0, 0, 0) else ((.aload_n 0), 0, 0, 0))) else (bif Nat.blt pc 55 then (bif Nat.blt pc 54 then ((.getfield 38), 9, 18, 0) else ((.iload_n 1), 0, 0, 0)) else (bif Nat.blt pc 56 then ((.iaload), 0, 0, 0) else ((.iastore), 0, 0, 0)))))) else (bif Nat.blt pc 86 then (bif Nat.blt pc 72 then (bif Nat.blt pc 65 then (bif Nat.blt pc 63 then (bif Nat.blt pc 60 then ((.iinc 1 1), 0, 0, 0) else ((.goto (-21)), 39, 0, 0)) else (bif Nat.blt pc 64 then ((.iconst 0), 0, 0, 0) else ((.istore_n 1), 0, 0, 0))) else (bif Nat.blt pc 68 then (bif Nat.blt pc 66 then ((.iload_n 1), 0, 0, 0) else ((.bipush 24), 0, 0, 0)) else (bif Nat.blt pc 71 then ((.if_icmp .ge 21), 89, 0, 0) else ((.aload_n 0), 0, 0, 0)))) else (bif Nat.blt pc 80 then (bif Nat.blt pc 76 then (bif Nat.blt pc 75 then ((.getfield 17), 9, 5, 0) else ((.iload_n 1), 0, 0, 0)) else (bif Nat.blt pc 77 then ((.aload_n 0), 0, 0, 0) else ((.getfield 41), 9, 19, 0))) else (bif Nat.blt pc 82 then (bif Nat.blt pc 81 then ((.iload_n 1), 0, 0, 0) else ((.iaload), 0, 0, 0)) else (bif Nat.blt pc 83 then ((.iastore), 0, 0, 0) else ((.iinc 1 1), 0, 0, 0))))) else (bif Nat.blt pc 102 then (bif Nat.blt pc 94 then (bif Nat.blt pc 90 then (bif Nat.blt pc 89 then ((.goto (-21)), 65, 0, 0) else ((.aload_n 0), 0, 0, 0)) else (bif Nat.blt pc 91 then ((.aload_n 0), 0, 0, 0) else ((.getfield 44), 9, 20, 0))) else (bif Nat.blt pc 98 then (bif Nat.blt pc 95 then ((.aload_n 0), 0, 0, 0) else ((.getfield 47), 9, 21, 0)) else (bif Nat.blt pc 99 then ((.aload_n 0), 0, 0, 0) else ((.getfield 20), 9, 6, 0)))) else (bif Nat.blt pc 110 then (bif Nat.blt pc 106 then (bif Nat.blt pc 103 then ((.aload_n 0), 0, 0, 0) else ((.getfield 23), 9, 7, 0)) else (bif Nat.blt pc 109 then ((.invokevirtual 242), 197, 5, 1) else ((.aload_n 0), 0, 0, 0))) else (bif Nat.blt pc 114 then (bif Nat.blt pc 111 then ((.aload_n 0), 0, 0, 0) else ((.getfield 135), 9, 4, 0)) else (bif Nat.blt pc 117 then ((.invokevirtual 100), 126, 2, 1) else ((.ireturn), 0, 0, 0)))))))
/-- PatternLaboratoryLaw appendVariable(LPatternLaboratory;I[J)I -/
def pm_t203 : Nat → pm_En := fun pc => (bif Nat.blt pc 12 then (bif Nat.blt pc 4 then (bif Nat.blt pc 2 then (bif Nat.blt pc 1 then ((.aload_n 2), 0, 0, 0) else ((.iconst 0), 0, 0, 0)) else (bif Nat.blt pc 3 then ((.aload_n 0), 0, 0, 0) else ((.iload_n 1), 0, 0, 0))) else (bif Nat.blt pc 8 then (bif Nat.blt pc 7 then ((.invokevirtual 7), 57, 2, 1) else ((.i2l), 0, 0, 0)) else (bif Nat.blt pc 9 then ((.lastore), 0, 0, 0) else ((.goto 9), 18, 0, 0)))) else (bif Nat.blt pc 16 then (bif Nat.blt pc 14 then (bif Nat.blt pc 13 then ((.astore_n 3), 0, 0, 0) else ((.iconst 1), 0, 0, 0)) else (bif Nat.blt pc 15 then ((.ireturn), 0, 0, 0) else ((.astore_n 3), 0, 0, 0))) else (bif Nat.blt pc 18 then (bif Nat.blt pc 17 then ((.iconst 2), 0, 0, 0) else ((.ireturn), 0, 0, 0)) else (bif Nat.blt pc 19 then ((.iconst 0), 0, 0, 0) else ((.ireturn), 0, 0, 0)))))
/-- PatternLaboratoryLaw patternVariable(LPatternLaboratory;I[J)I -/
def pm_t204 : Nat → pm_En := fun pc => (bif Nat.blt pc 8 then (bif Nat.blt pc 3 then (bif Nat.blt pc 1 then ((.aload_n 2), 0, 0, 0) else (bif Nat.blt pc 2 then ((.iconst 0), 0, 0, 0) else ((.aload_n 0), 0, 0, 0))) else (bif Nat.blt pc 4 then ((.iload_n 1), 0, 0, 0) else (bif Nat.blt pc 7 then ((.invokevirtual 17), 60, 2, 1) else ((.i2l), 0, 0, 0)))) else (bif Nat.blt pc 13 then (bif Nat.blt pc 9 then ((.lastore), 0, 0, 0) else (bif Nat.blt pc 12 then ((.goto 6), 15, 0, 0) else ((.astore_n 3), 0, 0, 0))) else (bif Nat.blt pc 15 then (bif Nat.blt pc 14 then ((.iconst 1), 0, 0, 0) else ((.ireturn), 0, 0, 0)) else (bif Nat.blt pc 16 then ((.iconst 0), 0, 0, 0) else ((.ireturn), 0, 0, 0)))))
/-- PatternLaboratoryLaw loadZimin(LPatternLaboratory;I[J)I -/
def pm_t205 : Nat → pm_En := fun pc => (bif Nat.blt pc 8 then (bif Nat.blt pc 3 then (bif Nat.blt pc 1 then ((.aload_n 2), 0, 0, 0) else (bif Nat.blt pc 2 then ((.iconst 0), 0, 0, 0) else ((.aload_n 0), 0, 0, 0))) else (bif Nat.blt pc 4 then ((.iload_n 1), 0, 0, 0) else (bif Nat.blt pc 7 then ((.invokevirtual 22), 62, 2, 1) else ((.i2l), 0, 0, 0)))) else (bif Nat.blt pc 13 then (bif Nat.blt pc 9 then ((.lastore), 0, 0, 0) else (bif Nat.blt pc 12 then ((.goto 6), 15, 0, 0) else ((.astore_n 3), 0, 0, 0))) else (bif Nat.blt pc 15 then (bif Nat.blt pc 14 then ((.iconst 1), 0, 0, 0) else ((.ireturn), 0, 0, 0)) else (bif Nat.blt pc 16 then ((.iconst 0), 0, 0, 0) else ((.ireturn), 0, 0, 0)))))
/-- PatternLaboratoryLaw occursInZimin(LPatternLaboratory;I[J)I -/
def pm_t206 : Nat → pm_En := fun pc => (bif Nat.blt pc 15 then (bif Nat.blt pc 4 then (bif Nat.blt pc 2 then (bif Nat.blt pc 1 then ((.aload_n 2), 0, 0, 0) else ((.iconst 0), 0, 0, 0)) else (bif Nat.blt pc 3 then ((.aload_n 0), 0, 0, 0) else ((.iload_n 1), 0, 0, 0))) else (bif Nat.blt pc 10 then (bif Nat.blt pc 7 then ((.invokevirtual 25), 65, 2, 1) else ((.ifCond .eq 7), 14, 0, 0)) else (bif Nat.blt pc 11 then ((.lconst 1), 0, 0, 0) else (bif Nat.blt pc 14 then ((.goto 4), 15, 0, 0) else ((.lconst 0), 0, 0, 0))))) else (bif Nat.blt pc 22 then (bif Nat.blt pc 19 then (bif Nat.blt pc 16 then ((.lastore), 0, 0, 0) else ((.goto 9), 25, 0, 0)) else (bif Nat.blt pc 20 then ((.astore_n 3), 0, 0, 0) else (bif Nat.blt pc 21 then ((.iconst 1), 0, 0, 0) else ((.ireturn), 0, 0, 0)))) else (bif Nat.blt pc 24 then (bif Nat.blt pc 23 then ((.astore_n 3), 0, 0, 0) else ((.iconst 2), 0, 0, 0)) else (bif Nat.blt pc 25 then ((.ireturn), 0, 0, 0) else (bif Nat.blt pc 26 then ((.iconst 0), 0, 0, 0) else ((.ireturn), 0, 0, 0))))))
/-- PatternLaboratoryLaw shelve(LPatternLaboratory;I[J)I -/
def pm_t207 : Nat → pm_En := fun pc => (bif Nat.blt pc 8 then (bif Nat.blt pc 3 then (bif Nat.blt pc 1 then ((.aload_n 2), 0, 0, 0) else (bif Nat.blt pc 2 then ((.iconst 0), 0, 0, 0) else ((.aload_n 0), 0, 0, 0))) else (bif Nat.blt pc 4 then ((.iload_n 1), 0, 0, 0) else (bif Nat.blt pc 7 then ((.invokevirtual 29), 66, 2, 1) else ((.i2l), 0, 0, 0)))) else (bif Nat.blt pc 13 then (bif Nat.blt pc 9 then ((.lastore), 0, 0, 0) else (bif Nat.blt pc 12 then ((.goto 6), 15, 0, 0) else ((.astore_n 3), 0, 0, 0))) else (bif Nat.blt pc 15 then (bif Nat.blt pc 14 then ((.iconst 1), 0, 0, 0) else ((.ireturn), 0, 0, 0)) else (bif Nat.blt pc 16 then ((.iconst 0), 0, 0, 0) else ((.ireturn), 0, 0, 0)))))
/-- PatternLaboratoryLaw useShelf(LPatternLaboratory;I[J)I -/
def pm_t208 : Nat → pm_En := fun pc => (bif Nat.blt pc 12 then (bif Nat.blt pc 4 then (bif Nat.blt pc 2 then (bif Nat.blt pc 1 then ((.aload_n 2), 0, 0, 0) else ((.iconst 0), 0, 0, 0)) else (bif Nat.blt pc 3 then ((.aload_n 0), 0, 0, 0) else ((.iload_n 1), 0, 0, 0))) else (bif Nat.blt pc 8 then (bif Nat.blt pc 7 then ((.invokevirtual 32), 67, 2, 1) else ((.i2l), 0, 0, 0)) else (bif Nat.blt pc 9 then ((.lastore), 0, 0, 0) else ((.goto 9), 18, 0, 0)))) else (bif Nat.blt pc 16 then (bif Nat.blt pc 14 then (bif Nat.blt pc 13 then ((.astore_n 3), 0, 0, 0) else ((.iconst 1), 0, 0, 0)) else (bif Nat.blt pc 15 then ((.ireturn), 0, 0, 0) else ((.astore_n 3), 0, 0, 0))) else (bif Nat.blt pc 18 then (bif Nat.blt pc 17 then ((.iconst 2), 0, 0, 0) else ((.ireturn), 0, 0, 0)) else (bif Nat.blt pc 19 then ((.iconst 0), 0, 0, 0) else ((.ireturn), 0, 0, 0)))))
/-- PatternLaboratoryLaw isIsomorphic(LPatternLaboratory;I[J)I -/
def pm_t209 : Nat → pm_En := fun pc => (bif Nat.blt pc 15 then (bif Nat.blt pc 4 then (bif Nat.blt pc 2 then (bif Nat.blt pc 1 then ((.aload_n 2), 0, 0, 0) else ((.iconst 0), 0, 0, 0)) else (bif Nat.blt pc 3 then ((.aload_n 0), 0, 0, 0) else ((.iload_n 1), 0, 0, 0))) else (bif Nat.blt pc 10 then (bif Nat.blt pc 7 then ((.invokevirtual 35), 68, 2, 1) else ((.ifCond .eq 7), 14, 0, 0)) else (bif Nat.blt pc 11 then ((.lconst 1), 0, 0, 0) else (bif Nat.blt pc 14 then ((.goto 4), 15, 0, 0) else ((.lconst 0), 0, 0, 0))))) else (bif Nat.blt pc 22 then (bif Nat.blt pc 19 then (bif Nat.blt pc 16 then ((.lastore), 0, 0, 0) else ((.goto 9), 25, 0, 0)) else (bif Nat.blt pc 20 then ((.astore_n 3), 0, 0, 0) else (bif Nat.blt pc 21 then ((.iconst 1), 0, 0, 0) else ((.ireturn), 0, 0, 0)))) else (bif Nat.blt pc 24 then (bif Nat.blt pc 23 then ((.astore_n 3), 0, 0, 0) else ((.iconst 2), 0, 0, 0)) else (bif Nat.blt pc 25 then ((.ireturn), 0, 0, 0) else (bif Nat.blt pc 26 then ((.iconst 0), 0, 0, 0) else ((.ireturn), 0, 0, 0))))))
/-- PatternLaboratoryLaw contains(LPatternLaboratory;I[J)I -/
def pm_t210 : Nat → pm_En := fun pc => (bif Nat.blt pc 15 then (bif Nat.blt pc 4 then (bif Nat.blt pc 2 then (bif Nat.blt pc 1 then ((.aload_n 2), 0, 0, 0) else ((.iconst 0), 0, 0, 0)) else (bif Nat.blt pc 3 then ((.aload_n 0), 0, 0, 0) else ((.iload_n 1), 0, 0, 0))) else (bif Nat.blt pc 10 then (bif Nat.blt pc 7 then ((.invokevirtual 38), 69, 2, 1) else ((.ifCond .eq 7), 14, 0, 0)) else (bif Nat.blt pc 11 then ((.lconst 1), 0, 0, 0) else (bif Nat.blt pc 14 then ((.goto 4), 15, 0, 0) else ((.lconst 0), 0, 0, 0))))) else (bif Nat.blt pc 22 then (bif Nat.blt pc 19 then (bif Nat.blt pc 16 then ((.lastore), 0, 0, 0) else ((.goto 9), 25, 0, 0)) else (bif Nat.blt pc 20 then ((.astore_n 3), 0, 0, 0) else (bif Nat.blt pc 21 then ((.iconst 1), 0, 0, 0) else ((.ireturn), 0, 0, 0)))) else (bif Nat.blt pc 24 then (bif Nat.blt pc 23 then ((.astore_n 3), 0, 0, 0) else ((.iconst 2), 0, 0, 0)) else (bif Nat.blt pc 25 then ((.ireturn), 0, 0, 0) else (bif Nat.blt pc 26 then ((.iconst 0), 0, 0, 0) else ((.ireturn), 0, 0, 0))))))
/-- PatternLaboratoryLaw setLetterCount(LPatternLaboratory;I[J)I -/
def pm_t211 : Nat → pm_En := fun pc => (bif Nat.blt pc 8 then (bif Nat.blt pc 3 then (bif Nat.blt pc 1 then ((.aload_n 2), 0, 0, 0) else (bif Nat.blt pc 2 then ((.iconst 0), 0, 0, 0) else ((.aload_n 0), 0, 0, 0))) else (bif Nat.blt pc 4 then ((.iload_n 1), 0, 0, 0) else (bif Nat.blt pc 7 then ((.invokevirtual 41), 70, 2, 1) else ((.i2l), 0, 0, 0)))) else (bif Nat.blt pc 13 then (bif Nat.blt pc 9 then ((.lastore), 0, 0, 0) else (bif Nat.blt pc 12 then ((.goto 6), 15, 0, 0) else ((.astore_n 3), 0, 0, 0))) else (bif Nat.blt pc 15 then (bif Nat.blt pc 14 then ((.iconst 1), 0, 0, 0) else ((.ireturn), 0, 0, 0)) else (bif Nat.blt pc 16 then ((.iconst 0), 0, 0, 0) else ((.ireturn), 0, 0, 0)))))
/-- PatternLaboratoryLaw appendLetter(LPatternLaboratory;I[J)I -/
def pm_t212 : Nat → pm_En := fun pc => (bif Nat.blt pc 12 then (bif Nat.blt pc 4 then (bif Nat.blt pc 2 then (bif Nat.blt pc 1 then ((.aload_n 2), 0, 0, 0) else ((.iconst 0), 0, 0, 0)) else (bif Nat.blt pc 3 then ((.aload_n 0), 0, 0, 0) else ((.iload_n 1), 0, 0, 0))) else (bif Nat.blt pc 8 then (bif Nat.blt pc 7 then ((.invokevirtual 44), 71, 2, 1) else ((.i2l), 0, 0, 0)) else (bif Nat.blt pc 9 then ((.lastore), 0, 0, 0) else ((.goto 9), 18, 0, 0)))) else (bif Nat.blt pc 16 then (bif Nat.blt pc 14 then (bif Nat.blt pc 13 then ((.astore_n 3), 0, 0, 0) else ((.iconst 1), 0, 0, 0)) else (bif Nat.blt pc 15 then ((.ireturn), 0, 0, 0) else ((.astore_n 3), 0, 0, 0))) else (bif Nat.blt pc 18 then (bif Nat.blt pc 17 then ((.iconst 2), 0, 0, 0) else ((.ireturn), 0, 0, 0)) else (bif Nat.blt pc 19 then ((.iconst 0), 0, 0, 0) else ((.ireturn), 0, 0, 0)))))
/-- PatternLaboratoryLaw letter(LPatternLaboratory;I[J)I -/
def pm_t213 : Nat → pm_En := fun pc => (bif Nat.blt pc 8 then (bif Nat.blt pc 3 then (bif Nat.blt pc 1 then ((.aload_n 2), 0, 0, 0) else (bif Nat.blt pc 2 then ((.iconst 0), 0, 0, 0) else ((.aload_n 0), 0, 0, 0))) else (bif Nat.blt pc 4 then ((.iload_n 1), 0, 0, 0) else (bif Nat.blt pc 7 then ((.invokevirtual 47), 74, 2, 1) else ((.i2l), 0, 0, 0)))) else (bif Nat.blt pc 13 then (bif Nat.blt pc 9 then ((.lastore), 0, 0, 0) else (bif Nat.blt pc 12 then ((.goto 6), 15, 0, 0) else ((.astore_n 3), 0, 0, 0))) else (bif Nat.blt pc 15 then (bif Nat.blt pc 14 then ((.iconst 1), 0, 0, 0) else ((.ireturn), 0, 0, 0)) else (bif Nat.blt pc 16 then ((.iconst 0), 0, 0, 0) else ((.ireturn), 0, 0, 0)))))
/-- PatternLaboratoryLaw density(LPatternLaboratory;I[D)I -/
def pm_t214 : Nat → pm_En := fun pc => (bif Nat.blt pc 12 then (bif Nat.blt pc 4 then (bif Nat.blt pc 2 then (bif Nat.blt pc 1 then ((.aload_n 2), 0, 0, 0) else ((.iconst 0), 0, 0, 0)) else (bif Nat.blt pc 3 then ((.aload_n 0), 0, 0, 0) else ((.iload_n 1), 0, 0, 0))) else (bif Nat.blt pc 8 then (bif Nat.blt pc 7 then ((.invokevirtual 50), 75, 2, 1) else ((.f2d), 0, 0, 0)) else (bif Nat.blt pc 9 then ((.dastore), 0, 0, 0) else ((.goto 9), 18, 0, 0)))) else (bif Nat.blt pc 16 then (bif Nat.blt pc 14 then (bif Nat.blt pc 13 then ((.astore_n 3), 0, 0, 0) else ((.iconst 1), 0, 0, 0)) else (bif Nat.blt pc 15 then ((.ireturn), 0, 0, 0) else ((.astore_n 3), 0, 0, 0))) else (bif Nat.blt pc 18 then (bif Nat.blt pc 17 then ((.iconst 2), 0, 0, 0) else ((.ireturn), 0, 0, 0)) else (bif Nat.blt pc 19 then ((.iconst 0), 0, 0, 0) else ((.ireturn), 0, 0, 0)))))
/-- PatternLaboratoryLaw discountedSum(LPatternLaboratory;D[D)I -/
def pm_t215 : Nat → pm_En := fun pc => (bif Nat.blt pc 8 then (bif Nat.blt pc 3 then (bif Nat.blt pc 1 then ((.aload_n 3), 0, 0, 0) else (bif Nat.blt pc 2 then ((.iconst 0), 0, 0, 0) else ((.aload_n 0), 0, 0, 0))) else (bif Nat.blt pc 4 then ((.dload_n 1), 0, 0, 0) else (bif Nat.blt pc 7 then ((.invokevirtual 56), 76, 2, 1) else ((.dastore), 0, 0, 0)))) else (bif Nat.blt pc 14 then (bif Nat.blt pc 11 then ((.goto 7), 15, 0, 0) else (bif Nat.blt pc 13 then ((.astore 4), 0, 0, 0) else ((.iconst 1), 0, 0, 0))) else (bif Nat.blt pc 15 then ((.ireturn), 0, 0, 0) else (bif Nat.blt pc 16 then ((.iconst 0), 0, 0, 0) else ((.ireturn), 0, 0, 0)))))
/-- PatternLaboratoryLaw greatestExponent(LPatternLaboratory;[D)I -/
def pm_t216 : Nat → pm_En := fun pc => (bif Nat.blt pc 7 then (bif Nat.blt pc 2 then (bif Nat.blt pc 1 then ((.aload_n 1), 0, 0, 0) else ((.iconst 0), 0, 0, 0)) else (bif Nat.blt pc 3 then ((.aload_n 0), 0, 0, 0) else (bif Nat.blt pc 6 then ((.invokevirtual 60), 77, 1, 1) else ((.dastore), 0, 0, 0)))) else (bif Nat.blt pc 12 then (bif Nat.blt pc 10 then ((.goto 6), 13, 0, 0) else (bif Nat.blt pc 11 then ((.astore_n 2), 0, 0, 0) else ((.iconst 1), 0, 0, 0))) else (bif Nat.blt pc 13 then ((.ireturn), 0, 0, 0) else (bif Nat.blt pc 14 then ((.iconst 0), 0, 0, 0) else ((.ireturn), 0, 0, 0)))))
/-- PatternLaboratoryLaw strongestFactor(LPatternLaboratory;I[J)I -/
def pm_t217 : Nat → pm_En := fun pc => (bif Nat.blt pc 12 then (bif Nat.blt pc 4 then (bif Nat.blt pc 2 then (bif Nat.blt pc 1 then ((.aload_n 2), 0, 0, 0) else ((.iconst 0), 0, 0, 0)) else (bif Nat.blt pc 3 then ((.aload_n 0), 0, 0, 0) else ((.iload_n 1), 0, 0, 0))) else (bif Nat.blt pc 8 then (bif Nat.blt pc 7 then ((.invokevirtual 64), 78, 2, 1) else ((.i2l), 0, 0, 0)) else (bif Nat.blt pc 9 then ((.lastore), 0, 0, 0) else ((.goto 9), 18, 0, 0)))) else (bif Nat.blt pc 16 then (bif Nat.blt pc 14 then (bif Nat.blt pc 13 then ((.astore_n 3), 0, 0, 0) else ((.iconst 1), 0, 0, 0)) else (bif Nat.blt pc 15 then ((.ireturn), 0, 0, 0) else ((.astore_n 3), 0, 0, 0))) else (bif Nat.blt pc 18 then (bif Nat.blt pc 17 then ((.iconst 2), 0, 0, 0) else ((.ireturn), 0, 0, 0)) else (bif Nat.blt pc 19 then ((.iconst 0), 0, 0, 0) else ((.ireturn), 0, 0, 0)))))
/-- PatternLaboratoryLaw avoids(LPatternLaboratory;[J)I -/
def pm_t218 : Nat → pm_En := fun pc => (bif Nat.blt pc 13 then (bif Nat.blt pc 3 then (bif Nat.blt pc 1 then ((.aload_n 1), 0, 0, 0) else (bif Nat.blt pc 2 then ((.iconst 0), 0, 0, 0) else ((.aload_n 0), 0, 0, 0))) else (bif Nat.blt pc 9 then (bif Nat.blt pc 6 then ((.invokevirtual 67), 79, 1, 1) else ((.ifCond .eq 7), 13, 0, 0)) else (bif Nat.blt pc 10 then ((.lconst 1), 0, 0, 0) else ((.goto 4), 14, 0, 0)))) else (bif Nat.blt pc 19 then (bif Nat.blt pc 15 then (bif Nat.blt pc 14 then ((.lconst 0), 0, 0, 0) else ((.lastore), 0, 0, 0)) else (bif Nat.blt pc 18 then ((.goto 6), 21, 0, 0) else ((.astore_n 2), 0, 0, 0))) else (bif Nat.blt pc 21 then (bif Nat.blt pc 20 then ((.iconst 1), 0, 0, 0) else ((.ireturn), 0, 0, 0)) else (bif Nat.blt pc 22 then ((.iconst 0), 0, 0, 0) else ((.ireturn), 0, 0, 0)))))
/-- PatternLaboratoryLaw findOccurrence(LPatternLaboratory;[J)I -/
def pm_t219 : Nat → pm_En := fun pc => (bif Nat.blt pc 11 then (bif Nat.blt pc 3 then (bif Nat.blt pc 1 then ((.aload_n 1), 0, 0, 0) else (bif Nat.blt pc 2 then ((.iconst 0), 0, 0, 0) else ((.aload_n 0), 0, 0, 0))) else (bif Nat.blt pc 7 then (bif Nat.blt pc 6 then ((.invokevirtual 71), 80, 1, 1) else ((.i2l), 0, 0, 0)) else (bif Nat.blt pc 8 then ((.lastore), 0, 0, 0) else ((.goto 9), 17, 0, 0)))) else (bif Nat.blt pc 15 then (bif Nat.blt pc 13 then (bif Nat.blt pc 12 then ((.astore_n 2), 0, 0, 0) else ((.iconst 1), 0, 0, 0)) else (bif Nat.blt pc 14 then ((.ireturn), 0, 0, 0) else ((.astore_n 2), 0, 0, 0))) else (bif Nat.blt pc 17 then (bif Nat.blt pc 16 then ((.iconst 2), 0, 0, 0) else ((.ireturn), 0, 0, 0)) else (bif Nat.blt pc 18 then ((.iconst 0), 0, 0, 0) else ((.ireturn), 0, 0, 0)))))
/-- PatternLaboratoryLaw imageLength(LPatternLaboratory;I[J)I -/
def pm_t220 : Nat → pm_En := fun pc => (bif Nat.blt pc 12 then (bif Nat.blt pc 4 then (bif Nat.blt pc 2 then (bif Nat.blt pc 1 then ((.aload_n 2), 0, 0, 0) else ((.iconst 0), 0, 0, 0)) else (bif Nat.blt pc 3 then ((.aload_n 0), 0, 0, 0) else ((.iload_n 1), 0, 0, 0))) else (bif Nat.blt pc 8 then (bif Nat.blt pc 7 then ((.invokevirtual 77), 81, 2, 1) else ((.i2l), 0, 0, 0)) else (bif Nat.blt pc 9 then ((.lastore), 0, 0, 0) else ((.goto 9), 18, 0, 0)))) else (bif Nat.blt pc 16 then (bif Nat.blt pc 14 then (bif Nat.blt pc 13 then ((.astore_n 3), 0, 0, 0) else ((.iconst 1), 0, 0, 0)) else (bif Nat.blt pc 15 then ((.ireturn), 0, 0, 0) else ((.astore_n 3), 0, 0, 0))) else (bif Nat.blt pc 18 then (bif Nat.blt pc 17 then ((.iconst 2), 0, 0, 0) else ((.ireturn), 0, 0, 0)) else (bif Nat.blt pc 19 then ((.iconst 0), 0, 0, 0) else ((.ireturn), 0, 0, 0)))))
/-- PatternLaboratoryLaw imageLetter(LPatternLaboratory;II[J)I -/
def pm_t221 : Nat → pm_En := fun pc => (bif Nat.blt pc 15 then (bif Nat.blt pc 5 then (bif Nat.blt pc 2 then (bif Nat.blt pc 1 then ((.aload_n 3), 0, 0, 0) else ((.iconst 0), 0, 0, 0)) else (bif Nat.blt pc 3 then ((.aload_n 0), 0, 0, 0) else (bif Nat.blt pc 4 then ((.iload_n 1), 0, 0, 0) else ((.iload_n 2), 0, 0, 0)))) else (bif Nat.blt pc 9 then (bif Nat.blt pc 8 then ((.invokevirtual 80), 82, 3, 1) else ((.i2l), 0, 0, 0)) else (bif Nat.blt pc 10 then ((.lastore), 0, 0, 0) else (bif Nat.blt pc 13 then ((.goto 15), 25, 0, 0) else ((.astore 4), 0, 0, 0))))) else (bif Nat.blt pc 21 then (bif Nat.blt pc 17 then (bif Nat.blt pc 16 then ((.iconst 1), 0, 0, 0) else ((.ireturn), 0, 0, 0)) else (bif Nat.blt pc 19 then ((.astore 4), 0, 0, 0) else (bif Nat.blt pc 20 then ((.iconst 2), 0, 0, 0) else ((.ireturn), 0, 0, 0)))) else (bif Nat.blt pc 24 then (bif Nat.blt pc 23 then ((.astore 4), 0, 0, 0) else ((.iconst 3), 0, 0, 0)) else (bif Nat.blt pc 25 then ((.ireturn), 0, 0, 0) else (bif Nat.blt pc 26 then ((.iconst 0), 0, 0, 0) else ((.ireturn), 0, 0, 0))))))
/-- PatternLaboratoryLaw occurrenceCount(LPatternLaboratory;[J)I -/
def pm_t222 : Nat → pm_En := fun pc => (bif Nat.blt pc 8 then (bif Nat.blt pc 3 then (bif Nat.blt pc 1 then ((.aload_n 1), 0, 0, 0) else (bif Nat.blt pc 2 then ((.iconst 0), 0, 0, 0) else ((.aload_n 0), 0, 0, 0))) else (bif Nat.blt pc 6 then ((.invokevirtual 84), 83, 1, 1) else (bif Nat.blt pc 7 then ((.i2l), 0, 0, 0) else ((.lastore), 0, 0, 0)))) else (bif Nat.blt pc 13 then (bif Nat.blt pc 11 then ((.goto 6), 14, 0, 0) else (bif Nat.blt pc 12 then ((.astore_n 2), 0, 0, 0) else ((.iconst 1), 0, 0, 0))) else (bif Nat.blt pc 14 then ((.ireturn), 0, 0, 0) else (bif Nat.blt pc 15 then ((.iconst 0), 0, 0, 0) else ((.ireturn), 0, 0, 0)))))
/-- PatternLaboratoryLaw areConnected(LPatternLaboratory;II[J)I -/
def pm_t223 : Nat → pm_En := fun pc => (bif Nat.blt pc 12 then (bif Nat.blt pc 4 then (bif Nat.blt pc 2 then (bif Nat.blt pc 1 then ((.aload_n 3), 0, 0, 0) else ((.iconst 0), 0, 0, 0)) else (bif Nat.blt pc 3 then ((.aload_n 0), 0, 0, 0) else ((.iload_n 1), 0, 0, 0))) else (bif Nat.blt pc 8 then (bif Nat.blt pc 5 then ((.iload_n 2), 0, 0, 0) else ((.invokevirtual 87), 84, 3, 1)) else (bif Nat.blt pc 11 then ((.ifCond .eq 7), 15, 0, 0) else ((.lconst 1), 0, 0, 0)))) else (bif Nat.blt pc 20 then (bif Nat.blt pc 16 then (bif Nat.blt pc 15 then ((.goto 4), 16, 0, 0) else ((.lconst 0), 0, 0, 0)) else (bif Nat.blt pc 17 then ((.lastore), 0, 0, 0) else ((.goto 7), 24, 0, 0))) else (bif Nat.blt pc 23 then (bif Nat.blt pc 22 then ((.astore 4), 0, 0, 0) else ((.iconst 1), 0, 0, 0)) else (bif Nat.blt pc 24 then ((.ireturn), 0, 0, 0) else (bif Nat.blt pc 25 then ((.iconst 0), 0, 0, 0) else ((.ireturn), 0, 0, 0))))))
/-- PatternLaboratoryLaw isFree(LPatternLaboratory;I[J)I -/
def pm_t224 : Nat → pm_En := fun pc => (bif Nat.blt pc 14 then (bif Nat.blt pc 4 then (bif Nat.blt pc 2 then (bif Nat.blt pc 1 then ((.aload_n 2), 0, 0, 0) else ((.iconst 0), 0, 0, 0)) else (bif Nat.blt pc 3 then ((.aload_n 0), 0, 0, 0) else ((.iload_n 1), 0, 0, 0))) else (bif Nat.blt pc 10 then (bif Nat.blt pc 7 then ((.invokevirtual 91), 85, 2, 1) else ((.ifCond .eq 7), 14, 0, 0)) else (bif Nat.blt pc 11 then ((.lconst 1), 0, 0, 0) else ((.goto 4), 15, 0, 0)))) else (bif Nat.blt pc 20 then (bif Nat.blt pc 16 then (bif Nat.blt pc 15 then ((.lconst 0), 0, 0, 0) else ((.lastore), 0, 0, 0)) else (bif Nat.blt pc 19 then ((.goto 6), 22, 0, 0) else ((.astore_n 3), 0, 0, 0))) else (bif Nat.blt pc 22 then (bif Nat.blt pc 21 then ((.iconst 1), 0, 0, 0) else ((.ireturn), 0, 0, 0)) else (bif Nat.blt pc 23 then ((.iconst 0), 0, 0, 0) else ((.ireturn), 0, 0, 0)))))
/-- PatternLaboratoryLaw freeSet(LPatternLaboratory;I[J)I -/
def pm_t225 : Nat → pm_En := fun pc => (bif Nat.blt pc 8 then (bif Nat.blt pc 3 then (bif Nat.blt pc 1 then ((.aload_n 2), 0, 0, 0) else (bif Nat.blt pc 2 then ((.iconst 0), 0, 0, 0) else ((.aload_n 0), 0, 0, 0))) else (bif Nat.blt pc 4 then ((.iload_n 1), 0, 0, 0) else (bif Nat.blt pc 7 then ((.invokevirtual 94), 87, 2, 1) else ((.i2l), 0, 0, 0)))) else (bif Nat.blt pc 13 then (bif Nat.blt pc 9 then ((.lastore), 0, 0, 0) else (bif Nat.blt pc 12 then ((.goto 6), 15, 0, 0) else ((.astore_n 3), 0, 0, 0))) else (bif Nat.blt pc 15 then (bif Nat.blt pc 14 then ((.iconst 1), 0, 0, 0) else ((.ireturn), 0, 0, 0)) else (bif Nat.blt pc 16 then ((.iconst 0), 0, 0, 0) else ((.ireturn), 0, 0, 0)))))
/-- PatternLaboratoryLaw delete(LPatternLaboratory;I[J)I -/
def pm_t226 : Nat → pm_En := fun pc => (bif Nat.blt pc 12 then (bif Nat.blt pc 4 then (bif Nat.blt pc 2 then (bif Nat.blt pc 1 then ((.aload_n 2), 0, 0, 0) else ((.iconst 0), 0, 0, 0)) else (bif Nat.blt pc 3 then ((.aload_n 0), 0, 0, 0) else ((.iload_n 1), 0, 0, 0))) else (bif Nat.blt pc 8 then (bif Nat.blt pc 7 then ((.invokevirtual 97), 88, 2, 1) else ((.i2l), 0, 0, 0)) else (bif Nat.blt pc 9 then ((.lastore), 0, 0, 0) else ((.goto 9), 18, 0, 0)))) else (bif Nat.blt pc 16 then (bif Nat.blt pc 14 then (bif Nat.blt pc 13 then ((.astore_n 3), 0, 0, 0) else ((.iconst 1), 0, 0, 0)) else (bif Nat.blt pc 15 then ((.ireturn), 0, 0, 0) else ((.astore_n 3), 0, 0, 0))) else (bif Nat.blt pc 18 then (bif Nat.blt pc 17 then ((.iconst 2), 0, 0, 0) else ((.ireturn), 0, 0, 0)) else (bif Nat.blt pc 19 then ((.iconst 0), 0, 0, 0) else ((.ireturn), 0, 0, 0)))))
/-- PatternLaboratoryLaw reductionLength(LPatternLaboratory;[J)I -/
def pm_t227 : Nat → pm_En := fun pc => (bif Nat.blt pc 8 then (bif Nat.blt pc 3 then (bif Nat.blt pc 1 then ((.aload_n 1), 0, 0, 0) else (bif Nat.blt pc 2 then ((.iconst 0), 0, 0, 0) else ((.aload_n 0), 0, 0, 0))) else (bif Nat.blt pc 6 then ((.invokevirtual 100), 90, 1, 1) else (bif Nat.blt pc 7 then ((.i2l), 0, 0, 0) else ((.lastore), 0, 0, 0)))) else (bif Nat.blt pc 13 then (bif Nat.blt pc 11 then ((.goto 6), 14, 0, 0) else (bif Nat.blt pc 12 then ((.astore_n 2), 0, 0, 0) else ((.iconst 1), 0, 0, 0))) else (bif Nat.blt pc 14 then ((.ireturn), 0, 0, 0) else (bif Nat.blt pc 15 then ((.iconst 0), 0, 0, 0) else ((.ireturn), 0, 0, 0)))))
/-- PatternLaboratoryLaw reductionSet(LPatternLaboratory;I[J)I -/
def pm_t228 : Nat → pm_En := fun pc => (bif Nat.blt pc 12 then (bif Nat.blt pc 4 then (bif Nat.blt pc 2 then (bif Nat.blt pc 1 then ((.aload_n 2), 0, 0, 0) else ((.iconst 0), 0, 0, 0)) else (bif Nat.blt pc 3 then ((.aload_n 0), 0, 0, 0) else ((.iload_n 1), 0, 0, 0))) else (bif Nat.blt pc 8 then (bif Nat.blt pc 7 then ((.invokevirtual 103), 91, 2, 1) else ((.i2l), 0, 0, 0)) else (bif Nat.blt pc 9 then ((.lastore), 0, 0, 0) else ((.goto 9), 18, 0, 0)))) else (bif Nat.blt pc 16 then (bif Nat.blt pc 14 then (bif Nat.blt pc 13 then ((.astore_n 3), 0, 0, 0) else ((.iconst 1), 0, 0, 0)) else (bif Nat.blt pc 15 then ((.ireturn), 0, 0, 0) else ((.astore_n 3), 0, 0, 0))) else (bif Nat.blt pc 18 then (bif Nat.blt pc 17 then ((.iconst 2), 0, 0, 0) else ((.ireturn), 0, 0, 0)) else (bif Nat.blt pc 19 then ((.iconst 0), 0, 0, 0) else ((.ireturn), 0, 0, 0)))))
/-- PatternLaboratoryLaw extend(LPatternLaboratory;I[J)I -/
def pm_t229 : Nat → pm_En := fun pc => (bif Nat.blt pc 15 then (bif Nat.blt pc 7 then (bif Nat.blt pc 2 then (bif Nat.blt pc 1 then ((.aload_n 2), 0, 0, 0) else ((.iconst 0), 0, 0, 0)) else (bif Nat.blt pc 3 then ((.aload_n 0), 0, 0, 0) else (bif Nat.blt pc 4 then ((.iload_n 1), 0, 0, 0) else ((.invokevirtual 106), 92, 2, 1)))) else (bif Nat.blt pc 12 then (bif Nat.blt pc 8 then ((.i2l), 0, 0, 0) else (bif Nat.blt pc 9 then ((.lastore), 0, 0, 0) else ((.goto 15), 24, 0, 0))) else (bif Nat.blt pc 13 then ((.astore_n 3), 0, 0, 0) else (bif Nat.blt pc 14 then ((.iconst 1), 0, 0, 0) else ((.ireturn), 0, 0, 0))))) else (bif Nat.blt pc 20 then (bif Nat.blt pc 17 then (bif Nat.blt pc 16 then ((.astore_n 3), 0, 0, 0) else ((.iconst 2), 0, 0, 0)) else (bif Nat.blt pc 18 then ((.ireturn), 0, 0, 0) else (bif Nat.blt pc 19 then ((.astore_n 3), 0, 0, 0) else ((.iconst 3), 0, 0, 0)))) else (bif Nat.blt pc 23 then (bif Nat.blt pc 21 then ((.ireturn), 0, 0, 0) else (bif Nat.blt pc 22 then ((.astore_n 3), 0, 0, 0) else ((.iconst 4), 0, 0, 0))) else (bif Nat.blt pc 24 then ((.ireturn), 0, 0, 0) else (bif Nat.blt pc 25 then ((.iconst 0), 0, 0, 0) else ((.ireturn), 0, 0, 0))))))
/-- PatternLaboratoryLaw longestAvoiding(LPatternLaboratory;I[J)I -/
def pm_t230 : Nat → pm_En := fun pc => (bif Nat.blt pc 13 then (bif Nat.blt pc 4 then (bif Nat.blt pc 2 then (bif Nat.blt pc 1 then ((.aload_n 2), 0, 0, 0) else ((.iconst 0), 0, 0, 0)) else (bif Nat.blt pc 3 then ((.aload_n 0), 0, 0, 0) else ((.iload_n 1), 0, 0, 0))) else (bif Nat.blt pc 8 then (bif Nat.blt pc 7 then ((.invokevirtual 111), 93, 2, 1) else ((.i2l), 0, 0, 0)) else (bif Nat.blt pc 9 then ((.lastore), 0, 0, 0) else (bif Nat.blt pc 12 then ((.goto 12), 21, 0, 0) else ((.astore_n 3), 0, 0, 0))))) else (bif Nat.blt pc 18 then (bif Nat.blt pc 15 then (bif Nat.blt pc 14 then ((.iconst 1), 0, 0, 0) else ((.ireturn), 0, 0, 0)) else (bif Nat.blt pc 16 then ((.astore_n 3), 0, 0, 0) else (bif Nat.blt pc 17 then ((.iconst 2), 0, 0, 0) else ((.ireturn), 0, 0, 0)))) else (bif Nat.blt pc 20 then (bif Nat.blt pc 19 then ((.astore_n 3), 0, 0, 0) else ((.iconst 3), 0, 0, 0)) else (bif Nat.blt pc 21 then ((.ireturn), 0, 0, 0) else (bif Nat.blt pc 22 then ((.iconst 0), 0, 0, 0) else ((.ireturn), 0, 0, 0))))))
/-- PatternLaboratoryLaw countAvoiding(LPatternLaboratory;I[J)I -/
def pm_t231 : Nat → pm_En := fun pc => (bif Nat.blt pc 13 then (bif Nat.blt pc 4 then (bif Nat.blt pc 2 then (bif Nat.blt pc 1 then ((.aload_n 2), 0, 0, 0) else ((.iconst 0), 0, 0, 0)) else (bif Nat.blt pc 3 then ((.aload_n 0), 0, 0, 0) else ((.iload_n 1), 0, 0, 0))) else (bif Nat.blt pc 8 then (bif Nat.blt pc 7 then ((.invokevirtual 114), 94, 2, 1) else ((.i2l), 0, 0, 0)) else (bif Nat.blt pc 9 then ((.lastore), 0, 0, 0) else (bif Nat.blt pc 12 then ((.goto 12), 21, 0, 0) else ((.astore_n 3), 0, 0, 0))))) else (bif Nat.blt pc 18 then (bif Nat.blt pc 15 then (bif Nat.blt pc 14 then ((.iconst 1), 0, 0, 0) else ((.ireturn), 0, 0, 0)) else (bif Nat.blt pc 16 then ((.astore_n 3), 0, 0, 0) else (bif Nat.blt pc 17 then ((.iconst 2), 0, 0, 0) else ((.ireturn), 0, 0, 0)))) else (bif Nat.blt pc 20 then (bif Nat.blt pc 19 then ((.astore_n 3), 0, 0, 0) else ((.iconst 3), 0, 0, 0)) else (bif Nat.blt pc 21 then ((.ireturn), 0, 0, 0) else (bif Nat.blt pc 22 then ((.iconst 0), 0, 0, 0) else ((.ireturn), 0, 0, 0))))))
/-- PatternLaboratoryLaw growth(LPatternLaboratory;I[D)I -/
def pm_t232 : Nat → pm_En := fun pc => (bif Nat.blt pc 14 then (bif Nat.blt pc 7 then (bif Nat.blt pc 2 then (bif Nat.blt pc 1 then ((.aload_n 2), 0, 0, 0) else ((.iconst 0), 0, 0, 0)) else (bif Nat.blt pc 3 then ((.aload_n 0), 0, 0, 0) else (bif Nat.blt pc 4 then ((.iload_n 1), 0, 0, 0) else ((.invokevirtual 117), 95, 2, 1)))) else (bif Nat.blt pc 11 then (bif Nat.blt pc 8 then ((.dastore), 0, 0, 0) else ((.goto 15), 23, 0, 0)) else (bif Nat.blt pc 12 then ((.astore_n 3), 0, 0, 0) else (bif Nat.blt pc 13 then ((.iconst 1), 0, 0, 0) else ((.ireturn), 0, 0, 0))))) else (bif Nat.blt pc 19 then (bif Nat.blt pc 16 then (bif Nat.blt pc 15 then ((.astore_n 3), 0, 0, 0) else ((.iconst 2), 0, 0, 0)) else (bif Nat.blt pc 17 then ((.ireturn), 0, 0, 0) else (bif Nat.blt pc 18 then ((.astore_n 3), 0, 0, 0) else ((.iconst 3), 0, 0, 0)))) else (bif Nat.blt pc 22 then (bif Nat.blt pc 20 then ((.ireturn), 0, 0, 0) else (bif Nat.blt pc 21 then ((.astore_n 3), 0, 0, 0) else ((.iconst 4), 0, 0, 0))) else (bif Nat.blt pc 23 then ((.ireturn), 0, 0, 0) else (bif Nat.blt pc 24 then ((.iconst 0), 0, 0, 0) else ((.ireturn), 0, 0, 0))))))
/-- PatternLaboratoryLaw appendImage(LPatternLaboratory;II[J)I -/
def pm_t233 : Nat → pm_En := fun pc => (bif Nat.blt pc 10 then (bif Nat.blt pc 4 then (bif Nat.blt pc 2 then (bif Nat.blt pc 1 then ((.aload_n 3), 0, 0, 0) else ((.iconst 0), 0, 0, 0)) else (bif Nat.blt pc 3 then ((.aload_n 0), 0, 0, 0) else ((.iload_n 1), 0, 0, 0))) else (bif Nat.blt pc 8 then (bif Nat.blt pc 5 then ((.iload_n 2), 0, 0, 0) else ((.invokevirtual 121), 96, 3, 1)) else (bif Nat.blt pc 9 then ((.i2l), 0, 0, 0) else ((.lastore), 0, 0, 0)))) else (bif Nat.blt pc 17 then (bif Nat.blt pc 15 then (bif Nat.blt pc 13 then ((.goto 11), 21, 0, 0) else ((.astore 4), 0, 0, 0)) else (bif Nat.blt pc 16 then ((.iconst 1), 0, 0, 0) else ((.ireturn), 0, 0, 0))) else (bif Nat.blt pc 20 then (bif Nat.blt pc 19 then ((.astore 4), 0, 0, 0) else ((.iconst 2), 0, 0, 0)) else (bif Nat.blt pc 21 then ((.ireturn), 0, 0, 0) else (bif Nat.blt pc 22 then ((.iconst 0), 0, 0, 0) else ((.ireturn), 0, 0, 0))))))
/-- PatternLaboratoryLaw clearImage(LPatternLaboratory;I[J)I -/
def pm_t234 : Nat → pm_En := fun pc => (bif Nat.blt pc 8 then (bif Nat.blt pc 3 then (bif Nat.blt pc 1 then ((.aload_n 2), 0, 0, 0) else (bif Nat.blt pc 2 then ((.iconst 0), 0, 0, 0) else ((.aload_n 0), 0, 0, 0))) else (bif Nat.blt pc 4 then ((.iload_n 1), 0, 0, 0) else (bif Nat.blt pc 7 then ((.invokevirtual 124), 97, 2, 1) else ((.i2l), 0, 0, 0)))) else (bif Nat.blt pc 13 then (bif Nat.blt pc 9 then ((.lastore), 0, 0, 0) else (bif Nat.blt pc 12 then ((.goto 6), 15, 0, 0) else ((.astore_n 3), 0, 0, 0))) else (bif Nat.blt pc 15 then (bif Nat.blt pc 14 then ((.iconst 1), 0, 0, 0) else ((.ireturn), 0, 0, 0)) else (bif Nat.blt pc 16 then ((.iconst 0), 0, 0, 0) else ((.ireturn), 0, 0, 0)))))
/-- PatternLaboratoryLaw applyMorphism(LPatternLaboratory;[J)I -/
def pm_t235 : Nat → pm_En := fun pc => (bif Nat.blt pc 8 then (bif Nat.blt pc 3 then (bif Nat.blt pc 1 then ((.aload_n 1), 0, 0, 0) else (bif Nat.blt pc 2 then ((.iconst 0), 0, 0, 0) else ((.aload_n 0), 0, 0, 0))) else (bif Nat.blt pc 6 then ((.invokevirtual 127), 98, 1, 1) else (bif Nat.blt pc 7 then ((.i2l), 0, 0, 0) else ((.lastore), 0, 0, 0)))) else (bif Nat.blt pc 13 then (bif Nat.blt pc 11 then ((.goto 6), 14, 0, 0) else (bif Nat.blt pc 12 then ((.astore_n 2), 0, 0, 0) else ((.iconst 1), 0, 0, 0))) else (bif Nat.blt pc 14 then ((.ireturn), 0, 0, 0) else (bif Nat.blt pc 15 then ((.iconst 0), 0, 0, 0) else ((.ireturn), 0, 0, 0)))))
/-- PatternLaboratoryLaw iterate(LPatternLaboratory;II[J)I -/
def pm_t236 : Nat → pm_En := fun pc => (bif Nat.blt pc 10 then (bif Nat.blt pc 4 then (bif Nat.blt pc 2 then (bif Nat.blt pc 1 then ((.aload_n 3), 0, 0, 0) else ((.iconst 0), 0, 0, 0)) else (bif Nat.blt pc 3 then ((.aload_n 0), 0, 0, 0) else ((.iload_n 1), 0, 0, 0))) else (bif Nat.blt pc 8 then (bif Nat.blt pc 5 then ((.iload_n 2), 0, 0, 0) else ((.invokevirtual 130), 99, 3, 1)) else (bif Nat.blt pc 9 then ((.i2l), 0, 0, 0) else ((.lastore), 0, 0, 0)))) else (bif Nat.blt pc 17 then (bif Nat.blt pc 15 then (bif Nat.blt pc 13 then ((.goto 11), 21, 0, 0) else ((.astore 4), 0, 0, 0)) else (bif Nat.blt pc 16 then ((.iconst 1), 0, 0, 0) else ((.ireturn), 0, 0, 0))) else (bif Nat.blt pc 20 then (bif Nat.blt pc 19 then ((.astore 4), 0, 0, 0) else ((.iconst 2), 0, 0, 0)) else (bif Nat.blt pc 21 then ((.ireturn), 0, 0, 0) else (bif Nat.blt pc 22 then ((.iconst 0), 0, 0, 0) else ((.ireturn), 0, 0, 0))))))
/-- PatternLaboratoryLaw findMorphism(LPatternLaboratory;II[J)I -/
def pm_t237 : Nat → pm_En := fun pc => (bif Nat.blt pc 16 then (bif Nat.blt pc 5 then (bif Nat.blt pc 2 then (bif Nat.blt pc 1 then ((.aload_n 3), 0, 0, 0) else ((.iconst 0), 0, 0, 0)) else (bif Nat.blt pc 3 then ((.aload_n 0), 0, 0, 0) else (bif Nat.blt pc 4 then ((.iload_n 1), 0, 0, 0) else ((.iload_n 2), 0, 0, 0)))) else (bif Nat.blt pc 10 then (bif Nat.blt pc 8 then ((.invokevirtual 133), 100, 3, 1) else (bif Nat.blt pc 9 then ((.i2l), 0, 0, 0) else ((.lastore), 0, 0, 0))) else (bif Nat.blt pc 13 then ((.goto 19), 29, 0, 0) else (bif Nat.blt pc 15 then ((.astore 4), 0, 0, 0) else ((.iconst 1), 0, 0, 0))))) else (bif Nat.blt pc 24 then (bif Nat.blt pc 20 then (bif Nat.blt pc 17 then ((.ireturn), 0, 0, 0) else (bif Nat.blt pc 19 then ((.astore 4), 0, 0, 0) else ((.iconst 2), 0, 0, 0))) else (bif Nat.blt pc 21 then ((.ireturn), 0, 0, 0) else (bif Nat.blt pc 23 then ((.astore 4), 0, 0, 0) else ((.iconst 3), 0, 0, 0)))) else (bif Nat.blt pc 28 then (bif Nat.blt pc 25 then ((.ireturn), 0, 0, 0) else (bif Nat.blt pc 27 then ((.astore 4), 0, 0, 0) else ((.iconst 4), 0, 0, 0))) else (bif Nat.blt pc 29 then ((.ireturn), 0, 0, 0) else (bif Nat.blt pc 30 then ((.iconst 0), 0, 0, 0) else ((.ireturn), 0, 0, 0))))))
/-- PatternLaboratoryLaw countSpoiled(LPatternLaboratory;I[J)I -/
def pm_t238 : Nat → pm_En := fun pc => (bif Nat.blt pc 13 then (bif Nat.blt pc 4 then (bif Nat.blt pc 2 then (bif Nat.blt pc 1 then ((.aload_n 2), 0, 0, 0) else ((.iconst 0), 0, 0, 0)) else (bif Nat.blt pc 3 then ((.aload_n 0), 0, 0, 0) else ((.iload_n 1), 0, 0, 0))) else (bif Nat.blt pc 8 then (bif Nat.blt pc 7 then ((.invokevirtual 136), 101, 2, 1) else ((.i2l), 0, 0, 0)) else (bif Nat.blt pc 9 then ((.lastore), 0, 0, 0) else (bif Nat.blt pc 12 then ((.goto 12), 21, 0, 0) else ((.astore_n 3), 0, 0, 0))))) else (bif Nat.blt pc 18 then (bif Nat.blt pc 15 then (bif Nat.blt pc 14 then ((.iconst 1), 0, 0, 0) else ((.ireturn), 0, 0, 0)) else (bif Nat.blt pc 16 then ((.astore_n 3), 0, 0, 0) else (bif Nat.blt pc 17 then ((.iconst 2), 0, 0, 0) else ((.ireturn), 0, 0, 0)))) else (bif Nat.blt pc 20 then (bif Nat.blt pc 19 then ((.astore_n 3), 0, 0, 0) else ((.iconst 3), 0, 0, 0)) else (bif Nat.blt pc 21 then ((.ireturn), 0, 0, 0) else (bif Nat.blt pc 22 then ((.iconst 0), 0, 0, 0) else ((.ireturn), 0, 0, 0))))))
/-- PatternLaboratoryLaw restore(LPatternLaboratory;[J)I -/
def pm_t239 : Nat → pm_En := fun pc => (bif Nat.blt pc 8 then (bif Nat.blt pc 3 then (bif Nat.blt pc 1 then ((.aload_n 1), 0, 0, 0) else (bif Nat.blt pc 2 then ((.iconst 0), 0, 0, 0) else ((.aload_n 0), 0, 0, 0))) else (bif Nat.blt pc 6 then ((.invokevirtual 139), 103, 1, 1) else (bif Nat.blt pc 7 then ((.i2l), 0, 0, 0) else ((.lastore), 0, 0, 0)))) else (bif Nat.blt pc 13 then (bif Nat.blt pc 11 then ((.goto 6), 14, 0, 0) else (bif Nat.blt pc 12 then ((.astore_n 2), 0, 0, 0) else ((.iconst 1), 0, 0, 0))) else (bif Nat.blt pc 14 then ((.ireturn), 0, 0, 0) else (bif Nat.blt pc 15 then ((.iconst 0), 0, 0, 0) else ((.ireturn), 0, 0, 0)))))
/-- PatternLaboratoryLaw law([I)Z -/
def pm_t240 : Nat → pm_En := fun pc => (bif Nat.blt pc 1403 then (bif Nat.blt pc 795 then (bif Nat.blt pc 498 then (bif Nat.blt pc 348 then (bif Nat.blt pc 273 then (bif Nat.blt pc 37 then (bif Nat.blt pc 20 then (bif Nat.blt pc 11 then (bif Nat.blt pc 4 then (bif Nat.blt pc 3 then ((.new 8), 8, 0, 0) else ((.dup), 0, 0, 0)) else (bif Nat.blt pc 7 then ((.invokespecial 142), 56, 1, 2) else (bif Nat.blt pc 8 then ((.astore_n 1), 0, 0, 0) else ((.new 143), 9, 0, 0)))) else (bif Nat.blt pc 16 then (bif Nat.blt pc 12 then ((.dup), 0, 0, 0) else (bif Nat.blt pc 15 then ((.invokespecial 145), 122, 1, 2) else ((.astore_n 2), 0, 0, 0))) else (bif Nat.blt pc 17 then ((.iconst 1), 0, 0, 0) else (bif Nat.blt pc 19 then ((.newarray .long), 3000, 0, 0) else ((.astore_n 3), 0, 0, 0))))) else (bif Nat.blt pc 28 then (bif Nat.blt pc 23 then (bif Nat.blt pc 21 then ((.iconst 1), 0, 0, 0) else ((.newarray .double), 4000, 0, 0)) else (bif Nat.blt pc 25 then ((.astore 4), 0, 0, 0) else (bif Nat.blt pc 26 then ((.iconst 0), 0, 0, 0) else ((.istore 5), 0, 0, 0)))) else (bif Nat.blt pc 32 then (bif Nat.blt pc 30 then ((.iload 5), 0, 0, 0) else (bif Nat.blt pc 31 then ((.aload_n 0), 0, 0, 0) else ((.arraylength), 0, 0, 0))) else (bif Nat.blt pc 33 then ((.iconst 3), 0, 0, 0) else (bif Nat.blt pc 34 then ((.isub), 0, 0, 0) else ((.if_icmp .gt 2535), 2569, 0, 0)))))) else (bif Nat.blt pc 254 then (bif Nat.blt pc 44 then (bif Nat.blt pc 40 then (bif Nat.blt pc 38 then ((.aload_n 0), 0, 0, 0) else ((.iload 5), 0, 0, 0)) else (bif Nat.blt pc 41 then ((.iaload), 0, 0, 0) else (bif Nat.blt pc 43 then ((.bipush 63), 0, 0, 0) else ((.iand), 0, 0, 0)))) else (bif Nat.blt pc 250 then (bif Nat.blt pc 248 then ((.tableswitch 2519 0 46 #[204, 260, 273, 286, 342, 355, 411, 424, 437, 500, 556, 612, 675, 738, 794, 850, 863, 876, 932, 1010, 1097, 1162, 1218, 1269, 1313, 1369, 1437, 1481, 1556, 1619, 1632, 1688, 1744, 1757, 1801, 1857, 1913, 1969, 2025, 2102, 2170, 2226, 2270, 2338, 2406, 2462, 2475]), 0, 0, 0) else (bif Nat.blt pc 249 then ((.aload_n 1), 0, 0, 0) else ((.aload_n 0), 0, 0, 0))) else (bif Nat.blt pc 252 then ((.iload 5), 0, 0, 0) else (bif Nat.blt pc 253 then ((.iconst 1), 0, 0, 0) else ((.iadd), 0, 0, 0))))) else (bif Nat.blt pc 263 then (bif Nat.blt pc 259 then (bif Nat.blt pc 255 then ((.iaload), 0, 0, 0) else (bif Nat.blt pc 256 then ((.aload_n 3), 0, 0, 0) else ((.invokestatic 146), 203, 3, 0))) else (bif Nat.blt pc 261 then ((.istore 6), 0, 0, 0) else (bif Nat.blt pc 262 then ((.aload_n 2), 0, 0, 0) else ((.aload_n 0), 0, 0, 0)))) else (bif Nat.blt pc 267 then (bif Nat.blt pc 265 then ((.iload 5), 0, 0, 0) else (bif Nat.blt pc 266 then ((.iconst 1), 0, 0, 0) else ((.iadd), 0, 0, 0))) else (bif Nat.blt pc 268 then ((.iaload), 0, 0, 0) else (bif Nat.blt pc 271 then ((.invokevirtual 151), 129, 2, 1) else ((.istore 7), 0, 0, 0))))))) else (bif Nat.blt pc 312 then (bif Nat.blt pc 292 then (bif Nat.blt pc 283 then (bif Nat.blt pc 277 then (bif Nat.blt pc 274 then ((.aload_n 2), 0, 0, 0) else ((.invokevirtual 152), 123, 1, 1)) else (bif Nat.blt pc 279 then ((.iload 6), 0, 0, 0) else (bif Nat.blt pc 282 then ((.if_icmp .eq 5), 284, 0, 0) else ((.iconst 0), 0, 0, 0)))) else (bif Nat.blt pc 289 then (bif Nat.blt pc 284 then ((.ireturn), 1, 0, 0) else (bif Nat.blt pc 286 then ((.iload 6), 0, 0, 0) else ((.ifCond .ne 15), 301, 0, 0))) else (bif Nat.blt pc 290 then ((.aload_n 3), 0, 0, 0) else (bif Nat.blt pc 291 then ((.iconst 0), 0, 0, 0) else ((.laload), 0, 0, 0))))) else (bif Nat.blt pc 300 then (bif Nat.blt pc 295 then (bif Nat.blt pc 294 then ((.iload 7), 0, 0, 0) else ((.i2l), 0, 0, 0)) else (bif Nat.blt pc 296 then ((.lcmp), 0, 0, 0) else (bif Nat.blt pc 299 then ((.ifCond .eq 5), 301, 0, 0) else ((.iconst 0), 0, 0, 0)))) else (bif Nat.blt pc 305 then (bif Nat.blt pc 301 then ((.ireturn), 1, 0, 0) else (bif Nat.blt pc 304 then ((.goto 2262), 2563, 0, 0) else ((.aload_n 1), 0, 0, 0))) else (bif Nat.blt pc 308 then ((.invokevirtual 155), 58, 1, 1) else (bif Nat.blt pc 309 then ((.aload_n 2), 0, 0, 0) else ((.invokevirtual 158), 130, 1, 1)))))) else (bif Nat.blt pc 331 then (bif Nat.blt pc 321 then (bif Nat.blt pc 316 then (bif Nat.blt pc 315 then ((.if_icmp .eq 2251), 2563, 0, 0) else ((.iconst 0), 0, 0, 0)) else (bif Nat.blt pc 317 then ((.ireturn), 1, 0, 0) else (bif Nat.blt pc 318 then ((.aload_n 1), 0, 0, 0) else ((.invokevirtual 159), 59, 1, 1)))) else (bif Nat.blt pc 328 then (bif Nat.blt pc 322 then ((.aload_n 2), 0, 0, 0) else (bif Nat.blt pc 325 then ((.invokevirtual 162), 131, 1, 1) else ((.if_icmp .eq 2238), 2563, 0, 0))) else (bif Nat.blt pc 329 then ((.iconst 0), 0, 0, 0) else (bif Nat.blt pc 330 then ((.ireturn), 1, 0, 0) else ((.aload_n 1), 0, 0, 0))))) else (bif Nat.blt pc 338 then (bif Nat.blt pc 335 then (bif Nat.blt pc 332 then ((.aload_n 0), 0, 0, 0) else (bif Nat.blt pc 334 then ((.iload 5), 0, 0, 0) else ((.iconst 1), 0, 0, 0))) else (bif Nat.blt pc 336 then ((.iadd), 0, 0, 0) else (bif Nat.blt pc 337 then ((.iaload), 0, 0, 0) else ((.aload_n 3), 0, 0, 0)))) else (bif Nat.blt pc 344 then (bif Nat.blt pc 341 then ((.invokestatic 163), 204, 3, 0) else (bif Nat.blt pc 343 then ((.istore 6), 0, 0, 0) else ((.aload_n 2), 0, 0, 0))) else (bif Nat.blt pc 345 then ((.aload_n 0), 0, 0, 0) else (bif Nat.blt pc 347 then ((.iload 5), 0, 0, 0) else ((.iconst 1), 0, 0, 0)))))))) else (bif Nat.blt pc 422 then (bif Nat.blt pc 386 then (bif Nat.blt pc 368 then (bif Nat.blt pc 356 then (bif Nat.blt pc 350 then (bif Nat.blt pc 349 then ((.iadd), 0, 0, 0) else ((.iaload), 0, 0, 0)) else (bif Nat.blt pc 353 then ((.invokevirtual 165), 132, 2, 1) else (bif Nat.blt pc 355 then ((.istore 7), 0, 0, 0) else ((.aload_n 2), 0, 0, 0)))) else (bif Nat.blt pc 364 then (bif Nat.blt pc 359 then ((.invokevirtual 152), 123, 1, 1) else (bif Nat.blt pc 361 then ((.iload 6), 0, 0, 0) else ((.if_icmp .eq 5), 366, 0, 0))) else (bif Nat.blt pc 365 then ((.iconst 0), 0, 0, 0) else (bif Nat.blt pc 366 then ((.ireturn), 1, 0, 0) else ((.iload 6), 0, 0, 0))))) else (bif Nat.blt pc 376 then (bif Nat.blt pc 372 then (bif Nat.blt pc 371 then ((.ifCond .ne 15), 383, 0, 0) else ((.aload_n 3), 0, 0, 0)) else (bif Nat.blt pc 373 then ((.iconst 0), 0, 0, 0) else (bif Nat.blt pc 374 then ((.laload), 0, 0, 0) else ((.iload 7), 0, 0, 0)))) else (bif Nat.blt pc 381 then (bif Nat.blt pc 377 then ((.i2l), 0, 0, 0) else (bif Nat.blt pc 378 then ((.lcmp), 0, 0, 0) else ((.ifCond .eq 5), 383, 0, 0))) else (bif Nat.blt pc 382 then ((.iconst 0), 0, 0, 0) else (bif Nat.blt pc 383 then ((.ireturn), 1, 0, 0) else ((.goto 2180), 2563, 0, 0)))))) else (bif Nat.blt pc 404 then (bif Nat.blt pc 397 then (bif Nat.blt pc 390 then (bif Nat.blt pc 387 then ((.aload_n 1), 0, 0, 0) else ((.invokevirtual 166), 61, 1, 1)) else (bif Nat.blt pc 391 then ((.aload_n 2), 0, 0, 0) else (bif Nat.blt pc 394 then ((.invokevirtual 169), 134, 1, 1) else ((.if_icmp .eq 2169), 2563, 0, 0)))) else (bif Nat.blt pc 400 then (bif Nat.blt pc 398 then ((.iconst 0), 0, 0, 0) else (bif Nat.blt pc 399 then ((.ireturn), 1, 0, 0) else ((.aload_n 1), 0, 0, 0))) else (bif Nat.blt pc 401 then ((.aload_n 0), 0, 0, 0) else (bif Nat.blt pc 403 then ((.iload 5), 0, 0, 0) else ((.iconst 1), 0, 0, 0))))) else (bif Nat.blt pc 413 then (bif Nat.blt pc 407 then (bif Nat.blt pc 405 then ((.iadd), 0, 0, 0) else (bif Nat.blt pc 406 then ((.iaload), 0, 0, 0) else ((.aload_n 3), 0, 0, 0))) else (bif Nat.blt pc 410 then ((.invokestatic 170), 205, 3, 0) else (bif Nat.blt pc 412 then ((.istore 6), 0, 0, 0) else ((.aload_n 2), 0, 0, 0)))) else (bif Nat.blt pc 417 then (bif Nat.blt pc 414 then ((.aload_n 0), 0, 0, 0) else (bif Nat.blt pc 416 then ((.iload 5), 0, 0, 0) else ((.iconst 1), 0, 0, 0))) else (bif Nat.blt pc 418 then ((.iadd), 0, 0, 0) else (bif Nat.blt pc 419 then ((.iaload), 0, 0, 0) else ((.invokevirtual 172), 136, 2, 1))))))) else (bif Nat.blt pc 460 then (bif Nat.blt pc 442 then (bif Nat.blt pc 433 then (bif Nat.blt pc 425 then (bif Nat.blt pc 424 then ((.istore 7), 0, 0, 0) else ((.aload_n 2), 0, 0, 0)) else (bif Nat.blt pc 428 then ((.invokevirtual 152), 123, 1, 1) else (bif Nat.blt pc 430 then ((.iload 6), 0, 0, 0) else ((.if_icmp .eq 5), 435, 0, 0)))) else (bif Nat.blt pc 437 then (bif Nat.blt pc 434 then ((.iconst 0), 0, 0, 0) else (bif Nat.blt pc 435 then ((.ireturn), 1, 0, 0) else ((.iload 6), 0, 0, 0))) else (bif Nat.blt pc 440 then ((.ifCond .ne 15), 452, 0, 0) else (bif Nat.blt pc 441 then ((.aload_n 3), 0, 0, 0) else ((.iconst 0), 0, 0, 0))))) else (bif Nat.blt pc 450 then (bif Nat.blt pc 445 then (bif Nat.blt pc 443 then ((.laload), 0, 0, 0) else ((.iload 7), 0, 0, 0)) else (bif Nat.blt pc 446 then ((.i2l), 0, 0, 0) else (bif Nat.blt pc 447 then ((.lcmp), 0, 0, 0) else ((.ifCond .eq 5), 452, 0, 0)))) else (bif Nat.blt pc 455 then (bif Nat.blt pc 451 then ((.iconst 0), 0, 0, 0) else (bif Nat.blt pc 452 then ((.ireturn), 1, 0, 0) else ((.goto 2111), 2563, 0, 0))) else (bif Nat.blt pc 456 then ((.aload_n 1), 0, 0, 0) else (bif Nat.blt pc 459 then ((.invokevirtual 173), 63, 1, 1) else ((.aload_n 2), 0, 0, 0)))))) else (bif Nat.blt pc 481 then (bif Nat.blt pc 469 then (bif Nat.blt pc 466 then (bif Nat.blt pc 463 then ((.invokevirtual 176), 138, 1, 1) else ((.if_icmp .eq 2100), 2563, 0, 0)) else (bif Nat.blt pc 467 then ((.iconst 0), 0, 0, 0) else (bif Nat.blt pc 468 then ((.ireturn), 1, 0, 0) else ((.aload_n 1), 0, 0, 0)))) else (bif Nat.blt pc 476 then (bif Nat.blt pc 472 then ((.invokevirtual 177), 64, 1, 1) else (bif Nat.blt pc 473 then ((.aload_n 2), 0, 0, 0) else ((.invokevirtual 180), 139, 1, 1))) else (bif Nat.blt pc 479 then ((.if_icmp .eq 2087), 2563, 0, 0) else (bif Nat.blt pc 480 then ((.iconst 0), 0, 0, 0) else ((.ireturn), 1, 0, 0))))) else (bif Nat.blt pc 488 then (bif Nat.blt pc 485 then (bif Nat.blt pc 482 then ((.aload_n 1), 0, 0, 0) else (bif Nat.blt pc 483 then ((.aload_n 0), 0, 0, 0) else ((.iload 5), 0, 0, 0))) else (bif Nat.blt pc 486 then ((.iconst 1), 0, 0, 0) else (bif Nat.blt pc 487 then ((.iadd), 0, 0, 0) else ((.iaload), 0, 0, 0)))) else (bif Nat.blt pc 494 then (bif Nat.blt pc 489 then ((.aload_n 3), 0, 0, 0) else (bif Nat.blt pc 492 then ((.invokestatic 181), 206, 3, 0) else ((.istore 6), 0, 0, 0))) else (bif Nat.blt pc 495 then ((.aload_n 2), 0, 0, 0) else (bif Nat.blt pc 496 then ((.aload_n 0), 0, 0, 0) else ((.iload 5), 0, 0, 0))))))))) else (bif Nat.blt pc 646 then (bif Nat.blt pc 573 then (bif Nat.blt pc 536 then (bif Nat.blt pc 517 then (bif Nat.blt pc 506 then (bif Nat.blt pc 500 then (bif Nat.blt pc 499 then ((.iconst 1), 0, 0, 0) else ((.iadd), 0, 0, 0)) else (bif Nat.blt pc 501 then ((.iaload), 0, 0, 0) else (bif Nat.blt pc 504 then ((.invokevirtual 183), 145, 2, 1) else ((.istore 7), 0, 0, 0)))) else (bif Nat.blt pc 512 then (bif Nat.blt pc 507 then ((.aload_n 2), 0, 0, 0) else (bif Nat.blt pc 510 then ((.invokevirtual 152), 123, 1, 1) else ((.iload 6), 0, 0, 0))) else (bif Nat.blt pc 515 then ((.if_icmp .eq 5), 517, 0, 0) else (bif Nat.blt pc 516 then ((.iconst 0), 0, 0, 0) else ((.ireturn), 1, 0, 0))))) else (bif Nat.blt pc 525 then (bif Nat.blt pc 522 then (bif Nat.blt pc 519 then ((.iload 6), 0, 0, 0) else ((.ifCond .ne 22), 541, 0, 0)) else (bif Nat.blt pc 523 then ((.aload_n 3), 0, 0, 0) else (bif Nat.blt pc 524 then ((.iconst 0), 0, 0, 0) else ((.laload), 0, 0, 0)))) else (bif Nat.blt pc 531 then (bif Nat.blt pc 527 then ((.iload 7), 0, 0, 0) else (bif Nat.blt pc 530 then ((.ifCond .eq 7), 534, 0, 0) else ((.lconst 1), 0, 0, 0))) else (bif Nat.blt pc 534 then ((.goto 4), 535, 0, 0) else (bif Nat.blt pc 535 then ((.lconst 0), 0, 0, 0) else ((.lcmp), 0, 0, 0)))))) else (bif Nat.blt pc 552 then (bif Nat.blt pc 545 then (bif Nat.blt pc 540 then (bif Nat.blt pc 539 then ((.ifCond .eq 5), 541, 0, 0) else ((.iconst 0), 0, 0, 0)) else (bif Nat.blt pc 541 then ((.ireturn), 1, 0, 0) else (bif Nat.blt pc 544 then ((.goto 2022), 2563, 0, 0) else ((.aload_n 1), 0, 0, 0)))) else (bif Nat.blt pc 549 then (bif Nat.blt pc 546 then ((.aload_n 0), 0, 0, 0) else (bif Nat.blt pc 548 then ((.iload 5), 0, 0, 0) else ((.iconst 1), 0, 0, 0))) else (bif Nat.blt pc 550 then ((.iadd), 0, 0, 0) else (bif Nat.blt pc 551 then ((.iaload), 0, 0, 0) else ((.aload_n 3), 0, 0, 0))))) else (bif Nat.blt pc 562 then (bif Nat.blt pc 558 then (bif Nat.blt pc 555 then ((.invokestatic 184), 207, 3, 0) else (bif Nat.blt pc 557 then ((.istore 6), 0, 0, 0) else ((.aload_n 2), 0, 0, 0))) else (bif Nat.blt pc 559 then ((.aload_n 0), 0, 0, 0) else (bif Nat.blt pc 561 then ((.iload 5), 0, 0, 0) else ((.iconst 1), 0, 0, 0)))) else (bif Nat.blt pc 567 then (bif Nat.blt pc 563 then ((.iadd), 0, 0, 0) else (bif Nat.blt pc 564 then ((.iaload), 0, 0, 0) else ((.invokevirtual 186), 146, 2, 1))) else (bif Nat.blt pc 569 then ((.istore 7), 0, 0, 0) else (bif Nat.blt pc 570 then ((.aload_n 2), 0, 0, 0) else ((.invokevirtual 152), 123, 1, 1))))))) else (bif Nat.blt pc 607 then (bif Nat.blt pc 591 then (bif Nat.blt pc 582 then (bif Nat.blt pc 578 then (bif Nat.blt pc 575 then ((.iload 6), 0, 0, 0) else ((.if_icmp .eq 5), 580, 0, 0)) else (bif Nat.blt pc 579 then ((.iconst 0), 0, 0, 0) else (bif Nat.blt pc 580 then ((.ireturn), 1, 0, 0) else ((.iload 6), 0, 0, 0)))) else (bif Nat.blt pc 587 then (bif Nat.blt pc 585 then ((.ifCond .ne 15), 597, 0, 0) else (bif Nat.blt pc 586 then ((.aload_n 3), 0, 0, 0) else ((.iconst 0), 0, 0, 0))) else (bif Nat.blt pc 588 then ((.laload), 0, 0, 0) else (bif Nat.blt pc 590 then ((.iload 7), 0, 0, 0) else ((.i2l), 0, 0, 0))))) else (bif Nat.blt pc 600 then (bif Nat.blt pc 595 then (bif Nat.blt pc 592 then ((.lcmp), 0, 0, 0) else ((.ifCond .eq 5), 597, 0, 0)) else (bif Nat.blt pc 596 then ((.iconst 0), 0, 0, 0) else (bif Nat.blt pc 597 then ((.ireturn), 1, 0, 0) else ((.goto 1966), 2563, 0, 0)))) else (bif Nat.blt pc 604 then (bif Nat.blt pc 601 then ((.aload_n 1), 0, 0, 0) else (bif Nat.blt pc 602 then ((.aload_n 0), 0, 0, 0) else ((.iload 5), 0, 0, 0))) else (bif Nat.blt pc 605 then ((.iconst 1), 0, 0, 0) else (bif Nat.blt pc 606 then ((.iadd), 0, 0, 0) else ((.iaload), 0, 0, 0)))))) else (bif Nat.blt pc 625 then (bif Nat.blt pc 615 then (bif Nat.blt pc 611 then (bif Nat.blt pc 608 then ((.aload_n 3), 0, 0, 0) else ((.invokestatic 187), 208, 3, 0)) else (bif Nat.blt pc 613 then ((.istore 6), 0, 0, 0) else (bif Nat.blt pc 614 then ((.aload_n 2), 0, 0, 0) else ((.aload_n 0), 0, 0, 0)))) else (bif Nat.blt pc 619 then (bif Nat.blt pc 617 then ((.iload 5), 0, 0, 0) else (bif Nat.blt pc 618 then ((.iconst 1), 0, 0, 0) else ((.iadd), 0, 0, 0))) else (bif Nat.blt pc 620 then ((.iaload), 0, 0, 0) else (bif Nat.blt pc 623 then ((.invokevirtual 189), 147, 2, 1) else ((.istore 7), 0, 0, 0))))) else (bif Nat.blt pc 636 then (bif Nat.blt pc 631 then (bif Nat.blt pc 626 then ((.aload_n 2), 0, 0, 0) else (bif Nat.blt pc 629 then ((.invokevirtual 152), 123, 1, 1) else ((.iload 6), 0, 0, 0))) else (bif Nat.blt pc 634 then ((.if_icmp .eq 5), 636, 0, 0) else (bif Nat.blt pc 635 then ((.iconst 0), 0, 0, 0) else ((.ireturn), 1, 0, 0)))) else (bif Nat.blt pc 642 then (bif Nat.blt pc 638 then ((.iload 6), 0, 0, 0) else (bif Nat.blt pc 641 then ((.ifCond .ne 15), 653, 0, 0) else ((.aload_n 3), 0, 0, 0))) else (bif Nat.blt pc 643 then ((.iconst 0), 0, 0, 0) else (bif Nat.blt pc 644 then ((.laload), 0, 0, 0) else ((.iload 7), 0, 0, 0)))))))) else (bif Nat.blt pc 720 then (bif Nat.blt pc 679 then (bif Nat.blt pc 662 then (bif Nat.blt pc 653 then (bif Nat.blt pc 648 then (bif Nat.blt pc 647 then ((.i2l), 0, 0, 0) else ((.lcmp), 0, 0, 0)) else (bif Nat.blt pc 651 then ((.ifCond .eq 5), 653, 0, 0) else (bif Nat.blt pc 652 then ((.iconst 0), 0, 0, 0) else ((.ireturn), 1, 0, 0)))) else (bif Nat.blt pc 658 then (bif Nat.blt pc 656 then ((.goto 1910), 2563, 0, 0) else (bif Nat.blt pc 657 then ((.aload_n 1), 0, 0, 0) else ((.aload_n 0), 0, 0, 0))) else (bif Nat.blt pc 660 then ((.iload 5), 0, 0, 0) else (bif Nat.blt pc 661 then ((.iconst 1), 0, 0, 0) else ((.iadd), 0, 0, 0))))) else (bif Nat.blt pc 670 then (bif Nat.blt pc 664 then (bif Nat.blt pc 663 then ((.iaload), 0, 0, 0) else ((.aload_n 3), 0, 0, 0)) else (bif Nat.blt pc 667 then ((.invokestatic 190), 209, 3, 0) else (bif Nat.blt pc 669 then ((.istore 6), 0, 0, 0) else ((.aload_n 2), 0, 0, 0)))) else (bif Nat.blt pc 674 then (bif Nat.blt pc 671 then ((.aload_n 0), 0, 0, 0) else (bif Nat.blt pc 673 then ((.iload 5), 0, 0, 0) else ((.iconst 1), 0, 0, 0))) else (bif Nat.blt pc 675 then ((.iadd), 0, 0, 0) else (bif Nat.blt pc 676 then ((.iaload), 0, 0, 0) else ((.invokevirtual 192), 148, 2, 1)))))) else (bif Nat.blt pc 699 then (bif Nat.blt pc 690 then (bif Nat.blt pc 682 then (bif Nat.blt pc 681 then ((.istore 7), 0, 0, 0) else ((.aload_n 2), 0, 0, 0)) else (bif Nat.blt pc 685 then ((.invokevirtual 152), 123, 1, 1) else (bif Nat.blt pc 687 then ((.iload 6), 0, 0, 0) else ((.if_icmp .eq 5), 692, 0, 0)))) else (bif Nat.blt pc 694 then (bif Nat.blt pc 691 then ((.iconst 0), 0, 0, 0) else (bif Nat.blt pc 692 then ((.ireturn), 1, 0, 0) else ((.iload 6), 0, 0, 0))) else (bif Nat.blt pc 697 then ((.ifCond .ne 22), 716, 0, 0) else (bif Nat.blt pc 698 then ((.aload_n 3), 0, 0, 0) else ((.iconst 0), 0, 0, 0))))) else (bif Nat.blt pc 710 then (bif Nat.blt pc 705 then (bif Nat.blt pc 700 then ((.laload), 0, 0, 0) else (bif Nat.blt pc 702 then ((.iload 7), 0, 0, 0) else ((.ifCond .eq 7), 709, 0, 0))) else (bif Nat.blt pc 706 then ((.lconst 1), 0, 0, 0) else (bif Nat.blt pc 709 then ((.goto 4), 710, 0, 0) else ((.lconst 0), 0, 0, 0)))) else (bif Nat.blt pc 715 then (bif Nat.blt pc 711 then ((.lcmp), 0, 0, 0) else (bif Nat.blt pc 714 then ((.ifCond .eq 5), 716, 0, 0) else ((.iconst 0), 0, 0, 0))) else (bif Nat.blt pc 716 then ((.ireturn), 1, 0, 0) else (bif Nat.blt pc 719 then ((.goto 1847), 2563, 0, 0) else ((.aload_n 1), 0, 0, 0))))))) else (bif Nat.blt pc 757 then (bif Nat.blt pc 736 then (bif Nat.blt pc 726 then (bif Nat.blt pc 723 then (bif Nat.blt pc 721 then ((.aload_n 0), 0, 0, 0) else ((.iload 5), 0, 0, 0)) else (bif Nat.blt pc 724 then ((.iconst 1), 0, 0, 0) else (bif Nat.blt pc 725 then ((.iadd), 0, 0, 0) else ((.iaload), 0, 0, 0)))) else (bif Nat.blt pc 732 then (bif Nat.blt pc 727 then ((.aload_n 3), 0, 0, 0) else (bif Nat.blt pc 730 then ((.invokestatic 193), 210, 3, 0) else ((.istore 6), 0, 0, 0))) else (bif Nat.blt pc 733 then ((.aload_n 2), 0, 0, 0) else (bif Nat.blt pc 734 then ((.aload_n 0), 0, 0, 0) else ((.iload 5), 0, 0, 0))))) else (bif Nat.blt pc 745 then (bif Nat.blt pc 739 then (bif Nat.blt pc 737 then ((.iconst 1), 0, 0, 0) else (bif Nat.blt pc 738 then ((.iadd), 0, 0, 0) else ((.iaload), 0, 0, 0))) else (bif Nat.blt pc 742 then ((.invokevirtual 195), 149, 2, 1) else (bif Nat.blt pc 744 then ((.istore 7), 0, 0, 0) else ((.aload_n 2), 0, 0, 0)))) else (bif Nat.blt pc 753 then (bif Nat.blt pc 748 then ((.invokevirtual 152), 123, 1, 1) else (bif Nat.blt pc 750 then ((.iload 6), 0, 0, 0) else ((.if_icmp .eq 5), 755, 0, 0))) else (bif Nat.blt pc 754 then ((.iconst 0), 0, 0, 0) else (bif Nat.blt pc 755 then ((.ireturn), 1, 0, 0) else ((.iload 6), 0, 0, 0)))))) else (bif Nat.blt pc 777 then (bif Nat.blt pc 765 then (bif Nat.blt pc 761 then (bif Nat.blt pc 760 then ((.ifCond .ne 22), 779, 0, 0) else ((.aload_n 3), 0, 0, 0)) else (bif Nat.blt pc 762 then ((.iconst 0), 0, 0, 0) else (bif Nat.blt pc 763 then ((.laload), 0, 0, 0) else ((.iload 7), 0, 0, 0)))) else (bif Nat.blt pc 772 then (bif Nat.blt pc 768 then ((.ifCond .eq 7), 772, 0, 0) else (bif Nat.blt pc 769 then ((.lconst 1), 0, 0, 0) else ((.goto 4), 773, 0, 0))) else (bif Nat.blt pc 773 then ((.lconst 0), 0, 0, 0) else (bif Nat.blt pc 774 then ((.lcmp), 0, 0, 0) else ((.ifCond .eq 5), 779, 0, 0))))) else (bif Nat.blt pc 786 then (bif Nat.blt pc 782 then (bif Nat.blt pc 778 then ((.iconst 0), 0, 0, 0) else (bif Nat.blt pc 779 then ((.ireturn), 1, 0, 0) else ((.goto 1784), 2563, 0, 0))) else (bif Nat.blt pc 783 then ((.aload_n 1), 0, 0, 0) else (bif Nat.blt pc 784 then ((.aload_n 0), 0, 0, 0) else ((.iload 5), 0, 0, 0)))) else (bif Nat.blt pc 789 then (bif Nat.blt pc 787 then ((.iconst 1), 0, 0, 0) else (bif Nat.blt pc 788 then ((.iadd), 0, 0, 0) else ((.iaload), 0, 0, 0))) else (bif Nat.blt pc 790 then ((.aload_n 3), 0, 0, 0) else (bif Nat.blt pc 793 then ((.invokestatic 196), 211, 3, 0) else ((.istore 6), 0, 0, 0)))))))))) else (bif Nat.blt pc 1091 then (bif Nat.blt pc 940 then (bif Nat.blt pc 867 then (bif Nat.blt pc 830 then (bif Nat.blt pc 813 then (bif Nat.blt pc 801 then (bif Nat.blt pc 797 then (bif Nat.blt pc 796 then ((.aload_n 2), 0, 0, 0) else ((.aload_n 0), 0, 0, 0)) else (bif Nat.blt pc 799 then ((.iload 5), 0, 0, 0) else (bif Nat.blt pc 800 then ((.iconst 1), 0, 0, 0) else ((.iadd), 0, 0, 0)))) else (bif Nat.blt pc 807 then (bif Nat.blt pc 802 then ((.iaload), 0, 0, 0) else (bif Nat.blt pc 805 then ((.invokevirtual 198), 151, 2, 1) else ((.istore 7), 0, 0, 0))) else (bif Nat.blt pc 808 then ((.aload_n 2), 0, 0, 0) else (bif Nat.blt pc 811 then ((.invokevirtual 152), 123, 1, 1) else ((.iload 6), 0, 0, 0))))) else (bif Nat.blt pc 823 then (bif Nat.blt pc 817 then (bif Nat.blt pc 816 then ((.if_icmp .eq 5), 818, 0, 0) else ((.iconst 0), 0, 0, 0)) else (bif Nat.blt pc 818 then ((.ireturn), 1, 0, 0) else (bif Nat.blt pc 820 then ((.iload 6), 0, 0, 0) else ((.ifCond .ne 15), 835, 0, 0)))) else (bif Nat.blt pc 826 then (bif Nat.blt pc 824 then ((.aload_n 3), 0, 0, 0) else (bif Nat.blt pc 825 then ((.iconst 0), 0, 0, 0) else ((.laload), 0, 0, 0))) else (bif Nat.blt pc 828 then ((.iload 7), 0, 0, 0) else (bif Nat.blt pc 829 then ((.i2l), 0, 0, 0) else ((.lcmp), 0, 0, 0)))))) else (bif Nat.blt pc 846 then (bif Nat.blt pc 839 then (bif Nat.blt pc 834 then (bif Nat.blt pc 833 then ((.ifCond .eq 5), 835, 0, 0) else ((.iconst 0), 0, 0, 0)) else (bif Nat.blt pc 835 then ((.ireturn), 1, 0, 0) else (bif Nat.blt pc 838 then ((.goto 1728), 2563, 0, 0) else ((.aload_n 1), 0, 0, 0)))) else (bif Nat.blt pc 843 then (bif Nat.blt pc 840 then ((.aload_n 0), 0, 0, 0) else (bif Nat.blt pc 842 then ((.iload 5), 0, 0, 0) else ((.iconst 1), 0, 0, 0))) else (bif Nat.blt pc 844 then ((.iadd), 0, 0, 0) else (bif Nat.blt pc 845 then ((.iaload), 0, 0, 0) else ((.aload_n 3), 0, 0, 0))))) else (bif Nat.blt pc 856 then (bif Nat.blt pc 852 then (bif Nat.blt pc 849 then ((.invokestatic 199), 212, 3, 0) else (bif Nat.blt pc 851 then ((.istore 6), 0, 0, 0) else ((.aload_n 2), 0, 0, 0))) else (bif Nat.blt pc 853 then ((.aload_n 0), 0, 0, 0) else (bif Nat.blt pc 855 then ((.iload 5), 0, 0, 0) else ((.iconst 1), 0, 0, 0)))) else (bif Nat.blt pc 861 then (bif Nat.blt pc 857 then ((.iadd), 0, 0, 0) else (bif Nat.blt pc 858 then ((.iaload), 0, 0, 0) else ((.invokevirtual 201), 152, 2, 1))) else (bif Nat.blt pc 863 then ((.istore 7), 0, 0, 0) else (bif Nat.blt pc 864 then ((.aload_n 2), 0, 0, 0) else ((.invokevirtual 152), 123, 1, 1))))))) else (bif Nat.blt pc 906 then (bif Nat.blt pc 885 then (bif Nat.blt pc 876 then (bif Nat.blt pc 872 then (bif Nat.blt pc 869 then ((.iload 6), 0, 0, 0) else ((.if_icmp .eq 5), 874, 0, 0)) else (bif Nat.blt pc 873 then ((.iconst 0), 0, 0, 0) else (bif Nat.blt pc 874 then ((.ireturn), 1, 0, 0) else ((.iload 6), 0, 0, 0)))) else (bif Nat.blt pc 881 then (bif Nat.blt pc 879 then ((.ifCond .ne 15), 891, 0, 0) else (bif Nat.blt pc 880 then ((.aload_n 3), 0, 0, 0) else ((.iconst 0), 0, 0, 0))) else (bif Nat.blt pc 882 then ((.laload), 0, 0, 0) else (bif Nat.blt pc 884 then ((.iload 7), 0, 0, 0) else ((.i2l), 0, 0, 0))))) else (bif Nat.blt pc 894 then (bif Nat.blt pc 889 then (bif Nat.blt pc 886 then ((.lcmp), 0, 0, 0) else ((.ifCond .eq 5), 891, 0, 0)) else (bif Nat.blt pc 890 then ((.iconst 0), 0, 0, 0) else (bif Nat.blt pc 891 then ((.ireturn), 1, 0, 0) else ((.goto 1672), 2563, 0, 0)))) else (bif Nat.blt pc 899 then (bif Nat.blt pc 895 then ((.aload_n 1), 0, 0, 0) else (bif Nat.blt pc 898 then ((.invokevirtual 202), 72, 1, 1) else ((.aload_n 2), 0, 0, 0))) else (bif Nat.blt pc 902 then ((.invokevirtual 205), 153, 1, 1) else (bif Nat.blt pc 905 then ((.if_icmp .eq 1661), 2563, 0, 0) else ((.iconst 0), 0, 0, 0)))))) else (bif Nat.blt pc 924 then (bif Nat.blt pc 915 then (bif Nat.blt pc 908 then (bif Nat.blt pc 907 then ((.ireturn), 1, 0, 0) else ((.aload_n 1), 0, 0, 0)) else (bif Nat.blt pc 911 then ((.invokevirtual 206), 73, 1, 1) else (bif Nat.blt pc 912 then ((.aload_n 2), 0, 0, 0) else ((.invokevirtual 209), 154, 1, 1)))) else (bif Nat.blt pc 920 then (bif Nat.blt pc 918 then ((.if_icmp .eq 1648), 2563, 0, 0) else (bif Nat.blt pc 919 then ((.iconst 0), 0, 0, 0) else ((.ireturn), 1, 0, 0))) else (bif Nat.blt pc 921 then ((.aload_n 1), 0, 0, 0) else (bif Nat.blt pc 922 then ((.aload_n 0), 0, 0, 0) else ((.iload 5), 0, 0, 0))))) else (bif Nat.blt pc 933 then (bif Nat.blt pc 927 then (bif Nat.blt pc 925 then ((.iconst 1), 0, 0, 0) else (bif Nat.blt pc 926 then ((.iadd), 0, 0, 0) else ((.iaload), 0, 0, 0))) else (bif Nat.blt pc 928 then ((.aload_n 3), 0, 0, 0) else (bif Nat.blt pc 931 then ((.invokestatic 210), 213, 3, 0) else ((.istore 6), 0, 0, 0)))) else (bif Nat.blt pc 937 then (bif Nat.blt pc 934 then ((.aload_n 2), 0, 0, 0) else (bif Nat.blt pc 935 then ((.aload_n 0), 0, 0, 0) else ((.iload 5), 0, 0, 0))) else (bif Nat.blt pc 938 then ((.iconst 1), 0, 0, 0) else (bif Nat.blt pc 939 then ((.iadd), 0, 0, 0) else ((.iaload), 0, 0, 0)))))))) else (bif Nat.blt pc 1018 then (bif Nat.blt pc 978 then (bif Nat.blt pc 962 then (bif Nat.blt pc 951 then (bif Nat.blt pc 945 then (bif Nat.blt pc 943 then ((.invokevirtual 212), 155, 2, 1) else ((.istore 7), 0, 0, 0)) else (bif Nat.blt pc 946 then ((.aload_n 2), 0, 0, 0) else (bif Nat.blt pc 949 then ((.invokevirtual 152), 123, 1, 1) else ((.iload 6), 0, 0, 0)))) else (bif Nat.blt pc 956 then (bif Nat.blt pc 954 then ((.if_icmp .eq 5), 956, 0, 0) else (bif Nat.blt pc 955 then ((.iconst 0), 0, 0, 0) else ((.ireturn), 1, 0, 0))) else (bif Nat.blt pc 958 then ((.iload 6), 0, 0, 0) else (bif Nat.blt pc 961 then ((.ifCond .ne 15), 973, 0, 0) else ((.aload_n 3), 0, 0, 0))))) else (bif Nat.blt pc 968 then (bif Nat.blt pc 964 then (bif Nat.blt pc 963 then ((.iconst 0), 0, 0, 0) else ((.laload), 0, 0, 0)) else (bif Nat.blt pc 966 then ((.iload 7), 0, 0, 0) else (bif Nat.blt pc 967 then ((.i2l), 0, 0, 0) else ((.lcmp), 0, 0, 0)))) else (bif Nat.blt pc 973 then (bif Nat.blt pc 971 then ((.ifCond .eq 5), 973, 0, 0) else (bif Nat.blt pc 972 then ((.iconst 0), 0, 0, 0) else ((.ireturn), 1, 0, 0))) else (bif Nat.blt pc 976 then ((.goto 1590), 2563, 0, 0) else (bif Nat.blt pc 977 then ((.aload_n 1), 0, 0, 0) else ((.aload_n 0), 0, 0, 0)))))) else (bif Nat.blt pc 995 then (bif Nat.blt pc 985 then (bif Nat.blt pc 981 then (bif Nat.blt pc 980 then ((.iload 5), 0, 0, 0) else ((.iconst 1), 0, 0, 0)) else (bif Nat.blt pc 982 then ((.iadd), 0, 0, 0) else (bif Nat.blt pc 983 then ((.iaload), 0, 0, 0) else ((.aload 4), 0, 0, 0)))) else (bif Nat.blt pc 991 then (bif Nat.blt pc 988 then ((.invokestatic 213), 214, 3, 0) else (bif Nat.blt pc 990 then ((.istore 6), 0, 0, 0) else ((.aload_n 2), 0, 0, 0))) else (bif Nat.blt pc 992 then ((.aload_n 0), 0, 0, 0) else (bif Nat.blt pc 994 then ((.iload 5), 0, 0, 0) else ((.iconst 1), 0, 0, 0))))) else (bif Nat.blt pc 1006 then (bif Nat.blt pc 1000 then (bif Nat.blt pc 996 then ((.iadd), 0, 0, 0) else (bif Nat.blt pc 997 then ((.iaload), 0, 0, 0) else ((.invokevirtual 216), 156, 2, 1))) else (bif Nat.blt pc 1002 then ((.fstore 7), 0, 0, 0) else (bif Nat.blt pc 1003 then ((.aload_n 2), 0, 0, 0) else ((.invokevirtual 152), 123, 1, 1)))) else (bif Nat.blt pc 1012 then (bif Nat.blt pc 1008 then ((.iload 6), 0, 0, 0) else (bif Nat.blt pc 1011 then ((.if_icmp .eq 5), 1013, 0, 0) else ((.iconst 0), 0, 0, 0))) else (bif Nat.blt pc 1013 then ((.ireturn), 1, 0, 0) else (bif Nat.blt pc 1015 then ((.iload 6), 0, 0, 0) else ((.ifCond .ne 36), 1051, 0, 0))))))) else (bif Nat.blt pc 1055 then (bif Nat.blt pc 1035 then (bif Nat.blt pc 1025 then (bif Nat.blt pc 1021 then (bif Nat.blt pc 1020 then ((.aload 4), 0, 0, 0) else ((.iconst 0), 0, 0, 0)) else (bif Nat.blt pc 1022 then ((.daload), 0, 0, 0) else (bif Nat.blt pc 1024 then ((.fload 7), 0, 0, 0) else ((.f2d), 0, 0, 0)))) else (bif Nat.blt pc 1031 then (bif Nat.blt pc 1026 then ((.dcmp .l), 0, 0, 0) else (bif Nat.blt pc 1029 then ((.ifCond .eq 25), 1051, 0, 0) else ((.aload 4), 0, 0, 0))) else (bif Nat.blt pc 1032 then ((.iconst 0), 0, 0, 0) else (bif Nat.blt pc 1033 then ((.daload), 0, 0, 0) else ((.aload 4), 0, 0, 0))))) else (bif Nat.blt pc 1045 then (bif Nat.blt pc 1038 then (bif Nat.blt pc 1036 then ((.iconst 0), 0, 0, 0) else (bif Nat.blt pc 1037 then ((.daload), 0, 0, 0) else ((.dcmp .l), 0, 0, 0))) else (bif Nat.blt pc 1041 then ((.ifCond .eq 11), 1049, 0, 0) else (bif Nat.blt pc 1043 then ((.fload 7), 0, 0, 0) else ((.fload 7), 0, 0, 0)))) else (bif Nat.blt pc 1050 then (bif Nat.blt pc 1046 then ((.fcmp .l), 0, 0, 0) else (bif Nat.blt pc 1049 then ((.ifCond .ne 5), 1051, 0, 0) else ((.iconst 0), 0, 0, 0))) else (bif Nat.blt pc 1051 then ((.ireturn), 1, 0, 0) else (bif Nat.blt pc 1054 then ((.goto 1512), 2563, 0, 0) else ((.aload_n 1), 0, 0, 0)))))) else (bif Nat.blt pc 1073 then (bif Nat.blt pc 1061 then (bif Nat.blt pc 1058 then (bif Nat.blt pc 1056 then ((.aload_n 0), 0, 0, 0) else ((.iload 5), 0, 0, 0)) else (bif Nat.blt pc 1059 then ((.iconst 1), 0, 0, 0) else (bif Nat.blt pc 1060 then ((.iadd), 0, 0, 0) else ((.iaload), 0, 0, 0)))) else (bif Nat.blt pc 1066 then (bif Nat.blt pc 1062 then ((.i2d), 0, 0, 0) else (bif Nat.blt pc 1065 then ((.ldc2_w 217), 4593671619917905920, 0, 0) else ((.dmul), 0, 0, 0))) else (bif Nat.blt pc 1068 then ((.aload 4), 0, 0, 0) else (bif Nat.blt pc 1071 then ((.invokestatic 219), 215, 3, 0) else ((.istore 6), 0, 0, 0))))) else (bif Nat.blt pc 1080 then (bif Nat.blt pc 1077 then (bif Nat.blt pc 1074 then ((.aload_n 2), 0, 0, 0) else (bif Nat.blt pc 1075 then ((.aload_n 0), 0, 0, 0) else ((.iload 5), 0, 0, 0))) else (bif Nat.blt pc 1078 then ((.iconst 1), 0, 0, 0) else (bif Nat.blt pc 1079 then ((.iadd), 0, 0, 0) else ((.iaload), 0, 0, 0)))) else (bif Nat.blt pc 1085 then (bif Nat.blt pc 1081 then ((.i2d), 0, 0, 0) else (bif Nat.blt pc 1084 then ((.ldc2_w 217), 4593671619917905920, 0, 0) else ((.dmul), 0, 0, 0))) else (bif Nat.blt pc 1088 then ((.invokevirtual 222), 157, 2, 1) else (bif Nat.blt pc 1090 then ((.dstore 7), 0, 0, 0) else ((.aload_n 2), 0, 0, 0))))))))) else (bif Nat.blt pc 1248 then (bif Nat.blt pc 1174 then (bif Nat.blt pc 1130 then (bif Nat.blt pc 1112 then (bif Nat.blt pc 1101 then (bif Nat.blt pc 1096 then (bif Nat.blt pc 1094 then ((.invokevirtual 152), 123, 1, 1) else ((.iload 6), 0, 0, 0)) else (bif Nat.blt pc 1099 then ((.if_icmp .eq 5), 1101, 0, 0) else (bif Nat.blt pc 1100 then ((.iconst 0), 0, 0, 0) else ((.ireturn), 1, 0, 0)))) else (bif Nat.blt pc 1108 then (bif Nat.blt pc 1103 then ((.iload 6), 0, 0, 0) else (bif Nat.blt pc 1106 then ((.ifCond .ne 35), 1138, 0, 0) else ((.aload 4), 0, 0, 0))) else (bif Nat.blt pc 1109 then ((.iconst 0), 0, 0, 0) else (bif Nat.blt pc 1110 then ((.daload), 0, 0, 0) else ((.dload 7), 0, 0, 0))))) else (bif Nat.blt pc 1120 then (bif Nat.blt pc 1116 then (bif Nat.blt pc 1113 then ((.dcmp .l), 0, 0, 0) else ((.ifCond .eq 25), 1138, 0, 0)) else (bif Nat.blt pc 1118 then ((.aload 4), 0, 0, 0) else (bif Nat.blt pc 1119 then ((.iconst 0), 0, 0, 0) else ((.daload), 0, 0, 0)))) else (bif Nat.blt pc 1124 then (bif Nat.blt pc 1122 then ((.aload 4), 0, 0, 0) else (bif Nat.blt pc 1123 then ((.iconst 0), 0, 0, 0) else ((.daload), 0, 0, 0))) else (bif Nat.blt pc 1125 then ((.dcmp .l), 0, 0, 0) else (bif Nat.blt pc 1128 then ((.ifCond .eq 11), 1136, 0, 0) else ((.dload 7), 0, 0, 0)))))) else (bif Nat.blt pc 1150 then (bif Nat.blt pc 1138 then (bif Nat.blt pc 1133 then (bif Nat.blt pc 1132 then ((.dload 7), 0, 0, 0) else ((.dcmp .l), 0, 0, 0)) else (bif Nat.blt pc 1136 then ((.ifCond .ne 5), 1138, 0, 0) else (bif Nat.blt pc 1137 then ((.iconst 0), 0, 0, 0) else ((.ireturn), 1, 0, 0)))) else (bif Nat.blt pc 1144 then (bif Nat.blt pc 1141 then ((.goto 1425), 2563, 0, 0) else (bif Nat.blt pc 1142 then ((.aload_n 1), 0, 0, 0) else ((.aload 4), 0, 0, 0))) else (bif Nat.blt pc 1147 then ((.invokestatic 223), 216, 2, 0) else (bif Nat.blt pc 1149 then ((.istore 6), 0, 0, 0) else ((.aload_n 2), 0, 0, 0))))) else (bif Nat.blt pc 1164 then (bif Nat.blt pc 1156 then (bif Nat.blt pc 1153 then ((.invokevirtual 226), 160, 1, 1) else (bif Nat.blt pc 1155 then ((.dstore 7), 0, 0, 0) else ((.aload_n 2), 0, 0, 0))) else (bif Nat.blt pc 1159 then ((.invokevirtual 152), 123, 1, 1) else (bif Nat.blt pc 1161 then ((.iload 6), 0, 0, 0) else ((.if_icmp .eq 5), 1166, 0, 0)))) else (bif Nat.blt pc 1168 then (bif Nat.blt pc 1165 then ((.iconst 0), 0, 0, 0) else (bif Nat.blt pc 1166 then ((.ireturn), 1, 0, 0) else ((.iload 6), 0, 0, 0))) else (bif Nat.blt pc 1171 then ((.ifCond .ne 35), 1203, 0, 0) else (bif Nat.blt pc 1173 then ((.aload 4), 0, 0, 0) else ((.iconst 0), 0, 0, 0))))))) else (bif Nat.blt pc 1210 then (bif Nat.blt pc 1190 then (bif Nat.blt pc 1183 then (bif Nat.blt pc 1177 then (bif Nat.blt pc 1175 then ((.daload), 0, 0, 0) else ((.dload 7), 0, 0, 0)) else (bif Nat.blt pc 1178 then ((.dcmp .l), 0, 0, 0) else (bif Nat.blt pc 1181 then ((.ifCond .eq 25), 1203, 0, 0) else ((.aload 4), 0, 0, 0)))) else (bif Nat.blt pc 1187 then (bif Nat.blt pc 1184 then ((.iconst 0), 0, 0, 0) else (bif Nat.blt pc 1185 then ((.daload), 0, 0, 0) else ((.aload 4), 0, 0, 0))) else (bif Nat.blt pc 1188 then ((.iconst 0), 0, 0, 0) else (bif Nat.blt pc 1189 then ((.daload), 0, 0, 0) else ((.dcmp .l), 0, 0, 0))))) else (bif Nat.blt pc 1201 then (bif Nat.blt pc 1195 then (bif Nat.blt pc 1193 then ((.ifCond .eq 11), 1201, 0, 0) else ((.dload 7), 0, 0, 0)) else (bif Nat.blt pc 1197 then ((.dload 7), 0, 0, 0) else (bif Nat.blt pc 1198 then ((.dcmp .l), 0, 0, 0) else ((.ifCond .ne 5), 1203, 0, 0)))) else (bif Nat.blt pc 1206 then (bif Nat.blt pc 1202 then ((.iconst 0), 0, 0, 0) else (bif Nat.blt pc 1203 then ((.ireturn), 1, 0, 0) else ((.goto 1360), 2563, 0, 0))) else (bif Nat.blt pc 1207 then ((.aload_n 1), 0, 0, 0) else (bif Nat.blt pc 1208 then ((.aload_n 0), 0, 0, 0) else ((.iload 5), 0, 0, 0)))))) else (bif Nat.blt pc 1225 then (bif Nat.blt pc 1217 then (bif Nat.blt pc 1212 then (bif Nat.blt pc 1211 then ((.iconst 1), 0, 0, 0) else ((.iadd), 0, 0, 0)) else (bif Nat.blt pc 1213 then ((.iaload), 0, 0, 0) else (bif Nat.blt pc 1214 then ((.aload_n 3), 0, 0, 0) else ((.invokestatic 227), 217, 3, 0)))) else (bif Nat.blt pc 1221 then (bif Nat.blt pc 1219 then ((.istore 6), 0, 0, 0) else (bif Nat.blt pc 1220 then ((.aload_n 2), 0, 0, 0) else ((.aload_n 0), 0, 0, 0))) else (bif Nat.blt pc 1223 then ((.iload 5), 0, 0, 0) else (bif Nat.blt pc 1224 then ((.iconst 1), 0, 0, 0) else ((.iadd), 0, 0, 0))))) else (bif Nat.blt pc 1237 then (bif Nat.blt pc 1231 then (bif Nat.blt pc 1226 then ((.iaload), 0, 0, 0) else (bif Nat.blt pc 1229 then ((.invokevirtual 229), 161, 2, 1) else ((.istore 7), 0, 0, 0))) else (bif Nat.blt pc 1232 then ((.aload_n 2), 0, 0, 0) else (bif Nat.blt pc 1235 then ((.invokevirtual 152), 123, 1, 1) else ((.iload 6), 0, 0, 0)))) else (bif Nat.blt pc 1242 then (bif Nat.blt pc 1240 then ((.if_icmp .eq 5), 1242, 0, 0) else (bif Nat.blt pc 1241 then ((.iconst 0), 0, 0, 0) else ((.ireturn), 1, 0, 0))) else (bif Nat.blt pc 1244 then ((.iload 6), 0, 0, 0) else (bif Nat.blt pc 1247 then ((.ifCond .ne 15), 1259, 0, 0) else ((.aload_n 3), 0, 0, 0)))))))) else (bif Nat.blt pc 1327 then (bif Nat.blt pc 1286 then (bif Nat.blt pc 1264 then (bif Nat.blt pc 1254 then (bif Nat.blt pc 1250 then (bif Nat.blt pc 1249 then ((.iconst 0), 0, 0, 0) else ((.laload), 0, 0, 0)) else (bif Nat.blt pc 1252 then ((.iload 7), 0, 0, 0) else (bif Nat.blt pc 1253 then ((.i2l), 0, 0, 0) else ((.lcmp), 0, 0, 0)))) else (bif Nat.blt pc 1259 then (bif Nat.blt pc 1257 then ((.ifCond .eq 5), 1259, 0, 0) else (bif Nat.blt pc 1258 then ((.iconst 0), 0, 0, 0) else ((.ireturn), 1, 0, 0))) else (bif Nat.blt pc 1262 then ((.goto 1304), 2563, 0, 0) else (bif Nat.blt pc 1263 then ((.aload_n 1), 0, 0, 0) else ((.aload_n 3), 0, 0, 0))))) else (bif Nat.blt pc 1275 then (bif Nat.blt pc 1269 then (bif Nat.blt pc 1267 then ((.invokestatic 230), 218, 2, 0) else ((.istore 6), 0, 0, 0)) else (bif Nat.blt pc 1270 then ((.aload_n 2), 0, 0, 0) else (bif Nat.blt pc 1273 then ((.invokevirtual 233), 163, 1, 1) else ((.istore 7), 0, 0, 0)))) else (bif Nat.blt pc 1281 then (bif Nat.blt pc 1276 then ((.aload_n 2), 0, 0, 0) else (bif Nat.blt pc 1279 then ((.invokevirtual 152), 123, 1, 1) else ((.iload 6), 0, 0, 0))) else (bif Nat.blt pc 1284 then ((.if_icmp .eq 5), 1286, 0, 0) else (bif Nat.blt pc 1285 then ((.iconst 0), 0, 0, 0) else ((.ireturn), 1, 0, 0)))))) else (bif Nat.blt pc 1305 then (bif Nat.blt pc 1294 then (bif Nat.blt pc 1291 then (bif Nat.blt pc 1288 then ((.iload 6), 0, 0, 0) else ((.ifCond .ne 22), 1310, 0, 0)) else (bif Nat.blt pc 1292 then ((.aload_n 3), 0, 0, 0) else (bif Nat.blt pc 1293 then ((.iconst 0), 0, 0, 0) else ((.laload), 0, 0, 0)))) else (bif Nat.blt pc 1300 then (bif Nat.blt pc 1296 then ((.iload 7), 0, 0, 0) else (bif Nat.blt pc 1299 then ((.ifCond .eq 7), 1303, 0, 0) else ((.lconst 1), 0, 0, 0))) else (bif Nat.blt pc 1303 then ((.goto 4), 1304, 0, 0) else (bif Nat.blt pc 1304 then ((.lconst 0), 0, 0, 0) else ((.lcmp), 0, 0, 0))))) else (bif Nat.blt pc 1315 then (bif Nat.blt pc 1310 then (bif Nat.blt pc 1308 then ((.ifCond .eq 5), 1310, 0, 0) else (bif Nat.blt pc 1309 then ((.iconst 0), 0, 0, 0) else ((.ireturn), 1, 0, 0))) else (bif Nat.blt pc 1313 then ((.goto 1253), 2563, 0, 0) else (bif Nat.blt pc 1314 then ((.aload_n 1), 0, 0, 0) else ((.aload_n 3), 0, 0, 0)))) else (bif Nat.blt pc 1321 then (bif Nat.blt pc 1318 then ((.invokestatic 234), 219, 2, 0) else (bif Nat.blt pc 1320 then ((.istore 6), 0, 0, 0) else ((.aload_n 2), 0, 0, 0))) else (bif Nat.blt pc 1324 then ((.invokevirtual 236), 164, 1, 1) else (bif Nat.blt pc 1326 then ((.istore 7), 0, 0, 0) else ((.aload_n 2), 0, 0, 0))))))) else (bif Nat.blt pc 1364 then (bif Nat.blt pc 1347 then (bif Nat.blt pc 1337 then (bif Nat.blt pc 1332 then (bif Nat.blt pc 1330 then ((.invokevirtual 152), 123, 1, 1) else ((.iload 6), 0, 0, 0)) else (bif Nat.blt pc 1335 then ((.if_icmp .eq 5), 1337, 0, 0) else (bif Nat.blt pc 1336 then ((.iconst 0), 0, 0, 0) else ((.ireturn), 1, 0, 0)))) else (bif Nat.blt pc 1343 then (bif Nat.blt pc 1339 then ((.iload 6), 0, 0, 0) else (bif Nat.blt pc 1342 then ((.ifCond .ne 15), 1354, 0, 0) else ((.aload_n 3), 0, 0, 0))) else (bif Nat.blt pc 1344 then ((.iconst 0), 0, 0, 0) else (bif Nat.blt pc 1345 then ((.laload), 0, 0, 0) else ((.iload 7), 0, 0, 0))))) else (bif Nat.blt pc 1357 then (bif Nat.blt pc 1352 then (bif Nat.blt pc 1348 then ((.i2l), 0, 0, 0) else (bif Nat.blt pc 1349 then ((.lcmp), 0, 0, 0) else ((.ifCond .eq 5), 1354, 0, 0))) else (bif Nat.blt pc 1353 then ((.iconst 0), 0, 0, 0) else (bif Nat.blt pc 1354 then ((.ireturn), 1, 0, 0) else ((.goto 1209), 2563, 0, 0)))) else (bif Nat.blt pc 1361 then (bif Nat.blt pc 1358 then ((.aload_n 1), 0, 0, 0) else (bif Nat.blt pc 1359 then ((.aload_n 0), 0, 0, 0) else ((.iload 5), 0, 0, 0))) else (bif Nat.blt pc 1362 then ((.iconst 1), 0, 0, 0) else (bif Nat.blt pc 1363 then ((.iadd), 0, 0, 0) else ((.iaload), 0, 0, 0)))))) else (bif Nat.blt pc 1382 then (bif Nat.blt pc 1372 then (bif Nat.blt pc 1368 then (bif Nat.blt pc 1365 then ((.aload_n 3), 0, 0, 0) else ((.invokestatic 237), 220, 3, 0)) else (bif Nat.blt pc 1370 then ((.istore 6), 0, 0, 0) else (bif Nat.blt pc 1371 then ((.aload_n 2), 0, 0, 0) else ((.aload_n 0), 0, 0, 0)))) else (bif Nat.blt pc 1376 then (bif Nat.blt pc 1374 then ((.iload 5), 0, 0, 0) else (bif Nat.blt pc 1375 then ((.iconst 1), 0, 0, 0) else ((.iadd), 0, 0, 0))) else (bif Nat.blt pc 1377 then ((.iaload), 0, 0, 0) else (bif Nat.blt pc 1380 then ((.invokevirtual 239), 165, 2, 1) else ((.istore 7), 0, 0, 0))))) else (bif Nat.blt pc 1393 then (bif Nat.blt pc 1388 then (bif Nat.blt pc 1383 then ((.aload_n 2), 0, 0, 0) else (bif Nat.blt pc 1386 then ((.invokevirtual 152), 123, 1, 1) else ((.iload 6), 0, 0, 0))) else (bif Nat.blt pc 1391 then ((.if_icmp .eq 5), 1393, 0, 0) else (bif Nat.blt pc 1392 then ((.iconst 0), 0, 0, 0) else ((.ireturn), 1, 0, 0)))) else (bif Nat.blt pc 1399 then (bif Nat.blt pc 1395 then ((.iload 6), 0, 0, 0) else (bif Nat.blt pc 1398 then ((.ifCond .ne 15), 1410, 0, 0) else ((.aload_n 3), 0, 0, 0))) else (bif Nat.blt pc 1400 then ((.iconst 0), 0, 0, 0) else (bif Nat.blt pc 1401 then ((.laload), 0, 0, 0) else ((.iload 7), 0, 0, 0))))))))))) else (bif Nat.blt pc 1988 then (bif Nat.blt pc 1691 then (bif Nat.blt pc 1544 then (bif Nat.blt pc 1471 then (bif Nat.blt pc 1434 then (bif Nat.blt pc 1419 then (bif Nat.blt pc 1410 then (bif Nat.blt pc 1405 then (bif Nat.blt pc 1404 then ((.i2l), 0, 0, 0) else ((.lcmp), 0, 0, 0)) else (bif Nat.blt pc 1408 then ((.ifCond .eq 5), 1410, 0, 0) else (bif Nat.blt pc 1409 then ((.iconst 0), 0, 0, 0) else ((.ireturn), 1, 0, 0)))) else (bif Nat.blt pc 1415 then (bif Nat.blt pc 1413 then ((.goto 1153), 2563, 0, 0) else (bif Nat.blt pc 1414 then ((.aload_n 1), 0, 0, 0) else ((.aload_n 0), 0, 0, 0))) else (bif Nat.blt pc 1417 then ((.iload 5), 0, 0, 0) else (bif Nat.blt pc 1418 then ((.iconst 1), 0, 0, 0) else ((.iadd), 0, 0, 0))))) else (bif Nat.blt pc 1425 then (bif Nat.blt pc 1421 then (bif Nat.blt pc 1420 then ((.iaload), 0, 0, 0) else ((.aload_n 0), 0, 0, 0)) else (bif Nat.blt pc 1423 then ((.iload 5), 0, 0, 0) else (bif Nat.blt pc 1424 then ((.iconst 2), 0, 0, 0) else ((.iadd), 0, 0, 0)))) else (bif Nat.blt pc 1430 then (bif Nat.blt pc 1426 then ((.iaload), 0, 0, 0) else (bif Nat.blt pc 1427 then ((.aload_n 3), 0, 0, 0) else ((.invokestatic 240), 221, 4, 0))) else (bif Nat.blt pc 1432 then ((.istore 6), 0, 0, 0) else (bif Nat.blt pc 1433 then ((.aload_n 2), 0, 0, 0) else ((.aload_n 0), 0, 0, 0)))))) else (bif Nat.blt pc 1450 then (bif Nat.blt pc 1440 then (bif Nat.blt pc 1437 then (bif Nat.blt pc 1436 then ((.iload 5), 0, 0, 0) else ((.iconst 1), 0, 0, 0)) else (bif Nat.blt pc 1438 then ((.iadd), 0, 0, 0) else (bif Nat.blt pc 1439 then ((.iaload), 0, 0, 0) else ((.aload_n 0), 0, 0, 0)))) else (bif Nat.blt pc 1444 then (bif Nat.blt pc 1442 then ((.iload 5), 0, 0, 0) else (bif Nat.blt pc 1443 then ((.iconst 2), 0, 0, 0) else ((.iadd), 0, 0, 0))) else (bif Nat.blt pc 1445 then ((.iaload), 0, 0, 0) else (bif Nat.blt pc 1448 then ((.invokevirtual 243), 166, 3, 1) else ((.istore 7), 0, 0, 0))))) else (bif Nat.blt pc 1461 then (bif Nat.blt pc 1456 then (bif Nat.blt pc 1451 then ((.aload_n 2), 0, 0, 0) else (bif Nat.blt pc 1454 then ((.invokevirtual 152), 123, 1, 1) else ((.iload 6), 0, 0, 0))) else (bif Nat.blt pc 1459 then ((.if_icmp .eq 5), 1461, 0, 0) else (bif Nat.blt pc 1460 then ((.iconst 0), 0, 0, 0) else ((.ireturn), 1, 0, 0)))) else (bif Nat.blt pc 1467 then (bif Nat.blt pc 1463 then ((.iload 6), 0, 0, 0) else (bif Nat.blt pc 1466 then ((.ifCond .ne 15), 1478, 0, 0) else ((.aload_n 3), 0, 0, 0))) else (bif Nat.blt pc 1468 then ((.iconst 0), 0, 0, 0) else (bif Nat.blt pc 1469 then ((.laload), 0, 0, 0) else ((.iload 7), 0, 0, 0))))))) else (bif Nat.blt pc 1511 then (bif Nat.blt pc 1489 then (bif Nat.blt pc 1478 then (bif Nat.blt pc 1473 then (bif Nat.blt pc 1472 then ((.i2l), 0, 0, 0) else ((.lcmp), 0, 0, 0)) else (bif Nat.blt pc 1476 then ((.ifCond .eq 5), 1478, 0, 0) else (bif Nat.blt pc 1477 then ((.iconst 0), 0, 0, 0) else ((.ireturn), 1, 0, 0)))) else (bif Nat.blt pc 1483 then (bif Nat.blt pc 1481 then ((.goto 1085), 2563, 0, 0) else (bif Nat.blt pc 1482 then ((.aload_n 1), 0, 0, 0) else ((.aload_n 3), 0, 0, 0))) else (bif Nat.blt pc 1486 then ((.invokestatic 244), 222, 2, 0) else (bif Nat.blt pc 1488 then ((.istore 6), 0, 0, 0) else ((.aload_n 2), 0, 0, 0))))) else (bif Nat.blt pc 1500 then (bif Nat.blt pc 1494 then (bif Nat.blt pc 1492 then ((.invokevirtual 246), 167, 1, 1) else ((.istore 7), 0, 0, 0)) else (bif Nat.blt pc 1495 then ((.aload_n 2), 0, 0, 0) else (bif Nat.blt pc 1498 then ((.invokevirtual 152), 123, 1, 1) else ((.iload 6), 0, 0, 0)))) else (bif Nat.blt pc 1505 then (bif Nat.blt pc 1503 then ((.if_icmp .eq 5), 1505, 0, 0) else (bif Nat.blt pc 1504 then ((.iconst 0), 0, 0, 0) else ((.ireturn), 1, 0, 0))) else (bif Nat.blt pc 1507 then ((.iload 6), 0, 0, 0) else (bif Nat.blt pc 1510 then ((.ifCond .ne 15), 1522, 0, 0) else ((.aload_n 3), 0, 0, 0)))))) else (bif Nat.blt pc 1527 then (bif Nat.blt pc 1517 then (bif Nat.blt pc 1513 then (bif Nat.blt pc 1512 then ((.iconst 0), 0, 0, 0) else ((.laload), 0, 0, 0)) else (bif Nat.blt pc 1515 then ((.iload 7), 0, 0, 0) else (bif Nat.blt pc 1516 then ((.i2l), 0, 0, 0) else ((.lcmp), 0, 0, 0)))) else (bif Nat.blt pc 1522 then (bif Nat.blt pc 1520 then ((.ifCond .eq 5), 1522, 0, 0) else (bif Nat.blt pc 1521 then ((.iconst 0), 0, 0, 0) else ((.ireturn), 1, 0, 0))) else (bif Nat.blt pc 1525 then ((.goto 1041), 2563, 0, 0) else (bif Nat.blt pc 1526 then ((.aload_n 1), 0, 0, 0) else ((.aload_n 0), 0, 0, 0))))) else (bif Nat.blt pc 1535 then (bif Nat.blt pc 1531 then (bif Nat.blt pc 1529 then ((.iload 5), 0, 0, 0) else (bif Nat.blt pc 1530 then ((.iconst 1), 0, 0, 0) else ((.iadd), 0, 0, 0))) else (bif Nat.blt pc 1532 then ((.iaload), 0, 0, 0) else (bif Nat.blt pc 1533 then ((.aload_n 0), 0, 0, 0) else ((.iload 5), 0, 0, 0)))) else (bif Nat.blt pc 1538 then (bif Nat.blt pc 1536 then ((.iconst 2), 0, 0, 0) else (bif Nat.blt pc 1537 then ((.iadd), 0, 0, 0) else ((.iaload), 0, 0, 0))) else (bif Nat.blt pc 1539 then ((.aload_n 3), 0, 0, 0) else (bif Nat.blt pc 1542 then ((.invokestatic 247), 223, 4, 0) else ((.istore 6), 0, 0, 0)))))))) else (bif Nat.blt pc 1615 then (bif Nat.blt pc 1579 then (bif Nat.blt pc 1557 then (bif Nat.blt pc 1550 then (bif Nat.blt pc 1546 then (bif Nat.blt pc 1545 then ((.aload_n 2), 0, 0, 0) else ((.aload_n 0), 0, 0, 0)) else (bif Nat.blt pc 1548 then ((.iload 5), 0, 0, 0) else (bif Nat.blt pc 1549 then ((.iconst 1), 0, 0, 0) else ((.iadd), 0, 0, 0)))) else (bif Nat.blt pc 1554 then (bif Nat.blt pc 1551 then ((.iaload), 0, 0, 0) else (bif Nat.blt pc 1552 then ((.aload_n 0), 0, 0, 0) else ((.iload 5), 0, 0, 0))) else (bif Nat.blt pc 1555 then ((.iconst 2), 0, 0, 0) else (bif Nat.blt pc 1556 then ((.iadd), 0, 0, 0) else ((.iaload), 0, 0, 0))))) else (bif Nat.blt pc 1568 then (bif Nat.blt pc 1562 then (bif Nat.blt pc 1560 then ((.invokevirtual 249), 172, 3, 1) else ((.istore 7), 0, 0, 0)) else (bif Nat.blt pc 1563 then ((.aload_n 2), 0, 0, 0) else (bif Nat.blt pc 1566 then ((.invokevirtual 152), 123, 1, 1) else ((.iload 6), 0, 0, 0)))) else (bif Nat.blt pc 1573 then (bif Nat.blt pc 1571 then ((.if_icmp .eq 5), 1573, 0, 0) else (bif Nat.blt pc 1572 then ((.iconst 0), 0, 0, 0) else ((.ireturn), 1, 0, 0))) else (bif Nat.blt pc 1575 then ((.iload 6), 0, 0, 0) else (bif Nat.blt pc 1578 then ((.ifCond .ne 22), 1597, 0, 0) else ((.aload_n 3), 0, 0, 0)))))) else (bif Nat.blt pc 1597 then (bif Nat.blt pc 1587 then (bif Nat.blt pc 1581 then (bif Nat.blt pc 1580 then ((.iconst 0), 0, 0, 0) else ((.laload), 0, 0, 0)) else (bif Nat.blt pc 1583 then ((.iload 7), 0, 0, 0) else (bif Nat.blt pc 1586 then ((.ifCond .eq 7), 1590, 0, 0) else ((.lconst 1), 0, 0, 0)))) else (bif Nat.blt pc 1592 then (bif Nat.blt pc 1590 then ((.goto 4), 1591, 0, 0) else (bif Nat.blt pc 1591 then ((.lconst 0), 0, 0, 0) else ((.lcmp), 0, 0, 0))) else (bif Nat.blt pc 1595 then ((.ifCond .eq 5), 1597, 0, 0) else (bif Nat.blt pc 1596 then ((.iconst 0), 0, 0, 0) else ((.ireturn), 1, 0, 0))))) else (bif Nat.blt pc 1606 then (bif Nat.blt pc 1602 then (bif Nat.blt pc 1600 then ((.goto 966), 2563, 0, 0) else (bif Nat.blt pc 1601 then ((.aload_n 1), 0, 0, 0) else ((.aload_n 0), 0, 0, 0))) else (bif Nat.blt pc 1604 then ((.iload 5), 0, 0, 0) else (bif Nat.blt pc 1605 then ((.iconst 1), 0, 0, 0) else ((.iadd), 0, 0, 0)))) else (bif Nat.blt pc 1611 then (bif Nat.blt pc 1607 then ((.iaload), 0, 0, 0) else (bif Nat.blt pc 1608 then ((.aload_n 3), 0, 0, 0) else ((.invokestatic 250), 224, 3, 0))) else (bif Nat.blt pc 1613 then ((.istore 6), 0, 0, 0) else (bif Nat.blt pc 1614 then ((.aload_n 2), 0, 0, 0) else ((.aload_n 0), 0, 0, 0))))))) else (bif Nat.blt pc 1654 then (bif Nat.blt pc 1635 then (bif Nat.blt pc 1623 then (bif Nat.blt pc 1618 then (bif Nat.blt pc 1617 then ((.iload 5), 0, 0, 0) else ((.iconst 1), 0, 0, 0)) else (bif Nat.blt pc 1619 then ((.iadd), 0, 0, 0) else (bif Nat.blt pc 1620 then ((.iaload), 0, 0, 0) else ((.invokevirtual 252), 173, 2, 1)))) else (bif Nat.blt pc 1629 then (bif Nat.blt pc 1625 then ((.istore 7), 0, 0, 0) else (bif Nat.blt pc 1626 then ((.aload_n 2), 0, 0, 0) else ((.invokevirtual 152), 123, 1, 1))) else (bif Nat.blt pc 1631 then ((.iload 6), 0, 0, 0) else (bif Nat.blt pc 1634 then ((.if_icmp .eq 5), 1636, 0, 0) else ((.iconst 0), 0, 0, 0))))) else (bif Nat.blt pc 1643 then (bif Nat.blt pc 1638 then (bif Nat.blt pc 1636 then ((.ireturn), 1, 0, 0) else ((.iload 6), 0, 0, 0)) else (bif Nat.blt pc 1641 then ((.ifCond .ne 22), 1660, 0, 0) else (bif Nat.blt pc 1642 then ((.aload_n 3), 0, 0, 0) else ((.iconst 0), 0, 0, 0)))) else (bif Nat.blt pc 1649 then (bif Nat.blt pc 1644 then ((.laload), 0, 0, 0) else (bif Nat.blt pc 1646 then ((.iload 7), 0, 0, 0) else ((.ifCond .eq 7), 1653, 0, 0))) else (bif Nat.blt pc 1650 then ((.lconst 1), 0, 0, 0) else (bif Nat.blt pc 1653 then ((.goto 4), 1654, 0, 0) else ((.lconst 0), 0, 0, 0)))))) else (bif Nat.blt pc 1675 then (bif Nat.blt pc 1663 then (bif Nat.blt pc 1658 then (bif Nat.blt pc 1655 then ((.lcmp), 0, 0, 0) else ((.ifCond .eq 5), 1660, 0, 0)) else (bif Nat.blt pc 1659 then ((.iconst 0), 0, 0, 0) else (bif Nat.blt pc 1660 then ((.ireturn), 1, 0, 0) else ((.goto 903), 2563, 0, 0)))) else (bif Nat.blt pc 1668 then (bif Nat.blt pc 1664 then ((.aload_n 1), 0, 0, 0) else (bif Nat.blt pc 1667 then ((.invokevirtual 253), 86, 1, 1) else ((.aload_n 2), 0, 0, 0))) else (bif Nat.blt pc 1671 then ((.invokevirtual 256), 174, 1, 1) else (bif Nat.blt pc 1674 then ((.if_icmp .eq 892), 2563, 0, 0) else ((.iconst 0), 0, 0, 0))))) else (bif Nat.blt pc 1682 then (bif Nat.blt pc 1678 then (bif Nat.blt pc 1676 then ((.ireturn), 1, 0, 0) else (bif Nat.blt pc 1677 then ((.aload_n 1), 0, 0, 0) else ((.aload_n 0), 0, 0, 0))) else (bif Nat.blt pc 1680 then ((.iload 5), 0, 0, 0) else (bif Nat.blt pc 1681 then ((.iconst 1), 0, 0, 0) else ((.iadd), 0, 0, 0)))) else (bif Nat.blt pc 1687 then (bif Nat.blt pc 1683 then ((.iaload), 0, 0, 0) else (bif Nat.blt pc 1684 then ((.aload_n 3), 0, 0, 0) else ((.invokestatic 257), 225, 3, 0))) else (bif Nat.blt pc 1689 then ((.istore 6), 0, 0, 0) else (bif Nat.blt pc 1690 then ((.aload_n 2), 0, 0, 0) else ((.aload_n 0), 0, 0, 0))))))))) else (bif Nat.blt pc 1842 then (bif Nat.blt pc 1766 then (bif Nat.blt pc 1728 then (bif Nat.blt pc 1711 then (bif Nat.blt pc 1699 then (bif Nat.blt pc 1694 then (bif Nat.blt pc 1693 then ((.iload 5), 0, 0, 0) else ((.iconst 1), 0, 0, 0)) else (bif Nat.blt pc 1695 then ((.iadd), 0, 0, 0) else (bif Nat.blt pc 1696 then ((.iaload), 0, 0, 0) else ((.invokevirtual 259), 175, 2, 1)))) else (bif Nat.blt pc 1705 then (bif Nat.blt pc 1701 then ((.istore 7), 0, 0, 0) else (bif Nat.blt pc 1702 then ((.aload_n 2), 0, 0, 0) else ((.invokevirtual 152), 123, 1, 1))) else (bif Nat.blt pc 1707 then ((.iload 6), 0, 0, 0) else (bif Nat.blt pc 1710 then ((.if_icmp .eq 5), 1712, 0, 0) else ((.iconst 0), 0, 0, 0))))) else (bif Nat.blt pc 1719 then (bif Nat.blt pc 1714 then (bif Nat.blt pc 1712 then ((.ireturn), 1, 0, 0) else ((.iload 6), 0, 0, 0)) else (bif Nat.blt pc 1717 then ((.ifCond .ne 15), 1729, 0, 0) else (bif Nat.blt pc 1718 then ((.aload_n 3), 0, 0, 0) else ((.iconst 0), 0, 0, 0)))) else (bif Nat.blt pc 1723 then (bif Nat.blt pc 1720 then ((.laload), 0, 0, 0) else (bif Nat.blt pc 1722 then ((.iload 7), 0, 0, 0) else ((.i2l), 0, 0, 0))) else (bif Nat.blt pc 1724 then ((.lcmp), 0, 0, 0) else (bif Nat.blt pc 1727 then ((.ifCond .eq 5), 1729, 0, 0) else ((.iconst 0), 0, 0, 0)))))) else (bif Nat.blt pc 1745 then (bif Nat.blt pc 1736 then (bif Nat.blt pc 1732 then (bif Nat.blt pc 1729 then ((.ireturn), 1, 0, 0) else ((.goto 834), 2563, 0, 0)) else (bif Nat.blt pc 1733 then ((.aload_n 1), 0, 0, 0) else (bif Nat.blt pc 1734 then ((.aload_n 0), 0, 0, 0) else ((.iload 5), 0, 0, 0)))) else (bif Nat.blt pc 1739 then (bif Nat.blt pc 1737 then ((.iconst 1), 0, 0, 0) else (bif Nat.blt pc 1738 then ((.iadd), 0, 0, 0) else ((.iaload), 0, 0, 0))) else (bif Nat.blt pc 1740 then ((.aload_n 3), 0, 0, 0) else (bif Nat.blt pc 1743 then ((.invokestatic 260), 226, 3, 0) else ((.istore 6), 0, 0, 0))))) else (bif Nat.blt pc 1752 then (bif Nat.blt pc 1749 then (bif Nat.blt pc 1746 then ((.aload_n 2), 0, 0, 0) else (bif Nat.blt pc 1747 then ((.aload_n 0), 0, 0, 0) else ((.iload 5), 0, 0, 0))) else (bif Nat.blt pc 1750 then ((.iconst 1), 0, 0, 0) else (bif Nat.blt pc 1751 then ((.iadd), 0, 0, 0) else ((.iaload), 0, 0, 0)))) else (bif Nat.blt pc 1758 then (bif Nat.blt pc 1755 then ((.invokevirtual 262), 176, 2, 1) else (bif Nat.blt pc 1757 then ((.istore 7), 0, 0, 0) else ((.aload_n 2), 0, 0, 0))) else (bif Nat.blt pc 1761 then ((.invokevirtual 152), 123, 1, 1) else (bif Nat.blt pc 1763 then ((.iload 6), 0, 0, 0) else ((.if_icmp .eq 5), 1768, 0, 0))))))) else (bif Nat.blt pc 1802 then (bif Nat.blt pc 1783 then (bif Nat.blt pc 1774 then (bif Nat.blt pc 1768 then (bif Nat.blt pc 1767 then ((.iconst 0), 0, 0, 0) else ((.ireturn), 1, 0, 0)) else (bif Nat.blt pc 1770 then ((.iload 6), 0, 0, 0) else (bif Nat.blt pc 1773 then ((.ifCond .ne 15), 1785, 0, 0) else ((.aload_n 3), 0, 0, 0)))) else (bif Nat.blt pc 1778 then (bif Nat.blt pc 1775 then ((.iconst 0), 0, 0, 0) else (bif Nat.blt pc 1776 then ((.laload), 0, 0, 0) else ((.iload 7), 0, 0, 0))) else (bif Nat.blt pc 1779 then ((.i2l), 0, 0, 0) else (bif Nat.blt pc 1780 then ((.lcmp), 0, 0, 0) else ((.ifCond .eq 5), 1785, 0, 0))))) else (bif Nat.blt pc 1792 then (bif Nat.blt pc 1785 then (bif Nat.blt pc 1784 then ((.iconst 0), 0, 0, 0) else ((.ireturn), 1, 0, 0)) else (bif Nat.blt pc 1788 then ((.goto 778), 2563, 0, 0) else (bif Nat.blt pc 1789 then ((.aload_n 1), 0, 0, 0) else ((.invokevirtual 263), 89, 1, 1)))) else (bif Nat.blt pc 1799 then (bif Nat.blt pc 1793 then ((.aload_n 2), 0, 0, 0) else (bif Nat.blt pc 1796 then ((.invokevirtual 266), 178, 1, 1) else ((.if_icmp .eq 767), 2563, 0, 0))) else (bif Nat.blt pc 1800 then ((.iconst 0), 0, 0, 0) else (bif Nat.blt pc 1801 then ((.ireturn), 1, 0, 0) else ((.aload_n 1), 0, 0, 0)))))) else (bif Nat.blt pc 1824 then (bif Nat.blt pc 1812 then (bif Nat.blt pc 1806 then (bif Nat.blt pc 1803 then ((.aload_n 3), 0, 0, 0) else ((.invokestatic 267), 227, 2, 0)) else (bif Nat.blt pc 1808 then ((.istore 6), 0, 0, 0) else (bif Nat.blt pc 1809 then ((.aload_n 2), 0, 0, 0) else ((.invokevirtual 269), 179, 1, 1)))) else (bif Nat.blt pc 1818 then (bif Nat.blt pc 1814 then ((.istore 7), 0, 0, 0) else (bif Nat.blt pc 1815 then ((.aload_n 2), 0, 0, 0) else ((.invokevirtual 152), 123, 1, 1))) else (bif Nat.blt pc 1820 then ((.iload 6), 0, 0, 0) else (bif Nat.blt pc 1823 then ((.if_icmp .eq 5), 1825, 0, 0) else ((.iconst 0), 0, 0, 0))))) else (bif Nat.blt pc 1833 then (bif Nat.blt pc 1830 then (bif Nat.blt pc 1825 then ((.ireturn), 1, 0, 0) else (bif Nat.blt pc 1827 then ((.iload 6), 0, 0, 0) else ((.ifCond .ne 15), 1842, 0, 0))) else (bif Nat.blt pc 1831 then ((.aload_n 3), 0, 0, 0) else (bif Nat.blt pc 1832 then ((.iconst 0), 0, 0, 0) else ((.laload), 0, 0, 0)))) else (bif Nat.blt pc 1837 then (bif Nat.blt pc 1835 then ((.iload 7), 0, 0, 0) else (bif Nat.blt pc 1836 then ((.i2l), 0, 0, 0) else ((.lcmp), 0, 0, 0))) else (bif Nat.blt pc 1840 then ((.ifCond .eq 5), 1842, 0, 0) else (bif Nat.blt pc 1841 then ((.iconst 0), 0, 0, 0) else ((.ireturn), 1, 0, 0)))))))) else (bif Nat.blt pc 1914 then (bif Nat.blt pc 1879 then (bif Nat.blt pc 1859 then (bif Nat.blt pc 1850 then (bif Nat.blt pc 1846 then (bif Nat.blt pc 1845 then ((.goto 721), 2563, 0, 0) else ((.aload_n 1), 0, 0, 0)) else (bif Nat.blt pc 1847 then ((.aload_n 0), 0, 0, 0) else (bif Nat.blt pc 1849 then ((.iload 5), 0, 0, 0) else ((.iconst 1), 0, 0, 0)))) else (bif Nat.blt pc 1853 then (bif Nat.blt pc 1851 then ((.iadd), 0, 0, 0) else (bif Nat.blt pc 1852 then ((.iaload), 0, 0, 0) else ((.aload_n 3), 0, 0, 0))) else (bif Nat.blt pc 1856 then ((.invokestatic 270), 228, 3, 0) else (bif Nat.blt pc 1858 then ((.istore 6), 0, 0, 0) else ((.aload_n 2), 0, 0, 0))))) else (bif Nat.blt pc 1865 then (bif Nat.blt pc 1862 then (bif Nat.blt pc 1860 then ((.aload_n 0), 0, 0, 0) else ((.iload 5), 0, 0, 0)) else (bif Nat.blt pc 1863 then ((.iconst 1), 0, 0, 0) else (bif Nat.blt pc 1864 then ((.iadd), 0, 0, 0) else ((.iaload), 0, 0, 0)))) else (bif Nat.blt pc 1871 then (bif Nat.blt pc 1868 then ((.invokevirtual 272), 180, 2, 1) else (bif Nat.blt pc 1870 then ((.istore 7), 0, 0, 0) else ((.aload_n 2), 0, 0, 0))) else (bif Nat.blt pc 1874 then ((.invokevirtual 152), 123, 1, 1) else (bif Nat.blt pc 1876 then ((.iload 6), 0, 0, 0) else ((.if_icmp .eq 5), 1881, 0, 0)))))) else (bif Nat.blt pc 1896 then (bif Nat.blt pc 1887 then (bif Nat.blt pc 1881 then (bif Nat.blt pc 1880 then ((.iconst 0), 0, 0, 0) else ((.ireturn), 1, 0, 0)) else (bif Nat.blt pc 1883 then ((.iload 6), 0, 0, 0) else (bif Nat.blt pc 1886 then ((.ifCond .ne 15), 1898, 0, 0) else ((.aload_n 3), 0, 0, 0)))) else (bif Nat.blt pc 1891 then (bif Nat.blt pc 1888 then ((.iconst 0), 0, 0, 0) else (bif Nat.blt pc 1889 then ((.laload), 0, 0, 0) else ((.iload 7), 0, 0, 0))) else (bif Nat.blt pc 1892 then ((.i2l), 0, 0, 0) else (bif Nat.blt pc 1893 then ((.lcmp), 0, 0, 0) else ((.ifCond .eq 5), 1898, 0, 0))))) else (bif Nat.blt pc 1905 then (bif Nat.blt pc 1901 then (bif Nat.blt pc 1897 then ((.iconst 0), 0, 0, 0) else (bif Nat.blt pc 1898 then ((.ireturn), 1, 0, 0) else ((.goto 665), 2563, 0, 0))) else (bif Nat.blt pc 1902 then ((.aload_n 1), 0, 0, 0) else (bif Nat.blt pc 1903 then ((.aload_n 0), 0, 0, 0) else ((.iload 5), 0, 0, 0)))) else (bif Nat.blt pc 1908 then (bif Nat.blt pc 1906 then ((.iconst 1), 0, 0, 0) else (bif Nat.blt pc 1907 then ((.iadd), 0, 0, 0) else ((.iaload), 0, 0, 0))) else (bif Nat.blt pc 1909 then ((.aload_n 3), 0, 0, 0) else (bif Nat.blt pc 1912 then ((.invokestatic 273), 229, 3, 0) else ((.istore 6), 0, 0, 0))))))) else (bif Nat.blt pc 1952 then (bif Nat.blt pc 1932 then (bif Nat.blt pc 1920 then (bif Nat.blt pc 1916 then (bif Nat.blt pc 1915 then ((.aload_n 2), 0, 0, 0) else ((.aload_n 0), 0, 0, 0)) else (bif Nat.blt pc 1918 then ((.iload 5), 0, 0, 0) else (bif Nat.blt pc 1919 then ((.iconst 1), 0, 0, 0) else ((.iadd), 0, 0, 0)))) else (bif Nat.blt pc 1926 then (bif Nat.blt pc 1921 then ((.iaload), 0, 0, 0) else (bif Nat.blt pc 1924 then ((.invokevirtual 275), 184, 2, 1) else ((.istore 7), 0, 0, 0))) else (bif Nat.blt pc 1927 then ((.aload_n 2), 0, 0, 0) else (bif Nat.blt pc 1930 then ((.invokevirtual 152), 123, 1, 1) else ((.iload 6), 0, 0, 0))))) else (bif Nat.blt pc 1943 then (bif Nat.blt pc 1937 then (bif Nat.blt pc 1935 then ((.if_icmp .eq 5), 1937, 0, 0) else (bif Nat.blt pc 1936 then ((.iconst 0), 0, 0, 0) else ((.ireturn), 1, 0, 0))) else (bif Nat.blt pc 1939 then ((.iload 6), 0, 0, 0) else (bif Nat.blt pc 1942 then ((.ifCond .ne 15), 1954, 0, 0) else ((.aload_n 3), 0, 0, 0)))) else (bif Nat.blt pc 1947 then (bif Nat.blt pc 1944 then ((.iconst 0), 0, 0, 0) else (bif Nat.blt pc 1945 then ((.laload), 0, 0, 0) else ((.iload 7), 0, 0, 0))) else (bif Nat.blt pc 1948 then ((.i2l), 0, 0, 0) else (bif Nat.blt pc 1949 then ((.lcmp), 0, 0, 0) else ((.ifCond .eq 5), 1954, 0, 0)))))) else (bif Nat.blt pc 1968 then (bif Nat.blt pc 1959 then (bif Nat.blt pc 1954 then (bif Nat.blt pc 1953 then ((.iconst 0), 0, 0, 0) else ((.ireturn), 1, 0, 0)) else (bif Nat.blt pc 1957 then ((.goto 609), 2563, 0, 0) else (bif Nat.blt pc 1958 then ((.aload_n 1), 0, 0, 0) else ((.aload_n 0), 0, 0, 0)))) else (bif Nat.blt pc 1963 then (bif Nat.blt pc 1961 then ((.iload 5), 0, 0, 0) else (bif Nat.blt pc 1962 then ((.iconst 1), 0, 0, 0) else ((.iadd), 0, 0, 0))) else (bif Nat.blt pc 1964 then ((.iaload), 0, 0, 0) else (bif Nat.blt pc 1965 then ((.aload_n 3), 0, 0, 0) else ((.invokestatic 276), 230, 3, 0))))) else (bif Nat.blt pc 1976 then (bif Nat.blt pc 1972 then (bif Nat.blt pc 1970 then ((.istore 6), 0, 0, 0) else (bif Nat.blt pc 1971 then ((.aload_n 2), 0, 0, 0) else ((.aload_n 0), 0, 0, 0))) else (bif Nat.blt pc 1974 then ((.iload 5), 0, 0, 0) else (bif Nat.blt pc 1975 then ((.iconst 1), 0, 0, 0) else ((.iadd), 0, 0, 0)))) else (bif Nat.blt pc 1982 then (bif Nat.blt pc 1977 then ((.iaload), 0, 0, 0) else (bif Nat.blt pc 1980 then ((.invokevirtual 278), 185, 2, 1) else ((.istore 7), 0, 0, 0))) else (bif Nat.blt pc 1983 then ((.aload_n 2), 0, 0, 0) else (bif Nat.blt pc 1986 then ((.invokevirtual 152), 123, 1, 1) else ((.iload 6), 0, 0, 0)))))))))) else (bif Nat.blt pc 2278 then (bif Nat.blt pc 2135 then (bif Nat.blt pc 2060 then (bif Nat.blt pc 2021 then (bif Nat.blt pc 2005 then (bif Nat.blt pc 1998 then (bif Nat.blt pc 1992 then (bif Nat.blt pc 1991 then ((.if_icmp .eq 5), 1993, 0, 0) else ((.iconst 0), 0, 0, 0)) else (bif Nat.blt pc 1993 then ((.ireturn), 1, 0, 0) else (bif Nat.blt pc 1995 then ((.iload 6), 0, 0, 0) else ((.ifCond .ne 15), 2010, 0, 0)))) else (bif Nat.blt pc 2001 then (bif Nat.blt pc 1999 then ((.aload_n 3), 0, 0, 0) else (bif Nat.blt pc 2000 then ((.iconst 0), 0, 0, 0) else ((.laload), 0, 0, 0))) else (bif Nat.blt pc 2003 then ((.iload 7), 0, 0, 0) else (bif Nat.blt pc 2004 then ((.i2l), 0, 0, 0) else ((.lcmp), 0, 0, 0))))) else (bif Nat.blt pc 2014 then (bif Nat.blt pc 2009 then (bif Nat.blt pc 2008 then ((.ifCond .eq 5), 2010, 0, 0) else ((.iconst 0), 0, 0, 0)) else (bif Nat.blt pc 2010 then ((.ireturn), 1, 0, 0) else (bif Nat.blt pc 2013 then ((.goto 553), 2563, 0, 0) else ((.aload_n 1), 0, 0, 0)))) else (bif Nat.blt pc 2018 then (bif Nat.blt pc 2015 then ((.aload_n 0), 0, 0, 0) else (bif Nat.blt pc 2017 then ((.iload 5), 0, 0, 0) else ((.iconst 1), 0, 0, 0))) else (bif Nat.blt pc 2019 then ((.iadd), 0, 0, 0) else (bif Nat.blt pc 2020 then ((.iaload), 0, 0, 0) else ((.aload_n 3), 0, 0, 0)))))) else (bif Nat.blt pc 2039 then (bif Nat.blt pc 2030 then (bif Nat.blt pc 2026 then (bif Nat.blt pc 2024 then ((.invokestatic 279), 231, 3, 0) else ((.istore 6), 0, 0, 0)) else (bif Nat.blt pc 2027 then ((.aload_n 2), 0, 0, 0) else (bif Nat.blt pc 2028 then ((.aload_n 0), 0, 0, 0) else ((.iload 5), 0, 0, 0)))) else (bif Nat.blt pc 2033 then (bif Nat.blt pc 2031 then ((.iconst 1), 0, 0, 0) else (bif Nat.blt pc 2032 then ((.iadd), 0, 0, 0) else ((.iaload), 0, 0, 0))) else (bif Nat.blt pc 2036 then ((.invokevirtual 281), 189, 2, 1) else (bif Nat.blt pc 2038 then ((.istore 7), 0, 0, 0) else ((.aload_n 2), 0, 0, 0))))) else (bif Nat.blt pc 2051 then (bif Nat.blt pc 2047 then (bif Nat.blt pc 2042 then ((.invokevirtual 152), 123, 1, 1) else (bif Nat.blt pc 2044 then ((.iload 6), 0, 0, 0) else ((.if_icmp .eq 5), 2049, 0, 0))) else (bif Nat.blt pc 2048 then ((.iconst 0), 0, 0, 0) else (bif Nat.blt pc 2049 then ((.ireturn), 1, 0, 0) else ((.iload 6), 0, 0, 0)))) else (bif Nat.blt pc 2056 then (bif Nat.blt pc 2054 then ((.ifCond .ne 15), 2066, 0, 0) else (bif Nat.blt pc 2055 then ((.aload_n 3), 0, 0, 0) else ((.iconst 0), 0, 0, 0))) else (bif Nat.blt pc 2057 then ((.laload), 0, 0, 0) else (bif Nat.blt pc 2059 then ((.iload 7), 0, 0, 0) else ((.i2l), 0, 0, 0))))))) else (bif Nat.blt pc 2095 then (bif Nat.blt pc 2076 then (bif Nat.blt pc 2069 then (bif Nat.blt pc 2064 then (bif Nat.blt pc 2061 then ((.lcmp), 0, 0, 0) else ((.ifCond .eq 5), 2066, 0, 0)) else (bif Nat.blt pc 2065 then ((.iconst 0), 0, 0, 0) else (bif Nat.blt pc 2066 then ((.ireturn), 1, 0, 0) else ((.goto 497), 2563, 0, 0)))) else (bif Nat.blt pc 2073 then (bif Nat.blt pc 2070 then ((.aload_n 1), 0, 0, 0) else (bif Nat.blt pc 2071 then ((.aload_n 0), 0, 0, 0) else ((.iload 5), 0, 0, 0))) else (bif Nat.blt pc 2074 then ((.iconst 1), 0, 0, 0) else (bif Nat.blt pc 2075 then ((.iadd), 0, 0, 0) else ((.iaload), 0, 0, 0))))) else (bif Nat.blt pc 2085 then (bif Nat.blt pc 2081 then (bif Nat.blt pc 2078 then ((.aload 4), 0, 0, 0) else ((.invokestatic 282), 232, 3, 0)) else (bif Nat.blt pc 2083 then ((.istore 6), 0, 0, 0) else (bif Nat.blt pc 2084 then ((.aload_n 2), 0, 0, 0) else ((.aload_n 0), 0, 0, 0)))) else (bif Nat.blt pc 2089 then (bif Nat.blt pc 2087 then ((.iload 5), 0, 0, 0) else (bif Nat.blt pc 2088 then ((.iconst 1), 0, 0, 0) else ((.iadd), 0, 0, 0))) else (bif Nat.blt pc 2090 then ((.iaload), 0, 0, 0) else (bif Nat.blt pc 2093 then ((.invokevirtual 284), 190, 2, 1) else ((.dstore 7), 0, 0, 0)))))) else (bif Nat.blt pc 2115 then (bif Nat.blt pc 2105 then (bif Nat.blt pc 2099 then (bif Nat.blt pc 2096 then ((.aload_n 2), 0, 0, 0) else ((.invokevirtual 152), 123, 1, 1)) else (bif Nat.blt pc 2101 then ((.iload 6), 0, 0, 0) else (bif Nat.blt pc 2104 then ((.if_icmp .eq 5), 2106, 0, 0) else ((.iconst 0), 0, 0, 0)))) else (bif Nat.blt pc 2111 then (bif Nat.blt pc 2106 then ((.ireturn), 1, 0, 0) else (bif Nat.blt pc 2108 then ((.iload 6), 0, 0, 0) else ((.ifCond .ne 35), 2143, 0, 0))) else (bif Nat.blt pc 2113 then ((.aload 4), 0, 0, 0) else (bif Nat.blt pc 2114 then ((.iconst 0), 0, 0, 0) else ((.daload), 0, 0, 0))))) else (bif Nat.blt pc 2125 then (bif Nat.blt pc 2121 then (bif Nat.blt pc 2117 then ((.dload 7), 0, 0, 0) else (bif Nat.blt pc 2118 then ((.dcmp .l), 0, 0, 0) else ((.ifCond .eq 25), 2143, 0, 0))) else (bif Nat.blt pc 2123 then ((.aload 4), 0, 0, 0) else (bif Nat.blt pc 2124 then ((.iconst 0), 0, 0, 0) else ((.daload), 0, 0, 0)))) else (bif Nat.blt pc 2129 then (bif Nat.blt pc 2127 then ((.aload 4), 0, 0, 0) else (bif Nat.blt pc 2128 then ((.iconst 0), 0, 0, 0) else ((.daload), 0, 0, 0))) else (bif Nat.blt pc 2130 then ((.dcmp .l), 0, 0, 0) else (bif Nat.blt pc 2133 then ((.ifCond .eq 11), 2141, 0, 0) else ((.dload 7), 0, 0, 0)))))))) else (bif Nat.blt pc 2204 then (bif Nat.blt pc 2167 then (bif Nat.blt pc 2152 then (bif Nat.blt pc 2143 then (bif Nat.blt pc 2138 then (bif Nat.blt pc 2137 then ((.dload 7), 0, 0, 0) else ((.dcmp .l), 0, 0, 0)) else (bif Nat.blt pc 2141 then ((.ifCond .ne 5), 2143, 0, 0) else (bif Nat.blt pc 2142 then ((.iconst 0), 0, 0, 0) else ((.ireturn), 1, 0, 0)))) else (bif Nat.blt pc 2148 then (bif Nat.blt pc 2146 then ((.goto 420), 2563, 0, 0) else (bif Nat.blt pc 2147 then ((.aload_n 1), 0, 0, 0) else ((.aload_n 0), 0, 0, 0))) else (bif Nat.blt pc 2150 then ((.iload 5), 0, 0, 0) else (bif Nat.blt pc 2151 then ((.iconst 1), 0, 0, 0) else ((.iadd), 0, 0, 0))))) else (bif Nat.blt pc 2158 then (bif Nat.blt pc 2154 then (bif Nat.blt pc 2153 then ((.iaload), 0, 0, 0) else ((.aload_n 0), 0, 0, 0)) else (bif Nat.blt pc 2156 then ((.iload 5), 0, 0, 0) else (bif Nat.blt pc 2157 then ((.iconst 2), 0, 0, 0) else ((.iadd), 0, 0, 0)))) else (bif Nat.blt pc 2163 then (bif Nat.blt pc 2159 then ((.iaload), 0, 0, 0) else (bif Nat.blt pc 2160 then ((.aload_n 3), 0, 0, 0) else ((.invokestatic 285), 233, 4, 0))) else (bif Nat.blt pc 2165 then ((.istore 6), 0, 0, 0) else (bif Nat.blt pc 2166 then ((.aload_n 2), 0, 0, 0) else ((.aload_n 0), 0, 0, 0)))))) else (bif Nat.blt pc 2183 then (bif Nat.blt pc 2173 then (bif Nat.blt pc 2170 then (bif Nat.blt pc 2169 then ((.iload 5), 0, 0, 0) else ((.iconst 1), 0, 0, 0)) else (bif Nat.blt pc 2171 then ((.iadd), 0, 0, 0) else (bif Nat.blt pc 2172 then ((.iaload), 0, 0, 0) else ((.aload_n 0), 0, 0, 0)))) else (bif Nat.blt pc 2177 then (bif Nat.blt pc 2175 then ((.iload 5), 0, 0, 0) else (bif Nat.blt pc 2176 then ((.iconst 2), 0, 0, 0) else ((.iadd), 0, 0, 0))) else (bif Nat.blt pc 2178 then ((.iaload), 0, 0, 0) else (bif Nat.blt pc 2181 then ((.invokevirtual 287), 191, 3, 1) else ((.istore 7), 0, 0, 0))))) else (bif Nat.blt pc 2194 then (bif Nat.blt pc 2189 then (bif Nat.blt pc 2184 then ((.aload_n 2), 0, 0, 0) else (bif Nat.blt pc 2187 then ((.invokevirtual 152), 123, 1, 1) else ((.iload 6), 0, 0, 0))) else (bif Nat.blt pc 2192 then ((.if_icmp .eq 5), 2194, 0, 0) else (bif Nat.blt pc 2193 then ((.iconst 0), 0, 0, 0) else ((.ireturn), 1, 0, 0)))) else (bif Nat.blt pc 2200 then (bif Nat.blt pc 2196 then ((.iload 6), 0, 0, 0) else (bif Nat.blt pc 2199 then ((.ifCond .ne 15), 2211, 0, 0) else ((.aload_n 3), 0, 0, 0))) else (bif Nat.blt pc 2201 then ((.iconst 0), 0, 0, 0) else (bif Nat.blt pc 2202 then ((.laload), 0, 0, 0) else ((.iload 7), 0, 0, 0))))))) else (bif Nat.blt pc 2239 then (bif Nat.blt pc 2220 then (bif Nat.blt pc 2211 then (bif Nat.blt pc 2206 then (bif Nat.blt pc 2205 then ((.i2l), 0, 0, 0) else ((.lcmp), 0, 0, 0)) else (bif Nat.blt pc 2209 then ((.ifCond .eq 5), 2211, 0, 0) else (bif Nat.blt pc 2210 then ((.iconst 0), 0, 0, 0) else ((.ireturn), 1, 0, 0)))) else (bif Nat.blt pc 2216 then (bif Nat.blt pc 2214 then ((.goto 352), 2563, 0, 0) else (bif Nat.blt pc 2215 then ((.aload_n 1), 0, 0, 0) else ((.aload_n 0), 0, 0, 0))) else (bif Nat.blt pc 2218 then ((.iload 5), 0, 0, 0) else (bif Nat.blt pc 2219 then ((.iconst 1), 0, 0, 0) else ((.iadd), 0, 0, 0))))) else (bif Nat.blt pc 2229 then (bif Nat.blt pc 2225 then (bif Nat.blt pc 2221 then ((.iaload), 0, 0, 0) else (bif Nat.blt pc 2222 then ((.aload_n 3), 0, 0, 0) else ((.invokestatic 288), 234, 3, 0))) else (bif Nat.blt pc 2227 then ((.istore 6), 0, 0, 0) else (bif Nat.blt pc 2228 then ((.aload_n 2), 0, 0, 0) else ((.aload_n 0), 0, 0, 0)))) else (bif Nat.blt pc 2233 then (bif Nat.blt pc 2231 then ((.iload 5), 0, 0, 0) else (bif Nat.blt pc 2232 then ((.iconst 1), 0, 0, 0) else ((.iadd), 0, 0, 0))) else (bif Nat.blt pc 2234 then ((.iaload), 0, 0, 0) else (bif Nat.blt pc 2237 then ((.invokevirtual 290), 192, 2, 1) else ((.istore 7), 0, 0, 0)))))) else (bif Nat.blt pc 2258 then (bif Nat.blt pc 2249 then (bif Nat.blt pc 2243 then (bif Nat.blt pc 2240 then ((.aload_n 2), 0, 0, 0) else ((.invokevirtual 152), 123, 1, 1)) else (bif Nat.blt pc 2245 then ((.iload 6), 0, 0, 0) else (bif Nat.blt pc 2248 then ((.if_icmp .eq 5), 2250, 0, 0) else ((.iconst 0), 0, 0, 0)))) else (bif Nat.blt pc 2255 then (bif Nat.blt pc 2250 then ((.ireturn), 1, 0, 0) else (bif Nat.blt pc 2252 then ((.iload 6), 0, 0, 0) else ((.ifCond .ne 15), 2267, 0, 0))) else (bif Nat.blt pc 2256 then ((.aload_n 3), 0, 0, 0) else (bif Nat.blt pc 2257 then ((.iconst 0), 0, 0, 0) else ((.laload), 0, 0, 0))))) else (bif Nat.blt pc 2267 then (bif Nat.blt pc 2262 then (bif Nat.blt pc 2260 then ((.iload 7), 0, 0, 0) else (bif Nat.blt pc 2261 then ((.i2l), 0, 0, 0) else ((.lcmp), 0, 0, 0))) else (bif Nat.blt pc 2265 then ((.ifCond .eq 5), 2267, 0, 0) else (bif Nat.blt pc 2266 then ((.iconst 0), 0, 0, 0) else ((.ireturn), 1, 0, 0)))) else (bif Nat.blt pc 2272 then (bif Nat.blt pc 2270 then ((.goto 296), 2563, 0, 0) else (bif Nat.blt pc 2271 then ((.aload_n 1), 0, 0, 0) else ((.aload_n 3), 0, 0, 0))) else (bif Nat.blt pc 2275 then ((.invokestatic 291), 235, 2, 0) else (bif Nat.blt pc 2277 then ((.istore 6), 0, 0, 0) else ((.aload_n 2), 0, 0, 0))))))))) else (bif Nat.blt pc 2414 then (bif Nat.blt pc 2346 then (bif Nat.blt pc 2316 then (bif Nat.blt pc 2300 then (bif Nat.blt pc 2289 then (bif Nat.blt pc 2283 then (bif Nat.blt pc 2281 then ((.invokevirtual 293), 195, 1, 1) else ((.istore 7), 0, 0, 0)) else (bif Nat.blt pc 2284 then ((.aload_n 2), 0, 0, 0) else (bif Nat.blt pc 2287 then ((.invokevirtual 152), 123, 1, 1) else ((.iload 6), 0, 0, 0)))) else (bif Nat.blt pc 2294 then (bif Nat.blt pc 2292 then ((.if_icmp .eq 5), 2294, 0, 0) else (bif Nat.blt pc 2293 then ((.iconst 0), 0, 0, 0) else ((.ireturn), 1, 0, 0))) else (bif Nat.blt pc 2296 then ((.iload 6), 0, 0, 0) else (bif Nat.blt pc 2299 then ((.ifCond .ne 15), 2311, 0, 0) else ((.aload_n 3), 0, 0, 0))))) else (bif Nat.blt pc 2306 then (bif Nat.blt pc 2302 then (bif Nat.blt pc 2301 then ((.iconst 0), 0, 0, 0) else ((.laload), 0, 0, 0)) else (bif Nat.blt pc 2304 then ((.iload 7), 0, 0, 0) else (bif Nat.blt pc 2305 then ((.i2l), 0, 0, 0) else ((.lcmp), 0, 0, 0)))) else (bif Nat.blt pc 2311 then (bif Nat.blt pc 2309 then ((.ifCond .eq 5), 2311, 0, 0) else (bif Nat.blt pc 2310 then ((.iconst 0), 0, 0, 0) else ((.ireturn), 1, 0, 0))) else (bif Nat.blt pc 2314 then ((.goto 252), 2563, 0, 0) else (bif Nat.blt pc 2315 then ((.aload_n 1), 0, 0, 0) else ((.aload_n 0), 0, 0, 0)))))) else (bif Nat.blt pc 2331 then (bif Nat.blt pc 2322 then (bif Nat.blt pc 2319 then (bif Nat.blt pc 2318 then ((.iload 5), 0, 0, 0) else ((.iconst 1), 0, 0, 0)) else (bif Nat.blt pc 2320 then ((.iadd), 0, 0, 0) else (bif Nat.blt pc 2321 then ((.iaload), 0, 0, 0) else ((.aload_n 0), 0, 0, 0)))) else (bif Nat.blt pc 2326 then (bif Nat.blt pc 2324 then ((.iload 5), 0, 0, 0) else (bif Nat.blt pc 2325 then ((.iconst 2), 0, 0, 0) else ((.iadd), 0, 0, 0))) else (bif Nat.blt pc 2327 then ((.iaload), 0, 0, 0) else (bif Nat.blt pc 2328 then ((.aload_n 3), 0, 0, 0) else ((.invokestatic 294), 236, 4, 0))))) else (bif Nat.blt pc 2339 then (bif Nat.blt pc 2335 then (bif Nat.blt pc 2333 then ((.istore 6), 0, 0, 0) else (bif Nat.blt pc 2334 then ((.aload_n 2), 0, 0, 0) else ((.aload_n 0), 0, 0, 0))) else (bif Nat.blt pc 2337 then ((.iload 5), 0, 0, 0) else (bif Nat.blt pc 2338 then ((.iconst 1), 0, 0, 0) else ((.iadd), 0, 0, 0)))) else (bif Nat.blt pc 2343 then (bif Nat.blt pc 2340 then ((.iaload), 0, 0, 0) else (bif Nat.blt pc 2341 then ((.aload_n 0), 0, 0, 0) else ((.iload 5), 0, 0, 0))) else (bif Nat.blt pc 2344 then ((.iconst 2), 0, 0, 0) else (bif Nat.blt pc 2345 then ((.iadd), 0, 0, 0) else ((.iaload), 0, 0, 0))))))) else (bif Nat.blt pc 2384 then (bif Nat.blt pc 2368 then (bif Nat.blt pc 2357 then (bif Nat.blt pc 2351 then (bif Nat.blt pc 2349 then ((.invokevirtual 296), 196, 3, 1) else ((.istore 7), 0, 0, 0)) else (bif Nat.blt pc 2352 then ((.aload_n 2), 0, 0, 0) else (bif Nat.blt pc 2355 then ((.invokevirtual 152), 123, 1, 1) else ((.iload 6), 0, 0, 0)))) else (bif Nat.blt pc 2362 then (bif Nat.blt pc 2360 then ((.if_icmp .eq 5), 2362, 0, 0) else (bif Nat.blt pc 2361 then ((.iconst 0), 0, 0, 0) else ((.ireturn), 1, 0, 0))) else (bif Nat.blt pc 2364 then ((.iload 6), 0, 0, 0) else (bif Nat.blt pc 2367 then ((.ifCond .ne 15), 2379, 0, 0) else ((.aload_n 3), 0, 0, 0))))) else (bif Nat.blt pc 2374 then (bif Nat.blt pc 2370 then (bif Nat.blt pc 2369 then ((.iconst 0), 0, 0, 0) else ((.laload), 0, 0, 0)) else (bif Nat.blt pc 2372 then ((.iload 7), 0, 0, 0) else (bif Nat.blt pc 2373 then ((.i2l), 0, 0, 0) else ((.lcmp), 0, 0, 0)))) else (bif Nat.blt pc 2379 then (bif Nat.blt pc 2377 then ((.ifCond .eq 5), 2379, 0, 0) else (bif Nat.blt pc 2378 then ((.iconst 0), 0, 0, 0) else ((.ireturn), 1, 0, 0))) else (bif Nat.blt pc 2382 then ((.goto 184), 2563, 0, 0) else (bif Nat.blt pc 2383 then ((.aload_n 1), 0, 0, 0) else ((.aload_n 0), 0, 0, 0)))))) else (bif Nat.blt pc 2399 then (bif Nat.blt pc 2390 then (bif Nat.blt pc 2387 then (bif Nat.blt pc 2386 then ((.iload 5), 0, 0, 0) else ((.iconst 1), 0, 0, 0)) else (bif Nat.blt pc 2388 then ((.iadd), 0, 0, 0) else (bif Nat.blt pc 2389 then ((.iaload), 0, 0, 0) else ((.aload_n 0), 0, 0, 0)))) else (bif Nat.blt pc 2394 then (bif Nat.blt pc 2392 then ((.iload 5), 0, 0, 0) else (bif Nat.blt pc 2393 then ((.iconst 2), 0, 0, 0) else ((.iadd), 0, 0, 0))) else (bif Nat.blt pc 2395 then ((.iaload), 0, 0, 0) else (bif Nat.blt pc 2396 then ((.aload_n 3), 0, 0, 0) else ((.invokestatic 297), 237, 4, 0))))) else (bif Nat.blt pc 2407 then (bif Nat.blt pc 2403 then (bif Nat.blt pc 2401 then ((.istore 6), 0, 0, 0) else (bif Nat.blt pc 2402 then ((.aload_n 2), 0, 0, 0) else ((.aload_n 0), 0, 0, 0))) else (bif Nat.blt pc 2405 then ((.iload 5), 0, 0, 0) else (bif Nat.blt pc 2406 then ((.iconst 1), 0, 0, 0) else ((.iadd), 0, 0, 0)))) else (bif Nat.blt pc 2411 then (bif Nat.blt pc 2408 then ((.iaload), 0, 0, 0) else (bif Nat.blt pc 2409 then ((.aload_n 0), 0, 0, 0) else ((.iload 5), 0, 0, 0))) else (bif Nat.blt pc 2412 then ((.iconst 2), 0, 0, 0) else (bif Nat.blt pc 2413 then ((.iadd), 0, 0, 0) else ((.iaload), 0, 0, 0)))))))) else (bif Nat.blt pc 2491 then (bif Nat.blt pc 2452 then (bif Nat.blt pc 2436 then (bif Nat.blt pc 2425 then (bif Nat.blt pc 2419 then (bif Nat.blt pc 2417 then ((.invokevirtual 299), 199, 3, 1) else ((.istore 7), 0, 0, 0)) else (bif Nat.blt pc 2420 then ((.aload_n 2), 0, 0, 0) else (bif Nat.blt pc 2423 then ((.invokevirtual 152), 123, 1, 1) else ((.iload 6), 0, 0, 0)))) else (bif Nat.blt pc 2430 then (bif Nat.blt pc 2428 then ((.if_icmp .eq 5), 2430, 0, 0) else (bif Nat.blt pc 2429 then ((.iconst 0), 0, 0, 0) else ((.ireturn), 1, 0, 0))) else (bif Nat.blt pc 2432 then ((.iload 6), 0, 0, 0) else (bif Nat.blt pc 2435 then ((.ifCond .ne 15), 2447, 0, 0) else ((.aload_n 3), 0, 0, 0))))) else (bif Nat.blt pc 2442 then (bif Nat.blt pc 2438 then (bif Nat.blt pc 2437 then ((.iconst 0), 0, 0, 0) else ((.laload), 0, 0, 0)) else (bif Nat.blt pc 2440 then ((.iload 7), 0, 0, 0) else (bif Nat.blt pc 2441 then ((.i2l), 0, 0, 0) else ((.lcmp), 0, 0, 0)))) else (bif Nat.blt pc 2447 then (bif Nat.blt pc 2445 then ((.ifCond .eq 5), 2447, 0, 0) else (bif Nat.blt pc 2446 then ((.iconst 0), 0, 0, 0) else ((.ireturn), 1, 0, 0))) else (bif Nat.blt pc 2450 then ((.goto 116), 2563, 0, 0) else (bif Nat.blt pc 2451 then ((.aload_n 1), 0, 0, 0) else ((.aload_n 0), 0, 0, 0)))))) else (bif Nat.blt pc 2468 then (bif Nat.blt pc 2458 then (bif Nat.blt pc 2455 then (bif Nat.blt pc 2454 then ((.iload 5), 0, 0, 0) else ((.iconst 1), 0, 0, 0)) else (bif Nat.blt pc 2456 then ((.iadd), 0, 0, 0) else (bif Nat.blt pc 2457 then ((.iaload), 0, 0, 0) else ((.aload_n 3), 0, 0, 0)))) else (bif Nat.blt pc 2464 then (bif Nat.blt pc 2461 then ((.invokestatic 300), 238, 3, 0) else (bif Nat.blt pc 2463 then ((.istore 6), 0, 0, 0) else ((.aload_n 2), 0, 0, 0))) else (bif Nat.blt pc 2465 then ((.aload_n 0), 0, 0, 0) else (bif Nat.blt pc 2467 then ((.iload 5), 0, 0, 0) else ((.iconst 1), 0, 0, 0))))) else (bif Nat.blt pc 2479 then (bif Nat.blt pc 2473 then (bif Nat.blt pc 2469 then ((.iadd), 0, 0, 0) else (bif Nat.blt pc 2470 then ((.iaload), 0, 0, 0) else ((.invokevirtual 302), 200, 2, 1))) else (bif Nat.blt pc 2475 then ((.istore 7), 0, 0, 0) else (bif Nat.blt pc 2476 then ((.aload_n 2), 0, 0, 0) else ((.invokevirtual 152), 123, 1, 1)))) else (bif Nat.blt pc 2485 then (bif Nat.blt pc 2481 then ((.iload 6), 0, 0, 0) else (bif Nat.blt pc 2484 then ((.if_icmp .eq 5), 2486, 0, 0) else ((.iconst 0), 0, 0, 0))) else (bif Nat.blt pc 2486 then ((.ireturn), 1, 0, 0) else (bif Nat.blt pc 2488 then ((.iload 6), 0, 0, 0) else ((.ifCond .ne 15), 2503, 0, 0))))))) else (bif Nat.blt pc 2530 then (bif Nat.blt pc 2507 then (bif Nat.blt pc 2497 then (bif Nat.blt pc 2493 then (bif Nat.blt pc 2492 then ((.aload_n 3), 0, 0, 0) else ((.iconst 0), 0, 0, 0)) else (bif Nat.blt pc 2494 then ((.laload), 0, 0, 0) else (bif Nat.blt pc 2496 then ((.iload 7), 0, 0, 0) else ((.i2l), 0, 0, 0)))) else (bif Nat.blt pc 2502 then (bif Nat.blt pc 2498 then ((.lcmp), 0, 0, 0) else (bif Nat.blt pc 2501 then ((.ifCond .eq 5), 2503, 0, 0) else ((.iconst 0), 0, 0, 0))) else (bif Nat.blt pc 2503 then ((.ireturn), 1, 0, 0) else (bif Nat.blt pc 2506 then ((.goto 60), 2563, 0, 0) else ((.aload_n 1), 0, 0, 0))))) else (bif Nat.blt pc 2519 then (bif Nat.blt pc 2514 then (bif Nat.blt pc 2510 then ((.invokevirtual 303), 102, 1, 1) else (bif Nat.blt pc 2511 then ((.aload_n 2), 0, 0, 0) else ((.invokevirtual 306), 201, 1, 1))) else (bif Nat.blt pc 2517 then ((.if_icmp .eq 49), 2563, 0, 0) else (bif Nat.blt pc 2518 then ((.iconst 0), 0, 0, 0) else ((.ireturn), 1, 0, 0)))) else (bif Nat.blt pc 2524 then (bif Nat.blt pc 2520 then ((.aload_n 1), 0, 0, 0) else (bif Nat.blt pc 2521 then ((.aload_n 3), 0, 0, 0) else ((.invokestatic 307), 239, 2, 0))) else (bif Nat.blt pc 2526 then ((.istore 6), 0, 0, 0) else (bif Nat.blt pc 2527 then ((.aload_n 2), 0, 0, 0) else ((.invokevirtual 309), 202, 1, 1)))))) else (bif Nat.blt pc 2550 then (bif Nat.blt pc 2541 then (bif Nat.blt pc 2533 then (bif Nat.blt pc 2532 then ((.istore 7), 0, 0, 0) else ((.aload_n 2), 0, 0, 0)) else (bif Nat.blt pc 2536 then ((.invokevirtual 152), 123, 1, 1) else (bif Nat.blt pc 2538 then ((.iload 6), 0, 0, 0) else ((.if_icmp .eq 5), 2543, 0, 0)))) else (bif Nat.blt pc 2545 then (bif Nat.blt pc 2542 then ((.iconst 0), 0, 0, 0) else (bif Nat.blt pc 2543 then ((.ireturn), 1, 0, 0) else ((.iload 6), 0, 0, 0))) else (bif Nat.blt pc 2548 then ((.ifCond .ne 15), 2560, 0, 0) else (bif Nat.blt pc 2549 then ((.aload_n 3), 0, 0, 0) else ((.iconst 0), 0, 0, 0))))) else (bif Nat.blt pc 2559 then (bif Nat.blt pc 2554 then (bif Nat.blt pc 2551 then ((.laload), 0, 0, 0) else (bif Nat.blt pc 2553 then ((.iload 7), 0, 0, 0) else ((.i2l), 0, 0, 0))) else (bif Nat.blt pc 2555 then ((.lcmp), 0, 0, 0) else (bif Nat.blt pc 2558 then ((.ifCond .eq 5), 2560, 0, 0) else ((.iconst 0), 0, 0, 0)))) else (bif Nat.blt pc 2566 then (bif Nat.blt pc 2560 then ((.ireturn), 1, 0, 0) else (bif Nat.blt pc 2563 then ((.goto 3), 2563, 0, 0) else ((.iinc 5 3), 0, 0, 0))) else (bif Nat.blt pc 2569 then ((.goto (-2538)), 28, 0, 0) else (bif Nat.blt pc 2570 then ((.iconst 1), 0, 0, 0) else ((.ireturn), 1, 0, 0))))))))))))
def pm_cd (mi : Nat) : Nat → pm_En := (bif Nat.blt mi 120 then (bif Nat.blt mi 60 then (bif Nat.blt mi 30 then (bif Nat.blt mi 15 then (bif Nat.blt mi 7 then (bif Nat.blt mi 3 then (bif Nat.blt mi 1 then pm_t0 else (bif Nat.blt mi 2 then pm_t1 else pm_t2)) else (bif Nat.blt mi 5 then (bif Nat.blt mi 4 then pm_t3 else pm_t4) else (bif Nat.blt mi 6 then pm_t5 else pm_t6))) else (bif Nat.blt mi 11 then (bif Nat.blt mi 9 then (bif Nat.blt mi 8 then pm_t7 else pm_t8) else (bif Nat.blt mi 10 then pm_t9 else pm_t10)) else (bif Nat.blt mi 13 then (bif Nat.blt mi 12 then pm_t11 else pm_t12) else (bif Nat.blt mi 14 then pm_t13 else pm_t14)))) else (bif Nat.blt mi 22 then (bif Nat.blt mi 18 then (bif Nat.blt mi 16 then pm_t15 else (bif Nat.blt mi 17 then pm_t16 else pm_t17)) else (bif Nat.blt mi 20 then (bif Nat.blt mi 19 then pm_t18 else pm_t19) else (bif Nat.blt mi 21 then pm_t20 else pm_t21))) else (bif Nat.blt mi 26 then (bif Nat.blt mi 24 then (bif Nat.blt mi 23 then pm_t22 else pm_t23) else (bif Nat.blt mi 25 then pm_t24 else pm_t25)) else (bif Nat.blt mi 28 then (bif Nat.blt mi 27 then pm_t26 else pm_t27) else (bif Nat.blt mi 29 then pm_t28 else pm_t29))))) else (bif Nat.blt mi 45 then (bif Nat.blt mi 37 then (bif Nat.blt mi 33 then (bif Nat.blt mi 31 then pm_t30 else (bif Nat.blt mi 32 then pm_t31 else pm_t32)) else (bif Nat.blt mi 35 then (bif Nat.blt mi 34 then pm_t33 else pm_t34) else (bif Nat.blt mi 36 then pm_t35 else pm_t36))) else (bif Nat.blt mi 41 then (bif Nat.blt mi 39 then (bif Nat.blt mi 38 then pm_t37 else pm_t38) else (bif Nat.blt mi 40 then pm_t39 else pm_t40)) else (bif Nat.blt mi 43 then (bif Nat.blt mi 42 then pm_t41 else pm_t42) else (bif Nat.blt mi 44 then pm_t43 else pm_t44)))) else (bif Nat.blt mi 52 then (bif Nat.blt mi 48 then (bif Nat.blt mi 46 then pm_t45 else (bif Nat.blt mi 47 then pm_t46 else pm_t47)) else (bif Nat.blt mi 50 then (bif Nat.blt mi 49 then pm_t48 else pm_t49) else (bif Nat.blt mi 51 then pm_t50 else pm_t51))) else (bif Nat.blt mi 56 then (bif Nat.blt mi 54 then (bif Nat.blt mi 53 then pm_t52 else pm_t53) else (bif Nat.blt mi 55 then pm_t54 else pm_t55)) else (bif Nat.blt mi 58 then (bif Nat.blt mi 57 then pm_t56 else pm_t57) else (bif Nat.blt mi 59 then pm_t58 else pm_t59)))))) else (bif Nat.blt mi 90 then (bif Nat.blt mi 75 then (bif Nat.blt mi 67 then (bif Nat.blt mi 63 then (bif Nat.blt mi 61 then pm_t60 else (bif Nat.blt mi 62 then pm_t61 else pm_t62)) else (bif Nat.blt mi 65 then (bif Nat.blt mi 64 then pm_t63 else pm_t64) else (bif Nat.blt mi 66 then pm_t65 else pm_t66))) else (bif Nat.blt mi 71 then (bif Nat.blt mi 69 then (bif Nat.blt mi 68 then pm_t67 else pm_t68) else (bif Nat.blt mi 70 then pm_t69 else pm_t70)) else (bif Nat.blt mi 73 then (bif Nat.blt mi 72 then pm_t71 else pm_t72) else (bif Nat.blt mi 74 then pm_t73 else pm_t74)))) else (bif Nat.blt mi 82 then (bif Nat.blt mi 78 then (bif Nat.blt mi 76 then pm_t75 else (bif Nat.blt mi 77 then pm_t76 else pm_t77)) else (bif Nat.blt mi 80 then (bif Nat.blt mi 79 then pm_t78 else pm_t79) else (bif Nat.blt mi 81 then pm_t80 else pm_t81))) else (bif Nat.blt mi 86 then (bif Nat.blt mi 84 then (bif Nat.blt mi 83 then pm_t82 else pm_t83) else (bif Nat.blt mi 85 then pm_t84 else pm_t85)) else (bif Nat.blt mi 88 then (bif Nat.blt mi 87 then pm_t86 else pm_t87) else (bif Nat.blt mi 89 then pm_t88 else pm_t89))))) else (bif Nat.blt mi 105 then (bif Nat.blt mi 97 then (bif Nat.blt mi 93 then (bif Nat.blt mi 91 then pm_t90 else (bif Nat.blt mi 92 then pm_t91 else pm_t92)) else (bif Nat.blt mi 95 then (bif Nat.blt mi 94 then pm_t93 else pm_t94) else (bif Nat.blt mi 96 then pm_t95 else pm_t96))) else (bif Nat.blt mi 101 then (bif Nat.blt mi 99 then (bif Nat.blt mi 98 then pm_t97 else pm_t98) else (bif Nat.blt mi 100 then pm_t99 else pm_t100)) else (bif Nat.blt mi 103 then (bif Nat.blt mi 102 then pm_t101 else pm_t102) else (bif Nat.blt mi 104 then pm_t103 else pm_t104)))) else (bif Nat.blt mi 112 then (bif Nat.blt mi 108 then (bif Nat.blt mi 106 then pm_t105 else (bif Nat.blt mi 107 then pm_t106 else pm_t107)) else (bif Nat.blt mi 110 then (bif Nat.blt mi 109 then pm_t108 else pm_t109) else (bif Nat.blt mi 111 then pm_t110 else pm_t111))) else (bif Nat.blt mi 116 then (bif Nat.blt mi 114 then (bif Nat.blt mi 113 then pm_t112 else pm_t113) else (bif Nat.blt mi 115 then pm_t114 else pm_t115)) else (bif Nat.blt mi 118 then (bif Nat.blt mi 117 then pm_t116 else pm_t117) else (bif Nat.blt mi 119 then pm_t118 else pm_t119))))))) else (bif Nat.blt mi 180 then (bif Nat.blt mi 150 then (bif Nat.blt mi 135 then (bif Nat.blt mi 127 then (bif Nat.blt mi 123 then (bif Nat.blt mi 121 then pm_t120 else (bif Nat.blt mi 122 then pm_t121 else pm_t122)) else (bif Nat.blt mi 125 then (bif Nat.blt mi 124 then pm_t123 else pm_t124) else (bif Nat.blt mi 126 then pm_t125 else pm_t126))) else (bif Nat.blt mi 131 then (bif Nat.blt mi 129 then (bif Nat.blt mi 128 then pm_t127 else pm_t128) else (bif Nat.blt mi 130 then pm_t129 else pm_t130)) else (bif Nat.blt mi 133 then (bif Nat.blt mi 132 then pm_t131 else pm_t132) else (bif Nat.blt mi 134 then pm_t133 else pm_t134)))) else (bif Nat.blt mi 142 then (bif Nat.blt mi 138 then (bif Nat.blt mi 136 then pm_t135 else (bif Nat.blt mi 137 then pm_t136 else pm_t137)) else (bif Nat.blt mi 140 then (bif Nat.blt mi 139 then pm_t138 else pm_t139) else (bif Nat.blt mi 141 then pm_t140 else pm_t141))) else (bif Nat.blt mi 146 then (bif Nat.blt mi 144 then (bif Nat.blt mi 143 then pm_t142 else pm_t143) else (bif Nat.blt mi 145 then pm_t144 else pm_t145)) else (bif Nat.blt mi 148 then (bif Nat.blt mi 147 then pm_t146 else pm_t147) else (bif Nat.blt mi 149 then pm_t148 else pm_t149))))) else (bif Nat.blt mi 165 then (bif Nat.blt mi 157 then (bif Nat.blt mi 153 then (bif Nat.blt mi 151 then pm_t150 else (bif Nat.blt mi 152 then pm_t151 else pm_t152)) else (bif Nat.blt mi 155 then (bif Nat.blt mi 154 then pm_t153 else pm_t154) else (bif Nat.blt mi 156 then pm_t155 else pm_t156))) else (bif Nat.blt mi 161 then (bif Nat.blt mi 159 then (bif Nat.blt mi 158 then pm_t157 else pm_t158) else (bif Nat.blt mi 160 then pm_t159 else pm_t160)) else (bif Nat.blt mi 163 then (bif Nat.blt mi 162 then pm_t161 else pm_t162) else (bif Nat.blt mi 164 then pm_t163 else pm_t164)))) else (bif Nat.blt mi 172 then (bif Nat.blt mi 168 then (bif Nat.blt mi 166 then pm_t165 else (bif Nat.blt mi 167 then pm_t166 else pm_t167)) else (bif Nat.blt mi 170 then (bif Nat.blt mi 169 then pm_t168 else pm_t169) else (bif Nat.blt mi 171 then pm_t170 else pm_t171))) else (bif Nat.blt mi 176 then (bif Nat.blt mi 174 then (bif Nat.blt mi 173 then pm_t172 else pm_t173) else (bif Nat.blt mi 175 then pm_t174 else pm_t175)) else (bif Nat.blt mi 178 then (bif Nat.blt mi 177 then pm_t176 else pm_t177) else (bif Nat.blt mi 179 then pm_t178 else pm_t179)))))) else (bif Nat.blt mi 210 then (bif Nat.blt mi 195 then (bif Nat.blt mi 187 then (bif Nat.blt mi 183 then (bif Nat.blt mi 181 then pm_t180 else (bif Nat.blt mi 182 then pm_t181 else pm_t182)) else (bif Nat.blt mi 185 then (bif Nat.blt mi 184 then pm_t183 else pm_t184) else (bif Nat.blt mi 186 then pm_t185 else pm_t186))) else (bif Nat.blt mi 191 then (bif Nat.blt mi 189 then (bif Nat.blt mi 188 then pm_t187 else pm_t188) else (bif Nat.blt mi 190 then pm_t189 else pm_t190)) else (bif Nat.blt mi 193 then (bif Nat.blt mi 192 then pm_t191 else pm_t192) else (bif Nat.blt mi 194 then pm_t193 else pm_t194)))) else (bif Nat.blt mi 202 then (bif Nat.blt mi 198 then (bif Nat.blt mi 196 then pm_t195 else (bif Nat.blt mi 197 then pm_t196 else pm_t197)) else (bif Nat.blt mi 200 then (bif Nat.blt mi 199 then pm_t198 else pm_t199) else (bif Nat.blt mi 201 then pm_t200 else pm_t201))) else (bif Nat.blt mi 206 then (bif Nat.blt mi 204 then (bif Nat.blt mi 203 then pm_t202 else pm_t203) else (bif Nat.blt mi 205 then pm_t204 else pm_t205)) else (bif Nat.blt mi 208 then (bif Nat.blt mi 207 then pm_t206 else pm_t207) else (bif Nat.blt mi 209 then pm_t208 else pm_t209))))) else (bif Nat.blt mi 225 then (bif Nat.blt mi 217 then (bif Nat.blt mi 213 then (bif Nat.blt mi 211 then pm_t210 else (bif Nat.blt mi 212 then pm_t211 else pm_t212)) else (bif Nat.blt mi 215 then (bif Nat.blt mi 214 then pm_t213 else pm_t214) else (bif Nat.blt mi 216 then pm_t215 else pm_t216))) else (bif Nat.blt mi 221 then (bif Nat.blt mi 219 then (bif Nat.blt mi 218 then pm_t217 else pm_t218) else (bif Nat.blt mi 220 then pm_t219 else pm_t220)) else (bif Nat.blt mi 223 then (bif Nat.blt mi 222 then pm_t221 else pm_t222) else (bif Nat.blt mi 224 then pm_t223 else pm_t224)))) else (bif Nat.blt mi 233 then (bif Nat.blt mi 229 then (bif Nat.blt mi 227 then (bif Nat.blt mi 226 then pm_t225 else pm_t226) else (bif Nat.blt mi 228 then pm_t227 else pm_t228)) else (bif Nat.blt mi 231 then (bif Nat.blt mi 230 then pm_t229 else pm_t230) else (bif Nat.blt mi 232 then pm_t231 else pm_t232))) else (bif Nat.blt mi 237 then (bif Nat.blt mi 235 then (bif Nat.blt mi 234 then pm_t233 else pm_t234) else (bif Nat.blt mi 236 then pm_t235 else pm_t236)) else (bif Nat.blt mi 239 then (bif Nat.blt mi 238 then pm_t237 else pm_t238) else (bif Nat.blt mi 240 then pm_t239 else pm_t240))))))))
def pm_ml (mi : Nat) : Nat := (bif Nat.blt mi 116 then (bif Nat.blt mi 53 then (bif Nat.blt mi 26 then (bif Nat.blt mi 14 then (bif Nat.blt mi 6 then (bif Nat.blt mi 2 then (bif Nat.blt mi 1 then 1 else 2) else (bif Nat.blt mi 3 then 1 else (bif Nat.blt mi 4 then 4 else 2))) else (bif Nat.blt mi 10 then (bif Nat.blt mi 9 then 3 else 2) else (bif Nat.blt mi 11 then 7 else (bif Nat.blt mi 13 then 8 else 4)))) else (bif Nat.blt mi 20 then (bif Nat.blt mi 17 then (bif Nat.blt mi 15 then 6 else 2) else (bif Nat.blt mi 18 then 3 else (bif Nat.blt mi 19 then 4 else 5))) else (bif Nat.blt mi 23 then (bif Nat.blt mi 21 then 7 else (bif Nat.blt mi 22 then 2 else 4)) else (bif Nat.blt mi 24 then 1 else (bif Nat.blt mi 25 then 6 else 4))))) else (bif Nat.blt mi 38 then (bif Nat.blt mi 32 then (bif Nat.blt mi 29 then (bif Nat.blt mi 28 then 3 else 5) else (bif Nat.blt mi 30 then 6 else (bif Nat.blt mi 31 then 4 else 3))) else (bif Nat.blt mi 34 then (bif Nat.blt mi 33 then 5 else 1) else (bif Nat.blt mi 35 then 5 else (bif Nat.blt mi 36 then 1 else 2)))) else (bif Nat.blt mi 45 then (bif Nat.blt mi 40 then (bif Nat.blt mi 39 then 3 else 2) else (bif Nat.blt mi 42 then 1 else (bif Nat.blt mi 43 then 2 else 3))) else (bif Nat.blt mi 50 then (bif Nat.blt mi 47 then 5 else (bif Nat.blt mi 48 then 4 else 3)) else (bif Nat.blt mi 51 then 4 else (bif Nat.blt mi 52 then 3 else 1)))))) else (bif Nat.blt mi 84 then (bif Nat.blt mi 70 then (bif Nat.blt mi 60 then (bif Nat.blt mi 55 then (bif Nat.blt mi 54 then 5 else 2) else (bif Nat.blt mi 56 then 4 else (bif Nat.blt mi 59 then 2 else 1))) else (bif Nat.blt mi 62 then (bif Nat.blt mi 61 then 2 else 1) else (bif Nat.blt mi 63 then 2 else (bif Nat.blt mi 65 then 1 else 2)))) else (bif Nat.blt mi 77 then (bif Nat.blt mi 73 then (bif Nat.blt mi 71 then 3 else 2) else (bif Nat.blt mi 74 then 1 else (bif Nat.blt mi 76 then 2 else 8))) else (bif Nat.blt mi 80 then (bif Nat.blt mi 78 then 1 else (bif Nat.blt mi 79 then 2 else 1)) else (bif Nat.blt mi 82 then 2 else (bif Nat.blt mi 83 then 3 else 1))))) else (bif Nat.blt mi 98 then (bif Nat.blt mi 89 then (bif Nat.blt mi 86 then (bif Nat.blt mi 85 then 4 else 2) else (bif Nat.blt mi 87 then 1 else (bif Nat.blt mi 88 then 3 else 2))) else (bif Nat.blt mi 92 then (bif Nat.blt mi 91 then 1 else 3) else (bif Nat.blt mi 94 then 4 else (bif Nat.blt mi 95 then 3 else 4)))) else (bif Nat.blt mi 105 then (bif Nat.blt mi 100 then (bif Nat.blt mi 99 then 1 else 4) else (bif Nat.blt mi 101 then 5 else (bif Nat.blt mi 102 then 3 else 1))) else (bif Nat.blt mi 110 then (bif Nat.blt mi 106 then 2 else (bif Nat.blt mi 108 then 1 else 2)) else (bif Nat.blt mi 112 then 1 else (bif Nat.blt mi 115 then 2 else 1))))))) else (bif Nat.blt mi 171 then (bif Nat.blt mi 144 then (bif Nat.blt mi 132 then (bif Nat.blt mi 122 then (bif Nat.blt mi 119 then (bif Nat.blt mi 118 then 3 else 1) else (bif Nat.blt mi 120 then 4 else (bif Nat.blt mi 121 then 5 else 3))) else (bif Nat.blt mi 124 then (bif Nat.blt mi 123 then 2 else 1) else (bif Nat.blt mi 125 then 3 else (bif Nat.blt mi 131 then 2 else 1)))) else (bif Nat.blt mi 138 then (bif Nat.blt mi 134 then (bif Nat.blt mi 133 then 2 else 3) else (bif Nat.blt mi 135 then 1 else (bif Nat.blt mi 137 then 3 else 6))) else (bif Nat.blt mi 141 then (bif Nat.blt mi 139 then 3 else (bif Nat.blt mi 140 then 4 else 5)) else (bif Nat.blt mi 142 then 7 else (bif Nat.blt mi 143 then 5 else 4))))) else (bif Nat.blt mi 157 then (bif Nat.blt mi 151 then (bif Nat.blt mi 148 then (bif Nat.blt mi 145 then 2 else 3) else (bif Nat.blt mi 149 then 5 else (bif Nat.blt mi 150 then 3 else 2))) else (bif Nat.blt mi 154 then (bif Nat.blt mi 152 then 4 else 2) else (bif Nat.blt mi 155 then 1 else (bif Nat.blt mi 156 then 2 else 4)))) else (bif Nat.blt mi 162 then (bif Nat.blt mi 159 then (bif Nat.blt mi 158 then 8 else 6) else (bif Nat.blt mi 160 then 4 else (bif Nat.blt mi 161 then 1 else 2))) else (bif Nat.blt mi 166 then (bif Nat.blt mi 164 then 1 else (bif Nat.blt mi 165 then 4 else 2)) else (bif Nat.blt mi 168 then 3 else (bif Nat.blt mi 170 then 4 else 5)))))) else (bif Nat.blt mi 197 then (bif Nat.blt mi 184 then (bif Nat.blt mi 177 then (bif Nat.blt mi 173 then (bif Nat.blt mi 172 then 2 else 4) else (bif Nat.blt mi 174 then 2 else (bif Nat.blt mi 175 then 3 else 4))) else (bif Nat.blt mi 180 then (bif Nat.blt mi 178 then 5 else 1) else (bif Nat.blt mi 181 then 4 else (bif Nat.blt mi 183 then 3 else 1)))) else (bif Nat.blt mi 190 then (bif Nat.blt mi 186 then (bif Nat.blt mi 185 then 4 else 2) else (bif Nat.blt mi 188 then 4 else (bif Nat.blt mi 189 then 3 else 2))) else (bif Nat.blt mi 194 then (bif Nat.blt mi 191 then 4 else (bif Nat.blt mi 193 then 3 else 4)) else (bif Nat.blt mi 195 then 2 else (bif Nat.blt mi 196 then 1 else 4))))) else (bif Nat.blt mi 223 then (bif Nat.blt mi 216 then (bif Nat.blt mi 200 then (bif Nat.blt mi 199 then 6 else 5) else (bif Nat.blt mi 203 then 2 else (bif Nat.blt mi 215 then 4 else 5))) else (bif Nat.blt mi 220 then (bif Nat.blt mi 217 then 3 else (bif Nat.blt mi 218 then 4 else 3)) else (bif Nat.blt mi 221 then 4 else (bif Nat.blt mi 222 then 5 else 3)))) else (bif Nat.blt mi 234 then (bif Nat.blt mi 227 then (bif Nat.blt mi 224 then 5 else 4) else (bif Nat.blt mi 228 then 3 else (bif Nat.blt mi 233 then 4 else 5))) else (bif Nat.blt mi 238 then (bif Nat.blt mi 235 then 4 else (bif Nat.blt mi 236 then 3 else 5)) else (bif Nat.blt mi 239 then 4 else (bif Nat.blt mi 240 then 3 else 9))))))))
def pm_mc (mi : Nat) : Nat := (bif Nat.blt mi 95 then (bif Nat.blt mi 66 then (bif Nat.blt mi 36 then (bif Nat.blt mi 16 then (bif Nat.blt mi 2 then (bif Nat.blt mi 1 then 14 else 0) else (bif Nat.blt mi 3 then 9 else (bif Nat.blt mi 15 then 0 else 9))) else (bif Nat.blt mi 23 then (bif Nat.blt mi 21 then 0 else (bif Nat.blt mi 22 then 11 else 0)) else (bif Nat.blt mi 24 then 3 else (bif Nat.blt mi 35 then 0 else 1)))) else (bif Nat.blt mi 58 then (bif Nat.blt mi 53 then (bif Nat.blt mi 52 then 0 else 14) else (bif Nat.blt mi 56 then 0 else (bif Nat.blt mi 57 then 96 else 2))) else (bif Nat.blt mi 62 then (bif Nat.blt mi 60 then 0 else (bif Nat.blt mi 61 then 1 else 0)) else (bif Nat.blt mi 63 then 1 else (bif Nat.blt mi 65 then 0 else 2))))) else (bif Nat.blt mi 80 then (bif Nat.blt mi 72 then (bif Nat.blt mi 69 then (bif Nat.blt mi 67 then 1 else 2) else (bif Nat.blt mi 70 then 3 else (bif Nat.blt mi 71 then 1 else 2))) else (bif Nat.blt mi 76 then (bif Nat.blt mi 74 then 0 else (bif Nat.blt mi 75 then 1 else 2)) else (bif Nat.blt mi 78 then 1 else (bif Nat.blt mi 79 then 2 else 1)))) else (bif Nat.blt mi 88 then (bif Nat.blt mi 83 then (bif Nat.blt mi 82 then 2 else 3) else (bif Nat.blt mi 86 then 1 else (bif Nat.blt mi 87 then 0 else 1))) else (bif Nat.blt mi 91 then (bif Nat.blt mi 89 then 2 else (bif Nat.blt mi 90 then 0 else 1)) else (bif Nat.blt mi 92 then 2 else (bif Nat.blt mi 93 then 5 else 3)))))) else (bif Nat.blt mi 212 then (bif Nat.blt mi 113 then (bif Nat.blt mi 101 then (bif Nat.blt mi 97 then (bif Nat.blt mi 96 then 4 else 3) else (bif Nat.blt mi 99 then 1 else (bif Nat.blt mi 100 then 3 else 4))) else (bif Nat.blt mi 104 then (bif Nat.blt mi 102 then 3 else (bif Nat.blt mi 103 then 0 else 1)) else (bif Nat.blt mi 106 then 0 else (bif Nat.blt mi 112 then 1 else 2)))) else (bif Nat.blt mi 204 then (bif Nat.blt mi 122 then (bif Nat.blt mi 116 then 1 else 0) else (bif Nat.blt mi 123 then 24 else (bif Nat.blt mi 203 then 0 else 2))) else (bif Nat.blt mi 208 then (bif Nat.blt mi 206 then 1 else (bif Nat.blt mi 207 then 2 else 1)) else (bif Nat.blt mi 210 then 2 else (bif Nat.blt mi 211 then 3 else 1))))) else (bif Nat.blt mi 228 then (bif Nat.blt mi 218 then (bif Nat.blt mi 214 then (bif Nat.blt mi 213 then 2 else 1) else (bif Nat.blt mi 215 then 2 else (bif Nat.blt mi 217 then 1 else 2))) else (bif Nat.blt mi 222 then (bif Nat.blt mi 219 then 1 else (bif Nat.blt mi 221 then 2 else 3)) else (bif Nat.blt mi 226 then 1 else (bif Nat.blt mi 227 then 2 else 1)))) else (bif Nat.blt mi 234 then (bif Nat.blt mi 230 then (bif Nat.blt mi 229 then 2 else 5) else (bif Nat.blt mi 232 then 3 else (bif Nat.blt mi 233 then 4 else 3))) else (bif Nat.blt mi 238 then (bif Nat.blt mi 236 then 1 else (bif Nat.blt mi 237 then 3 else 4)) else (bif Nat.blt mi 239 then 3 else (bif Nat.blt mi 240 then 1 else 603072)))))))
def pm_ms (mi : Nat) : Nat := (bif Nat.blt mi 95 then (bif Nat.blt mi 66 then (bif Nat.blt mi 36 then (bif Nat.blt mi 16 then (bif Nat.blt mi 2 then (bif Nat.blt mi 1 then 161 else 0) else (bif Nat.blt mi 3 then 96 else (bif Nat.blt mi 15 then 0 else 108))) else (bif Nat.blt mi 23 then (bif Nat.blt mi 21 then 0 else (bif Nat.blt mi 22 then 135 else 0)) else (bif Nat.blt mi 24 then 69 else (bif Nat.blt mi 35 then 0 else 24)))) else (bif Nat.blt mi 58 then (bif Nat.blt mi 53 then (bif Nat.blt mi 52 then 0 else 155) else (bif Nat.blt mi 56 then 0 else (bif Nat.blt mi 57 then 1080 else 12))) else (bif Nat.blt mi 62 then (bif Nat.blt mi 60 then 0 else (bif Nat.blt mi 61 then 6 else 0)) else (bif Nat.blt mi 63 then 6 else (bif Nat.blt mi 65 then 0 else 12))))) else (bif Nat.blt mi 80 then (bif Nat.blt mi 72 then (bif Nat.blt mi 69 then (bif Nat.blt mi 67 then 6 else 12) else (bif Nat.blt mi 70 then 18 else (bif Nat.blt mi 71 then 6 else 12))) else (bif Nat.blt mi 76 then (bif Nat.blt mi 74 then 0 else (bif Nat.blt mi 75 then 6 else 12)) else (bif Nat.blt mi 78 then 6 else (bif Nat.blt mi 79 then 12 else 6)))) else (bif Nat.blt mi 88 then (bif Nat.blt mi 83 then (bif Nat.blt mi 82 then 12 else 18) else (bif Nat.blt mi 86 then 6 else (bif Nat.blt mi 87 then 0 else 6))) else (bif Nat.blt mi 91 then (bif Nat.blt mi 89 then 12 else (bif Nat.blt mi 90 then 0 else 6)) else (bif Nat.blt mi 92 then 12 else (bif Nat.blt mi 93 then 30 else 18)))))) else (bif Nat.blt mi 212 then (bif Nat.blt mi 113 then (bif Nat.blt mi 101 then (bif Nat.blt mi 97 then (bif Nat.blt mi 96 then 24 else 18) else (bif Nat.blt mi 99 then 6 else (bif Nat.blt mi 100 then 18 else 24))) else (bif Nat.blt mi 104 then (bif Nat.blt mi 102 then 18 else (bif Nat.blt mi 103 then 0 else 6)) else (bif Nat.blt mi 106 then 0 else (bif Nat.blt mi 112 then 6 else 12)))) else (bif Nat.blt mi 204 then (bif Nat.blt mi 122 then (bif Nat.blt mi 116 then 6 else 0) else (bif Nat.blt mi 123 then 575 else (bif Nat.blt mi 203 then 0 else 12))) else (bif Nat.blt mi 208 then (bif Nat.blt mi 206 then 6 else (bif Nat.blt mi 207 then 12 else 6)) else (bif Nat.blt mi 210 then 12 else (bif Nat.blt mi 211 then 18 else 6))))) else (bif Nat.blt mi 228 then (bif Nat.blt mi 218 then (bif Nat.blt mi 214 then (bif Nat.blt mi 213 then 12 else 6) else (bif Nat.blt mi 215 then 12 else (bif Nat.blt mi 217 then 6 else 12))) else (bif Nat.blt mi 222 then (bif Nat.blt mi 219 then 6 else (bif Nat.blt mi 221 then 12 else 18)) else (bif Nat.blt mi 226 then 6 else (bif Nat.blt mi 227 then 12 else 6)))) else (bif Nat.blt mi 234 then (bif Nat.blt mi 230 then (bif Nat.blt mi 229 then 12 else 30) else (bif Nat.blt mi 232 then 18 else (bif Nat.blt mi 233 then 24 else 18))) else (bif Nat.blt mi 238 then (bif Nat.blt mi 236 then 6 else (bif Nat.blt mi 237 then 18 else 24)) else (bif Nat.blt mi 239 then 18 else (bif Nat.blt mi 240 then 6 else 7174250)))))))
def pm_hd (mi pc e : Nat) : Nat := (bif Nat.blt mi 221 then (bif Nat.blt mi 212 then (bif Nat.blt mi 206 then (bif Nat.blt mi 204 then (bif Nat.blt mi 203 then 0 else (bif Nat.blt pc 9 then ([12, 15, 1, 1, 1, 1] : List Nat).getD e 0 else 0)) else (bif Nat.blt mi 205 then (bif Nat.blt pc 9 then ([1, 1, 12, 1, 1, 1] : List Nat).getD e 0 else 0) else (bif Nat.blt pc 9 then ([12, 1, 1, 1, 1, 1] : List Nat).getD e 0 else 0))) else (bif Nat.blt mi 208 then (bif Nat.blt mi 207 then (bif Nat.blt pc 16 then ([19, 22, 1, 1, 1, 1] : List Nat).getD e 0 else 0) else (bif Nat.blt pc 9 then ([1, 1, 12, 1, 1, 1] : List Nat).getD e 0 else 0)) else (bif Nat.blt mi 209 then (bif Nat.blt pc 9 then ([1, 15, 12, 1, 1, 1] : List Nat).getD e 0 else 0) else (bif Nat.blt mi 211 then (bif Nat.blt pc 16 then ([1, 22, 19, 1, 1, 1] : List Nat).getD e 0 else 0) else (bif Nat.blt pc 9 then ([12, 1, 1, 1, 1, 1] : List Nat).getD e 0 else 0))))) else (bif Nat.blt mi 216 then (bif Nat.blt mi 214 then (bif Nat.blt mi 213 then (bif Nat.blt pc 9 then ([12, 15, 1, 1, 1, 1] : List Nat).getD e 0 else 0) else (bif Nat.blt pc 9 then ([1, 1, 12, 1, 1, 1] : List Nat).getD e 0 else 0)) else (bif Nat.blt mi 215 then (bif Nat.blt pc 9 then ([12, 1, 1, 15, 1, 1] : List Nat).getD e 0 else 0) else (bif Nat.blt pc 8 then ([11, 1, 1, 1, 1, 1] : List Nat).getD e 0 else 0))) else (bif Nat.blt mi 218 then (bif Nat.blt mi 217 then (bif Nat.blt pc 7 then ([1, 10, 1, 1, 1, 1] : List Nat).getD e 0 else 0) else (bif Nat.blt pc 9 then ([12, 15, 1, 1, 1, 1] : List Nat).getD e 0 else 0)) else (bif Nat.blt mi 219 then (bif Nat.blt pc 15 then ([1, 18, 1, 1, 1, 1] : List Nat).getD e 0 else 0) else (bif Nat.blt mi 220 then (bif Nat.blt pc 8 then ([1, 11, 1, 1, 1, 14] : List Nat).getD e 0 else 0) else (bif Nat.blt pc 9 then ([12, 15, 1, 1, 1, 1] : List Nat).getD e 0 else 0)))))) else (bif Nat.blt mi 230 then (bif Nat.blt mi 225 then (bif Nat.blt mi 223 then (bif Nat.blt mi 222 then (bif Nat.blt pc 10 then ([13, 17, 21, 1, 1, 1] : List Nat).getD e 0 else 0) else (bif Nat.blt pc 8 then ([1, 11, 1, 1, 1, 1] : List Nat).getD e 0 else 0)) else (bif Nat.blt mi 224 then (bif Nat.blt pc 17 then ([20, 1, 1, 1, 1, 1] : List Nat).getD e 0 else 0) else (bif Nat.blt pc 16 then ([19, 1, 1, 1, 1, 1] : List Nat).getD e 0 else 0))) else (bif Nat.blt mi 227 then (bif Nat.blt mi 226 then (bif Nat.blt pc 9 then ([1, 1, 12, 1, 1, 1] : List Nat).getD e 0 else 0) else (bif Nat.blt pc 9 then ([12, 15, 1, 1, 1, 1] : List Nat).getD e 0 else 0)) else (bif Nat.blt mi 228 then (bif Nat.blt pc 8 then ([1, 1, 1, 1, 1, 11] : List Nat).getD e 0 else 0) else (bif Nat.blt mi 229 then (bif Nat.blt pc 9 then ([1, 1, 15, 1, 1, 12] : List Nat).getD e 0 else 0) else (bif Nat.blt pc 9 then ([12, 15, 1, 1, 21, 18] : List Nat).getD e 0 else 0))))) else (bif Nat.blt mi 236 then (bif Nat.blt mi 233 then (bif Nat.blt mi 232 then (bif Nat.blt pc 9 then ([12, 15, 1, 1, 18, 1] : List Nat).getD e 0 else 0) else (bif Nat.blt pc 8 then ([11, 14, 1, 20, 17, 1] : List Nat).getD e 0 else 0)) else (bif Nat.blt mi 234 then (bif Nat.blt pc 10 then ([13, 17, 1, 1, 1, 1] : List Nat).getD e 0 else 0) else (bif Nat.blt mi 235 then (bif Nat.blt pc 9 then ([12, 1, 1, 1, 1, 1] : List Nat).getD e 0 else 0) else (bif Nat.blt pc 8 then ([1, 11, 1, 1, 1, 1] : List Nat).getD e 0 else 0)))) else (bif Nat.blt mi 238 then (bif Nat.blt mi 237 then (bif Nat.blt pc 10 then ([13, 17, 1, 1, 1, 1] : List Nat).getD e 0 else 0) else (bif Nat.blt pc 10 then ([13, 17, 1, 1, 21, 25] : List Nat).getD e 0 else 0)) else (bif Nat.blt mi 239 then (bif Nat.blt pc 9 then ([12, 15, 1, 1, 18, 1] : List Nat).getD e 0 else 0) else (bif Nat.blt mi 240 then (bif Nat.blt pc 8 then ([1, 11, 1, 1, 1, 1] : List Nat).getD e 0 else 0) else 0))))))
/-- a call, with at most d calls one in the other -/
def pm_run : Nat → Nat → List pm_V → pm_Me → (Option pm_V → pm_Me → Prop) → (Nat → pm_Me → Prop) → Prop
  | 0, _, _, _, _, _ => False
  | d + 1, mi, as, m, Qr, Qx => pm_wp (pm_mc mi) (pm_ms mi) (pm_stp (pm_cd mi) (pm_hd mi) (pm_mc mi) (pm_ms mi) pm_mc pm_ms (pm_run d) Qr Qx) (0, pm_lc (pm_ml mi) as, [], m, 0, 0)
end
section
/-! THE PURE MACHINE'S MEMORY IN THE HEAP -/
abbrev pm_cl : List vw_C := [(RX0, TX0, 4), (RX1, TX1, 7), (RX2, TX2, 1), (RX3, TX3, 2), (RX4, TX4, 3), (RX5, TX5, 3), (RX6, TX6, 2), (RX7, TX7, 7), (RX8, TX8, 13), (RX9, TX9, 45)]
def pm_val (ad : Nat → Nat) (v : pm_V) : Value := match v with
  | .inl x => .int (Int32.ofInt x)
  | .inr (.inl (_, q)) => .ref (ad q)
  | .inr (.inr (.inl x)) => .long (Int64.ofInt x)
  | .inr (.inr (.inr (.inl x))) => .float x
  | .inr (.inr (.inr (.inr x))) => .double x
def pm_ok (fl : Bool) (z : pm_Sh) (v : pm_V) : Prop := match v with
  | .inl x => pm_r x
  | .inr (.inl (κ, q)) => (q < z.1 ∧ z.2.1 q = κ) ∨ (fl = true ∧ κ = 999 ∧ q = 9999)
  | .inr (.inr (.inl x)) => -9223372036854775808 ≤ x ∧ x ≤ 9223372036854775807
  | _ => True
def pm_fv (ad : Nat → Nat) (κ k : Nat) (ini : Nat → Bool) (f : Nat → Int) (j : Nat) : Value := if pm_fk κ j = 0 then Value.int (Int32.ofInt (f j)) else if ini j = true then .ref (ad (pm_rf κ k j)) else .null
def pm_qv (ad : Nat → Nat) (κ k : Nat) (ini : Nat → Bool) (j : Nat) : Option Nat := if j < κ - 5000 ∧ ini j = true then some (ad (pm_rf κ k j)) else none
/-- a thing's cell -/
def pm_e (AC : Nat → ClassId) (ad : Nat → Nat) (κ k : Nat) (ini : Nat → Bool) (f : Nat → Int) : va_E :=
  if κ < 1000 then .inr (κ, (List.range (pm_nf κ)).map (pm_fv ad κ k ini f))
  else if κ < 2000 then .inl (AC 1, κ - 1000, .inl (fun j => Int32.ofInt (f j)))
  else if κ < 3000 then .inl (AC 2, κ - 2000, .inl (fun j => Int32.ofInt (f j)))
  else if κ < 4000 then .inl (AC 3, κ - 3000, .inr (.inl (fun j => Int64.ofInt (f j))))
  else if κ < 5000 then .inl (AC 4, κ - 4000, .inr (.inr (.inr (.inl (fun j => UInt64.ofNat (f j).toNat)))))
  else .inl (AC 5, κ - 5000, .inr (.inr (.inr (.inr (pm_qv ad κ k ini)))))
def pm_ws (AC : Nat → ClassId) (ad : Nat → Nat) (m : pm_Me) : va_W := (List.range m.1.1).map fun k => (ad k, pm_e AC ad (m.1.2.1 k) k (m.1.2.2 k) (m.2 k))
abbrev pm_tys (AC : Nat → ClassId) : List (ClassId × FieldType) := [(AC 1, .int), (AC 2, .boolean), (AC 3, .long), (AC 4, .double), (AC 5, .object "PatternLaboratory$Row")]
def pm_inv1 (m : pm_Me) (k : Nat) : Prop :=
  (m.1.2.1 k < 10 ∨ (1000 ≤ m.1.2.1 k ∧ m.1.2.1 k < 6000)) ∧
  (m.1.2.1 k < 3000 → ∀ j, pm_r (m.2 k j)) ∧
  (3000 ≤ m.1.2.1 k → m.1.2.1 k < 4000 → ∀ j, -9223372036854775808 ≤ m.2 k j ∧ m.2 k j ≤ 9223372036854775807) ∧
  (m.1.2.1 k < 10 → ∀ j, pm_fk (m.1.2.1 k) j ≠ 0 → m.1.2.2 k j = true → pm_rf (m.1.2.1 k) k j < m.1.1 ∧ m.1.2.1 (pm_rf (m.1.2.1 k) k j) + 1 = pm_fk (m.1.2.1 k) j) ∧
  (5000 ≤ m.1.2.1 k → ∀ j, j < m.1.2.1 k - 5000 → m.1.2.2 k j = true → pm_rf (m.1.2.1 k) k j < m.1.1 ∧ m.1.2.1 (pm_rf (m.1.2.1 k) k j) = 6)
def pm_inv (m : pm_Me) : Prop := m.1.1 ≤ 9000 ∧ ∀ k, k < m.1.1 → pm_inv1 m k
theorem pm_ws_get {AC : Nat → ClassId} {ad : Nat → Nat} {m : pm_Me} {k : Nat} (h : k < m.1.1) : (pm_ws AC ad m)[k]? = some (ad k, pm_e AC ad (m.1.2.1 k) k (m.1.2.2 k) (m.2 k)) := by
  unfold pm_ws
  rw [List.getElem?_map, List.getElem?_range h]
  rfl
theorem pm_ws_len {AC : Nat → ClassId} {ad : Nat → Nat} {m : pm_Me} : (pm_ws AC ad m).length = m.1.1 := by
  unfold pm_ws
  rw [List.length_map, List.length_range]
theorem pm_ws_none {AC : Nat → ClassId} {ad : Nat → Nat} {m : pm_Me} {k : Nat} (h : ¬ k < m.1.1) : (pm_ws AC ad m)[k]? = none := by
  rw [List.getElem?_eq_none]
  rw [pm_ws_len]
  omega
/-- one thing changes -/
theorem pm_ws_set {AC : Nat → ClassId} {ad : Nat → Nat} {m m' : pm_Me} {q : Nat} {e : va_E} (hq : q < m.1.1) (hn : m'.1.1 = m.1.1) (he : e = pm_e AC ad (m'.1.2.1 q) q (m'.1.2.2 q) (m'.2 q)) (ho : ∀ k, k < m.1.1 → k ≠ q → m'.1.2.1 k = m.1.2.1 k ∧ m'.1.2.2 k = m.1.2.2 k ∧ m'.2 k = m.2 k) : (pm_ws AC ad m).set q (ad q, e) = pm_ws AC ad m' := by
  apply List.ext_getElem?
  intro k
  by_cases hk : k < m.1.1
  · by_cases hkq : k = q
    · subst hkq
      rw [List.getElem?_set_self (by rw [pm_ws_len]; exact hk), pm_ws_get (by rw [hn]; exact hk), he]
    · rw [List.getElem?_set_ne (Ne.symm hkq), pm_ws_get hk, pm_ws_get (by rw [hn]; exact hk)]
      obtain ⟨h1, h2, h3⟩ := ho k hk hkq
      rw [h1, h2, h3]
  · rw [pm_ws_none (by rw [hn]; exact hk), List.getElem?_eq_none]
    rw [List.length_set, pm_ws_len]
    omega
theorem pm_e_ad {AC : Nat → ClassId} {ad ad' : Nat → Nat} {m : pm_Me} {k : Nat} (hi : pm_inv1 m k) (h : ∀ q, q < m.1.1 → ad' q = ad q) : pm_e AC ad' (m.1.2.1 k) k (m.1.2.2 k) (m.2 k) = pm_e AC ad (m.1.2.1 k) k (m.1.2.2 k) (m.2 k) := by
  unfold pm_e
  by_cases h1 : m.1.2.1 k < 1000
  · rw [if_pos h1, if_pos h1]
    congr 2
    apply List.map_congr_left
    intro j _
    unfold pm_fv
    by_cases h2 : pm_fk (m.1.2.1 k) j = 0
    · rw [if_pos h2, if_pos h2]
    · rw [if_neg h2, if_neg h2]
      by_cases h3 : m.1.2.2 k j = true
      · rw [if_pos h3, if_pos h3]
        have h9 : m.1.2.1 k < 10 := by
          rcases hi.1 with h | h
          · exact h
          · omega
        rw [h _ (hi.2.2.2.1 h9 j h2 h3).1]
      · rw [if_neg h3, if_neg h3]
  · rw [if_neg h1, if_neg h1]
    by_cases h2 : m.1.2.1 k < 2000
    · rw [if_pos h2, if_pos h2]
    · rw [if_neg h2, if_neg h2]
      by_cases h3 : m.1.2.1 k < 3000
      · rw [if_pos h3, if_pos h3]
      · rw [if_neg h3, if_neg h3]
        by_cases h4 : m.1.2.1 k < 4000
        · rw [if_pos h4, if_pos h4]
        · rw [if_neg h4, if_neg h4]
          by_cases h5 : m.1.2.1 k < 5000
          · rw [if_pos h5, if_pos h5]
          · rw [if_neg h5, if_neg h5]
            have e : pm_qv ad' (m.1.2.1 k) k (m.1.2.2 k) = pm_qv ad (m.1.2.1 k) k (m.1.2.2 k) := by
              funext j
              unfold pm_qv
              by_cases h6 : j < m.1.2.1 k - 5000 ∧ m.1.2.2 k j = true
              · rw [if_pos h6, if_pos h6, h _ (hi.2.2.2.2 (by omega) j h6.1 h6.2).1]
              · rw [if_neg h6, if_neg h6]
            rw [e]
theorem pm_ws_ad {AC : Nat → ClassId} {ad ad' : Nat → Nat} {m : pm_Me} (hi : pm_inv m) (h : ∀ q, q < m.1.1 → ad' q = ad q) : pm_ws AC ad' m = pm_ws AC ad m := by
  unfold pm_ws
  apply List.map_congr_left
  intro k hk
  have hk := List.mem_range.mp hk
  rw [h k hk, pm_e_ad (hi.2 k hk) h]
/-- a new thing -/
theorem pm_ws_push {AC : Nat → ClassId} {ad : Nat → Nat} {m : pm_Me} {a κ : Nat} {e : va_E} {M' : Nat → Nat → Int} {B' : Nat → Nat → Bool} (hi : pm_inv m) (he : e = pm_e AC (fun j => if j = m.1.1 then a else ad j) κ m.1.1 (B' m.1.1) (M' m.1.1)) (hM : ∀ k, k < m.1.1 → M' k = m.2 k) (hB : ∀ k, k < m.1.1 → B' k = m.1.2.2 k) : pm_ws AC ad m ++ [(a, e)] = pm_ws AC (fun j => if j = m.1.1 then a else ad j) ((m.1.1 + 1, pm_kd m.1.2.1 m.1.1 κ, B'), M') := by
  unfold pm_ws
  show _ = (List.range (m.1.1 + 1)).map _
  rw [List.range_succ, List.map_append]
  congr 1
  · apply List.map_congr_left
    intro k hk
    have hk := List.mem_range.mp hk
    have hne : k ≠ m.1.1 := Nat.ne_of_lt hk
    have e2 := pm_e_ad (AC := AC) (ad := ad) (ad' := fun j => if j = m.1.1 then a else ad j) (hi.2 k hk) (fun q hq => if_neg (Nat.ne_of_lt hq))
    show (ad k, _) = (if k = m.1.1 then a else ad k, pm_e AC _ (pm_kd m.1.2.1 m.1.1 κ k) k (B' k) (M' k))
    rw [if_neg hne, hM k hk, hB k hk, show pm_kd m.1.2.1 m.1.1 κ k = m.1.2.1 k from if_neg hne, e2]
  · show [(a, e)] = [(if m.1.1 = m.1.1 then a else ad m.1.1, pm_e AC _ (pm_kd m.1.2.1 m.1.1 κ m.1.1) m.1.1 (B' m.1.1) (M' m.1.1))]
    rw [if_pos rfl, he, show pm_kd m.1.2.1 m.1.1 κ m.1.1 = κ from if_pos rfl]
/-! the locals -/
def pm_ll (ad : Nat → Nat) : Nat → List (Option pm_V) → List (Nat × Value)
  | _, [] => []
  | i, none :: L => pm_ll ad (i + 1) L
  | i, some v :: L => (i, pm_val ad v) :: pm_ll ad (i + 1) L
theorem pm_ll_mem {ad : Nat → Nat} {q : Nat × Value} : ∀ {L : List (Option pm_V)} {i : Nat}, q ∈ pm_ll ad i L ↔ ∃ j v, pm_ld L j = some v ∧ q = (i + j, pm_val ad v)
  | [], i => by simp [pm_ll, pm_ld]
  | none :: L, i => by
    rw [pm_ll, pm_ll_mem]
    constructor
    · rintro ⟨j, v, h1, h2⟩
      exact ⟨j + 1, v, h1, by rw [h2]; congr 1; omega⟩
    · rintro ⟨j, v, h1, h2⟩
      cases j with
      | zero => simp [pm_ld] at h1
      | succ j => exact ⟨j, v, h1, by rw [h2]; congr 1; omega⟩
  | some w :: L, i => by
    rw [pm_ll, List.mem_cons, pm_ll_mem]
    constructor
    · rintro (h | ⟨j, v, h1, h2⟩)
      · exact ⟨0, w, rfl, h⟩
      · exact ⟨j + 1, v, h1, by rw [h2]; congr 1; omega⟩
    · rintro ⟨j, v, h1, h2⟩
      cases j with
      | zero =>
        left
        have h1 : some w = some v := h1
        cases h1
        exact h2
      | succ j => exact Or.inr ⟨j, v, h1, by rw [h2]; congr 1; omega⟩
theorem pm_lv_at {ad : Nat → Nat} {ls : Array Slot} {nL j : Nat} {L : List (Option pm_V)} {v : pm_V} (h : lv_has ls nL (pm_ll ad 0 L)) (hj : pm_ld L j = some v) : ls[j]? = some (.val (pm_val ad v)) := by
  have := h.2.2 (j, pm_val ad v) (pm_ll_mem.mpr ⟨j, v, hj, by rw [Nat.zero_add]⟩)
  exact this
theorem pm_lv_weak {ls : Array Slot} {nL : Nat} {l l' : List (Nat × Value)} (h : lv_has ls nL l) (hs : ∀ q ∈ l', q ∈ l) : lv_has ls nL l' := ⟨h.1, h.2.1, fun q hq => h.2.2 q (hs q hq)⟩
theorem pm_cat {ad : Nat → Nat} (v : pm_V) : ((pm_val ad v).category = 2 ↔ pm_c2 v = true) ∧ ((pm_val ad v).category = 1 ↔ pm_c2 v = false) := by
  rcases v with x | ⟨κ, q⟩ | x | x | x <;> simp [pm_val, pm_c2, Value.category]
theorem pm_k2_some {o : Option pm_V} {w : pm_V} (h : pm_k2 o = some w) : o = some w ∧ pm_c2 w = false := by
  rcases o with _ | x | ⟨κ, q⟩ | x | x | x <;> simp [pm_k2] at h <;> subst h <;> exact ⟨rfl, rfl⟩
theorem pm_ld_s1 {v w : pm_V} : ∀ {L : List (Option pm_V)} {i j : Nat}, pm_ld (pm_s1 L i v) j = some w → (j = i ∧ w = v) ∨ (j ≠ i ∧ pm_ld L j = some w ∧ ¬ (j + 1 = i ∧ pm_c2 w = true))
  | [], i, j, h => by simp [pm_s1, pm_ld] at h
  | o :: L, 0, 0, h => by
    have h : some v = some w := h
    cases h
    exact Or.inl ⟨rfl, rfl⟩
  | o :: L, 0, j + 1, h => Or.inr ⟨by omega, h, by omega⟩
  | o :: L, 1, 0, h => by
    have h : pm_k2 o = some w := h
    obtain ⟨h1, h2⟩ := pm_k2_some h
    exact Or.inr ⟨by omega, h1, fun q => by rw [h2] at q; cases q.2⟩
  | o :: L, 1, j + 1, h => by
    rcases pm_ld_s1 (L := L) (i := 0) (j := j) h with ⟨h1, h2⟩ | ⟨h1, h2, h3⟩
    · exact Or.inl ⟨by omega, h2⟩
    · exact Or.inr ⟨by omega, h2, by omega⟩
  | o :: L, i + 2, 0, h => Or.inr ⟨by omega, h, by omega⟩
  | o :: L, i + 2, j + 1, h => by
    rcases pm_ld_s1 (L := L) (i := i + 1) (j := j) h with ⟨h1, h2⟩ | ⟨h1, h2, h3⟩
    · exact Or.inl ⟨by omega, h2⟩
    · exact Or.inr ⟨by omega, h2, fun q => h3 ⟨by omega, q.2⟩⟩
theorem pm_ld_s0 {w : pm_V} : ∀ {L : List (Option pm_V)} {i j : Nat}, pm_ld (pm_s0 L i) j = some w → j ≠ i ∧ pm_ld L j = some w ∧ ¬ (j + 1 = i ∧ pm_c2 w = true)
  | [], i, j, h => by simp [pm_s0, pm_ld] at h
  | o :: L, 0, 0, h => by
    have h : none = some w := h
    cases h
  | o :: L, 0, j + 1, h => ⟨by omega, h, by omega⟩
  | o :: L, 1, 0, h => by
    have h : pm_k2 o = some w := h
    obtain ⟨h1, h2⟩ := pm_k2_some h
    exact ⟨by omega, h1, fun q => by rw [h2] at q; cases q.2⟩
  | o :: L, 1, j + 1, h => by
    obtain ⟨h1, h2, h3⟩ := pm_ld_s0 (L := L) (i := 0) (j := j) h
    exact ⟨by omega, h2, by omega⟩
  | o :: L, i + 2, 0, h => ⟨by omega, h, by omega⟩
  | o :: L, i + 2, j + 1, h => by
    obtain ⟨h1, h2, h3⟩ := pm_ld_s0 (L := L) (i := i + 1) (j := j) h
    exact ⟨by omega, h2, fun q => h3 ⟨by omega, q.2⟩⟩
theorem pm_ld_s2 {v w : pm_V} : ∀ {L : List (Option pm_V)} {i j : Nat}, pm_ld (pm_s2 L i v) j = some w → (j = i ∧ w = v) ∨ (j ≠ i ∧ j ≠ i + 1 ∧ pm_ld L j = some w ∧ ¬ (j + 1 = i ∧ pm_c2 w = true))
  | [], i, j, h => by simp [pm_s2, pm_ld] at h
  | [o], 0, 0, h => by
    have h : none = some w := h
    cases h
  | [o], 0, j + 1, h => by
    have h : none = some w := h
    cases h
  | o :: o' :: L, 0, 0, h => by
    have h : some v = some w := h
    cases h
    exact Or.inl ⟨rfl, rfl⟩
  | o :: o' :: L, 0, 1, h => by
    have h : none = some w := h
    cases h
  | o :: o' :: L, 0, j + 2, h => Or.inr ⟨by omega, by omega, h, by omega⟩
  | o :: L, 1, 0, h => by
    have h : pm_k2 o = some w := by
      cases L <;> exact h
    obtain ⟨h1, h2⟩ := pm_k2_some h
    exact Or.inr ⟨by omega, by omega, h1, fun q => by rw [h2] at q; cases q.2⟩
  | o :: L, 1, j + 1, h => by
    have h : pm_ld (pm_s2 L 0 v) j = some w := by
      cases L <;> exact h
    rcases pm_ld_s2 (L := L) (i := 0) (j := j) h with ⟨h1, h2⟩ | ⟨h1, h2, h3, h4⟩
    · exact Or.inl ⟨by omega, h2⟩
    · exact Or.inr ⟨by omega, by omega, h3, by omega⟩
  | o :: L, i + 2, 0, h => by
    have h : o = some w := by
      cases L <;> exact h
    exact Or.inr ⟨by omega, by omega, h, by omega⟩
  | o :: L, i + 2, j + 1, h => by
    have h : pm_ld (pm_s2 L (i + 1) v) j = some w := by
      cases L <;> exact h
    rcases pm_ld_s2 (L := L) (i := i + 1) (j := j) h with ⟨h1, h2⟩ | ⟨h1, h2, h3, h4⟩
    · exact Or.inl ⟨by omega, h2⟩
    · exact Or.inr ⟨by omega, by omega, h3, fun q => h4 ⟨by omega, q.2⟩⟩
theorem pm_lv_s1 {ad : Nat → Nat} {ls' : Array Slot} {nL i : Nat} {L : List (Option pm_V)} {v : pm_V} (h : lv_has ls' nL ((i, pm_val ad v) :: (pm_ll ad 0 L).filter (fun q => !(q.1 == i) && !(q.1 + 1 == i && q.2.category == 2)))) : lv_has ls' nL (pm_ll ad 0 (pm_s1 L i v)) := by
  refine pm_lv_weak h (fun q hq => ?_)
  obtain ⟨j, w, h1, rfl⟩ := pm_ll_mem.mp hq
  rcases pm_ld_s1 h1 with ⟨h2, h3⟩ | ⟨h2, h3, h4⟩
  · subst h2; subst h3
    rw [Nat.zero_add]
    exact List.mem_cons_self
  · refine List.mem_cons_of_mem _ (List.mem_filter.mpr ⟨pm_ll_mem.mpr ⟨j, w, h3, rfl⟩, ?_⟩)
    have := (pm_cat (ad := ad) w).1
    simp only [Nat.zero_add, Bool.and_eq_true, Bool.not_eq_true', beq_eq_false_iff_ne, ne_eq, h2, not_false_eq_true, true_and, Bool.and_eq_false_iff]
    by_cases h5 : j + 1 = i
    · right
      exact fun q => h4 ⟨h5, this.mp q⟩
    · left
      exact h5
theorem pm_lv_s0 {ad : Nat → Nat} {ls' : Array Slot} {nL i : Nat} {L : List (Option pm_V)} {x : Value} (h : lv_has ls' nL ((i, x) :: (pm_ll ad 0 L).filter (fun q => !(q.1 == i) && !(q.1 + 1 == i && q.2.category == 2)))) : lv_has ls' nL (pm_ll ad 0 (pm_s0 L i)) := by
  refine pm_lv_weak h (fun q hq => ?_)
  obtain ⟨j, w, h1, rfl⟩ := pm_ll_mem.mp hq
  obtain ⟨h2, h3, h4⟩ := pm_ld_s0 h1
  refine List.mem_cons_of_mem _ (List.mem_filter.mpr ⟨pm_ll_mem.mpr ⟨j, w, h3, rfl⟩, ?_⟩)
  have := (pm_cat (ad := ad) w).1
  simp only [Nat.zero_add, Bool.and_eq_true, Bool.not_eq_true', beq_eq_false_iff_ne, ne_eq, h2, not_false_eq_true, true_and, Bool.and_eq_false_iff]
  by_cases h5 : j + 1 = i
  · right
    exact fun q => h4 ⟨h5, this.mp q⟩
  · left
    exact h5
theorem pm_lv_s2 {ad : Nat → Nat} {ls' : Array Slot} {nL i : Nat} {L : List (Option pm_V)} {v : pm_V} (h : lv_has ls' nL ((i, pm_val ad v) :: (pm_ll ad 0 L).filter (fun q => !(q.1 == i) && (!(q.1 == i + 1) && !(q.1 + 1 == i && q.2.category == 2))))) : lv_has ls' nL (pm_ll ad 0 (pm_s2 L i v)) := by
  refine pm_lv_weak h (fun q hq => ?_)
  obtain ⟨j, w, h1, rfl⟩ := pm_ll_mem.mp hq
  rcases pm_ld_s2 h1 with ⟨h2, h3⟩ | ⟨h2, h0, h3, h4⟩
  · subst h2; subst h3
    rw [Nat.zero_add]
    exact List.mem_cons_self
  · refine List.mem_cons_of_mem _ (List.mem_filter.mpr ⟨pm_ll_mem.mpr ⟨j, w, h3, rfl⟩, ?_⟩)
    have := (pm_cat (ad := ad) w).1
    simp only [Nat.zero_add, Bool.and_eq_true, Bool.not_eq_true', beq_eq_false_iff_ne, ne_eq, h2, h0, not_false_eq_true, true_and, Bool.and_eq_false_iff]
    by_cases h5 : j + 1 = i
    · right
      exact fun q => h4 ⟨h5, this.mp q⟩
    · left
      exact h5
theorem pm_fg_ld {w : pm_V} : ∀ {L L' : List (Option pm_V)} {j : Nat}, pm_fg L L' → pm_ld L' j = some w → pm_ld L j = some w
  | [], [], _, _, h => h
  | [], _ :: _, _, hf, _ => by simp [pm_fg] at hf
  | _ :: _, [], _, hf, _ => by simp [pm_fg] at hf
  | a :: L, b :: L', 0, hf, h => by
    have h : b = some w := h
    rcases hf.1 with h1 | h1
    · exact h1.symm.trans h
    · rw [h1] at h; cases h
  | a :: L, b :: L', j + 1, hf, h => pm_fg_ld (L := L) (L' := L') hf.2 h
theorem pm_val_ad {ad ad' : Nat → Nat} {fl : Bool} {z : pm_Sh} {v : pm_V} (h : pm_ok fl z v) (h1 : ∀ q, q < z.1 → ad' q = ad q) (h2 : ad' 9999 = ad 9999) : pm_val ad' v = pm_val ad v := by
  rcases v with x | ⟨κ, q⟩ | x | x | x
  · rfl
  · rcases h with h | ⟨-, -, h⟩
    · show Value.ref (ad' q) = .ref (ad q)
      rw [h1 q h.1]
    · show Value.ref (ad' q) = .ref (ad q)
      rw [h, h2]
  · rfl
  · rfl
  · rfl
end
section
/-! ONE INSTRUCTION OF THE PURE MACHINE, ONE OF THE MACHINE (laid by wip/whole/gen_arms.py) -/
theorem pm_ok_cons {fl : Bool} {z : pm_Sh} {v : pm_V} {st : List pm_V} (h : pm_ok fl z v) (hs : ∀ w ∈ st, pm_ok fl z w) : ∀ w ∈ v :: st, pm_ok fl z w := fun w hw => (List.mem_cons.mp hw).elim (fun q => by rw [q]; exact h) (hs w)
theorem pm_ok_tl {fl : Bool} {z : pm_Sh} {v : pm_V} {st : List pm_V} (hs : ∀ w ∈ v :: st, pm_ok fl z w) : ∀ w ∈ st, pm_ok fl z w := fun w hw => hs w (List.mem_cons_of_mem _ hw)
theorem pm_ok_hd {fl : Bool} {z : pm_Sh} {v : pm_V} {st : List pm_V} (hs : ∀ w ∈ v :: st, pm_ok fl z w) : pm_ok fl z v := hs v List.mem_cons_self
theorem pm_ok_s1 {fl : Bool} {z : pm_Sh} {v : pm_V} {L : List (Option pm_V)} {i : Nat} (h : pm_ok fl z v) (hL : ∀ j w, pm_ld L j = some w → pm_ok fl z w) : ∀ j w, pm_ld (pm_s1 L i v) j = some w → pm_ok fl z w := fun j w hw => by
  rcases pm_ld_s1 hw with ⟨-, h2⟩ | ⟨-, h2, -⟩
  · rw [h2]; exact h
  · exact hL j w h2
theorem pm_ok_s0 {fl : Bool} {z : pm_Sh} {L : List (Option pm_V)} {i : Nat} (hL : ∀ j w, pm_ld L j = some w → pm_ok fl z w) : ∀ j w, pm_ld (pm_s0 L i) j = some w → pm_ok fl z w := fun j w hw => hL j w (pm_ld_s0 hw).2.1
theorem pm_ok_s2 {fl : Bool} {z : pm_Sh} {v : pm_V} {L : List (Option pm_V)} {i : Nat} (h : pm_ok fl z v) (hL : ∀ j w, pm_ld L j = some w → pm_ok fl z w) : ∀ j w, pm_ld (pm_s2 L i v) j = some w → pm_ok fl z w := fun j w hw => by
  rcases pm_ld_s2 hw with ⟨-, h2⟩ | ⟨-, -, h2, -⟩
  · rw [h2]; exact h
  · exact hL j w h2
/-- the things that were there at the start are there still, where they were -/
def pm_bs (bs : Nat × (Nat → Nat) × (Nat → Nat)) (ad : Nat → Nat) (n : Nat) (kd : Nat → Nat) : Prop := bs.1 ≤ n ∧ (∀ q, q < bs.1 → kd q = bs.2.1 q ∧ ad q = bs.2.2 q) ∧ ad 9999 = bs.2.2 9999
def pm_Rel (s : State) (D : va_G) (AC : Nat → ClassId) (A : Nat → Prop) (nL : Nat) (fl : Bool) (M0 : Nat → Nat → Int) (bs : Nat × (Nat → Nat) × (Nat → Nat)) (ad : Nat → Nat) (H : Heap) (locs : List Loc) (ls : Array Slot) (L : List (Option pm_V)) (st : List pm_V) (me : pm_Me) : Prop :=
  va_P D pm_cl (pm_ws AC ad me) H ∧ va_D A (pm_ws AC ad me) ∧ pm_inv me ∧ va_S A s.heap H locs ∧ lv_has ls nL (pm_ll ad 0 L) ∧ (∀ j v, pm_ld L j = some v → pm_ok fl me.1 v) ∧ (∀ v ∈ st, pm_ok fl me.1 v) ∧ (∀ a, 9000 ≤ a → me.2 a = M0 a) ∧ pm_bs bs ad me.1.1 me.1.2.1
def pm_W (p : Program) (l : Launch) (e : Env) (R : Room) (s : State) (m : MethodId) (args : Array Value) (below : List Frame) (meth : Method) (c : Code) (Q : State → Prop) (D : va_G) (AC : Nat → ClassId) (A : Nat → Prop) (nL : Nat) (fl : Bool) (M0 : Nat → Nat → Int) (bs : Nat × (Nat → Nat) × (Nat → Nat)) (pcs : List Nat) (S : pm_St) : Prop :=
  S.1 ∈ pcs → S.2.2.2.2.1 ≤ R.cells → S.2.2.2.2.2 ≤ R.slots → ∀ (ad : Nat → Nat) (H : Heap) (locs : List Loc) (ls : Array Slot), pm_Rel s D AC A nL fl M0 bs ad H locs ls S.2.1 S.2.2.1 S.2.2.2.1 → W p l e R s m args below meth c H locs S.2.2.2.2.1 S.2.2.2.2.2 Q (F0 m S.1 ls (S.2.2.1.map (pm_val ad)))
theorem pm_i32_add (x y : Int) : Int32.ofInt x + Int32.ofInt y = Int32.ofInt (x + y) := (Int32.ofInt_add x y).symm
theorem pm_i32_sub (x y : Int) : Int32.ofInt x - Int32.ofInt y = Int32.ofInt (x - y) := (Int32.ofInt_sub x y).symm
theorem pm_i32_mul (x y : Int) : Int32.ofInt x * Int32.ofInt y = Int32.ofInt (x * y) := (Int32.ofInt_mul x y).symm
theorem pm_i32_to {x : Int} (h : pm_r x) : (Int32.ofInt x).toInt = x := Int32.toInt_ofInt_of_le h.1 (by have := h.2; show x < 2147483648; omega)
theorem pm_i32_lt {x y : Int} (hx : pm_r x) (hy : pm_r y) : Int32.ofInt x < Int32.ofInt y ↔ x < y := by rw [Int32.lt_iff_toInt_lt, pm_i32_to hx, pm_i32_to hy]
theorem pm_i32_le {x y : Int} (hx : pm_r x) (hy : pm_r y) : Int32.ofInt x ≤ Int32.ofInt y ↔ x ≤ y := by rw [Int32.le_iff_toInt_le, pm_i32_to hx, pm_i32_to hy]
theorem pm_i32_eq {x y : Int} (hx : pm_r x) (hy : pm_r y) : Int32.ofInt x = Int32.ofInt y ↔ x = y := by rw [← Int32.toInt_inj, pm_i32_to hx, pm_i32_to hy]
theorem pm_i32_of (x : Int32) : Int32.ofInt x.toInt = x := Int32.ofInt_toInt x
theorem pm_r_of (x : Int32) : pm_r x.toInt := ⟨Int32.le_toInt x, by have := Int32.toInt_lt x; omega⟩
theorem pm_r0 : pm_r 0 := ⟨by decide, by decide⟩
theorem pm_i32_0 : Int32.ofInt 0 = 0 := by decide
theorem pm_clamp {x : Int} (h : pm_r x) (h0 : 0 ≤ x) : (Int32.ofInt x).toNatClampNeg = x.toNat := by
  show (Int32.ofInt x).toInt.toNat = _
  rw [pm_i32_to h]
theorem pm_vin {x : Int} {n : Nat} (h : pm_r x) (h0 : 0 ≤ x) (h1 : x < (n : Int)) : vp_in (Int32.ofInt x) n := by
  rw [vp_in_iff, pm_i32_to h]
  exact ⟨h0, h1⟩
theorem pm_idiv_r {x y : Int} (h : pm_r x) (h0 : 0 ≤ x) (h1 : 0 < y) : pm_r (x / y) := by
  have a := Int.ediv_nonneg h0 (Int.le_of_lt h1)
  have b := Int.ediv_le_self y h0
  exact ⟨by omega, by have := h.2; omega⟩
theorem pm_irem_r {x y : Int} (h : pm_r x) (h0 : 0 ≤ x) (h1 : 0 < y) : pm_r (x % y) := by
  have a := Int.emod_nonneg x (Int.ne_of_gt h1)
  have b : x % y ≤ x := by
    have h2 := Int.emod_def x y
    have h3 := Int.mul_nonneg (Int.le_of_lt h1) (Int.ediv_nonneg h0 (Int.le_of_lt h1))
    omega
  exact ⟨by omega, by have := h.2; omega⟩
theorem pm_i32_idiv {x y : Int} (hx : pm_r x) (hy : pm_r y) (h0 : 0 ≤ x) (h1 : 0 < y) : Int32.ofInt x / Int32.ofInt y = Int32.ofInt (x / y) := by
  apply Int32.toInt_inj.mp
  rw [pm_i32_to (pm_idiv_r hx h0 h1), Int32.toInt_div_of_ne_left _ _ (fun q => by rw [← Int32.toInt_inj, pm_i32_to hx] at q; have : (Int32.minValue).toInt = -2147483648 := by decide
                                                                                  omega), pm_i32_to hx, pm_i32_to hy, Int.tdiv_eq_ediv_of_nonneg h0]
theorem pm_i32_irem {x y : Int} (hx : pm_r x) (hy : pm_r y) (h0 : 0 ≤ x) (h1 : 0 < y) : Int32.ofInt x - Int32.ofInt x / Int32.ofInt y * Int32.ofInt y = Int32.ofInt (x % y) := by
  rw [pm_i32_idiv hx hy h0 h1, pm_i32_mul, pm_i32_sub]
  congr 1
  have := Int.emod_def x y
  rw [this, Int.mul_comm]
theorem pm_i2l {x : Int} (h : pm_r x) : (Int32.ofInt x).toInt64 = Int64.ofInt x := by
  apply Int64.toInt_inj.mp
  rw [Int32.toInt_toInt64, pm_i32_to h, Int64.toInt_ofInt_of_le (by have := h.1; omega) (by have := h.2; show x < 9223372036854775808; omega)]
theorem pm_lcmp_r (x y : Int) : pm_r (pm_lcmp x y) := by
  unfold pm_lcmp pm_r
  split
  · omega
  · split <;> omega
theorem pm_i64_to {x : Int} (h : -9223372036854775808 ≤ x ∧ x ≤ 9223372036854775807) : (Int64.ofInt x).toInt = x := Int64.toInt_ofInt_of_le h.1 (by have := h.2; show x < 9223372036854775808; omega)
theorem pm_lcmp_eq {x y : Int} (hx : -9223372036854775808 ≤ x ∧ x ≤ 9223372036854775807) (hy : -9223372036854775808 ≤ y ∧ y ≤ 9223372036854775807) : Int32.ofInt (pm_lcmp x y) = lg_cmp (Int64.ofInt x) (Int64.ofInt y) := by
  have h1 : Int64.ofInt x < Int64.ofInt y ↔ x < y := by rw [Int64.lt_iff_toInt_lt, pm_i64_to hx, pm_i64_to hy]
  have h2 : Int64.ofInt x = Int64.ofInt y ↔ x = y := by rw [← Int64.toInt_inj, pm_i64_to hx, pm_i64_to hy]
  have h3 : Int64.ofInt y < Int64.ofInt x ↔ y < x := by rw [Int64.lt_iff_toInt_lt, pm_i64_to hx, pm_i64_to hy]
  unfold pm_lcmp lg_cmp
  simp only [gt_iff_lt, h2, h3]
  by_cases a : x < y
  · rw [if_pos a, if_neg (by omega), if_neg (by omega)]; decide
  · rw [if_neg a]
    by_cases b : x = y
    · rw [if_pos b, if_neg (by omega), if_pos b]; decide
    · rw [if_neg b, if_pos (by omega)]; decide
section SND
variable {p : Program} {l : Launch} {e : Env} {R : Room} {s : State} {m : MethodId} {args : Array Value} {below : List Frame} {meth : Method} {c : Code} {Q : State → Prop}
variable {D : va_G} {AC : Nat → ClassId} {A : Nat → Prop} {cc : ByteArray} {nL : Nat} {fl : Bool} {M0 : Nat → Nat → Int} {bs : Nat × (Nat → Nat) × (Nat → Nat)} {pcs : List Nat}
variable {pc : Nat} {L : List (Option pm_V)} {st : List pm_V} {me : pm_Me} {c0 t0 : Nat}

theorem pm_a_iconst (hx : p.tables.exec = Jvm.exec) (hb : c.code = cc) {n : Int} (hd : decode cc pc = .ok (.iconst n, 1)) (hr : pm_r n) (k : pm_W p l e R s m args below meth c Q D AC A nL fl M0 bs pcs (pc + 1, L, .inl n :: st, me, c0, t0)) (hp : pc + 1 ∈ pcs) : pm_W p l e R s m args below meth c Q D AC A nL fl M0 bs pcs (pc, L, st, me, c0, t0) := by
  intro _ hlc hlt ad H locs ls h
  obtain ⟨hP, hD, hI, hS, hl, hL, hst, hM, hb0⟩ := id h
  exact lv_iconst hx hb hd rfl (k hp hlc hlt ad H locs ls ⟨hP, hD, hI, hS, hl, hL, pm_ok_cons hr hst, hM, hb0⟩)
theorem pm_a_bipush (hx : p.tables.exec = Jvm.exec) (hb : c.code = cc) {n : Int} (hd : decode cc pc = .ok (.bipush n, 2)) (hv : (Int8.ofInt n).toInt32 = Int32.ofInt n) (hr : pm_r n) (k : pm_W p l e R s m args below meth c Q D AC A nL fl M0 bs pcs (pc + 2, L, .inl n :: st, me, c0, t0)) (hp : pc + 2 ∈ pcs) : pm_W p l e R s m args below meth c Q D AC A nL fl M0 bs pcs (pc, L, st, me, c0, t0) := by
  intro _ hlc hlt ad H locs ls h
  obtain ⟨hP, hD, hI, hS, hl, hL, hst, hM, hb0⟩ := id h
  exact lv_bipush hx hb hd hv (k hp hlc hlt ad H locs ls ⟨hP, hD, hI, hS, hl, hL, pm_ok_cons hr hst, hM, hb0⟩)
theorem pm_a_sipush (hx : p.tables.exec = Jvm.exec) (hb : c.code = cc) {n : Int} (hd : decode cc pc = .ok (.sipush n, 3)) (hv : (Int16.ofInt n).toInt32 = Int32.ofInt n) (hr : pm_r n) (k : pm_W p l e R s m args below meth c Q D AC A nL fl M0 bs pcs (pc + 3, L, .inl n :: st, me, c0, t0)) (hp : pc + 3 ∈ pcs) : pm_W p l e R s m args below meth c Q D AC A nL fl M0 bs pcs (pc, L, st, me, c0, t0) := by
  intro _ hlc hlt ad H locs ls h
  obtain ⟨hP, hD, hI, hS, hl, hL, hst, hM, hb0⟩ := id h
  exact lv_sipush hx hb hd hv (k hp hlc hlt ad H locs ls ⟨hP, hD, hI, hS, hl, hL, pm_ok_cons hr hst, hM, hb0⟩)
theorem pm_a_lconst (hx : p.tables.exec = Jvm.exec) (hb : c.code = cc) {n : Fin 2} (hd : decode cc pc = .ok (.lconst n, 1)) (k : pm_W p l e R s m args below meth c Q D AC A nL fl M0 bs pcs (pc + 1, L, .inr (.inr (.inl (n.val : Int))) :: st, me, c0, t0)) (hp : pc + 1 ∈ pcs) : pm_W p l e R s m args below meth c Q D AC A nL fl M0 bs pcs (pc, L, st, me, c0, t0) := by
  intro _ hlc hlt ad H locs ls h
  obtain ⟨hP, hD, hI, hS, hl, hL, hst, hM, hb0⟩ := id h
  have hn := n.isLt
  exact lv_lconst hx hb hd (by show Int64.ofNat n.val = Int64.ofInt (n.val : Int); rw [Int64.ofInt_eq_ofNat]) (k hp hlc hlt ad H locs ls ⟨hP, hD, hI, hS, hl, hL, pm_ok_cons (show pm_ok fl me.1 (.inr (.inr (.inl (n.val : Int)))) from ⟨by omega, by omega⟩) hst, hM, hb0⟩)
theorem pm_a_fconst (hx : p.tables.exec = Jvm.exec) (hb : c.code = cc) (hd : decode cc pc = .ok (.fconst 0, 1)) (k : pm_W p l e R s m args below meth c Q D AC A nL fl M0 bs pcs (pc + 1, L, .inr (.inr (.inr (.inl 0))) :: st, me, c0, t0)) (hp : pc + 1 ∈ pcs) : pm_W p l e R s m args below meth c Q D AC A nL fl M0 bs pcs (pc, L, st, me, c0, t0) := by
  intro _ hlc hlt ad H locs ls h
  obtain ⟨hP, hD, hI, hS, hl, hL, hst, hM, hb0⟩ := id h
  exact lv_fconst0 hx hb hd (k hp hlc hlt ad H locs ls ⟨hP, hD, hI, hS, hl, hL, pm_ok_cons (v := .inr (.inr (.inr (.inl 0)))) trivial hst, hM, hb0⟩)
theorem pm_a_dconst0 (hx : p.tables.exec = Jvm.exec) (hb : c.code = cc) (hd : decode cc pc = .ok (.dconst 0, 1)) (k : pm_W p l e R s m args below meth c Q D AC A nL fl M0 bs pcs (pc + 1, L, .inr (.inr (.inr (.inr 0))) :: st, me, c0, t0)) (hp : pc + 1 ∈ pcs) : pm_W p l e R s m args below meth c Q D AC A nL fl M0 bs pcs (pc, L, st, me, c0, t0) := by
  intro _ hlc hlt ad H locs ls h
  obtain ⟨hP, hD, hI, hS, hl, hL, hst, hM, hb0⟩ := id h
  exact lv_dconst0 hx hb hd (k hp hlc hlt ad H locs ls ⟨hP, hD, hI, hS, hl, hL, pm_ok_cons (v := .inr (.inr (.inr (.inr 0)))) trivial hst, hM, hb0⟩)
theorem pm_a_dconst1 (hx : p.tables.exec = Jvm.exec) (hb : c.code = cc) (hd : decode cc pc = .ok (.dconst 1, 1)) (k : pm_W p l e R s m args below meth c Q D AC A nL fl M0 bs pcs (pc + 1, L, .inr (.inr (.inr (.inr 0x3ff0000000000000))) :: st, me, c0, t0)) (hp : pc + 1 ∈ pcs) : pm_W p l e R s m args below meth c Q D AC A nL fl M0 bs pcs (pc, L, st, me, c0, t0) := by
  intro _ hlc hlt ad H locs ls h
  obtain ⟨hP, hD, hI, hS, hl, hL, hst, hM, hb0⟩ := id h
  exact lv_dconst1 hx hb hd (k hp hlc hlt ad H locs ls ⟨hP, hD, hI, hS, hl, hL, pm_ok_cons (v := .inr (.inr (.inr (.inr 0x3ff0000000000000)))) trivial hst, hM, hb0⟩)
theorem pm_a_ldc2 (hx : p.tables.exec = Jvm.exec) (hb : c.code = cc) {own : String} {index : Nat} {v : UInt64} (hown : s.vm.findClass own = some m.cls) (hc : (Jvm.Cond.constantDouble own index v).before args s = true) (hd : decode cc pc = .ok (.ldc2_w index, 3)) (k : pm_W p l e R s m args below meth c Q D AC A nL fl M0 bs pcs (pc + 3, L, .inr (.inr (.inr (.inr v))) :: st, me, c0, t0)) (hp : pc + 3 ∈ pcs) : pm_W p l e R s m args below meth c Q D AC A nL fl M0 bs pcs (pc, L, st, me, c0, t0) := by
  intro _ hlc hlt ad H locs ls h
  obtain ⟨hP, hD, hI, hS, hl, hL, hst, hM, hb0⟩ := id h
  exact lv_ldc2d hx hb hown hc hd (k hp hlc hlt ad H locs ls ⟨hP, hD, hI, hS, hl, hL, pm_ok_cons (v := .inr (.inr (.inr (.inr v)))) trivial hst, hM, hb0⟩)
theorem pm_a_iload (hx : p.tables.exec = Jvm.exec) (hb : c.code = cc) {n : Nat} {x : Int} (hd : decode cc pc = .ok (.iload n, 2)) (hn : pm_ld L n = some (.inl x)) (k : pm_W p l e R s m args below meth c Q D AC A nL fl M0 bs pcs (pc + 2, L, .inl x :: st, me, c0, t0)) (hp : pc + 2 ∈ pcs) : pm_W p l e R s m args below meth c Q D AC A nL fl M0 bs pcs (pc, L, st, me, c0, t0) := by
  intro _ hlc hlt ad H locs ls h
  obtain ⟨hP, hD, hI, hS, hl, hL, hst, hM, hb0⟩ := id h
  exact lv_iload hx hb hd (pm_lv_at hl hn) (k hp hlc hlt ad H locs ls ⟨hP, hD, hI, hS, hl, hL, pm_ok_cons (hL n _ hn) hst, hM, hb0⟩)
theorem pm_a_iload_n (hx : p.tables.exec = Jvm.exec) (hb : c.code = cc) {n : Fin 4} {x : Int} (hd : decode cc pc = .ok (.iload_n n, 1)) (hn : pm_ld L n.val = some (.inl x)) (k : pm_W p l e R s m args below meth c Q D AC A nL fl M0 bs pcs (pc + 1, L, .inl x :: st, me, c0, t0)) (hp : pc + 1 ∈ pcs) : pm_W p l e R s m args below meth c Q D AC A nL fl M0 bs pcs (pc, L, st, me, c0, t0) := by
  intro _ hlc hlt ad H locs ls h
  obtain ⟨hP, hD, hI, hS, hl, hL, hst, hM, hb0⟩ := id h
  exact lv_iload_n hx hb hd rfl (pm_lv_at hl hn) (k hp hlc hlt ad H locs ls ⟨hP, hD, hI, hS, hl, hL, pm_ok_cons (hL n.val _ hn) hst, hM, hb0⟩)
theorem pm_a_aload (hx : p.tables.exec = Jvm.exec) (hb : c.code = cc) {n : Nat} {κ q : Nat} (hd : decode cc pc = .ok (.aload n, 2)) (hn : pm_ld L n = some (.inr (.inl (κ, q)))) (k : pm_W p l e R s m args below meth c Q D AC A nL fl M0 bs pcs (pc + 2, L, .inr (.inl (κ, q)) :: st, me, c0, t0)) (hp : pc + 2 ∈ pcs) : pm_W p l e R s m args below meth c Q D AC A nL fl M0 bs pcs (pc, L, st, me, c0, t0) := by
  intro _ hlc hlt ad H locs ls h
  obtain ⟨hP, hD, hI, hS, hl, hL, hst, hM, hb0⟩ := id h
  exact lv_aload hx hb hd (pm_lv_at hl hn) (k hp hlc hlt ad H locs ls ⟨hP, hD, hI, hS, hl, hL, pm_ok_cons (hL n _ hn) hst, hM, hb0⟩)
theorem pm_a_aload_n (hx : p.tables.exec = Jvm.exec) (hb : c.code = cc) {n : Fin 4} {κ q : Nat} (hd : decode cc pc = .ok (.aload_n n, 1)) (hn : pm_ld L n.val = some (.inr (.inl (κ, q)))) (k : pm_W p l e R s m args below meth c Q D AC A nL fl M0 bs pcs (pc + 1, L, .inr (.inl (κ, q)) :: st, me, c0, t0)) (hp : pc + 1 ∈ pcs) : pm_W p l e R s m args below meth c Q D AC A nL fl M0 bs pcs (pc, L, st, me, c0, t0) := by
  intro _ hlc hlt ad H locs ls h
  obtain ⟨hP, hD, hI, hS, hl, hL, hst, hM, hb0⟩ := id h
  exact lv_aload_n hx hb hd rfl (pm_lv_at hl hn) (k hp hlc hlt ad H locs ls ⟨hP, hD, hI, hS, hl, hL, pm_ok_cons (hL n.val _ hn) hst, hM, hb0⟩)
theorem pm_a_fload (hx : p.tables.exec = Jvm.exec) (hb : c.code = cc) {n : Nat} {x : UInt32} (hd : decode cc pc = .ok (.fload n, 2)) (hn : pm_ld L n = some (.inr (.inr (.inr (.inl x))))) (k : pm_W p l e R s m args below meth c Q D AC A nL fl M0 bs pcs (pc + 2, L, .inr (.inr (.inr (.inl x))) :: st, me, c0, t0)) (hp : pc + 2 ∈ pcs) : pm_W p l e R s m args below meth c Q D AC A nL fl M0 bs pcs (pc, L, st, me, c0, t0) := by
  intro _ hlc hlt ad H locs ls h
  obtain ⟨hP, hD, hI, hS, hl, hL, hst, hM, hb0⟩ := id h
  exact lv_fload hx hb hd (pm_lv_at hl hn) (k hp hlc hlt ad H locs ls ⟨hP, hD, hI, hS, hl, hL, pm_ok_cons (hL n _ hn) hst, hM, hb0⟩)
theorem pm_a_dload (hx : p.tables.exec = Jvm.exec) (hb : c.code = cc) {n : Nat} {x : UInt64} (hd : decode cc pc = .ok (.dload n, 2)) (hn : pm_ld L n = some (.inr (.inr (.inr (.inr x))))) (k : pm_W p l e R s m args below meth c Q D AC A nL fl M0 bs pcs (pc + 2, L, .inr (.inr (.inr (.inr x))) :: st, me, c0, t0)) (hp : pc + 2 ∈ pcs) : pm_W p l e R s m args below meth c Q D AC A nL fl M0 bs pcs (pc, L, st, me, c0, t0) := by
  intro _ hlc hlt ad H locs ls h
  obtain ⟨hP, hD, hI, hS, hl, hL, hst, hM, hb0⟩ := id h
  exact lv_dload hx hb hd (pm_lv_at hl hn) (k hp hlc hlt ad H locs ls ⟨hP, hD, hI, hS, hl, hL, pm_ok_cons (hL n _ hn) hst, hM, hb0⟩)
theorem pm_a_dload_n (hx : p.tables.exec = Jvm.exec) (hb : c.code = cc) {n : Fin 4} {x : UInt64} (hd : decode cc pc = .ok (.dload_n n, 1)) (hn : pm_ld L n.val = some (.inr (.inr (.inr (.inr x))))) (k : pm_W p l e R s m args below meth c Q D AC A nL fl M0 bs pcs (pc + 1, L, .inr (.inr (.inr (.inr x))) :: st, me, c0, t0)) (hp : pc + 1 ∈ pcs) : pm_W p l e R s m args below meth c Q D AC A nL fl M0 bs pcs (pc, L, st, me, c0, t0) := by
  intro _ hlc hlt ad H locs ls h
  obtain ⟨hP, hD, hI, hS, hl, hL, hst, hM, hb0⟩ := id h
  exact lv_dload_n hx hb hd rfl (pm_lv_at hl hn) (k hp hlc hlt ad H locs ls ⟨hP, hD, hI, hS, hl, hL, pm_ok_cons (hL n.val _ hn) hst, hM, hb0⟩)
theorem pm_a_istore (hx : p.tables.exec = Jvm.exec) (hb : c.code = cc) {n : Nat} {x : Int} (hd : decode cc pc = .ok (.istore n, 2)) (hn : n < nL) (k : pm_W p l e R s m args below meth c Q D AC A nL fl M0 bs pcs (pc + 2, pm_s1 L n (.inl x), st, me, c0, t0)) (hp : pc + 2 ∈ pcs) : pm_W p l e R s m args below meth c Q D AC A nL fl M0 bs pcs (pc, L, (.inl x :: st), me, c0, t0) := by
  intro _ hlc hlt ad H locs ls h
  obtain ⟨hP, hD, hI, hS, hl, hL, hst, hM, hb0⟩ := id h
  exact lv_istore hx hb hd hl hn rfl (fun ls' hl' => k hp hlc hlt ad H locs ls' ⟨hP, hD, hI, hS, pm_lv_s1 (v := .inl x) hl', pm_ok_s1 (pm_ok_hd hst) hL, pm_ok_tl hst, hM, hb0⟩)
theorem pm_a_istore_n (hx : p.tables.exec = Jvm.exec) (hb : c.code = cc) {n : Fin 4} {x : Int} (hd : decode cc pc = .ok (.istore_n n, 1)) (hn : n.val < nL) (k : pm_W p l e R s m args below meth c Q D AC A nL fl M0 bs pcs (pc + 1, pm_s1 L n.val (.inl x), st, me, c0, t0)) (hp : pc + 1 ∈ pcs) : pm_W p l e R s m args below meth c Q D AC A nL fl M0 bs pcs (pc, L, (.inl x :: st), me, c0, t0) := by
  intro _ hlc hlt ad H locs ls h
  obtain ⟨hP, hD, hI, hS, hl, hL, hst, hM, hb0⟩ := id h
  exact lv_istore_n hx hb hd rfl hl hn rfl (fun ls' hl' => k hp hlc hlt ad H locs ls' ⟨hP, hD, hI, hS, pm_lv_s1 (v := .inl x) hl', pm_ok_s1 (pm_ok_hd hst) hL, pm_ok_tl hst, hM, hb0⟩)
theorem pm_a_astore (hx : p.tables.exec = Jvm.exec) (hb : c.code = cc) {n : Nat} {κ q : Nat} (hd : decode cc pc = .ok (.astore n, 2)) (hn : n < nL) (k : pm_W p l e R s m args below meth c Q D AC A nL fl M0 bs pcs (pc + 2, pm_s1 L n (.inr (.inl (κ, q))), st, me, c0, t0)) (hp : pc + 2 ∈ pcs) : pm_W p l e R s m args below meth c Q D AC A nL fl M0 bs pcs (pc, L, (.inr (.inl (κ, q)) :: st), me, c0, t0) := by
  intro _ hlc hlt ad H locs ls h
  obtain ⟨hP, hD, hI, hS, hl, hL, hst, hM, hb0⟩ := id h
  exact lv_astore hx hb hd hl hn rfl (fun ls' hl' => k hp hlc hlt ad H locs ls' ⟨hP, hD, hI, hS, pm_lv_s1 (v := .inr (.inl (κ, q))) hl', pm_ok_s1 (pm_ok_hd hst) hL, pm_ok_tl hst, hM, hb0⟩)
theorem pm_a_astore_n (hx : p.tables.exec = Jvm.exec) (hb : c.code = cc) {n : Fin 4} {κ q : Nat} (hd : decode cc pc = .ok (.astore_n n, 1)) (hn : n.val < nL) (k : pm_W p l e R s m args below meth c Q D AC A nL fl M0 bs pcs (pc + 1, pm_s1 L n.val (.inr (.inl (κ, q))), st, me, c0, t0)) (hp : pc + 1 ∈ pcs) : pm_W p l e R s m args below meth c Q D AC A nL fl M0 bs pcs (pc, L, (.inr (.inl (κ, q)) :: st), me, c0, t0) := by
  intro _ hlc hlt ad H locs ls h
  obtain ⟨hP, hD, hI, hS, hl, hL, hst, hM, hb0⟩ := id h
  exact lv_astore_n hx hb hd rfl hl hn rfl (fun ls' hl' => k hp hlc hlt ad H locs ls' ⟨hP, hD, hI, hS, pm_lv_s1 (v := .inr (.inl (κ, q))) hl', pm_ok_s1 (pm_ok_hd hst) hL, pm_ok_tl hst, hM, hb0⟩)
theorem pm_a_fstore (hx : p.tables.exec = Jvm.exec) (hb : c.code = cc) {n : Nat} {x : UInt32} (hd : decode cc pc = .ok (.fstore n, 2)) (hn : n < nL) (k : pm_W p l e R s m args below meth c Q D AC A nL fl M0 bs pcs (pc + 2, pm_s1 L n (.inr (.inr (.inr (.inl x)))), st, me, c0, t0)) (hp : pc + 2 ∈ pcs) : pm_W p l e R s m args below meth c Q D AC A nL fl M0 bs pcs (pc, L, (.inr (.inr (.inr (.inl x))) :: st), me, c0, t0) := by
  intro _ hlc hlt ad H locs ls h
  obtain ⟨hP, hD, hI, hS, hl, hL, hst, hM, hb0⟩ := id h
  exact lv_fstore hx hb hd hl hn rfl (fun ls' hl' => k hp hlc hlt ad H locs ls' ⟨hP, hD, hI, hS, pm_lv_s1 (v := .inr (.inr (.inr (.inl x)))) hl', pm_ok_s1 (pm_ok_hd hst) hL, pm_ok_tl hst, hM, hb0⟩)
theorem pm_a_dstore (hx : p.tables.exec = Jvm.exec) (hb : c.code = cc) {n : Nat} {x : UInt64} (hd : decode cc pc = .ok (.dstore n, 2)) (hn : n + 1 < nL) (k : pm_W p l e R s m args below meth c Q D AC A nL fl M0 bs pcs (pc + 2, pm_s2 L n (.inr (.inr (.inr (.inr x)))), st, me, c0, t0)) (hp : pc + 2 ∈ pcs) : pm_W p l e R s m args below meth c Q D AC A nL fl M0 bs pcs (pc, L, (.inr (.inr (.inr (.inr x))) :: st), me, c0, t0) := by
  intro _ hlc hlt ad H locs ls h
  obtain ⟨hP, hD, hI, hS, hl, hL, hst, hM, hb0⟩ := id h
  exact lv_dstore hx hb hd hl hn rfl (fun ls' hl' => k hp hlc hlt ad H locs ls' ⟨hP, hD, hI, hS, pm_lv_s2 (v := .inr (.inr (.inr (.inr x)))) hl', pm_ok_s2 (pm_ok_hd hst) hL, pm_ok_tl hst, hM, hb0⟩)
theorem pm_a_dstore_n (hx : p.tables.exec = Jvm.exec) (hb : c.code = cc) {n : Fin 4} {x : UInt64} (hd : decode cc pc = .ok (.dstore_n n, 1)) (hn : n.val + 1 < nL) (k : pm_W p l e R s m args below meth c Q D AC A nL fl M0 bs pcs (pc + 1, pm_s2 L n.val (.inr (.inr (.inr (.inr x)))), st, me, c0, t0)) (hp : pc + 1 ∈ pcs) : pm_W p l e R s m args below meth c Q D AC A nL fl M0 bs pcs (pc, L, (.inr (.inr (.inr (.inr x))) :: st), me, c0, t0) := by
  intro _ hlc hlt ad H locs ls h
  obtain ⟨hP, hD, hI, hS, hl, hL, hst, hM, hb0⟩ := id h
  exact lv_dstore_n hx hb hd rfl hl hn rfl (fun ls' hl' => k hp hlc hlt ad H locs ls' ⟨hP, hD, hI, hS, pm_lv_s2 (v := .inr (.inr (.inr (.inr x)))) hl', pm_ok_s2 (pm_ok_hd hst) hL, pm_ok_tl hst, hM, hb0⟩)
theorem pm_a_iinc (hx : p.tables.exec = Jvm.exec) (hb : c.code = cc) {n : Nat} {z x : Int} (hd : decode cc pc = .ok (.iinc n z, 3)) (hn : n < nL) (hx1 : pm_ld L n = some (.inl x)) (hr : pm_r (x + z)) (k : pm_W p l e R s m args below meth c Q D AC A nL fl M0 bs pcs (pc + 3, pm_s1 L n (.inl (x + z)), st, me, c0, t0)) (hp : pc + 3 ∈ pcs) : pm_W p l e R s m args below meth c Q D AC A nL fl M0 bs pcs (pc, L, st, me, c0, t0) := by
  intro _ hlc hlt ad H locs ls h
  obtain ⟨hP, hD, hI, hS, hl, hL, hst, hM, hb0⟩ := id h
  obtain ⟨k0, hk0⟩ := List.getElem?_of_mem (pm_ll_mem (ad := ad) (q := (n, pm_val ad (.inl x))) (L := L) (i := 0) |>.mpr ⟨n, .inl x, hx1, by rw [Nat.zero_add]⟩)
  exact lv_iinc hx hb hd hl hk0 (pm_i32_add x z) hn rfl (fun ls' hl' => k hp hlc hlt ad H locs ls' ⟨hP, hD, hI, hS, pm_lv_s1 (v := .inl (x + z)) hl', pm_ok_s1 (v := .inl (x + z)) hr hL, hst, hM, hb0⟩)
theorem pm_a_iadd (hx : p.tables.exec = Jvm.exec) (hb : c.code = cc) {x y : Int} (hd : decode cc pc = .ok (.iadd, 1)) (hr : pm_r (x + y)) (k : pm_W p l e R s m args below meth c Q D AC A nL fl M0 bs pcs (pc + 1, L, .inl (x + y) :: st, me, c0, t0)) (hp : pc + 1 ∈ pcs) : pm_W p l e R s m args below meth c Q D AC A nL fl M0 bs pcs (pc, L, (.inl y :: .inl x :: st), me, c0, t0) := by
  intro _ hlc hlt ad H locs ls h
  obtain ⟨hP, hD, hI, hS, hl, hL, hst, hM, hb0⟩ := id h
  refine lv_iadd hx hb hd ?_
  rw [pm_i32_add]
  exact k hp hlc hlt ad H locs ls ⟨hP, hD, hI, hS, hl, hL, pm_ok_cons (v := .inl (x + y)) hr (pm_ok_tl (pm_ok_tl hst)), hM, hb0⟩
theorem pm_a_isub (hx : p.tables.exec = Jvm.exec) (hb : c.code = cc) {x y : Int} (hd : decode cc pc = .ok (.isub, 1)) (hr : pm_r (x - y)) (k : pm_W p l e R s m args below meth c Q D AC A nL fl M0 bs pcs (pc + 1, L, .inl (x - y) :: st, me, c0, t0)) (hp : pc + 1 ∈ pcs) : pm_W p l e R s m args below meth c Q D AC A nL fl M0 bs pcs (pc, L, (.inl y :: .inl x :: st), me, c0, t0) := by
  intro _ hlc hlt ad H locs ls h
  obtain ⟨hP, hD, hI, hS, hl, hL, hst, hM, hb0⟩ := id h
  refine lv_isub hx hb hd ?_
  rw [pm_i32_sub]
  exact k hp hlc hlt ad H locs ls ⟨hP, hD, hI, hS, hl, hL, pm_ok_cons (v := .inl (x - y)) hr (pm_ok_tl (pm_ok_tl hst)), hM, hb0⟩
theorem pm_a_imul (hx : p.tables.exec = Jvm.exec) (hb : c.code = cc) {x y : Int} (hd : decode cc pc = .ok (.imul, 1)) (hr : pm_r (x * y)) (k : pm_W p l e R s m args below meth c Q D AC A nL fl M0 bs pcs (pc + 1, L, .inl (x * y) :: st, me, c0, t0)) (hp : pc + 1 ∈ pcs) : pm_W p l e R s m args below meth c Q D AC A nL fl M0 bs pcs (pc, L, (.inl y :: .inl x :: st), me, c0, t0) := by
  intro _ hlc hlt ad H locs ls h
  obtain ⟨hP, hD, hI, hS, hl, hL, hst, hM, hb0⟩ := id h
  refine lv_imul hx hb hd ?_
  rw [pm_i32_mul]
  exact k hp hlc hlt ad H locs ls ⟨hP, hD, hI, hS, hl, hL, pm_ok_cons (v := .inl (x * y)) hr (pm_ok_tl (pm_ok_tl hst)), hM, hb0⟩
theorem pm_a_iand (hx : p.tables.exec = Jvm.exec) (hb : c.code = cc) {x y : Int} (hd : decode cc pc = .ok (.iand, 1)) (k : pm_W p l e R s m args below meth c Q D AC A nL fl M0 bs pcs (pc + 1, L, .inl (pm_and x y) :: st, me, c0, t0)) (hp : pc + 1 ∈ pcs) : pm_W p l e R s m args below meth c Q D AC A nL fl M0 bs pcs (pc, L, (.inl y :: .inl x :: st), me, c0, t0) := by
  intro _ hlc hlt ad H locs ls h
  obtain ⟨hP, hD, hI, hS, hl, hL, hst, hM, hb0⟩ := id h
  refine lv_iand hx hb hd ?_
  have k2 := k hp hlc hlt ad H locs ls ⟨hP, hD, hI, hS, hl, hL, pm_ok_cons (v := .inl (pm_and x y)) (pm_r_of _) (pm_ok_tl (pm_ok_tl hst)), hM, hb0⟩
  have e2 : pm_val ad (.inl (pm_and x y)) = .int _ := congrArg Value.int (pm_i32_of _)
  rw [List.map_cons, e2] at k2
  exact k2
theorem pm_a_ior (hx : p.tables.exec = Jvm.exec) (hb : c.code = cc) {x y : Int} (hd : decode cc pc = .ok (.ior, 1)) (k : pm_W p l e R s m args below meth c Q D AC A nL fl M0 bs pcs (pc + 1, L, .inl (pm_or x y) :: st, me, c0, t0)) (hp : pc + 1 ∈ pcs) : pm_W p l e R s m args below meth c Q D AC A nL fl M0 bs pcs (pc, L, (.inl y :: .inl x :: st), me, c0, t0) := by
  intro _ hlc hlt ad H locs ls h
  obtain ⟨hP, hD, hI, hS, hl, hL, hst, hM, hb0⟩ := id h
  refine lv_ior hx hb hd ?_
  have k2 := k hp hlc hlt ad H locs ls ⟨hP, hD, hI, hS, hl, hL, pm_ok_cons (v := .inl (pm_or x y)) (pm_r_of _) (pm_ok_tl (pm_ok_tl hst)), hM, hb0⟩
  have e2 : pm_val ad (.inl (pm_or x y)) = .int _ := congrArg Value.int (pm_i32_of _)
  rw [List.map_cons, e2] at k2
  exact k2
theorem pm_a_ixor (hx : p.tables.exec = Jvm.exec) (hb : c.code = cc) {x y : Int} (hd : decode cc pc = .ok (.ixor, 1)) (k : pm_W p l e R s m args below meth c Q D AC A nL fl M0 bs pcs (pc + 1, L, .inl (pm_xor x y) :: st, me, c0, t0)) (hp : pc + 1 ∈ pcs) : pm_W p l e R s m args below meth c Q D AC A nL fl M0 bs pcs (pc, L, (.inl y :: .inl x :: st), me, c0, t0) := by
  intro _ hlc hlt ad H locs ls h
  obtain ⟨hP, hD, hI, hS, hl, hL, hst, hM, hb0⟩ := id h
  refine lv_ixor hx hb hd ?_
  have k2 := k hp hlc hlt ad H locs ls ⟨hP, hD, hI, hS, hl, hL, pm_ok_cons (v := .inl (pm_xor x y)) (pm_r_of _) (pm_ok_tl (pm_ok_tl hst)), hM, hb0⟩
  have e2 : pm_val ad (.inl (pm_xor x y)) = .int _ := congrArg Value.int (pm_i32_of _)
  rw [List.map_cons, e2] at k2
  exact k2
theorem pm_a_ishl (hx : p.tables.exec = Jvm.exec) (hb : c.code = cc) {x y : Int} (hd : decode cc pc = .ok (.ishl, 1)) (k : pm_W p l e R s m args below meth c Q D AC A nL fl M0 bs pcs (pc + 1, L, .inl (pm_shl x y) :: st, me, c0, t0)) (hp : pc + 1 ∈ pcs) : pm_W p l e R s m args below meth c Q D AC A nL fl M0 bs pcs (pc, L, (.inl y :: .inl x :: st), me, c0, t0) := by
  intro _ hlc hlt ad H locs ls h
  obtain ⟨hP, hD, hI, hS, hl, hL, hst, hM, hb0⟩ := id h
  refine lv_ishl hx hb hd ?_
  have k2 := k hp hlc hlt ad H locs ls ⟨hP, hD, hI, hS, hl, hL, pm_ok_cons (v := .inl (pm_shl x y)) (pm_r_of _) (pm_ok_tl (pm_ok_tl hst)), hM, hb0⟩
  have e2 : pm_val ad (.inl (pm_shl x y)) = .int _ := congrArg Value.int (pm_i32_of _)
  rw [List.map_cons, e2] at k2
  exact k2
theorem pm_a_ishr (hx : p.tables.exec = Jvm.exec) (hb : c.code = cc) {x y : Int} (hd : decode cc pc = .ok (.ishr, 1)) (k : pm_W p l e R s m args below meth c Q D AC A nL fl M0 bs pcs (pc + 1, L, .inl (pm_shr x y) :: st, me, c0, t0)) (hp : pc + 1 ∈ pcs) : pm_W p l e R s m args below meth c Q D AC A nL fl M0 bs pcs (pc, L, (.inl y :: .inl x :: st), me, c0, t0) := by
  intro _ hlc hlt ad H locs ls h
  obtain ⟨hP, hD, hI, hS, hl, hL, hst, hM, hb0⟩ := id h
  refine lv_ishr hx hb hd ?_
  have k2 := k hp hlc hlt ad H locs ls ⟨hP, hD, hI, hS, hl, hL, pm_ok_cons (v := .inl (pm_shr x y)) (pm_r_of _) (pm_ok_tl (pm_ok_tl hst)), hM, hb0⟩
  have e2 : pm_val ad (.inl (pm_shr x y)) = .int _ := congrArg Value.int (pm_i32_of _)
  rw [List.map_cons, e2] at k2
  exact k2
theorem pm_a_idiv (hx : p.tables.exec = Jvm.exec) (hb : c.code = cc) {x y : Int} (hd : decode cc pc = .ok (.idiv, 1)) (h0 : 0 ≤ x) (h1 : 0 < y) (k : pm_W p l e R s m args below meth c Q D AC A nL fl M0 bs pcs (pc + 1, L, .inl (x / y) :: st, me, c0, t0)) (hp : pc + 1 ∈ pcs) : pm_W p l e R s m args below meth c Q D AC A nL fl M0 bs pcs (pc, L, (.inl y :: .inl x :: st), me, c0, t0) := by
  intro _ hlc hlt ad H locs ls h
  obtain ⟨hP, hD, hI, hS, hl, hL, hst, hM, hb0⟩ := id h
  have hy := pm_ok_hd hst
  have hxx := pm_ok_hd (pm_ok_tl hst)
  have hr : pm_r (x / y) := pm_idiv_r hxx h0 h1
  refine lv_idiv hx hb hd (fun q => ?_) ?_
  · rw [← pm_i32_0, pm_i32_eq hy pm_r0] at q; omega
  rw [pm_i32_idiv hxx hy h0 h1]
  exact k hp hlc hlt ad H locs ls ⟨hP, hD, hI, hS, hl, hL, pm_ok_cons (v := .inl (x / y)) hr (pm_ok_tl (pm_ok_tl hst)), hM, hb0⟩
theorem pm_a_irem (hx : p.tables.exec = Jvm.exec) (hb : c.code = cc) {x y : Int} (hd : decode cc pc = .ok (.irem, 1)) (h0 : 0 ≤ x) (h1 : 0 < y) (k : pm_W p l e R s m args below meth c Q D AC A nL fl M0 bs pcs (pc + 1, L, .inl (x % y) :: st, me, c0, t0)) (hp : pc + 1 ∈ pcs) : pm_W p l e R s m args below meth c Q D AC A nL fl M0 bs pcs (pc, L, (.inl y :: .inl x :: st), me, c0, t0) := by
  intro _ hlc hlt ad H locs ls h
  obtain ⟨hP, hD, hI, hS, hl, hL, hst, hM, hb0⟩ := id h
  have hy := pm_ok_hd hst
  have hxx := pm_ok_hd (pm_ok_tl hst)
  have hr : pm_r (x % y) := pm_irem_r hxx h0 h1
  refine lv_irem hx hb hd (fun q => ?_) ?_
  · rw [← pm_i32_0, pm_i32_eq hy pm_r0] at q; omega
  rw [pm_i32_irem hxx hy h0 h1]
  exact k hp hlc hlt ad H locs ls ⟨hP, hD, hI, hS, hl, hL, pm_ok_cons (v := .inl (x % y)) hr (pm_ok_tl (pm_ok_tl hst)), hM, hb0⟩
theorem pm_a_i2l (hx : p.tables.exec = Jvm.exec) (hb : c.code = cc) {x : Int} (hd : decode cc pc = .ok (.i2l, 1)) (k : pm_W p l e R s m args below meth c Q D AC A nL fl M0 bs pcs (pc + 1, L, .inr (.inr (.inl x)) :: st, me, c0, t0)) (hp : pc + 1 ∈ pcs) : pm_W p l e R s m args below meth c Q D AC A nL fl M0 bs pcs (pc, L, (.inl x :: st), me, c0, t0) := by
  intro _ hlc hlt ad H locs ls h
  obtain ⟨hP, hD, hI, hS, hl, hL, hst, hM, hb0⟩ := id h
  have hxx : pm_r x := pm_ok_hd hst
  exact lv_i2l hx hb hd (pm_i2l hxx) (k hp hlc hlt ad H locs ls ⟨hP, hD, hI, hS, hl, hL, pm_ok_cons (v := .inr (.inr (.inl x))) (show _ ∧ _ from ⟨by have := hxx.1; omega, by have := hxx.2; omega⟩) (pm_ok_tl hst), hM, hb0⟩)
theorem pm_a_i2f (hx : p.tables.exec = Jvm.exec) (hb : c.code = cc) {x : Int} (hd : decode cc pc = .ok (.i2f, 1)) (k : pm_W p l e R s m args below meth c Q D AC A nL fl M0 bs pcs (pc + 1, L, .inr (.inr (.inr (.inl (FP.i2f (Int32.ofInt x))))) :: st, me, c0, t0)) (hp : pc + 1 ∈ pcs) : pm_W p l e R s m args below meth c Q D AC A nL fl M0 bs pcs (pc, L, (.inl x :: st), me, c0, t0) := by
  intro _ hlc hlt ad H locs ls h
  obtain ⟨hP, hD, hI, hS, hl, hL, hst, hM, hb0⟩ := id h
  exact lv_i2f hx hb hd (k hp hlc hlt ad H locs ls ⟨hP, hD, hI, hS, hl, hL, pm_ok_cons (v := .inr (.inr (.inr (.inl _)))) trivial (pm_ok_tl hst), hM, hb0⟩)
theorem pm_a_i2d (hx : p.tables.exec = Jvm.exec) (hb : c.code = cc) {x : Int} (hd : decode cc pc = .ok (.i2d, 1)) (k : pm_W p l e R s m args below meth c Q D AC A nL fl M0 bs pcs (pc + 1, L, .inr (.inr (.inr (.inr (FP.i2d (Int32.ofInt x))))) :: st, me, c0, t0)) (hp : pc + 1 ∈ pcs) : pm_W p l e R s m args below meth c Q D AC A nL fl M0 bs pcs (pc, L, (.inl x :: st), me, c0, t0) := by
  intro _ hlc hlt ad H locs ls h
  obtain ⟨hP, hD, hI, hS, hl, hL, hst, hM, hb0⟩ := id h
  exact lv_i2d hx hb hd (k hp hlc hlt ad H locs ls ⟨hP, hD, hI, hS, hl, hL, pm_ok_cons (v := .inr (.inr (.inr (.inr _)))) trivial (pm_ok_tl hst), hM, hb0⟩)
theorem pm_a_f2d (hx : p.tables.exec = Jvm.exec) (hb : c.code = cc) {x : UInt32} (hd : decode cc pc = .ok (.f2d, 1)) (hne : vf_n64 (FP.f2d x)) (k : pm_W p l e R s m args below meth c Q D AC A nL fl M0 bs pcs (pc + 1, L, .inr (.inr (.inr (.inr (FP.f2d x)))) :: st, me, c0, t0)) (hp : pc + 1 ∈ pcs) : pm_W p l e R s m args below meth c Q D AC A nL fl M0 bs pcs (pc, L, (.inr (.inr (.inr (.inl x))) :: st), me, c0, t0) := by
  intro _ hlc hlt ad H locs ls h
  obtain ⟨hP, hD, hI, hS, hl, hL, hst, hM, hb0⟩ := id h
  exact lv_f2d hx hb hd hne (k hp hlc hlt ad H locs ls ⟨hP, hD, hI, hS, hl, hL, pm_ok_cons (v := .inr (.inr (.inr (.inr _)))) trivial (pm_ok_tl hst), hM, hb0⟩)
theorem pm_a_fdiv (hx : p.tables.exec = Jvm.exec) (hb : c.code = cc) {x y : UInt32} (hd : decode cc pc = .ok (.fdiv, 1)) (hne : vf_n32 (FP.fdiv x y)) (k : pm_W p l e R s m args below meth c Q D AC A nL fl M0 bs pcs (pc + 1, L, .inr (.inr (.inr (.inl (FP.fdiv x y)))) :: st, me, c0, t0)) (hp : pc + 1 ∈ pcs) : pm_W p l e R s m args below meth c Q D AC A nL fl M0 bs pcs (pc, L, (.inr (.inr (.inr (.inl y))) :: .inr (.inr (.inr (.inl x))) :: st), me, c0, t0) := by
  intro _ hlc hlt ad H locs ls h
  obtain ⟨hP, hD, hI, hS, hl, hL, hst, hM, hb0⟩ := id h
  exact lv_fdiv hx hb hd hne (k hp hlc hlt ad H locs ls ⟨hP, hD, hI, hS, hl, hL, pm_ok_cons (v := .inr (.inr (.inr (.inl _)))) trivial (pm_ok_tl (pm_ok_tl hst)), hM, hb0⟩)
theorem pm_a_ddiv (hx : p.tables.exec = Jvm.exec) (hb : c.code = cc) {x y : UInt64} (hd : decode cc pc = .ok (.ddiv, 1)) (hne : vf_n64 (FP.ddiv x y)) (k : pm_W p l e R s m args below meth c Q D AC A nL fl M0 bs pcs (pc + 1, L, .inr (.inr (.inr (.inr (FP.ddiv x y)))) :: st, me, c0, t0)) (hp : pc + 1 ∈ pcs) : pm_W p l e R s m args below meth c Q D AC A nL fl M0 bs pcs (pc, L, (.inr (.inr (.inr (.inr y))) :: .inr (.inr (.inr (.inr x))) :: st), me, c0, t0) := by
  intro _ hlc hlt ad H locs ls h
  obtain ⟨hP, hD, hI, hS, hl, hL, hst, hM, hb0⟩ := id h
  exact lv_ddiv hx hb hd hne (k hp hlc hlt ad H locs ls ⟨hP, hD, hI, hS, hl, hL, pm_ok_cons (v := .inr (.inr (.inr (.inr _)))) trivial (pm_ok_tl (pm_ok_tl hst)), hM, hb0⟩)
theorem pm_a_dmul (hx : p.tables.exec = Jvm.exec) (hb : c.code = cc) {x y : UInt64} (hd : decode cc pc = .ok (.dmul, 1)) (hne : vf_n64 (FP.dmul x y)) (k : pm_W p l e R s m args below meth c Q D AC A nL fl M0 bs pcs (pc + 1, L, .inr (.inr (.inr (.inr (FP.dmul x y)))) :: st, me, c0, t0)) (hp : pc + 1 ∈ pcs) : pm_W p l e R s m args below meth c Q D AC A nL fl M0 bs pcs (pc, L, (.inr (.inr (.inr (.inr y))) :: .inr (.inr (.inr (.inr x))) :: st), me, c0, t0) := by
  intro _ hlc hlt ad H locs ls h
  obtain ⟨hP, hD, hI, hS, hl, hL, hst, hM, hb0⟩ := id h
  exact lv_dmul hx hb hd hne (k hp hlc hlt ad H locs ls ⟨hP, hD, hI, hS, hl, hL, pm_ok_cons (v := .inr (.inr (.inr (.inr _)))) trivial (pm_ok_tl (pm_ok_tl hst)), hM, hb0⟩)
theorem pm_a_dadd (hx : p.tables.exec = Jvm.exec) (hb : c.code = cc) {x y : UInt64} (hd : decode cc pc = .ok (.dadd, 1)) (hne : vf_n64 (FP.dadd x y)) (k : pm_W p l e R s m args below meth c Q D AC A nL fl M0 bs pcs (pc + 1, L, .inr (.inr (.inr (.inr (FP.dadd x y)))) :: st, me, c0, t0)) (hp : pc + 1 ∈ pcs) : pm_W p l e R s m args below meth c Q D AC A nL fl M0 bs pcs (pc, L, (.inr (.inr (.inr (.inr y))) :: .inr (.inr (.inr (.inr x))) :: st), me, c0, t0) := by
  intro _ hlc hlt ad H locs ls h
  obtain ⟨hP, hD, hI, hS, hl, hL, hst, hM, hb0⟩ := id h
  exact lv_dadd hx hb hd hne (k hp hlc hlt ad H locs ls ⟨hP, hD, hI, hS, hl, hL, pm_ok_cons (v := .inr (.inr (.inr (.inr _)))) trivial (pm_ok_tl (pm_ok_tl hst)), hM, hb0⟩)
theorem pm_a_lcmp (hx : p.tables.exec = Jvm.exec) (hb : c.code = cc) {x y : Int} (hd : decode cc pc = .ok (.lcmp, 1)) (k : pm_W p l e R s m args below meth c Q D AC A nL fl M0 bs pcs (pc + 1, L, .inl (pm_lcmp x y) :: st, me, c0, t0)) (hp : pc + 1 ∈ pcs) : pm_W p l e R s m args below meth c Q D AC A nL fl M0 bs pcs (pc, L, (.inr (.inr (.inl y)) :: .inr (.inr (.inl x)) :: st), me, c0, t0) := by
  intro _ hlc hlt ad H locs ls h
  obtain ⟨hP, hD, hI, hS, hl, hL, hst, hM, hb0⟩ := id h
  have hy := pm_ok_hd hst
  have hxx := pm_ok_hd (pm_ok_tl hst)
  refine W.lcmp hx hb hd ?_
  have k2 := k hp hlc hlt ad H locs ls ⟨hP, hD, hI, hS, hl, hL, pm_ok_cons (v := .inl (pm_lcmp x y)) (pm_lcmp_r x y) (pm_ok_tl (pm_ok_tl hst)), hM, hb0⟩
  have e2 : pm_val ad (.inl (pm_lcmp x y)) = .int (lg_cmp (Int64.ofInt x) (Int64.ofInt y)) := congrArg Value.int (pm_lcmp_eq hxx hy)
  rw [List.map_cons, e2] at k2
  exact k2
theorem pm_a_dcmp (hx : p.tables.exec = Jvm.exec) (hb : c.code = cc) {x y : UInt64} {o : CmpOp} (hd : decode cc pc = .ok (.dcmp o, 1)) (k : pm_W p l e R s m args below meth c Q D AC A nL fl M0 bs pcs (pc + 1, L, .inl (Op.cmpValue (FP.dcmp x y) o).toInt :: st, me, c0, t0)) (hp : pc + 1 ∈ pcs) : pm_W p l e R s m args below meth c Q D AC A nL fl M0 bs pcs (pc, L, (.inr (.inr (.inr (.inr y))) :: .inr (.inr (.inr (.inr x))) :: st), me, c0, t0) := by
  intro _ hlc hlt ad H locs ls h
  obtain ⟨hP, hD, hI, hS, hl, hL, hst, hM, hb0⟩ := id h
  refine lv_dcmp hx hb hd ?_
  have k2 := k hp hlc hlt ad H locs ls ⟨hP, hD, hI, hS, hl, hL, pm_ok_cons (v := .inl (Op.cmpValue (FP.dcmp x y) o).toInt) (pm_r_of _) (pm_ok_tl (pm_ok_tl hst)), hM, hb0⟩
  have e2 : pm_val ad (.inl (Op.cmpValue (FP.dcmp x y) o).toInt) = .int _ := congrArg Value.int (pm_i32_of _)
  rw [List.map_cons, e2] at k2
  exact k2
theorem pm_a_fcmp (hx : p.tables.exec = Jvm.exec) (hb : c.code = cc) {x y : UInt32} {o : CmpOp} (hd : decode cc pc = .ok (.fcmp o, 1)) (k : pm_W p l e R s m args below meth c Q D AC A nL fl M0 bs pcs (pc + 1, L, .inl (Op.cmpValue (FP.fcmp x y) o).toInt :: st, me, c0, t0)) (hp : pc + 1 ∈ pcs) : pm_W p l e R s m args below meth c Q D AC A nL fl M0 bs pcs (pc, L, (.inr (.inr (.inr (.inl y))) :: .inr (.inr (.inr (.inl x))) :: st), me, c0, t0) := by
  intro _ hlc hlt ad H locs ls h
  obtain ⟨hP, hD, hI, hS, hl, hL, hst, hM, hb0⟩ := id h
  refine lv_fcmp hx hb hd ?_
  have k2 := k hp hlc hlt ad H locs ls ⟨hP, hD, hI, hS, hl, hL, pm_ok_cons (v := .inl (Op.cmpValue (FP.fcmp x y) o).toInt) (pm_r_of _) (pm_ok_tl (pm_ok_tl hst)), hM, hb0⟩
  have e2 : pm_val ad (.inl (Op.cmpValue (FP.fcmp x y) o).toInt) = .int _ := congrArg Value.int (pm_i32_of _)
  rw [List.map_cons, e2] at k2
  exact k2
theorem pm_a_dup (hx : p.tables.exec = Jvm.exec) (hb : c.code = cc) {v : pm_V} (hd : decode cc pc = .ok (.dup, 1)) (hv : pm_c2 v = false) (k : pm_W p l e R s m args below meth c Q D AC A nL fl M0 bs pcs (pc + 1, L, v :: v :: st, me, c0, t0)) (hp : pc + 1 ∈ pcs) : pm_W p l e R s m args below meth c Q D AC A nL fl M0 bs pcs (pc, L, (v :: st), me, c0, t0) := by
  intro _ hlc hlt ad H locs ls h
  obtain ⟨hP, hD, hI, hS, hl, hL, hst, hM, hb0⟩ := id h
  exact lv_dup hx hb hd ((pm_cat v).2.mpr hv) (k hp hlc hlt ad H locs ls ⟨hP, hD, hI, hS, hl, hL, pm_ok_cons (pm_ok_hd hst) hst, hM, hb0⟩)
theorem pm_a_dup2 (hx : p.tables.exec = Jvm.exec) (hb : c.code = cc) {v w : pm_V} (hd : decode cc pc = .ok (.dup2, 1)) (hv : pm_c2 v = false) (hw : pm_c2 w = false) (k : pm_W p l e R s m args below meth c Q D AC A nL fl M0 bs pcs (pc + 1, L, v :: w :: v :: w :: st, me, c0, t0)) (hp : pc + 1 ∈ pcs) : pm_W p l e R s m args below meth c Q D AC A nL fl M0 bs pcs (pc, L, (v :: w :: st), me, c0, t0) := by
  intro _ hlc hlt ad H locs ls h
  obtain ⟨hP, hD, hI, hS, hl, hL, hst, hM, hb0⟩ := id h
  exact lv_dup2_11 hx hb hd ((pm_cat v).2.mpr hv) ((pm_cat w).2.mpr hw) (k hp hlc hlt ad H locs ls ⟨hP, hD, hI, hS, hl, hL, pm_ok_cons (pm_ok_hd hst) (pm_ok_cons (pm_ok_hd (pm_ok_tl hst)) hst), hM, hb0⟩)
theorem pm_a_pop (hx : p.tables.exec = Jvm.exec) (hb : c.code = cc) {v : pm_V} (hd : decode cc pc = .ok (.pop, 1)) (hv : pm_c2 v = false) (k : pm_W p l e R s m args below meth c Q D AC A nL fl M0 bs pcs (pc + 1, L, st, me, c0, t0)) (hp : pc + 1 ∈ pcs) : pm_W p l e R s m args below meth c Q D AC A nL fl M0 bs pcs (pc, L, (v :: st), me, c0, t0) := by
  intro _ hlc hlt ad H locs ls h
  obtain ⟨hP, hD, hI, hS, hl, hL, hst, hM, hb0⟩ := id h
  exact lv_pop hx hb hd ((pm_cat v).2.mpr hv) (k hp hlc hlt ad H locs ls ⟨hP, hD, hI, hS, hl, hL, pm_ok_tl hst, hM, hb0⟩)
theorem pm_a_goto (hx : p.tables.exec = Jvm.exec) (hb : c.code = cc) {off : Int} {a : Nat} (hd : decode cc pc = .ok (.goto off, 3)) (ht : (pc : Int) + off = (a : Int)) (k : pm_W p l e R s m args below meth c Q D AC A nL fl M0 bs pcs (a, L, st, me, c0, t0)) (hp : a ∈ pcs) : pm_W p l e R s m args below meth c Q D AC A nL fl M0 bs pcs (pc, L, st, me, c0, t0) := by
  intro _ hlc hlt ad H locs ls h
  obtain ⟨hP, hD, hI, hS, hl, hL, hst, hM, hb0⟩ := id h
  exact lv_goto hx hb hd ht (k hp hlc hlt ad H locs ls h)
end SND
end
section
/-! BRANCHES, FIELDS, ARRAYS, NEW THINGS (laid by wip/whole/gen_heap.py) -/
def pm_C (a : Nat) : vw_C := match a with
  | 0 => (RX0, TX0, 4)
  | 1 => (RX1, TX1, 7)
  | 2 => (RX2, TX2, 1)
  | 3 => (RX3, TX3, 2)
  | 4 => (RX4, TX4, 3)
  | 5 => (RX5, TX5, 3)
  | 6 => (RX6, TX6, 2)
  | 7 => (RX7, TX7, 7)
  | 8 => (RX8, TX8, 13)
  | _ => (RX9, TX9, 45)
def pm_ft (a : Nat) : Nat → FieldType := match a with
  | 0 => tyX0
  | 1 => tyX1
  | 2 => tyX2
  | 3 => tyX3
  | 4 => tyX4
  | 5 => tyX5
  | 6 => tyX6
  | 7 => tyX7
  | 8 => tyX8
  | _ => tyX9
theorem pm_lt10 {P : Nat → Prop} (h0 : P 0) (h1 : P 1) (h2 : P 2) (h3 : P 3) (h4 : P 4) (h5 : P 5) (h6 : P 6) (h7 : P 7) (h8 : P 8) (h9 : P 9) : ∀ a, a < 10 → P a
  | 0, _ => h0 | 1, _ => h1 | 2, _ => h2 | 3, _ => h3 | 4, _ => h4 | 5, _ => h5 | 6, _ => h6 | 7, _ => h7 | 8, _ => h8 | 9, _ => h9
  | a + 10, h => absurd h (by omega)
theorem pm_C_at : ∀ a, a < 10 → pm_cl[a]? = some ((pm_C a).1, (pm_C a).2.1, (pm_C a).2.2) := pm_lt10 rfl rfl rfl rfl rfl rfl rfl rfl rfl rfl
theorem pm_C_n : ∀ a, a < 10 → (pm_C a).2.2 = pm_nf a := pm_lt10 rfl rfl rfl rfl rfl rfl rfl rfl rfl rfl
theorem pm_C_ty : ∀ a, a < 10 → ∀ k, k < (pm_C a).2.2 → parseFieldDescriptor ((pm_C a).2.1 k).2.2.1 = some (pm_ft a k) := pm_lt10 tyX0_ok tyX1_ok tyX2_ok tyX3_ok tyX4_ok tyX5_ok tyX6_ok tyX7_ok tyX8_ok tyX9_ok
theorem pm_C_nm : ∀ a, a < 10 → ∀ x, x < (pm_C a).2.2 → ∀ y, y < (pm_C a).2.2 → x ≠ y → ((pm_C a).2.1 x).2.1 ≠ ((pm_C a).2.1 y).2.1 := pm_lt10 nmX0 nmX1 nmX2 nmX3 nmX4 nmX5 nmX6 nmX7 nmX8 nmX9
def pm_isR (t : FieldType) : Bool := match t with
  | .object _ => true
  | .array _ => true
  | _ => false
theorem pm_C_fk : ∀ a, a < 10 → ∀ k, k < pm_nf a → (pm_fk a k = 0 → pm_ft a k = .int ∨ pm_ft a k = .boolean) ∧ (pm_fk a k ≠ 0 → pm_isR (pm_ft a k) = true) := by decide +kernel
theorem pm_fits_r {t : FieldType} {q : Nat} (h : pm_isR t = true) : narrow t (.ref q) = .ref q ∧ fits t (.ref q) = true ∧ defaultValue t = .null := by
  cases t <;> first | exact ⟨rfl, rfl, rfl⟩ | cases h
theorem pm_narrow_z {x : Int} (h : x = 0 ∨ x = 1) : narrow .boolean (.int (Int32.ofInt x)) = .int (Int32.ofInt x) ∧ fits .boolean (.int (Int32.ofInt x)) = true ∧ vp_nar .boolean (Int32.ofInt x) = Int32.ofInt x := by
  rcases h with rfl | rfl <;> exact ⟨by decide +kernel, by decide +kernel, by decide +kernel⟩
theorem pm_e_o {AC : Nat → ClassId} {ad : Nat → Nat} {κ k : Nat} {ini : Nat → Bool} {f : Nat → Int} (h : κ < 10) : pm_e AC ad κ k ini f = .inr (κ, (List.range (pm_nf κ)).map (pm_fv ad κ k ini f)) := by
  unfold pm_e
  rw [if_pos (by omega)]
theorem pm_e_i {AC : Nat → ClassId} {ad : Nat → Nat} {κ k : Nat} {ini : Nat → Bool} {f : Nat → Int} (h : 1000 ≤ κ) (h2 : κ ≤ 1999) : pm_e AC ad κ k ini f = .inl (AC 1, κ - 1000, .inl (fun j => Int32.ofInt (f j))) := by
  unfold pm_e
  rw [if_neg (by omega), if_pos (by omega)]
theorem pm_e_b {AC : Nat → ClassId} {ad : Nat → Nat} {κ k : Nat} {ini : Nat → Bool} {f : Nat → Int} (h : 2000 ≤ κ) (h2 : κ ≤ 2999) : pm_e AC ad κ k ini f = .inl (AC 2, κ - 2000, .inl (fun j => Int32.ofInt (f j))) := by
  unfold pm_e
  rw [if_neg (by omega), if_neg (by omega), if_pos (by omega)]
theorem pm_e_l {AC : Nat → ClassId} {ad : Nat → Nat} {κ k : Nat} {ini : Nat → Bool} {f : Nat → Int} (h : 3000 ≤ κ) (h2 : κ ≤ 3999) : pm_e AC ad κ k ini f = .inl (AC 3, κ - 3000, .inr (.inl (fun j => Int64.ofInt (f j)))) := by
  unfold pm_e
  rw [if_neg (by omega), if_neg (by omega), if_neg (by omega), if_pos (by omega)]
theorem pm_e_d {AC : Nat → ClassId} {ad : Nat → Nat} {κ k : Nat} {ini : Nat → Bool} {f : Nat → Int} (h : 4000 ≤ κ) (h2 : κ ≤ 4999) : pm_e AC ad κ k ini f = .inl (AC 4, κ - 4000, .inr (.inr (.inr (.inl (fun j => UInt64.ofNat (f j).toNat))))) := by
  unfold pm_e
  rw [if_neg (by omega), if_neg (by omega), if_neg (by omega), if_neg (by omega), if_pos (by omega)]
theorem pm_e_a {AC : Nat → ClassId} {ad : Nat → Nat} {κ k : Nat} {ini : Nat → Bool} {f : Nat → Int} (h : 5000 ≤ κ) : pm_e AC ad κ k ini f = .inl (AC 5, κ - 5000, .inr (.inr (.inr (.inr (pm_qv ad κ k ini))))) := by
  unfold pm_e
  rw [if_neg (by omega), if_neg (by omega), if_neg (by omega), if_neg (by omega), if_neg (by omega)]
/-- a number is stored -/
theorem pm_inv_up {me : pm_Me} (hI : pm_inv me) {q j : Nat} {x : Int} (h1 : me.1.2.1 q < 3000 → pm_r x) (h2 : 3000 ≤ me.1.2.1 q → me.1.2.1 q < 4000 → -9223372036854775808 ≤ x ∧ x ≤ 9223372036854775807) : pm_inv (me.1, pm_up me.2 q j x) := by
  refine ⟨hI.1, fun k hk => ?_⟩
  obtain ⟨i1, i2, i3, i4, i5⟩ := hI.2 k hk
  refine ⟨i1, fun h z => ?_, fun h h' z => ?_, i4, i5⟩
  · show pm_r (if k = q ∧ z = j then x else me.2 k z)
    split
    · rename_i hh
      exact h1 (by rw [← hh.1]; exact h)
    · exact i2 h z
  · show _ ≤ (if k = q ∧ z = j then x else me.2 k z) ∧ (if k = q ∧ z = j then x else me.2 k z) ≤ _
    split
    · rename_i hh
      exact h2 (by rw [← hh.1]; exact h) (by rw [← hh.1]; exact h')
    · exact i3 h h' z
theorem pm_up_ge {M M0 : Nat → Nat → Int} {q j : Nat} {x : Int} (hM : ∀ a, 9000 ≤ a → M a = M0 a) (hq : q < 9000) : ∀ a, 9000 ≤ a → pm_up M q j x a = M0 a := by
  intro a ha
  rw [← hM a ha]
  funext b
  show (if a = q ∧ b = j then x else M a b) = M a b
  rw [if_neg (by omega)]
theorem pm_up_o {M : Nat → Nat → Int} {q j k : Nat} {x : Int} (h : k ≠ q) : pm_up M q j x k = M k := by
  funext b
  show (if k = q ∧ b = j then x else M k b) = M k b
  rw [if_neg (fun z => h z.1)]
section HPS
variable {p : Program} {l : Launch} {e : Env} {R : Room} {s : State} {m : MethodId} {args : Array Value} {below : List Frame} {meth : Method} {c : Code} {Q : State → Prop}
variable {D : va_G} {AC : Nat → ClassId} {A : Nat → Prop} {cc : ByteArray} {nL : Nat} {fl : Bool} {M0 : Nat → Nat → Int} {bs : Nat × (Nat → Nat) × (Nat → Nat)} {pcs : List Nat}
variable {pc : Nat} {L : List (Option pm_V)} {st : List pm_V} {me : pm_Me} {c0 t0 : Nat}

theorem pm_a_if (hx : p.tables.exec = Jvm.exec) (hb : c.code = cc) {x : Int} {o : Jvm.ClassFile.Cond} {off : Int} {a : Nat} (hd : decode cc pc = .ok (.ifCond o off, 3)) (ht : (pc : Int) + off = (a : Int)) (ha : a ∈ pcs) (hp : pc + 3 ∈ pcs) (kt : pm_cmp o x 0 → pm_W p l e R s m args below meth c Q D AC A nL fl M0 bs pcs (a, L, st, me, c0, t0)) (kf : ¬ pm_cmp o x 0 → pm_W p l e R s m args below meth c Q D AC A nL fl M0 bs pcs (pc + 3, L, st, me, c0, t0)) : pm_W p l e R s m args below meth c Q D AC A nL fl M0 bs pcs (pc, L, .inl x :: st, me, c0, t0) := by
  intro _ hlc hlt ad H locs ls h
  dsimp only at h ⊢
  obtain ⟨hP, hD, hI, hS, hl, hL, hst, hM, hb0⟩ := id h
  have hxx : pm_r x := pm_ok_hd hst
  have hrel : pm_Rel s D AC A nL fl M0 bs ad H locs ls L st me := ⟨hP, hD, hI, hS, hl, hL, pm_ok_tl hst, hM, hb0⟩
  have e1 : Int32.ofInt x = 0 ↔ x = 0 := by rw [← pm_i32_0]; exact pm_i32_eq hxx pm_r0
  have e2 : Int32.ofInt x < 0 ↔ x < 0 := by rw [← pm_i32_0]; exact pm_i32_lt hxx pm_r0
  have e3 : 0 ≤ Int32.ofInt x ↔ 0 ≤ x := by rw [← pm_i32_0]; exact pm_i32_le pm_r0 hxx
  have e4 : 0 < Int32.ofInt x ↔ 0 < x := by rw [← pm_i32_0]; exact pm_i32_lt pm_r0 hxx
  have e5 : Int32.ofInt x ≤ 0 ↔ x ≤ 0 := by rw [← pm_i32_0]; exact pm_i32_le hxx pm_r0
  cases o with
  | eq => exact lv_if_eq hx hb hd ht (fun q => kt (e1.mp q) ha hlc hlt ad H locs ls hrel) (fun q => kf (fun z => q (e1.mpr z)) hp hlc hlt ad H locs ls hrel)
  | ne => exact lv_if_ne hx hb hd ht (fun q => kt (fun z => q (e1.mpr z)) ha hlc hlt ad H locs ls hrel) (fun q => kf (fun z => z (e1.mp q)) hp hlc hlt ad H locs ls hrel)
  | lt => exact lv_if_lt hx hb hd ht (fun q => kt (e2.mp q) ha hlc hlt ad H locs ls hrel) (fun q => kf (fun z => q (e2.mpr z)) hp hlc hlt ad H locs ls hrel)
  | ge => exact lv_if_ge hx hb hd ht (fun q => kt (e3.mp q) ha hlc hlt ad H locs ls hrel) (fun q => kf (fun z => q (e3.mpr z)) hp hlc hlt ad H locs ls hrel)
  | gt => exact lv_if_gt hx hb hd ht (fun q => kt (e4.mp q) ha hlc hlt ad H locs ls hrel) (fun q => kf (fun z => q (e4.mpr z)) hp hlc hlt ad H locs ls hrel)
  | le => exact lv_if_le hx hb hd ht (fun q => kt (e5.mp q) ha hlc hlt ad H locs ls hrel) (fun q => kf (fun z => q (e5.mpr z)) hp hlc hlt ad H locs ls hrel)
theorem pm_a_icmp (hx : p.tables.exec = Jvm.exec) (hb : c.code = cc) {x y : Int} {o : Jvm.ClassFile.Cond} {off : Int} {a : Nat} (hd : decode cc pc = .ok (.if_icmp o off, 3)) (ht : (pc : Int) + off = (a : Int)) (ha : a ∈ pcs) (hp : pc + 3 ∈ pcs) (kt : pm_cmp o x y → pm_W p l e R s m args below meth c Q D AC A nL fl M0 bs pcs (a, L, st, me, c0, t0)) (kf : ¬ pm_cmp o x y → pm_W p l e R s m args below meth c Q D AC A nL fl M0 bs pcs (pc + 3, L, st, me, c0, t0)) : pm_W p l e R s m args below meth c Q D AC A nL fl M0 bs pcs (pc, L, .inl y :: .inl x :: st, me, c0, t0) := by
  intro _ hlc hlt ad H locs ls h
  dsimp only at h ⊢
  obtain ⟨hP, hD, hI, hS, hl, hL, hst, hM, hb0⟩ := id h
  have hy : pm_r y := pm_ok_hd hst
  have hxx : pm_r x := pm_ok_hd (pm_ok_tl hst)
  have hrel : pm_Rel s D AC A nL fl M0 bs ad H locs ls L st me := ⟨hP, hD, hI, hS, hl, hL, pm_ok_tl (pm_ok_tl hst), hM, hb0⟩
  have e1 := pm_i32_eq hxx hy
  have e2 := pm_i32_lt hxx hy
  have e3 := pm_i32_le hy hxx
  have e4 := pm_i32_lt hy hxx
  have e5 := pm_i32_le hxx hy
  cases o with
  | eq => exact lv_icmp_eq hx hb hd ht (fun q => kt (e1.mp q) ha hlc hlt ad H locs ls hrel) (fun q => kf (fun z => q (e1.mpr z)) hp hlc hlt ad H locs ls hrel)
  | ne => exact lv_icmp_ne hx hb hd ht (fun q => kt (fun z => q (e1.mpr z)) ha hlc hlt ad H locs ls hrel) (fun q => kf (fun z => z (e1.mp q)) hp hlc hlt ad H locs ls hrel)
  | lt => exact lv_icmp_lt hx hb hd ht (fun q => kt (e2.mp q) ha hlc hlt ad H locs ls hrel) (fun q => kf (fun z => q (e2.mpr z)) hp hlc hlt ad H locs ls hrel)
  | ge => exact lv_icmp_ge hx hb hd ht (fun q => kt (e3.mp q) ha hlc hlt ad H locs ls hrel) (fun q => kf (fun z => q (e3.mpr z)) hp hlc hlt ad H locs ls hrel)
  | gt => exact lv_icmp_gt hx hb hd ht (fun q => kt (e4.mp q) ha hlc hlt ad H locs ls hrel) (fun q => kf (fun z => q (e4.mpr z)) hp hlc hlt ad H locs ls hrel)
  | le => exact lv_icmp_le hx hb hd ht (fun q => kt (e5.mp q) ha hlc hlt ad H locs ls hrel) (fun q => kf (fun z => q (e5.mpr z)) hp hlc hlt ad H locs ls hrel)
theorem pm_a_table (hx : p.tables.exec = Jvm.exec) (hb : c.code = cc) {x dflt lo hi : Int} {offs : Array Int} {len : Nat} (hd : decode cc pc = .ok (.tableswitch dflt lo hi offs, len)) (h0 : 0 ≤ (pc : Int) + dflt) (hp0 : ((pc : Int) + dflt).toNat ∈ pcs) (h1 : ∀ (j : Nat) (o : Int), offs[j]? = some o → 0 ≤ (pc : Int) + o ∧ ((pc : Int) + o).toNat ∈ pcs) (hsz : offs.size = (hi - lo + 1).toNat) (ko : (x < lo ∨ hi < x) → pm_W p l e R s m args below meth c Q D AC A nL fl M0 bs pcs (((pc : Int) + dflt).toNat, L, st, me, c0, t0)) (ki : ¬ (x < lo ∨ hi < x) → ∀ o, offs[(x - lo).toNat]? = some o → pm_W p l e R s m args below meth c Q D AC A nL fl M0 bs pcs (((pc : Int) + o).toNat, L, st, me, c0, t0)) : pm_W p l e R s m args below meth c Q D AC A nL fl M0 bs pcs (pc, L, .inl x :: st, me, c0, t0) := by
  intro _ hlc hlt ad H locs ls h
  dsimp only at h ⊢
  obtain ⟨hP, hD, hI, hS, hl, hL, hst, hM, hb0⟩ := id h
  have hxx : pm_r x := pm_ok_hd hst
  have hrel : pm_Rel s D AC A nL fl M0 bs ad H locs ls L st me := ⟨hP, hD, hI, hS, hl, hL, pm_ok_tl hst, hM, hb0⟩
  by_cases hc : x < lo ∨ hi < x
  · exact lv_tableOut hx hb hd (by rw [pm_i32_to hxx]; exact hc) (by omega) (ko hc hp0 hlc hlt ad H locs ls hrel)
  · have hl9 : (x - lo).toNat < offs.size := by rw [hsz]; omega
    have ho : offs[(x - lo).toNat]? = some offs[(x - lo).toNat] := Array.getElem?_eq_getElem hl9
    obtain ⟨h2, h3⟩ := h1 _ _ ho
    exact lv_tableIn hx hb hd (by rw [pm_i32_to hxx]; omega) (by rw [pm_i32_to hxx]; omega) (by rw [pm_i32_to hxx]; exact ho) (by omega) (ki hc _ ho h3 hlc hlt ad H locs ls hrel)
def pm_link (own : String) (idx : Nat) (w : String × String × String × Bool) (args : Array Value) (s : State) : Prop := (Cond.fieldLink own idx w.1 w.2.1 w.2.2.1).before args s = true ∨ ∃ host, (Cond.fieldLinkNest own idx w.1 w.2.1 w.2.2.1 host).before args s = true

theorem pm_a_getI (hx : p.tables.exec = Jvm.exec) (hb : c.code = cc) {own : String} {Ts : List Cond} {a b idx q : Nat} (hts : ∀ w ∈ Ts, w.before args s = true) (hCw : ∀ a, a < 10 → ∀ w ∈ u_ws (pm_C a).1 (pm_C a).2.1 (pm_C a).2.2, w ∈ Ts) (hown : s.vm.findClass own = some m.cls) (hK : va_K D pm_cl (pm_tys AC) s) (ha : a < 10) (hbn : b < pm_nf a) (hlink : pm_link own idx ((pm_C a).2.1 b) args s)  (hfk : pm_fk a b = 0) (hd : decode cc pc = .ok (.getfield idx, 3)) (k : pm_W p l e R s m args below meth c Q D AC A nL fl M0 bs pcs (pc + 3, L, .inl (me.2 q b) :: st, me, c0, t0)) (hp : pc + 3 ∈ pcs) : pm_W p l e R s m args below meth c Q D AC A nL fl M0 bs pcs (pc, L, .inr (.inl (a, q)) :: st, me, c0, t0) := by
  intro _ hlc hlt ad H locs ls h
  dsimp only at h ⊢
  obtain ⟨hP, hD, hI, hS, hl, hL, hst, hM, hb0⟩ := id h
  obtain ⟨hq, hkd⟩ : q < me.1.1 ∧ me.1.2.1 q = a := by
    rcases pm_ok_hd hst with z | ⟨-, z, -⟩
    · exact z
    · omega
  have he : (pm_ws AC ad me)[q]? = some (ad q, .inr (a, (List.range (pm_nf a)).map (pm_fv ad a q (me.1.2.2 q) (me.2 q)))) := by rw [pm_ws_get hq, hkd, pm_e_o ha]
  have hv : ((List.range (pm_nf a)).map (pm_fv ad a q (me.1.2.2 q) (me.2 q)))[b]? = some (pm_val ad (.inl (me.2 q b))) := by
    rw [List.getElem?_map, List.getElem?_range hbn]
    exact congrArg some (if_pos hfk)
  have k2 := k hp hlc hlt ad H locs ls ⟨hP, hD, hI, hS, hl, hL, pm_ok_cons (v := .inl (me.2 q b)) (show pm_r (me.2 q b) from (hI.2 q hq).2.1 (by omega) b) (pm_ok_tl hst), hM, hb0⟩
  have hbn2 : b < (pm_C a).2.2 := by rw [pm_C_n a ha]; exact hbn
  rcases hlink with h1 | ⟨host, h1⟩
  · exact va_get hx hb hts (hCw a ha) hown hK hP q he (pm_C_at a ha) b hbn2 h1 (fun _ h9 => h9) hv hd k2
  · exact va_getN hx hb hts (hCw a ha) hown hK hP q he (pm_C_at a ha) b hbn2 h1 (fun _ h9 => h9) hv hd k2
theorem pm_a_getR (hx : p.tables.exec = Jvm.exec) (hb : c.code = cc) {own : String} {Ts : List Cond} {a b idx q : Nat} (hts : ∀ w ∈ Ts, w.before args s = true) (hCw : ∀ a, a < 10 → ∀ w ∈ u_ws (pm_C a).1 (pm_C a).2.1 (pm_C a).2.2, w ∈ Ts) (hown : s.vm.findClass own = some m.cls) (hK : va_K D pm_cl (pm_tys AC) s) (ha : a < 10) (hbn : b < pm_nf a) (hlink : pm_link own idx ((pm_C a).2.1 b) args s)  (hfk : pm_fk a b ≠ 0) (hini : me.1.2.2 q b = true) (hd : decode cc pc = .ok (.getfield idx, 3)) (k : pm_W p l e R s m args below meth c Q D AC A nL fl M0 bs pcs (pc + 3, L, .inr (.inl (pm_fk a b - 1, pm_rf a q b)) :: st, me, c0, t0)) (hp : pc + 3 ∈ pcs) : pm_W p l e R s m args below meth c Q D AC A nL fl M0 bs pcs (pc, L, .inr (.inl (a, q)) :: st, me, c0, t0) := by
  intro _ hlc hlt ad H locs ls h
  dsimp only at h ⊢
  obtain ⟨hP, hD, hI, hS, hl, hL, hst, hM, hb0⟩ := id h
  obtain ⟨hq, hkd⟩ : q < me.1.1 ∧ me.1.2.1 q = a := by
    rcases pm_ok_hd hst with z | ⟨-, z, -⟩
    · exact z
    · omega
  have he : (pm_ws AC ad me)[q]? = some (ad q, .inr (a, (List.range (pm_nf a)).map (pm_fv ad a q (me.1.2.2 q) (me.2 q)))) := by rw [pm_ws_get hq, hkd, pm_e_o ha]
  have hv : ((List.range (pm_nf a)).map (pm_fv ad a q (me.1.2.2 q) (me.2 q)))[b]? = some (pm_val ad (.inr (.inl (pm_fk a b - 1, pm_rf a q b)))) := by
    rw [List.getElem?_map, List.getElem?_range hbn]
    exact congrArg some ((if_neg hfk).trans (if_pos hini))
  have k2 := k hp hlc hlt ad H locs ls ⟨hP, hD, hI, hS, hl, hL, pm_ok_cons (v := .inr (.inl (pm_fk a b - 1, pm_rf a q b))) (Or.inl (by have z := (hI.2 q hq).2.2.2.1 (by omega) b (by rw [hkd]; exact hfk) hini; rw [hkd] at z; exact ⟨z.1, show me.1.2.1 (pm_rf a q b) = pm_fk a b - 1 by omega⟩)) (pm_ok_tl hst), hM, hb0⟩
  have hbn2 : b < (pm_C a).2.2 := by rw [pm_C_n a ha]; exact hbn
  rcases hlink with h1 | ⟨host, h1⟩
  · exact va_get hx hb hts (hCw a ha) hown hK hP q he (pm_C_at a ha) b hbn2 h1 (fun _ h9 => h9) hv hd k2
  · exact va_getN hx hb hts (hCw a ha) hown hK hP q he (pm_C_at a ha) b hbn2 h1 (fun _ h9 => h9) hv hd k2
theorem pm_set_f {ad : Nat → Nat} {q b : Nat} {v : Value} {B B' : Nat → Nat → Bool} {M' : Nat → Nat → Int} (hq : q < me.1.1) (ha : me.1.2.1 q < 10) (hv : pm_fv ad (me.1.2.1 q) q (B' q) (M' q) b = v) (ho : ∀ j, j ≠ b → pm_fv ad (me.1.2.1 q) q (B' q) (M' q) j = pm_fv ad (me.1.2.1 q) q (me.1.2.2 q) (me.2 q) j) (hB : ∀ k, k ≠ q → B' k = me.1.2.2 k) (hM : ∀ k, k ≠ q → M' k = me.2 k) : (pm_ws AC ad me).set q (ad q, .inr (me.1.2.1 q, ((List.range (pm_nf (me.1.2.1 q))).map (pm_fv ad (me.1.2.1 q) q (me.1.2.2 q) (me.2 q))).set b v)) = pm_ws AC ad ((me.1.1, me.1.2.1, B'), M') := by
  refine pm_ws_set (m' := ((me.1.1, me.1.2.1, B'), M')) hq rfl ?_ (fun k _ hkq => ⟨rfl, hB k hkq, hM k hkq⟩)
  show _ = pm_e AC ad (me.1.2.1 q) q (B' q) (M' q)
  rw [pm_e_o ha]
  congr 2
  apply List.ext_getElem?
  intro j
  by_cases hj : j < pm_nf (me.1.2.1 q)
  · by_cases hjb : j = b
    · subst hjb
      rw [List.getElem?_set_self (by rw [List.length_map, List.length_range]; exact hj), List.getElem?_map, List.getElem?_range hj]
      exact (congrArg some hv).symm
    · rw [List.getElem?_set_ne (Ne.symm hjb), List.getElem?_map, List.getElem?_map, List.getElem?_range hj]
      exact (congrArg some (ho j hjb)).symm
  · rw [List.getElem?_eq_none (by rw [List.length_set, List.length_map, List.length_range]; omega), List.getElem?_eq_none (by rw [List.length_map, List.length_range]; omega)]
theorem pm_a_putI (hx : p.tables.exec = Jvm.exec) (hb : c.code = cc) {own : String} {Ts : List Cond} {a b idx q : Nat} (hts : ∀ w ∈ Ts, w.before args s = true) (hCw : ∀ a, a < 10 → ∀ w ∈ u_ws (pm_C a).1 (pm_C a).2.1 (pm_C a).2.2, w ∈ Ts) (hown : s.vm.findClass own = some m.cls) (hK : va_K D pm_cl (pm_tys AC) s) (ha : a < 10) (hbn : b < pm_nf a) (hlink : pm_link own idx ((pm_C a).2.1 b) args s)  (hfk : pm_fk a b = 0) {x : Int} (hfin : ((pm_C a).2.1 b).2.2.2 = false) (hz : pm_ft a b = .int ∨ (x = 0 ∨ x = 1)) (hd : decode cc pc = .ok (.putfield idx, 3)) (k : pm_W p l e R s m args below meth c Q D AC A nL fl M0 bs pcs (pc + 3, L, st, (me.1, pm_up me.2 q b x), c0, t0)) (hp : pc + 3 ∈ pcs) : pm_W p l e R s m args below meth c Q D AC A nL fl M0 bs pcs (pc, L, .inl x :: .inr (.inl (a, q)) :: st, me, c0, t0) := by
  intro _ hlc hlt ad H locs ls h
  dsimp only at h ⊢
  obtain ⟨hP, hD, hI, hS, hl, hL, hst, hM, hb0⟩ := id h
  obtain ⟨hq, hkd⟩ : q < me.1.1 ∧ me.1.2.1 q = a := by
    rcases pm_ok_hd (pm_ok_tl hst) with z | ⟨-, z, -⟩
    · exact z
    · omega
  have hxx : pm_r x := pm_ok_hd hst
  have he : (pm_ws AC ad me)[q]? = some (ad q, .inr (a, (List.range (pm_nf a)).map (pm_fv ad a q (me.1.2.2 q) (me.2 q)))) := by rw [pm_ws_get hq, hkd, pm_e_o ha]
  have hbn2 : b < (pm_C a).2.2 := by rw [pm_C_n a ha]; exact hbn
  have hnf : narrow (pm_ft a b) (.int (Int32.ofInt x)) = .int (Int32.ofInt x) ∧ fits (pm_ft a b) (.int (Int32.ofInt x)) = true := by
    rcases (pm_C_fk a ha b hbn).1 hfk with h1 | h1
    · rw [h1]; exact ⟨rfl, rfl⟩
    · rcases hz with h2 | h2
      · rw [h1] at h2; cases h2
      · rw [h1]; exact ⟨(pm_narrow_z h2).1, (pm_narrow_z h2).2.1⟩
  have hset := pm_set_f (AC := AC) (me := me) (ad := ad) (q := q) (b := b) (v := .int (Int32.ofInt x)) (B := me.1.2.2) (B' := me.1.2.2) (M' := pm_up me.2 q b x) hq (by rw [hkd]; exact ha) (by rw [hkd]; exact (if_pos hfk).trans (by show Value.int (Int32.ofInt (if q = q ∧ b = b then x else _)) = _; rw [if_pos ⟨rfl, rfl⟩])) (fun j hj => by unfold pm_fv; rw [show pm_up me.2 q b x q j = me.2 q j from if_neg (fun z => hj z.2)]) (fun _ _ => rfl) (fun k hk => pm_up_o hk)
  rw [hkd] at hset
  have kk : ∀ (H1 : Heap) (locs1 : List Loc), va_P D pm_cl ((pm_ws AC ad me).set q (ad q, .inr (a, ((List.range (pm_nf a)).map (pm_fv ad a q (me.1.2.2 q) (me.2 q))).set b (.int (Int32.ofInt x))))) H1 → va_D A ((pm_ws AC ad me).set q (ad q, .inr (a, ((List.range (pm_nf a)).map (pm_fv ad a q (me.1.2.2 q) (me.2 q))).set b (.int (Int32.ofInt x))))) → va_S A s.heap H1 locs1 → W p l e R s m args below meth c H1 locs1 c0 t0 Q (F0 m (pc + 3) ls (st.map (pm_val ad))) := by
    intro H1 locs1 hP1 hD1 hS1
    rw [hset] at hP1 hD1
    exact k hp hlc hlt ad H1 locs1 ls ⟨hP1, hD1, pm_inv_up hI (fun _ => hxx) (fun z => by omega), hS1, hl, hL, pm_ok_tl (pm_ok_tl hst), pm_up_ge hM (Nat.lt_of_lt_of_le hq hI.1), hb0⟩
  rcases hlink with h1 | ⟨host, h1⟩
  · exact va_put hx hb hts (hCw a ha) (pm_ft a) (pm_C_ty a ha) (pm_C_nm a ha) hown hK hP hD hS q he (pm_C_at a ha) b hbn2 h1 (fun _ h9 => h9) hfin (pm_C_ty a ha b hbn2) hnf.1 hnf.2 (by rw [List.length_map, List.length_range]; exact hbn) hd kk
  · exact va_putN hx hb hts (hCw a ha) (pm_ft a) (pm_C_ty a ha) (pm_C_nm a ha) hown hK hP hD hS q he (pm_C_at a ha) b hbn2 h1 (fun _ h9 => h9) hfin (pm_C_ty a ha b hbn2) hnf.1 hnf.2 (by rw [List.length_map, List.length_range]; exact hbn) hd kk
theorem pm_a_putR (hx : p.tables.exec = Jvm.exec) (hb : c.code = cc) {own : String} {Ts : List Cond} {a b idx q κ : Nat} (hts : ∀ w ∈ Ts, w.before args s = true) (hCw : ∀ a, a < 10 → ∀ w ∈ u_ws (pm_C a).1 (pm_C a).2.1 (pm_C a).2.2, w ∈ Ts) (hown : s.vm.findClass own = some m.cls) (hK : va_K D pm_cl (pm_tys AC) s) (ha : a < 10) (hbn : b < pm_nf a) (hlink : (Cond.fieldLink own idx ((pm_C a).2.1 b).1 ((pm_C a).2.1 b).2.1 ((pm_C a).2.1 b).2.2.1).before args s = true)  (hfk : pm_fk a b = κ + 1) {q2 : Nat} (hfin : ((pm_C a).2.1 b).2.2.2 = true) (hin : meth.name = "<init>") (hdecl : ((pm_C a).2.1 b).1 = own) (hq2 : q2 = pm_rf a q b) (hd : decode cc pc = .ok (.putfield idx, 3)) (k : pm_W p l e R s m args below meth c Q D AC A nL fl M0 bs pcs (pc + 3, L, st, ((me.1.1, me.1.2.1, pm_ub me.1.2.2 q b), me.2), c0, t0)) (hp : pc + 3 ∈ pcs) : pm_W p l e R s m args below meth c Q D AC A nL fl M0 bs pcs (pc, L, .inr (.inl (κ, q2)) :: .inr (.inl (a, q)) :: st, me, c0, t0) := by
  intro _ hlc hlt ad H locs ls h
  dsimp only at h ⊢
  obtain ⟨hP, hD, hI, hS, hl, hL, hst, hM, hb0⟩ := id h
  obtain ⟨hq, hkd⟩ : q < me.1.1 ∧ me.1.2.1 q = a := by
    rcases pm_ok_hd (pm_ok_tl hst) with z | ⟨-, z, -⟩
    · exact z
    · omega
  have hk999 : κ ≠ 999 := by
    intro z
    have := (by decide +kernel : ∀ a, a < 10 → ∀ b, b < pm_nf a → pm_fk a b ≠ 1000) a ha b hbn
    omega
  obtain ⟨hq2n, hkd2⟩ : q2 < me.1.1 ∧ me.1.2.1 q2 = κ := by
    rcases pm_ok_hd hst with z | ⟨-, z, -⟩
    · exact z
    · exact absurd z hk999
  have he : (pm_ws AC ad me)[q]? = some (ad q, .inr (a, (List.range (pm_nf a)).map (pm_fv ad a q (me.1.2.2 q) (me.2 q)))) := by rw [pm_ws_get hq, hkd, pm_e_o ha]
  have hbn2 : b < (pm_C a).2.2 := by rw [pm_C_n a ha]; exact hbn
  have hf0 : pm_fk a b ≠ 0 := by omega
  have hR := (pm_C_fk a ha b hbn).2 hf0
  have hset := pm_set_f (AC := AC) (me := me) (ad := ad) (q := q) (b := b) (v := .ref (ad q2)) (B := me.1.2.2) (B' := pm_ub me.1.2.2 q b) (M' := me.2) hq (by rw [hkd]; exact ha) (by rw [hkd]; exact (if_neg hf0).trans ((if_pos (by show (if q = q ∧ b = b then true else _) = true; rw [if_pos ⟨rfl, rfl⟩])).trans (by rw [hq2]))) (fun j hj => by unfold pm_fv; rw [show pm_ub me.1.2.2 q b q j = me.1.2.2 q j from if_neg (fun z => hj z.2)]) (fun k hk => by funext z; exact if_neg (fun w => hk w.1)) (fun _ _ => rfl)
  rw [hkd] at hset
  refine va_putF hx hb hts (hCw a ha) (pm_ft a) (pm_C_ty a ha) (pm_C_nm a ha) hown hK hP hD hS q he (pm_C_at a ha) b hbn2 hlink (fun _ h9 => h9) hfin hin hdecl (pm_C_ty a ha b hbn2) (pm_fits_r hR).1 (pm_fits_r hR).2.1 (by rw [List.length_map, List.length_range]; exact hbn) hd (fun H1 locs1 hP1 hD1 hS1 => ?_)
  have hP1 := Eq.mp (congrArg (fun w => va_P D pm_cl w H1) hset) hP1
  have hD1 := Eq.mp (congrArg (fun w => va_D A w) hset) hD1
  refine k hp hlc hlt ad H1 locs1 ls ⟨hP1, hD1, ⟨hI.1, fun k9 hk9 => ?_⟩, hS1, hl, hL, pm_ok_tl (pm_ok_tl hst), hM, hb0⟩
  obtain ⟨i1, i2, i3, i4, i5⟩ := hI.2 k9 hk9
  refine ⟨i1, i2, i3, fun z j hj hini => ?_, fun z j hj hini => ?_⟩
  · by_cases hh : k9 = q ∧ j = b
    · obtain ⟨rfl, rfl⟩ := hh
      show pm_rf (me.1.2.1 k9) k9 j < me.1.1 ∧ me.1.2.1 (pm_rf (me.1.2.1 k9) k9 j) + 1 = pm_fk (me.1.2.1 k9) j
      rw [hkd, ← hq2, hfk]
      exact ⟨hq2n, by rw [hkd2]⟩
    · exact i4 z j hj (by have z2 : (if k9 = q ∧ j = b then true else me.1.2.2 k9 j) = true := hini; rw [if_neg hh] at z2; exact z2)
  · refine i5 z j hj ?_
    have z2 : (if k9 = q ∧ j = b then true else me.1.2.2 k9 j) = true := hini
    have z3 : 5000 ≤ me.1.2.1 k9 := z
    rw [if_neg (fun w => by rw [w.1, hkd] at z3; omega)] at z2
    exact z2
theorem pm_a_iaload (hx : p.tables.exec = Jvm.exec) (hb : c.code = cc) (hK : va_K D pm_cl (pm_tys AC) s) {κ q : Nat} {x : Int} (h1 : 1000 ≤ κ) (h2 : κ ≤ 1999) (h3 : 0 ≤ x) (h4 : x < ((κ - 1000 : Nat) : Int)) (hd : decode cc pc = .ok (.iaload, 1)) (k : pm_W p l e R s m args below meth c Q D AC A nL fl M0 bs pcs (pc + 1, L, .inl (me.2 q x.toNat) :: st, me, c0, t0)) (hp : pc + 1 ∈ pcs) : pm_W p l e R s m args below meth c Q D AC A nL fl M0 bs pcs (pc, L, .inl x :: .inr (.inl (κ, q)) :: st, me, c0, t0) := by
  intro _ hlc hlt ad H locs ls h
  dsimp only at h ⊢
  obtain ⟨hP, hD, hI, hS, hl, hL, hst, hM, hb0⟩ := id h
  obtain ⟨hq, hkd⟩ : q < me.1.1 ∧ me.1.2.1 q = κ := by
    rcases pm_ok_hd (pm_ok_tl hst) with z | ⟨-, z, -⟩
    · exact z
    · omega
  have hxx : pm_r x := pm_ok_hd hst
  refine va_iald hx hb hK hP q 0 (by rw [pm_ws_get hq, hkd, pm_e_i h1 h2]) rfl (pm_vin hxx h3 h4) hd ?_
  rw [pm_clamp hxx h3]
  exact k hp hlc hlt ad H locs ls ⟨hP, hD, hI, hS, hl, hL, pm_ok_cons (v := .inl (me.2 q x.toNat)) (show pm_r _ from (hI.2 q hq).2.1 (by omega) _) (pm_ok_tl (pm_ok_tl hst)), hM, hb0⟩
theorem pm_a_baload (hx : p.tables.exec = Jvm.exec) (hb : c.code = cc) (hK : va_K D pm_cl (pm_tys AC) s) {κ q : Nat} {x : Int} (h1 : 2000 ≤ κ) (h2 : κ ≤ 2999) (h3 : 0 ≤ x) (h4 : x < ((κ - 2000 : Nat) : Int)) (hd : decode cc pc = .ok (.baload, 1)) (k : pm_W p l e R s m args below meth c Q D AC A nL fl M0 bs pcs (pc + 1, L, .inl (me.2 q x.toNat) :: st, me, c0, t0)) (hp : pc + 1 ∈ pcs) : pm_W p l e R s m args below meth c Q D AC A nL fl M0 bs pcs (pc, L, .inl x :: .inr (.inl (κ, q)) :: st, me, c0, t0) := by
  intro _ hlc hlt ad H locs ls h
  dsimp only at h ⊢
  obtain ⟨hP, hD, hI, hS, hl, hL, hst, hM, hb0⟩ := id h
  obtain ⟨hq, hkd⟩ : q < me.1.1 ∧ me.1.2.1 q = κ := by
    rcases pm_ok_hd (pm_ok_tl hst) with z | ⟨-, z, -⟩
    · exact z
    · omega
  have hxx : pm_r x := pm_ok_hd hst
  refine va_zald hx hb hK hP q 1 (by rw [pm_ws_get hq, hkd, pm_e_b h1 h2]) rfl (pm_vin hxx h3 h4) hd ?_
  rw [pm_clamp hxx h3]
  exact k hp hlc hlt ad H locs ls ⟨hP, hD, hI, hS, hl, hL, pm_ok_cons (v := .inl (me.2 q x.toNat)) (show pm_r _ from (hI.2 q hq).2.1 (by omega) _) (pm_ok_tl (pm_ok_tl hst)), hM, hb0⟩
theorem pm_a_laload (hx : p.tables.exec = Jvm.exec) (hb : c.code = cc) (hK : va_K D pm_cl (pm_tys AC) s) {κ q : Nat} {x : Int} (h1 : 3000 ≤ κ) (h2 : κ ≤ 3999) (h3 : 0 ≤ x) (h4 : x < ((κ - 3000 : Nat) : Int)) (hd : decode cc pc = .ok (.laload, 1)) (k : pm_W p l e R s m args below meth c Q D AC A nL fl M0 bs pcs (pc + 1, L, .inr (.inr (.inl (me.2 q x.toNat))) :: st, me, c0, t0)) (hp : pc + 1 ∈ pcs) : pm_W p l e R s m args below meth c Q D AC A nL fl M0 bs pcs (pc, L, .inl x :: .inr (.inl (κ, q)) :: st, me, c0, t0) := by
  intro _ hlc hlt ad H locs ls h
  dsimp only at h ⊢
  obtain ⟨hP, hD, hI, hS, hl, hL, hst, hM, hb0⟩ := id h
  obtain ⟨hq, hkd⟩ : q < me.1.1 ∧ me.1.2.1 q = κ := by
    rcases pm_ok_hd (pm_ok_tl hst) with z | ⟨-, z, -⟩
    · exact z
    · omega
  have hxx : pm_r x := pm_ok_hd hst
  refine va_lald hx hb hK hP q 2 (by rw [pm_ws_get hq, hkd, pm_e_l h1 h2]) rfl (pm_vin hxx h3 h4) hd ?_
  rw [pm_clamp hxx h3]
  exact k hp hlc hlt ad H locs ls ⟨hP, hD, hI, hS, hl, hL, pm_ok_cons (v := .inr (.inr (.inl (me.2 q x.toNat)))) (show _ ∧ _ from (hI.2 q hq).2.2.1 (by omega) (by omega) _) (pm_ok_tl (pm_ok_tl hst)), hM, hb0⟩
theorem pm_a_daload (hx : p.tables.exec = Jvm.exec) (hb : c.code = cc) (hK : va_K D pm_cl (pm_tys AC) s) {κ q : Nat} {x : Int} (h1 : 4000 ≤ κ) (h2 : κ ≤ 4999) (h3 : 0 ≤ x) (h4 : x < ((κ - 4000 : Nat) : Int)) (hd : decode cc pc = .ok (.daload, 1)) (k : pm_W p l e R s m args below meth c Q D AC A nL fl M0 bs pcs (pc + 1, L, .inr (.inr (.inr (.inr (UInt64.ofNat (me.2 q x.toNat).toNat)))) :: st, me, c0, t0)) (hp : pc + 1 ∈ pcs) : pm_W p l e R s m args below meth c Q D AC A nL fl M0 bs pcs (pc, L, .inl x :: .inr (.inl (κ, q)) :: st, me, c0, t0) := by
  intro _ hlc hlt ad H locs ls h
  dsimp only at h ⊢
  obtain ⟨hP, hD, hI, hS, hl, hL, hst, hM, hb0⟩ := id h
  obtain ⟨hq, hkd⟩ : q < me.1.1 ∧ me.1.2.1 q = κ := by
    rcases pm_ok_hd (pm_ok_tl hst) with z | ⟨-, z, -⟩
    · exact z
    · omega
  have hxx : pm_r x := pm_ok_hd hst
  refine va_dald hx hb hK hP q 3 (by rw [pm_ws_get hq, hkd, pm_e_d h1 h2]) rfl (pm_vin hxx h3 h4) hd ?_
  rw [pm_clamp hxx h3]
  exact k hp hlc hlt ad H locs ls ⟨hP, hD, hI, hS, hl, hL, pm_ok_cons (v := .inr (.inr (.inr (.inr (UInt64.ofNat (me.2 q x.toNat).toNat))))) (trivial) (pm_ok_tl (pm_ok_tl hst)), hM, hb0⟩
theorem pm_a_iastore (hx : p.tables.exec = Jvm.exec) (hb : c.code = cc) (hK : va_K D pm_cl (pm_tys AC) s) {κ q : Nat} {x : Int} {v : Int} (h1 : 1000 ≤ κ) (h2 : κ ≤ 1999) (h3 : 0 ≤ x) (h4 : x < ((κ - 1000 : Nat) : Int)) (hd : decode cc pc = .ok (.iastore, 1)) (k : pm_W p l e R s m args below meth c Q D AC A nL fl M0 bs pcs (pc + 1, L, st, (me.1, pm_up me.2 q x.toNat v), c0, t0)) (hp : pc + 1 ∈ pcs) : pm_W p l e R s m args below meth c Q D AC A nL fl M0 bs pcs (pc, L, .inl v :: .inl x :: .inr (.inl (κ, q)) :: st, me, c0, t0) := by
  intro _ hlc hlt ad H locs ls h
  dsimp only at h ⊢
  obtain ⟨hP, hD, hI, hS, hl, hL, hst, hM, hb0⟩ := id h
  obtain ⟨hq, hkd⟩ : q < me.1.1 ∧ me.1.2.1 q = κ := by
    rcases pm_ok_hd (pm_ok_tl (pm_ok_tl hst)) with z | ⟨-, z, -⟩
    · exact z
    · omega
  have hxx : pm_r x := pm_ok_hd (pm_ok_tl hst)
  have hvv := pm_ok_hd hst
  refine va_iast hx hb hK hP hD hS q 0 (by rw [pm_ws_get hq, hkd, pm_e_i h1 h2]) rfl (pm_vin hxx h3 h4) hd (fun H1 locs1 hP1 hD1 hS1 => ?_)
  rw [pm_ws_set (m' := (me.1, pm_up me.2 q x.toNat v)) hq rfl (by
    show _ = pm_e AC ad (me.1.2.1 q) q (me.1.2.2 q) (pm_up me.2 q x.toNat v q)
    rw [hkd, pm_e_i h1 h2, pm_clamp hxx h3]
    congr 4
    funext j
    show _ = Int32.ofInt (if q = q ∧ j = x.toNat then v else me.2 q j)
    by_cases hj : j = x.toNat
    · subst hj
      rw [if_pos ⟨rfl, rfl⟩]
      exact if_pos rfl
    · rw [if_neg (fun z => hj z.2)]
      exact if_neg hj) (fun k9 _ hk9 => ⟨rfl, rfl, pm_up_o hk9⟩)] at hP1 hD1
  exact k hp hlc hlt ad H1 locs1 ls ⟨hP1, hD1, pm_inv_up hI (fun _ => hvv) (fun z => by omega), hS1, hl, hL, pm_ok_tl (pm_ok_tl (pm_ok_tl hst)), pm_up_ge hM (Nat.lt_of_lt_of_le hq hI.1), hb0⟩
theorem pm_a_bastore (hx : p.tables.exec = Jvm.exec) (hb : c.code = cc) (hK : va_K D pm_cl (pm_tys AC) s) {κ q : Nat} {x : Int} {v : Int} (hz : v = 0 ∨ v = 1) (h1 : 2000 ≤ κ) (h2 : κ ≤ 2999) (h3 : 0 ≤ x) (h4 : x < ((κ - 2000 : Nat) : Int)) (hd : decode cc pc = .ok (.bastore, 1)) (k : pm_W p l e R s m args below meth c Q D AC A nL fl M0 bs pcs (pc + 1, L, st, (me.1, pm_up me.2 q x.toNat v), c0, t0)) (hp : pc + 1 ∈ pcs) : pm_W p l e R s m args below meth c Q D AC A nL fl M0 bs pcs (pc, L, .inl v :: .inl x :: .inr (.inl (κ, q)) :: st, me, c0, t0) := by
  intro _ hlc hlt ad H locs ls h
  dsimp only at h ⊢
  obtain ⟨hP, hD, hI, hS, hl, hL, hst, hM, hb0⟩ := id h
  obtain ⟨hq, hkd⟩ : q < me.1.1 ∧ me.1.2.1 q = κ := by
    rcases pm_ok_hd (pm_ok_tl (pm_ok_tl hst)) with z | ⟨-, z, -⟩
    · exact z
    · omega
  have hxx : pm_r x := pm_ok_hd (pm_ok_tl hst)
  have hvv := pm_ok_hd hst
  refine va_zast hx hb hK hP hD hS q 1 (by rw [pm_ws_get hq, hkd, pm_e_b h1 h2]) rfl (pm_vin hxx h3 h4) hd (fun H1 locs1 hP1 hD1 hS1 => ?_)
  rw [pm_ws_set (m' := (me.1, pm_up me.2 q x.toNat v)) hq rfl (by
    show _ = pm_e AC ad (me.1.2.1 q) q (me.1.2.2 q) (pm_up me.2 q x.toNat v q)
    rw [hkd, pm_e_b h1 h2, pm_clamp hxx h3]
    congr 4
    funext j
    show _ = Int32.ofInt (if q = q ∧ j = x.toNat then v else me.2 q j)
    by_cases hj : j = x.toNat
    · subst hj
      rw [if_pos ⟨rfl, rfl⟩]
      exact (if_pos rfl).trans (pm_narrow_z hz).2.2
    · rw [if_neg (fun z => hj z.2)]
      exact if_neg hj) (fun k9 _ hk9 => ⟨rfl, rfl, pm_up_o hk9⟩)] at hP1 hD1
  exact k hp hlc hlt ad H1 locs1 ls ⟨hP1, hD1, pm_inv_up hI (fun _ => hvv) (fun z => by omega), hS1, hl, hL, pm_ok_tl (pm_ok_tl (pm_ok_tl hst)), pm_up_ge hM (Nat.lt_of_lt_of_le hq hI.1), hb0⟩
theorem pm_a_lastore (hx : p.tables.exec = Jvm.exec) (hb : c.code = cc) (hK : va_K D pm_cl (pm_tys AC) s) {κ q : Nat} {x : Int} {v : Int} (h1 : 3000 ≤ κ) (h2 : κ ≤ 3999) (h3 : 0 ≤ x) (h4 : x < ((κ - 3000 : Nat) : Int)) (hd : decode cc pc = .ok (.lastore, 1)) (k : pm_W p l e R s m args below meth c Q D AC A nL fl M0 bs pcs (pc + 1, L, st, (me.1, pm_up me.2 q x.toNat v), c0, t0)) (hp : pc + 1 ∈ pcs) : pm_W p l e R s m args below meth c Q D AC A nL fl M0 bs pcs (pc, L, .inr (.inr (.inl v)) :: .inl x :: .inr (.inl (κ, q)) :: st, me, c0, t0) := by
  intro _ hlc hlt ad H locs ls h
  dsimp only at h ⊢
  obtain ⟨hP, hD, hI, hS, hl, hL, hst, hM, hb0⟩ := id h
  obtain ⟨hq, hkd⟩ : q < me.1.1 ∧ me.1.2.1 q = κ := by
    rcases pm_ok_hd (pm_ok_tl (pm_ok_tl hst)) with z | ⟨-, z, -⟩
    · exact z
    · omega
  have hxx : pm_r x := pm_ok_hd (pm_ok_tl hst)
  have hvv := pm_ok_hd hst
  refine va_last hx hb hK hP hD hS q 2 (by rw [pm_ws_get hq, hkd, pm_e_l h1 h2]) rfl (pm_vin hxx h3 h4) hd (fun H1 locs1 hP1 hD1 hS1 => ?_)
  rw [pm_ws_set (m' := (me.1, pm_up me.2 q x.toNat v)) hq rfl (by
    show _ = pm_e AC ad (me.1.2.1 q) q (me.1.2.2 q) (pm_up me.2 q x.toNat v q)
    rw [hkd, pm_e_l h1 h2, pm_clamp hxx h3]
    congr 5
    funext j
    show _ = Int64.ofInt (if q = q ∧ j = x.toNat then v else me.2 q j)
    by_cases hj : j = x.toNat
    · subst hj
      rw [if_pos ⟨rfl, rfl⟩]
      exact if_pos rfl
    · rw [if_neg (fun z => hj z.2)]
      exact if_neg hj) (fun k9 _ hk9 => ⟨rfl, rfl, pm_up_o hk9⟩)] at hP1 hD1
  exact k hp hlc hlt ad H1 locs1 ls ⟨hP1, hD1, pm_inv_up hI (fun z => by omega) (fun _ _ => hvv), hS1, hl, hL, pm_ok_tl (pm_ok_tl (pm_ok_tl hst)), pm_up_ge hM (Nat.lt_of_lt_of_le hq hI.1), hb0⟩
theorem pm_a_dastore (hx : p.tables.exec = Jvm.exec) (hb : c.code = cc) (hK : va_K D pm_cl (pm_tys AC) s) {κ q : Nat} {x : Int} {v : UInt64} (h1 : 4000 ≤ κ) (h2 : κ ≤ 4999) (h3 : 0 ≤ x) (h4 : x < ((κ - 4000 : Nat) : Int)) (hd : decode cc pc = .ok (.dastore, 1)) (k : pm_W p l e R s m args below meth c Q D AC A nL fl M0 bs pcs (pc + 1, L, st, (me.1, pm_up me.2 q x.toNat (v.toNat : Int)), c0, t0)) (hp : pc + 1 ∈ pcs) : pm_W p l e R s m args below meth c Q D AC A nL fl M0 bs pcs (pc, L, .inr (.inr (.inr (.inr v))) :: .inl x :: .inr (.inl (κ, q)) :: st, me, c0, t0) := by
  intro _ hlc hlt ad H locs ls h
  dsimp only at h ⊢
  obtain ⟨hP, hD, hI, hS, hl, hL, hst, hM, hb0⟩ := id h
  obtain ⟨hq, hkd⟩ : q < me.1.1 ∧ me.1.2.1 q = κ := by
    rcases pm_ok_hd (pm_ok_tl (pm_ok_tl hst)) with z | ⟨-, z, -⟩
    · exact z
    · omega
  have hxx : pm_r x := pm_ok_hd (pm_ok_tl hst)
  have hvv := pm_ok_hd hst
  refine va_dast hx hb hK hP hD hS q 3 (by rw [pm_ws_get hq, hkd, pm_e_d h1 h2]) rfl (pm_vin hxx h3 h4) hd (fun H1 locs1 hP1 hD1 hS1 => ?_)
  rw [pm_ws_set (m' := (me.1, pm_up me.2 q x.toNat (v.toNat : Int))) hq rfl (by
    show _ = pm_e AC ad (me.1.2.1 q) q (me.1.2.2 q) (pm_up me.2 q x.toNat (v.toNat : Int) q)
    rw [hkd, pm_e_d h1 h2, pm_clamp hxx h3]
    congr 7
    funext j
    show _ = UInt64.ofNat (Int.toNat (if q = q ∧ j = x.toNat then (v.toNat : Int) else me.2 q j))
    by_cases hj : j = x.toNat
    · subst hj
      rw [if_pos ⟨rfl, rfl⟩]
      exact (if_pos rfl).trans (by rw [Int.toNat_natCast, UInt64.ofNat_toNat])
    · rw [if_neg (fun z => hj z.2)]
      exact if_neg hj) (fun k9 _ hk9 => ⟨rfl, rfl, pm_up_o hk9⟩)] at hP1 hD1
  exact k hp hlc hlt ad H1 locs1 ls ⟨hP1, hD1, pm_inv_up hI (fun z => by omega) (fun z1 z2 => by omega), hS1, hl, hL, pm_ok_tl (pm_ok_tl (pm_ok_tl hst)), pm_up_ge hM (Nat.lt_of_lt_of_le hq hI.1), hb0⟩
end HPS
end
section
/-! ARRAYS OF THINGS, NEW THINGS, THE SCRIPT, NATIVES (laid by wip/whole/gen_new.py) -/
theorem pm_ll_ad {ad ad' : Nat → Nat} : ∀ {L : List (Option pm_V)} {i : Nat}, (∀ j v, pm_ld L j = some v → pm_val ad' v = pm_val ad v) → pm_ll ad' i L = pm_ll ad i L
  | [], _, _ => rfl
  | none :: L, i, h => by
    rw [pm_ll, pm_ll]
    exact pm_ll_ad (fun j v hj => h (j + 1) v hj)
  | some w :: L, i, h => by
    rw [pm_ll, pm_ll, h 0 w rfl, pm_ll_ad (fun j v hj => h (j + 1) v hj)]
theorem pm_ok_grow {fl : Bool} {z : pm_Sh} {κ : Nat} {B : Nat → Nat → Bool} {v : pm_V} (h : pm_ok fl z v) : pm_ok fl (z.1 + 1, pm_kd z.2.1 z.1 κ, B) v := by
  rcases v with x | ⟨k9, q⟩ | x | x | x
  · exact h
  · rcases h with h | h
    · refine Or.inl ⟨Nat.lt_succ_of_lt h.1, ?_⟩
      show (if q = z.1 then κ else z.2.1 q) = k9
      rw [if_neg (Nat.ne_of_lt h.1)]
      exact h.2
    · exact Or.inr h
  · exact h
  · trivial
  · trivial
theorem pm_inv_new {me : pm_Me} (hI : pm_inv me) (hn : me.1.1 < 9000) {κ : Nat} (hκ : κ < 10 ∨ (1000 ≤ κ ∧ κ < 6000)) : pm_inv ((me.1.1 + 1, pm_kd me.1.2.1 me.1.1 κ, pm_nb me.1.2.2 me.1.1), pm_nm me.2 me.1.1) := by
  refine ⟨hn, fun k hk => ?_⟩
  have hk : k < me.1.1 + 1 := hk
  by_cases he : k = me.1.1
  · subst he
    have e1 : pm_kd me.1.2.1 me.1.1 κ me.1.1 = κ := if_pos rfl
    have e2 : ∀ j, pm_nm me.2 me.1.1 me.1.1 j = 0 := fun j => if_pos rfl
    have e3 : ∀ j, pm_nb me.1.2.2 me.1.1 me.1.1 j = false := fun j => if_pos rfl
    refine ⟨?_, fun _ j => ?_, fun _ _ j => ?_, fun _ j _ hini => ?_, fun _ j _ hini => ?_⟩
    · show pm_kd me.1.2.1 me.1.1 κ me.1.1 < 10 ∨ (1000 ≤ pm_kd me.1.2.1 me.1.1 κ me.1.1 ∧ pm_kd me.1.2.1 me.1.1 κ me.1.1 < 6000)
      rw [e1]; exact hκ
    · show pm_r (pm_nm me.2 me.1.1 me.1.1 j)
      rw [e2]; exact pm_r0
    · show _ ≤ pm_nm me.2 me.1.1 me.1.1 j ∧ pm_nm me.2 me.1.1 me.1.1 j ≤ _
      rw [e2]; exact ⟨by decide, by decide⟩
    · have z : pm_nb me.1.2.2 me.1.1 me.1.1 j = true := hini
      rw [e3] at z; cases z
    · have z : pm_nb me.1.2.2 me.1.1 me.1.1 j = true := hini
      rw [e3] at z; cases z
  · have hk2 : k < me.1.1 := by omega
    have e1 : ∀ k, k < me.1.1 → pm_kd me.1.2.1 me.1.1 κ k = me.1.2.1 k := fun k h => if_neg (Nat.ne_of_lt h)
    have e2 : ∀ j, pm_nm me.2 me.1.1 k j = me.2 k j := fun j => if_neg he
    have e3 : ∀ j, pm_nb me.1.2.2 me.1.1 k j = me.1.2.2 k j := fun j => if_neg he
    obtain ⟨i1, i2, i3, i4, i5⟩ := hI.2 k hk2
    refine ⟨?_, fun z j => ?_, fun z z2 j => ?_, fun z j hj hini => ?_, fun z j hj hini => ?_⟩
    · show pm_kd me.1.2.1 me.1.1 κ k < 10 ∨ (1000 ≤ pm_kd me.1.2.1 me.1.1 κ k ∧ pm_kd me.1.2.1 me.1.1 κ k < 6000)
      rw [e1 k hk2]; exact i1
    · have z : pm_kd me.1.2.1 me.1.1 κ k < 3000 := z
      rw [e1 k hk2] at z
      show pm_r (pm_nm me.2 me.1.1 k j)
      rw [e2]; exact i2 z j
    · have z : 3000 ≤ pm_kd me.1.2.1 me.1.1 κ k := z
      have z2 : pm_kd me.1.2.1 me.1.1 κ k < 4000 := z2
      rw [e1 k hk2] at z z2
      show _ ≤ pm_nm me.2 me.1.1 k j ∧ pm_nm me.2 me.1.1 k j ≤ _
      rw [e2]; exact i3 z z2 j
    · have z : pm_kd me.1.2.1 me.1.1 κ k < 10 := z
      have hj : pm_fk (pm_kd me.1.2.1 me.1.1 κ k) j ≠ 0 := hj
      have hini : pm_nb me.1.2.2 me.1.1 k j = true := hini
      rw [e1 k hk2] at z hj
      rw [e3] at hini
      obtain ⟨a1, a2⟩ := i4 z j hj hini
      show pm_rf (pm_kd me.1.2.1 me.1.1 κ k) k j < me.1.1 + 1 ∧ pm_kd me.1.2.1 me.1.1 κ (pm_rf (pm_kd me.1.2.1 me.1.1 κ k) k j) + 1 = pm_fk (pm_kd me.1.2.1 me.1.1 κ k) j
      rw [e1 k hk2, e1 _ a1]
      exact ⟨Nat.lt_succ_of_lt a1, a2⟩
    · have z : 5000 ≤ pm_kd me.1.2.1 me.1.1 κ k := z
      have hj : j < pm_kd me.1.2.1 me.1.1 κ k - 5000 := hj
      have hini : pm_nb me.1.2.2 me.1.1 k j = true := hini
      rw [e1 k hk2] at z hj
      rw [e3] at hini
      obtain ⟨a1, a2⟩ := i5 z j hj hini
      show pm_rf (pm_kd me.1.2.1 me.1.1 κ k) k j < me.1.1 + 1 ∧ pm_kd me.1.2.1 me.1.1 κ (pm_rf (pm_kd me.1.2.1 me.1.1 κ k) k j) = 6
      rw [e1 k hk2, e1 _ a1]
      exact ⟨Nat.lt_succ_of_lt a1, a2⟩
theorem pm_cats {ad ad' : Nat → Nat} : ∀ {st : List pm_V}, ((st.map (pm_val ad)).map fun v => v.category).sum = (st.map fun v => (pm_val ad' v).category).sum
  | [] => rfl
  | v :: st => by
    rw [List.map_cons, List.map_cons, List.map_cons, List.sum_cons, List.sum_cons, pm_cats (st := st)]
    congr 1
    rcases v with x | ⟨κ, q⟩ | x | x | x <;> rfl
section NWS
variable {p : Program} {l : Launch} {e : Env} {R : Room} {s : State} {m : MethodId} {args : Array Value} {below : List Frame} {meth : Method} {c : Code} {Q : State → Prop}
variable {D : va_G} {AC : Nat → ClassId} {A : Nat → Prop} {cc : ByteArray} {nL : Nat} {fl : Bool} {M0 : Nat → Nat → Int} {bs : Nat × (Nat → Nat) × (Nat → Nat)} {pcs : List Nat}
variable {pc : Nat} {L : List (Option pm_V)} {st : List pm_V} {me : pm_Me} {c0 t0 : Nat}
/-- a new thing is there -/
theorem pm_grow {ad : Nat → Nat} {H H1 : Heap} {locs locs1 : List Loc} {ls : Array Slot} {κ qa : Nat} {e9 : va_E} (h : pm_Rel s D AC A nL fl M0 bs ad H locs ls L st me) (hκ : κ < 10 ∨ (1000 ≤ κ ∧ κ < 6000)) (hn : me.1.1 < 9000) (he : e9 = pm_e AC (fun j => if j = me.1.1 then qa else ad j) κ me.1.1 (fun _ => false) (fun _ => 0)) (hP1 : va_P D pm_cl (pm_ws AC ad me ++ [(qa, e9)]) H1) (hD1 : va_D A (pm_ws AC ad me ++ [(qa, e9)])) (hS1 : va_S A s.heap H1 locs1) :
    pm_Rel s D AC A nL fl M0 bs (fun j => if j = me.1.1 then qa else ad j) H1 locs1 ls L (.inr (.inl (κ, me.1.1)) :: st) ((me.1.1 + 1, pm_kd me.1.2.1 me.1.1 κ, pm_nb me.1.2.2 me.1.1), pm_nm me.2 me.1.1) ∧ st.map (pm_val (fun j => if j = me.1.1 then qa else ad j)) = st.map (pm_val ad) := by
  obtain ⟨hP, hD, hI, hS, hl, hL, hst, hM, hb0⟩ := h
  have e1 : ∀ q, q < me.1.1 → (fun j => if j = me.1.1 then qa else ad j) q = ad q := fun q hq => if_neg (Nat.ne_of_lt hq)
  have e2 : (fun j => if j = me.1.1 then qa else ad j) 9999 = ad 9999 := if_neg (by omega)
  have hws := pm_ws_push (AC := AC) (ad := ad) (m := me) (a := qa) (κ := κ) (e := e9) (M' := pm_nm me.2 me.1.1) (B' := pm_nb me.1.2.2 me.1.1) hI (by rw [he]; congr 1 <;> (funext j; exact (if_pos rfl).symm)) (fun k hk => by funext j; exact if_neg (Nat.ne_of_lt hk)) (fun k hk => by funext j; exact if_neg (Nat.ne_of_lt hk))
  rw [hws] at hP1 hD1
  refine ⟨⟨hP1, hD1, pm_inv_new hI hn hκ, hS1, ?_, fun j v hj => pm_ok_grow (hL j v hj), pm_ok_cons (Or.inl ⟨Nat.lt_succ_self _, if_pos rfl⟩) (fun v hv => pm_ok_grow (hst v hv)), fun a ha => ?_, ⟨Nat.le_succ_of_le hb0.1, fun q hq => ⟨(if_neg (Nat.ne_of_lt (Nat.lt_of_lt_of_le hq hb0.1))).trans (hb0.2.1 q hq).1, (e1 q (Nat.lt_of_lt_of_le hq hb0.1)).trans (hb0.2.1 q hq).2⟩, e2.trans hb0.2.2⟩⟩, ?_⟩
  · rw [pm_ll_ad (fun j v hj => pm_val_ad (hL j v hj) e1 e2)]
    exact hl
  · rw [← hM a ha]
    funext b
    exact if_neg (by omega)
  · apply List.map_congr_left
    intro v hv
    exact pm_val_ad (hst v hv) e1 e2
theorem pm_a_aaload (hx : p.tables.exec = Jvm.exec) (hb : c.code = cc) (hK : va_K D pm_cl (pm_tys AC) s) {κ q : Nat} {x : Int} (h1 : 5000 ≤ κ) (h3 : 0 ≤ x) (h4 : x < ((κ - 5000 : Nat) : Int)) (hini : me.1.2.2 q x.toNat = true) (hd : decode cc pc = .ok (.aaload, 1)) (k : pm_W p l e R s m args below meth c Q D AC A nL fl M0 bs pcs (pc + 1, L, .inr (.inl (6, pm_rf κ q x.toNat)) :: st, me, c0, t0)) (hp : pc + 1 ∈ pcs) : pm_W p l e R s m args below meth c Q D AC A nL fl M0 bs pcs (pc, L, .inl x :: .inr (.inl (κ, q)) :: st, me, c0, t0) := by
  intro _ hlc hlt ad H locs ls h
  dsimp only at h hlc hlt ⊢
  obtain ⟨hP, hD, hI, hS, hl, hL, hst, hM, hb0⟩ := id h
  obtain ⟨hq, hkd⟩ : q < me.1.1 ∧ me.1.2.1 q = κ := by
    rcases pm_ok_hd (pm_ok_tl hst) with z | ⟨-, z, -⟩
    · exact z
    · omega
  have hxx : pm_r x := pm_ok_hd hst
  refine va_aldq hx hb hK hP q 4 (by rw [pm_ws_get hq, hkd, pm_e_a h1]) rfl (pm_vin hxx h3 h4) hd ?_
  rw [pm_clamp hxx h3]
  have e1 : va_rf (pm_qv ad κ q (me.1.2.2 q) x.toNat) = .ref (ad (pm_rf κ q x.toNat)) := by
    unfold pm_qv
    rw [if_pos ⟨by omega, hini⟩]
    rfl
  rw [e1]
  have z := (hI.2 q hq).2.2.2.2 (by rw [hkd]; exact h1) x.toNat (by rw [hkd]; omega) hini
  rw [hkd] at z
  exact k hp hlc hlt ad H locs ls ⟨hP, hD, hI, hS, hl, hL, pm_ok_cons (v := .inr (.inl (6, pm_rf κ q x.toNat))) (Or.inl z) (pm_ok_tl (pm_ok_tl hst)), hM, hb0⟩
theorem pm_a_aastore (hx : p.tables.exec = Jvm.exec) (hb : c.code = cc) (hK : va_K D pm_cl (pm_tys AC) s) {κ q q2 : Nat} {x : Int} (h1 : 5000 ≤ κ) (h3 : 0 ≤ x) (h4 : x < ((κ - 5000 : Nat) : Int)) (hq2 : q2 = pm_rf κ q x.toNat) (hd : decode cc pc = .ok (.aastore, 1)) (k : pm_W p l e R s m args below meth c Q D AC A nL fl M0 bs pcs (pc + 1, L, st, ((me.1.1, me.1.2.1, pm_ub me.1.2.2 q x.toNat), me.2), c0, t0)) (hp : pc + 1 ∈ pcs) : pm_W p l e R s m args below meth c Q D AC A nL fl M0 bs pcs (pc, L, .inr (.inl (6, q2)) :: .inl x :: .inr (.inl (κ, q)) :: st, me, c0, t0) := by
  intro _ hlc hlt ad H locs ls h
  dsimp only at h hlc hlt ⊢
  obtain ⟨hP, hD, hI, hS, hl, hL, hst, hM, hb0⟩ := id h
  obtain ⟨hq, hkd⟩ : q < me.1.1 ∧ me.1.2.1 q = κ := by
    rcases pm_ok_hd (pm_ok_tl (pm_ok_tl hst)) with z | ⟨-, z, -⟩
    · exact z
    · omega
  obtain ⟨hq2n, hkd2⟩ : q2 < me.1.1 ∧ me.1.2.1 q2 = 6 := by
    rcases pm_ok_hd hst with z | ⟨-, z, -⟩
    · exact z
    · omega
  have hxx : pm_r x := pm_ok_hd (pm_ok_tl hst)
  have hset : (pm_ws AC ad me).set q (ad q, .inl (AC 5, κ - 5000, .inr (.inr (.inr (.inr (va_up (pm_qv ad κ q (me.1.2.2 q)) x.toNat (some (ad q2)))))))) = pm_ws AC ad ((me.1.1, me.1.2.1, pm_ub me.1.2.2 q x.toNat), me.2) := by
    refine pm_ws_set (m' := ((me.1.1, me.1.2.1, pm_ub me.1.2.2 q x.toNat), me.2)) hq rfl ?_ (fun k9 _ hk9 => ⟨rfl, by funext z; exact if_neg (fun w => hk9 w.1), rfl⟩)
    show _ = pm_e AC ad (me.1.2.1 q) q (pm_ub me.1.2.2 q x.toNat q) (me.2 q)
    rw [hkd, pm_e_a h1]
    have e2 : va_up (pm_qv ad κ q (me.1.2.2 q)) x.toNat (some (ad q2)) = pm_qv ad κ q (pm_ub me.1.2.2 q x.toNat q) := by
      funext j
      unfold va_up pm_qv
      by_cases hj : j = x.toNat
      · subst hj
        rw [if_pos rfl, if_pos ⟨by omega, by show (if q = q ∧ x.toNat = x.toNat then true else _) = true; rw [if_pos ⟨rfl, rfl⟩]⟩, hq2]
      · rw [if_neg hj, show pm_ub me.1.2.2 q x.toNat q j = me.1.2.2 q j from if_neg (fun z => hj z.2)]
    rw [e2]
  refine va_astq hx hb hK hP hD hS q 4 q2 6 (r := (RX6, TX6, 2)) (by rw [pm_ws_get hq, hkd, pm_e_a h1]) rfl (by rw [pm_ws_get hq2n, hkd2, pm_e_o (by decide)]) rfl (pm_vin hxx h3 h4) hd (fun H1 locs1 hP1 hD1 hS1 => ?_)
  rw [pm_clamp hxx h3] at hP1 hD1
  have hP1 := Eq.mp (congrArg (fun w => va_P D pm_cl w H1) hset) hP1
  have hD1 := Eq.mp (congrArg (fun w => va_D A w) hset) hD1
  refine k hp hlc hlt ad H1 locs1 ls ⟨hP1, hD1, ⟨hI.1, fun k9 hk9 => ?_⟩, hS1, hl, hL, pm_ok_tl (pm_ok_tl (pm_ok_tl hst)), hM, hb0⟩
  obtain ⟨i1, i2, i3, i4, i5⟩ := hI.2 k9 hk9
  refine ⟨i1, i2, i3, fun z j hj hini => ?_, fun z j hj hini => ?_⟩
  · refine i4 z j hj ?_
    have z2 : (if k9 = q ∧ j = x.toNat then true else me.1.2.2 k9 j) = true := hini
    have z3 : me.1.2.1 k9 < 10 := z
    rw [if_neg (fun w => by rw [w.1, hkd] at z3; omega)] at z2
    exact z2
  · by_cases hh : k9 = q ∧ j = x.toNat
    · obtain ⟨rfl, rfl⟩ := hh
      show pm_rf (me.1.2.1 k9) k9 x.toNat < me.1.1 ∧ me.1.2.1 (pm_rf (me.1.2.1 k9) k9 x.toNat) = 6
      rw [hkd, ← hq2]
      exact ⟨hq2n, hkd2⟩
    · exact i5 z j hj (by have z2 : (if k9 = q ∧ j = x.toNat then true else me.1.2.2 k9 j) = true := hini; rw [if_neg hh] at z2; exact z2)
theorem pm_a_new (hx : p.tables.exec = Jvm.exec) (hb : c.code = cc) {own : String} {Ts : List Cond} {a idx : Nat} (hts : ∀ w ∈ Ts, w.before args s = true) (hCw : ∀ a, a < 10 → ∀ w ∈ u_ws (pm_C a).1 (pm_C a).2.1 (pm_C a).2.2, w ∈ Ts) (hown : s.vm.findClass own = some m.cls) (hK : va_K D pm_cl (pm_tys AC) s) (hA : ∀ q, s.heap.size ≤ q → A q) (ha : a < 10) (hcl : (Cond.classLink own idx (pm_C a).1).before args s = true) (hinst : (Cond.instantiable (pm_C a).1 (pm_C a).2.2).before args s = true) (hini : (Cond.initialized (pm_C a).1).before args s = true) (hc1 : c0 + 1 ≤ R.cells) (ht1 : t0 + pm_nf a ≤ R.slots) (hn : me.1.1 < 9000) (hd : decode cc pc = .ok (.new idx, 3)) (k : pm_W p l e R s m args below meth c Q D AC A nL fl M0 bs pcs (pc + 3, L, .inr (.inl (a, me.1.1)) :: st, ((me.1.1 + 1, pm_kd me.1.2.1 me.1.1 a, pm_nb me.1.2.2 me.1.1), pm_nm me.2 me.1.1), c0 + 1, t0 + pm_nf a)) (hp : pc + 3 ∈ pcs) : pm_W p l e R s m args below meth c Q D AC A nL fl M0 bs pcs (pc, L, st, me, c0, t0) := by
  intro _ hlc hlt ad H locs ls h
  dsimp only at h hlc hlt ⊢
  obtain ⟨hP, hD, hI, hS, hl, hL, hst, hM, hb0⟩ := id h
  have hN := pm_C_n a ha
  refine va_new (fs := (List.range (pm_nf a)).map (pm_fv ad a me.1.1 (fun _ => false) (fun _ => 0))) hx hb hts (hCw a ha) (pm_ft a) (pm_C_ty a ha) hown hcl hinst hini hK hP hD hS hA (pm_C_at a ha) (fun j hj => ?_) hc1 (by rw [hN]; exact ht1) hd (fun qa H1 hP1 hD1 hS1 => ?_)
  · rw [hN] at hj
    show _ = ((List.range (pm_nf a)).map (pm_fv ad a me.1.1 (fun _ => false) (fun _ => 0))).getD j Value.null
    rw [List.getD_eq_getElem?_getD, List.getElem?_map, List.getElem?_range hj]
    show _ = pm_fv ad a me.1.1 (fun _ => false) (fun _ => 0) j
    unfold pm_fv
    by_cases hf : pm_fk a j = 0
    · rw [if_pos hf]
      rcases (pm_C_fk a ha j hj).1 hf with z | z <;> rw [z] <;> rfl
    · rw [if_neg hf, if_neg Bool.false_ne_true]
      exact (pm_fits_r (q := 0) ((pm_C_fk a ha j hj).2 hf)).2.2
  · have he : (.inr (a, (List.range (pm_nf a)).map (pm_fv ad a me.1.1 (fun _ => false) (fun _ => 0))) : va_E) = pm_e AC (fun j => if j = me.1.1 then qa else ad j) a me.1.1 (fun _ => false) (fun _ => 0) := by
      rw [pm_e_o ha]
      congr 2
    obtain ⟨r1, r2⟩ := pm_grow h (Or.inl ha) hn he hP1 hD1 hS1
    have k2 := k hp hc1 ht1 _ H1 locs ls r1
    rw [hN]
    rw [List.map_cons] at k2
    dsimp only at k2
    rw [r2] at k2
    have e3 : pm_val (fun j => if j = me.1.1 then qa else ad j) (.inr (.inl (a, me.1.1))) = .ref qa := congrArg Value.ref (if_pos rfl)
    rw [e3] at k2
    exact k2
theorem pm_a_newarray_int (hx : p.tables.exec = Jvm.exec) (hb : c.code = cc) (harr : (Cond.arrayClass .int).before args s = true) (hK : va_K D pm_cl (pm_tys AC) s) (hA : ∀ q, s.heap.size ≤ q → A q) {x : Int} (h3 : 0 ≤ x) (h4 : x < 1000) (hc1 : c0 + 1 ≤ R.cells) (ht1 : t0 + x.toNat ≤ R.slots) (hn : me.1.1 < 9000) (hd : decode cc pc = .ok (.newarray .int, 2)) (k : pm_W p l e R s m args below meth c Q D AC A nL fl M0 bs pcs (pc + 2, L, .inr (.inl (1000 + x.toNat, me.1.1)) :: st, ((me.1.1 + 1, pm_kd me.1.2.1 me.1.1 (1000 + x.toNat), pm_nb me.1.2.2 me.1.1), pm_nm me.2 me.1.1), c0 + 1, t0 + x.toNat)) (hp : pc + 2 ∈ pcs) : pm_W p l e R s m args below meth c Q D AC A nL fl M0 bs pcs (pc, L, .inl x :: st, me, c0, t0) := by
  intro _ hlc hlt ad H locs ls h
  dsimp only at h hlc hlt ⊢
  obtain ⟨hP, hD, hI, hS, hl, hL, hst, hM, hb0⟩ := id h
  have hxx : pm_r x := pm_ok_hd hst
  refine va_newa (atype := .int) (a0 := (x.toNat, .inl (fun _ => 0))) hx hb harr rfl hK hP hD hS hA (fun cA => rfl) (fun q => ?_) (pm_clamp hxx h3) ?_ hc1 ht1 hd (fun qa cA H1 hK1 hP1 hD1 hS1 => ?_)
  · rw [← pm_i32_0, pm_i32_lt hxx pm_r0] at q; omega
  · have : componentBytes .int ≤ 8 := by decide
    have h5 : x.toNat ≤ 1000 := by omega
    exact Nat.le_trans (Nat.mul_le_mul h5 this) (by decide)
  · have hcA : cA = AC 1 := by
      have z1 := (hK1.2 5 (cA, .int) rfl).2
      have z2 := (hK.2 0 (AC 1, .int) rfl).2
      exact Option.some.inj (z1.symm.trans z2)
    subst hcA
    have he : (.inl (AC 1, x.toNat, .inl (fun _ => 0)) : va_E) = pm_e AC (fun j => if j = me.1.1 then qa else ad j) (1000 + x.toNat) me.1.1 (fun _ => false) (fun _ => 0) := by
      rw [pm_e_i (by omega) (by omega), show 1000 + x.toNat - 1000 = x.toNat by omega]
      rfl
    obtain ⟨r1, r2⟩ := pm_grow (st := st) (κ := 1000 + x.toNat) ⟨hP, hD, hI, hS, hl, hL, pm_ok_tl hst, hM, hb0⟩ (Or.inr ⟨by omega, by omega⟩) hn he hP1 hD1 hS1
    have k2 := k hp hc1 ht1 _ H1 locs ls r1
    rw [List.map_cons] at k2
    dsimp only at k2
    rw [r2] at k2
    have e3 : pm_val (fun j => if j = me.1.1 then qa else ad j) (.inr (.inl (1000 + x.toNat, me.1.1))) = .ref qa := congrArg Value.ref (if_pos rfl)
    rw [e3] at k2
    exact k2
theorem pm_a_newarray_boolean (hx : p.tables.exec = Jvm.exec) (hb : c.code = cc) (harr : (Cond.arrayClass .boolean).before args s = true) (hK : va_K D pm_cl (pm_tys AC) s) (hA : ∀ q, s.heap.size ≤ q → A q) {x : Int} (h3 : 0 ≤ x) (h4 : x < 1000) (hc1 : c0 + 1 ≤ R.cells) (ht1 : t0 + x.toNat ≤ R.slots) (hn : me.1.1 < 9000) (hd : decode cc pc = .ok (.newarray .boolean, 2)) (k : pm_W p l e R s m args below meth c Q D AC A nL fl M0 bs pcs (pc + 2, L, .inr (.inl (2000 + x.toNat, me.1.1)) :: st, ((me.1.1 + 1, pm_kd me.1.2.1 me.1.1 (2000 + x.toNat), pm_nb me.1.2.2 me.1.1), pm_nm me.2 me.1.1), c0 + 1, t0 + x.toNat)) (hp : pc + 2 ∈ pcs) : pm_W p l e R s m args below meth c Q D AC A nL fl M0 bs pcs (pc, L, .inl x :: st, me, c0, t0) := by
  intro _ hlc hlt ad H locs ls h
  dsimp only at h hlc hlt ⊢
  obtain ⟨hP, hD, hI, hS, hl, hL, hst, hM, hb0⟩ := id h
  have hxx : pm_r x := pm_ok_hd hst
  refine va_newa (atype := .boolean) (a0 := (x.toNat, .inl (fun _ => 0))) hx hb harr rfl hK hP hD hS hA (fun cA => rfl) (fun q => ?_) (pm_clamp hxx h3) ?_ hc1 ht1 hd (fun qa cA H1 hK1 hP1 hD1 hS1 => ?_)
  · rw [← pm_i32_0, pm_i32_lt hxx pm_r0] at q; omega
  · have : componentBytes .boolean ≤ 8 := by decide
    have h5 : x.toNat ≤ 1000 := by omega
    exact Nat.le_trans (Nat.mul_le_mul h5 this) (by decide)
  · have hcA : cA = AC 2 := by
      have z1 := (hK1.2 5 (cA, .boolean) rfl).2
      have z2 := (hK.2 1 (AC 2, .boolean) rfl).2
      exact Option.some.inj (z1.symm.trans z2)
    subst hcA
    have he : (.inl (AC 2, x.toNat, .inl (fun _ => 0)) : va_E) = pm_e AC (fun j => if j = me.1.1 then qa else ad j) (2000 + x.toNat) me.1.1 (fun _ => false) (fun _ => 0) := by
      rw [pm_e_b (by omega) (by omega), show 2000 + x.toNat - 2000 = x.toNat by omega]
      rfl
    obtain ⟨r1, r2⟩ := pm_grow (st := st) (κ := 2000 + x.toNat) ⟨hP, hD, hI, hS, hl, hL, pm_ok_tl hst, hM, hb0⟩ (Or.inr ⟨by omega, by omega⟩) hn he hP1 hD1 hS1
    have k2 := k hp hc1 ht1 _ H1 locs ls r1
    rw [List.map_cons] at k2
    dsimp only at k2
    rw [r2] at k2
    have e3 : pm_val (fun j => if j = me.1.1 then qa else ad j) (.inr (.inl (2000 + x.toNat, me.1.1))) = .ref qa := congrArg Value.ref (if_pos rfl)
    rw [e3] at k2
    exact k2
theorem pm_a_newarray_long (hx : p.tables.exec = Jvm.exec) (hb : c.code = cc) (harr : (Cond.arrayClass .long).before args s = true) (hK : va_K D pm_cl (pm_tys AC) s) (hA : ∀ q, s.heap.size ≤ q → A q) {x : Int} (h3 : 0 ≤ x) (h4 : x < 1000) (hc1 : c0 + 1 ≤ R.cells) (ht1 : t0 + x.toNat ≤ R.slots) (hn : me.1.1 < 9000) (hd : decode cc pc = .ok (.newarray .long, 2)) (k : pm_W p l e R s m args below meth c Q D AC A nL fl M0 bs pcs (pc + 2, L, .inr (.inl (3000 + x.toNat, me.1.1)) :: st, ((me.1.1 + 1, pm_kd me.1.2.1 me.1.1 (3000 + x.toNat), pm_nb me.1.2.2 me.1.1), pm_nm me.2 me.1.1), c0 + 1, t0 + x.toNat)) (hp : pc + 2 ∈ pcs) : pm_W p l e R s m args below meth c Q D AC A nL fl M0 bs pcs (pc, L, .inl x :: st, me, c0, t0) := by
  intro _ hlc hlt ad H locs ls h
  dsimp only at h hlc hlt ⊢
  obtain ⟨hP, hD, hI, hS, hl, hL, hst, hM, hb0⟩ := id h
  have hxx : pm_r x := pm_ok_hd hst
  refine va_newa (atype := .long) (a0 := (x.toNat, .inr (.inl (fun _ => 0)))) hx hb harr rfl hK hP hD hS hA (fun cA => rfl) (fun q => ?_) (pm_clamp hxx h3) ?_ hc1 ht1 hd (fun qa cA H1 hK1 hP1 hD1 hS1 => ?_)
  · rw [← pm_i32_0, pm_i32_lt hxx pm_r0] at q; omega
  · have : componentBytes .long ≤ 8 := by decide
    have h5 : x.toNat ≤ 1000 := by omega
    exact Nat.le_trans (Nat.mul_le_mul h5 this) (by decide)
  · have hcA : cA = AC 3 := by
      have z1 := (hK1.2 5 (cA, .long) rfl).2
      have z2 := (hK.2 2 (AC 3, .long) rfl).2
      exact Option.some.inj (z1.symm.trans z2)
    subst hcA
    have he : (.inl (AC 3, x.toNat, .inr (.inl (fun _ => 0))) : va_E) = pm_e AC (fun j => if j = me.1.1 then qa else ad j) (3000 + x.toNat) me.1.1 (fun _ => false) (fun _ => 0) := by
      rw [pm_e_l (by omega) (by omega), show 3000 + x.toNat - 3000 = x.toNat by omega]
      rfl
    obtain ⟨r1, r2⟩ := pm_grow (st := st) (κ := 3000 + x.toNat) ⟨hP, hD, hI, hS, hl, hL, pm_ok_tl hst, hM, hb0⟩ (Or.inr ⟨by omega, by omega⟩) hn he hP1 hD1 hS1
    have k2 := k hp hc1 ht1 _ H1 locs ls r1
    rw [List.map_cons] at k2
    dsimp only at k2
    rw [r2] at k2
    have e3 : pm_val (fun j => if j = me.1.1 then qa else ad j) (.inr (.inl (3000 + x.toNat, me.1.1))) = .ref qa := congrArg Value.ref (if_pos rfl)
    rw [e3] at k2
    exact k2
theorem pm_a_newarray_double (hx : p.tables.exec = Jvm.exec) (hb : c.code = cc) (harr : (Cond.arrayClass .double).before args s = true) (hK : va_K D pm_cl (pm_tys AC) s) (hA : ∀ q, s.heap.size ≤ q → A q) {x : Int} (h3 : 0 ≤ x) (h4 : x < 1000) (hc1 : c0 + 1 ≤ R.cells) (ht1 : t0 + x.toNat ≤ R.slots) (hn : me.1.1 < 9000) (hd : decode cc pc = .ok (.newarray .double, 2)) (k : pm_W p l e R s m args below meth c Q D AC A nL fl M0 bs pcs (pc + 2, L, .inr (.inl (4000 + x.toNat, me.1.1)) :: st, ((me.1.1 + 1, pm_kd me.1.2.1 me.1.1 (4000 + x.toNat), pm_nb me.1.2.2 me.1.1), pm_nm me.2 me.1.1), c0 + 1, t0 + x.toNat)) (hp : pc + 2 ∈ pcs) : pm_W p l e R s m args below meth c Q D AC A nL fl M0 bs pcs (pc, L, .inl x :: st, me, c0, t0) := by
  intro _ hlc hlt ad H locs ls h
  dsimp only at h hlc hlt ⊢
  obtain ⟨hP, hD, hI, hS, hl, hL, hst, hM, hb0⟩ := id h
  have hxx : pm_r x := pm_ok_hd hst
  refine va_newa (atype := .double) (a0 := (x.toNat, .inr (.inr (.inr (.inl (fun _ => 0)))))) hx hb harr rfl hK hP hD hS hA (fun cA => rfl) (fun q => ?_) (pm_clamp hxx h3) ?_ hc1 ht1 hd (fun qa cA H1 hK1 hP1 hD1 hS1 => ?_)
  · rw [← pm_i32_0, pm_i32_lt hxx pm_r0] at q; omega
  · have : componentBytes .double ≤ 8 := by decide
    have h5 : x.toNat ≤ 1000 := by omega
    exact Nat.le_trans (Nat.mul_le_mul h5 this) (by decide)
  · have hcA : cA = AC 4 := by
      have z1 := (hK1.2 5 (cA, .double) rfl).2
      have z2 := (hK.2 3 (AC 4, .double) rfl).2
      exact Option.some.inj (z1.symm.trans z2)
    subst hcA
    have he : (.inl (AC 4, x.toNat, .inr (.inr (.inr (.inl (fun _ => 0))))) : va_E) = pm_e AC (fun j => if j = me.1.1 then qa else ad j) (4000 + x.toNat) me.1.1 (fun _ => false) (fun _ => 0) := by
      rw [pm_e_d (by omega) (by omega), show 4000 + x.toNat - 4000 = x.toNat by omega]
      rfl
    obtain ⟨r1, r2⟩ := pm_grow (st := st) (κ := 4000 + x.toNat) ⟨hP, hD, hI, hS, hl, hL, pm_ok_tl hst, hM, hb0⟩ (Or.inr ⟨by omega, by omega⟩) hn he hP1 hD1 hS1
    have k2 := k hp hc1 ht1 _ H1 locs ls r1
    rw [List.map_cons] at k2
    dsimp only at k2
    rw [r2] at k2
    have e3 : pm_val (fun j => if j = me.1.1 then qa else ad j) (.inr (.inl (4000 + x.toNat, me.1.1))) = .ref qa := congrArg Value.ref (if_pos rfl)
    rw [e3] at k2
    exact k2
theorem pm_a_anewarray (hx : p.tables.exec = Jvm.exec) (hb : c.code = cc) {own : String} {idx : Nat} (hown : s.vm.findClass own = some m.cls) (hcl : (Cond.classLink own idx "PatternLaboratory$Row").before args s = true) (hAO : va_AO "PatternLaboratory$Row" s) (hK : va_K D pm_cl (pm_tys AC) s) (hA : ∀ q, s.heap.size ≤ q → A q) {x : Int} (h3 : 0 ≤ x) (h4 : x < 1000) (hc1 : c0 + 1 ≤ R.cells) (ht1 : t0 + x.toNat ≤ R.slots) (hn : me.1.1 < 9000) (hd : decode cc pc = .ok (.anewarray idx, 3)) (k : pm_W p l e R s m args below meth c Q D AC A nL fl M0 bs pcs (pc + 3, L, .inr (.inl (5000 + x.toNat, me.1.1)) :: st, ((me.1.1 + 1, pm_kd me.1.2.1 me.1.1 (5000 + x.toNat), pm_nb me.1.2.2 me.1.1), pm_nm me.2 me.1.1), c0 + 1, t0 + x.toNat)) (hp : pc + 3 ∈ pcs) : pm_W p l e R s m args below meth c Q D AC A nL fl M0 bs pcs (pc, L, .inl x :: st, me, c0, t0) := by
  intro _ hlc hlt ad H locs ls h
  dsimp only at h hlc hlt ⊢
  obtain ⟨hP, hD, hI, hS, hl, hL, hst, hM, hb0⟩ := id h
  have hxx : pm_r x := pm_ok_hd hst
  refine va_newq hx hb hown hcl hAO hK hP hD hS hA (fun q => ?_) (pm_clamp hxx h3) (by omega) hc1 ht1 hd (fun qa cA H1 hK1 hP1 hD1 hS1 => ?_)
  · rw [← pm_i32_0, pm_i32_lt hxx pm_r0] at q; omega
  · have hcA : cA = AC 5 := by
      obtain ⟨_, _, _, _, _, z1⟩ := (hK1.2 5 (cA, .object "PatternLaboratory$Row") rfl).2
      obtain ⟨_, _, _, _, _, z2⟩ := (hK.2 4 (AC 5, .object "PatternLaboratory$Row") rfl).2
      exact Option.some.inj (z1.symm.trans z2)
    subst hcA
    have he : (.inl (AC 5, x.toNat, .inr (.inr (.inr (.inr (fun _ => none))))) : va_E) = pm_e AC (fun j => if j = me.1.1 then qa else ad j) (5000 + x.toNat) me.1.1 (fun _ => false) (fun _ => 0) := by
      rw [pm_e_a (by omega), show 5000 + x.toNat - 5000 = x.toNat by omega]
      have e9 : (fun _ => none : Nat → Option Nat) = pm_qv (fun j => if j = me.1.1 then qa else ad j) (5000 + x.toNat) me.1.1 (fun _ => false) := by
        funext j
        unfold pm_qv
        rw [if_neg (fun z => by cases z.2)]
      rw [e9]
    obtain ⟨r1, r2⟩ := pm_grow (st := st) (κ := 5000 + x.toNat) ⟨hP, hD, hI, hS, hl, hL, pm_ok_tl hst, hM, hb0⟩ (Or.inr ⟨by omega, by omega⟩) hn he hP1 hD1 hS1
    have k2 := k hp hc1 ht1 _ H1 locs ls r1
    rw [List.map_cons] at k2
    dsimp only at k2
    rw [r2] at k2
    have e3 : pm_val (fun j => if j = me.1.1 then qa else ad j) (.inr (.inl (5000 + x.toNat, me.1.1))) = .ref qa := congrArg Value.ref (if_pos rfl)
    rw [e3] at k2
    exact k2
/-- the law's script -/
def pm_scr (s : State) (A : Nat → Prop) (M0 : Nat → Nat → Int) (b0 : Nat) : Prop := ∃ (Ln : Nat) (xs : Nat → Int32), va_X b0 Ln xs s s.heap ∧ b0 < s.heap.size ∧ ¬ A b0 ∧ M0 9998 0 = (Ln : Int) ∧ (Ln : Int) ≤ 2147483647 ∧ ∀ j, j < Ln → M0 9999 j = (xs j).toInt
theorem pm_a_sload (hx : p.tables.exec = Jvm.exec) (hb : c.code = cc) (hscr : pm_scr s A M0 (bs.2.2 9999)) {q : Nat} {x : Int} (h3 : 0 ≤ x) (h4 : x < me.2 9998 0) (hq9 : q = 9999) (hd : decode cc pc = .ok (.iaload, 1)) (k : pm_W p l e R s m args below meth c Q D AC A nL fl M0 bs pcs (pc + 1, L, .inl (me.2 9999 x.toNat) :: st, me, c0, t0)) (hp : pc + 1 ∈ pcs) : pm_W p l e R s m args below meth c Q D AC A nL fl M0 bs pcs (pc, L, .inl x :: .inr (.inl (999, q)) :: st, me, c0, t0) := by
  intro _ hlc hlt ad H locs ls h
  dsimp only at h hlc hlt ⊢
  obtain ⟨hP, hD, hI, hS, hl, hL, hst, hM, hb0⟩ := id h
  obtain ⟨Ln, xs, s1, s2, s3, s4, -, s5⟩ := hscr
  have hxx : pm_r x := pm_ok_hd hst
  rw [hM 9998 (by decide), s4] at h4
  subst hq9
  have e0 : pm_val ad (.inr (.inl (999, 9999))) = .ref (bs.2.2 9999) := congrArg Value.ref hb0.2.2
  show W p l e R s m args below meth c H locs c0 t0 Q (F0 m pc ls (pm_val ad (.inl x) :: pm_val ad (.inr (.inl (999, 9999))) :: st.map (pm_val ad)))
  rw [e0]
  refine va_sld hx hb s1 s2 s3 hS (pm_vin hxx h3 h4) hd ?_
  rw [pm_clamp hxx h3]
  have e1 : me.2 9999 x.toNat = (xs x.toNat).toInt := by rw [hM 9999 (by decide)]; exact s5 _ (by omega)
  have k2 := k hp hlc hlt ad H locs ls ⟨hP, hD, hI, hS, hl, hL, pm_ok_cons (v := .inl (me.2 9999 x.toNat)) (by rw [e1]; exact pm_r_of _) (pm_ok_tl (pm_ok_tl hst)), hM, hb0⟩
  have e2 : pm_val ad (.inl (me.2 9999 x.toNat)) = .int (xs x.toNat) := by rw [e1]; exact congrArg Value.int (pm_i32_of _)
  rw [List.map_cons] at k2
  rw [e2] at k2
  exact k2
theorem pm_a_slen (hx : p.tables.exec = Jvm.exec) (hb : c.code = cc) (hscr : pm_scr s A M0 (bs.2.2 9999)) {q : Nat} (hq9 : q = 9999) (hd : decode cc pc = .ok (.arraylength, 1)) (k : pm_W p l e R s m args below meth c Q D AC A nL fl M0 bs pcs (pc + 1, L, .inl (me.2 9998 0) :: st, me, c0, t0)) (hp : pc + 1 ∈ pcs) : pm_W p l e R s m args below meth c Q D AC A nL fl M0 bs pcs (pc, L, .inr (.inl (999, q)) :: st, me, c0, t0) := by
  intro _ hlc hlt ad H locs ls h
  dsimp only at h hlc hlt ⊢
  obtain ⟨hP, hD, hI, hS, hl, hL, hst, hM, hb0⟩ := id h
  obtain ⟨Ln, xs, s1, s2, s3, s4, s6, s5⟩ := hscr
  subst hq9
  have e0 : pm_val ad (.inr (.inl (999, 9999))) = .ref (bs.2.2 9999) := congrArg Value.ref hb0.2.2
  show W p l e R s m args below meth c H locs c0 t0 Q (F0 m pc ls (pm_val ad (.inr (.inl (999, 9999))) :: st.map (pm_val ad)))
  rw [e0]
  refine va_slen hx hb s1 s2 s3 hS hd ?_
  have e1 : me.2 9998 0 = (Ln : Int) := by rw [hM 9998 (by decide)]; exact s4
  have k2 := k hp hlc hlt ad H locs ls ⟨hP, hD, hI, hS, hl, hL, pm_ok_cons (v := .inl (me.2 9998 0)) (by rw [e1]; exact ⟨by omega, s6⟩) (pm_ok_tl hst), hM, hb0⟩
  have e2 : pm_val ad (.inl (me.2 9998 0)) = .int (Int32.ofNat Ln) := by rw [e1]; exact congrArg Value.int (Int32.ofInt_eq_ofNat)
  rw [List.map_cons] at k2
  rw [e2] at k2
  exact k2
theorem pm_a_max (hx : p.tables.exec = Jvm.exec) (hb : c.code = cc) (hml : c.maxLocals = nL) {own : String} {idx : Nat} {x y : Int} (hown : s.vm.findClass own = some m.cls) (hlink : (Cond.methodLink own idx Lib.Math.max.name).before args s = true) (hstat : (Cond.static Lib.Math.max.name).before args s = true) (hini : (Cond.initialized "java/lang/Math").before args s = true) (hcode : (Cond.code Lib.Math.max.name Lib.Math.max.code 2 (some .int)).before args s = true) (hf : 1 ≤ R.frames) (hlo : (st.map fun v => (pm_val (fun _ => 0) v).category).sum + 13 ≤ R.locals) (hd : decode cc pc = .ok (.invokestatic idx, 3)) (k : pm_W p l e R s m args below meth c Q D AC A nL fl M0 bs pcs (pc + 3, L, .inl (max x y) :: st, me, c0, t0)) (hp : pc + 3 ∈ pcs) : pm_W p l e R s m args below meth c Q D AC A nL fl M0 bs pcs (pc, L, .inl y :: .inl x :: st, me, c0, t0) := by
  intro _ hlc hlt ad H locs ls h
  dsimp only at h hlc hlt ⊢
  obtain ⟨hP, hD, hI, hS, hl, hL, hst, hM, hb0⟩ := id h
  have hy : pm_r y := pm_ok_hd hst
  have hxx : pm_r x := pm_ok_hd (pm_ok_tl hst)
  refine va_mmax hx hb (hml.trans hl.1.symm) hown hlink hstat hini hcode hf (by rw [pm_cats (ad' := fun _ => 0)]; exact hlo) hlc hlt hd ?_
  have hm : pm_r (max x y) := by
    rcases Int.le_total x y with z | z
    · rw [Int.max_eq_right z]; exact hy
    · rw [Int.max_eq_left z]; exact hxx
  have k2 := k hp hlc hlt ad H locs ls ⟨hP, hD, hI, hS, hl, hL, pm_ok_cons (v := .inl (max x y)) hm (pm_ok_tl (pm_ok_tl hst)), hM, hb0⟩
  have e2 : pm_val ad (.inl (max x y)) = .int (if Int32.ofInt x < Int32.ofInt y then Int32.ofInt y else Int32.ofInt x) := by
    refine congrArg Value.int ?_
    by_cases z : x < y
    · rw [if_pos ((pm_i32_lt hxx hy).mpr z), Int.max_eq_right (by omega)]
    · rw [if_neg (fun w => z ((pm_i32_lt hxx hy).mp w)), Int.max_eq_left (by omega)]
  rw [List.map_cons] at k2
  rw [e2] at k2
  exact k2
theorem pm_a_copy (hx : p.tables.exec = Jvm.exec) (hb : c.code = cc) (hK : va_K D pm_cl (pm_tys AC) s) (hml : c.maxLocals = nL) {own : String} {idx : Nat} {x y n : Int} {κ q k1 q1 : Nat} (hown : s.vm.findClass own = some m.cls) (hlink : (Cond.methodLink own idx arraycopyName).before args s = true) (hnat : (Cond.native arraycopyName).before args s = true) (hstat : (Cond.static arraycopyName).before args s = true) (hini : (Cond.initialized "java/lang/System").before args s = true) (h1 : 1000 ≤ κ) (h2 : κ ≤ 1999) (h11 : 1000 ≤ k1) (h12 : k1 ≤ 1999) (n0 : 0 ≤ n) (x0 : 0 ≤ x) (y0 : 0 ≤ y) (hxn : x + n ≤ ((κ - 1000 : Nat) : Int)) (hyn : y + n ≤ ((k1 - 1000 : Nat) : Int)) (hne : q ≠ q1) (hf : 1 ≤ R.frames) (hlo : (st.map fun v => (pm_val (fun _ => 0) v).category).sum + (nativeFrameWords "java/lang/System" "arraycopy" 5 + 11) ≤ R.locals) (hd : decode cc pc = .ok (.invokestatic idx, 3)) (k : pm_W p l e R s m args below meth c Q D AC A nL fl M0 bs pcs (pc + 3, L, st, (me.1, pm_cp me.2 q x.toNat q1 y.toNat n.toNat), c0, t0)) (hp : pc + 3 ∈ pcs) : pm_W p l e R s m args below meth c Q D AC A nL fl M0 bs pcs (pc, L, .inl n :: .inl y :: .inr (.inl (k1, q1)) :: .inl x :: .inr (.inl (κ, q)) :: st, me, c0, t0) := by
  intro _ hlc hlt ad H locs ls h
  dsimp only at h hlc hlt ⊢
  obtain ⟨hP, hD, hI, hS, hl, hL, hst, hM, hb0⟩ := id h
  have hn : pm_r n := pm_ok_hd hst
  have hy : pm_r y := pm_ok_hd (pm_ok_tl hst)
  have hxx : pm_r x := pm_ok_hd (pm_ok_tl (pm_ok_tl (pm_ok_tl hst)))
  obtain ⟨hq1, hkd1⟩ : q1 < me.1.1 ∧ me.1.2.1 q1 = k1 := by
    rcases pm_ok_hd (pm_ok_tl (pm_ok_tl hst)) with z | ⟨-, z, -⟩
    · exact z
    · omega
  obtain ⟨hq, hkd⟩ : q < me.1.1 ∧ me.1.2.1 q = κ := by
    rcases pm_ok_hd (pm_ok_tl (pm_ok_tl (pm_ok_tl (pm_ok_tl hst)))) with z | ⟨-, z, -⟩
    · exact z
    · omega
  have hneg : ∀ z : Int, pm_r z → 0 ≤ z → ¬ Int32.ofInt z < 0 := fun z hz h0 w => by rw [← pm_i32_0, pm_i32_lt hz pm_r0] at w; omega
  refine va_copyi (ty := .int) hx hb (hml.trans hl.1.symm) hown hlink hnat hstat hini hK hP hD hS q q1 0 0 (by rw [pm_ws_get hq, hkd, pm_e_i h1 h2]) (by rw [pm_ws_get hq1, hkd1, pm_e_i h11 h12]) rfl rfl rfl (hneg x hxx x0) (hneg y hy y0) (hneg n hn n0) (by rw [pm_clamp hxx x0, pm_clamp hn n0]; omega) (by rw [pm_clamp hy y0, pm_clamp hn n0]; omega) (fun _ _ => rfl) hf (by rw [pm_cats (ad' := fun _ => 0)]; exact hlo) hd (fun H1 locs1 hP1 hD1 hS1 => ?_)
  rw [pm_clamp hxx x0, pm_clamp hy y0, pm_clamp hn n0] at hP1 hD1
  have hset : (pm_ws AC ad me).set q1 (ad q1, .inl (AC 1, k1 - 1000, .inl (va_cpy (fun j => Int32.ofInt (me.2 q j)) (fun j => Int32.ofInt (me.2 q1 j)) x.toNat y.toNat n.toNat))) = pm_ws AC ad (me.1, pm_cp me.2 q x.toNat q1 y.toNat n.toNat) := by
    refine pm_ws_set (m' := (me.1, pm_cp me.2 q x.toNat q1 y.toNat n.toNat)) hq1 rfl ?_ (fun k9 _ hk9 => ⟨rfl, rfl, by funext z; exact if_neg (fun w => hk9 w.1)⟩)
    show _ = pm_e AC ad (me.1.2.1 q1) q1 (me.1.2.2 q1) (pm_cp me.2 q x.toNat q1 y.toNat n.toNat q1)
    rw [hkd1, pm_e_i h11 h12]
    congr 4
    funext j
    unfold va_cpy pm_cp
    by_cases hj : y.toNat ≤ j ∧ j < y.toNat + n.toNat
    · rw [if_pos hj, if_pos ⟨rfl, hj.1, hj.2⟩]
    · rw [if_neg hj, if_neg (fun z => hj z.2)]
  have hP1 := Eq.mp (congrArg (fun w => va_P D pm_cl w H1) hset) hP1
  have hD1 := Eq.mp (congrArg (fun w => va_D A w) hset) hD1
  refine k hp hlc hlt ad H1 locs1 ls ⟨hP1, hD1, ⟨hI.1, fun k9 hk9 => ?_⟩, hS1, hl, hL, pm_ok_tl (pm_ok_tl (pm_ok_tl (pm_ok_tl (pm_ok_tl hst)))), fun a ha => ?_, hb0⟩
  · obtain ⟨i1, i2, i3, i4, i5⟩ := hI.2 k9 hk9
    refine ⟨i1, fun z j => ?_, fun z z2 j => ?_, i4, i5⟩
    · show pm_r (if _ then _ else _)
      split
      · exact (hI.2 q hq).2.1 (by omega) _
      · exact i2 z j
    · have z : 3000 ≤ me.1.2.1 k9 := z
      have e9 : pm_cp me.2 q x.toNat q1 y.toNat n.toNat k9 j = me.2 k9 j := if_neg (fun w => by rw [w.1, hkd1] at z; omega)
      show _ ≤ pm_cp me.2 q x.toNat q1 y.toNat n.toNat k9 j ∧ pm_cp me.2 q x.toNat q1 y.toNat n.toNat k9 j ≤ _
      rw [e9]; exact i3 z z2 j
  · rw [← hM a ha]
    funext b
    exact if_neg (fun w => by have := hI.1; omega)
theorem pm_a_obj (hx : p.tables.exec = Jvm.exec) (hb : c.code = cc) (hml : c.maxLocals = nL) {own : String} {idx κ q : Nat} (hown : s.vm.findClass own = some m.cls) (hlink : (Cond.methodLink own idx Lib.objectInit).before args s = true) (hinst : (Cond.instanceMethod Lib.objectInit).before args s = true) (hcode : (Cond.code Lib.objectInit ⟨#[0xb1]⟩ 1 none).before args s = true) (hf : 1 ≤ R.frames) (hlo : (st.map fun v => (pm_val (fun _ => 0) v).category).sum + 12 ≤ R.locals) (hd : decode cc pc = .ok (.invokespecial idx, 3)) (k : pm_W p l e R s m args below meth c Q D AC A nL fl M0 bs pcs (pc + 3, L, st, me, c0, t0)) (hp : pc + 3 ∈ pcs) : pm_W p l e R s m args below meth c Q D AC A nL fl M0 bs pcs (pc, L, .inr (.inl (κ, q)) :: st, me, c0, t0) := by
  intro _ hlc hlt ad H locs ls h
  dsimp only at h hlc hlt ⊢
  obtain ⟨hP, hD, hI, hS, hl, hL, hst, hM, hb0⟩ := id h
  exact W.objInit (rest := st.map (pm_val ad)) hx hb hown hlink hinst hcode rfl (by rw [hml]; exact hl.1) rfl hd hf (by show 2 * 0 + _ + 12 ≤ _; rw [pm_cats (ad' := fun _ => 0)]; omega) (k hp hlc hlt ad H locs ls ⟨hP, hD, hI, hS, hl, hL, pm_ok_tl hst, hM, hb0⟩)
end NWS
end

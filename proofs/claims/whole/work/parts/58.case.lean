/-! THE LAW, CALL BY CALL (laid by wip/whole/gen_law.py) -/
theorem lw_lc {a b : Int} (h : a = b) : pm_lcmp a b = 0 := by
  unfold pm_lcmp
  rw [h, if_neg (Int.lt_irrefl _), if_pos rfl]
theorem fp_arg (x : Int) : fpB (-21) (FP.dmul (FP.i2d (Int32.ofInt x)) (UInt64.ofNat 4593671619917905920)) := fp_dmul (fp_i2d _) fp_eighth (by decide) (by decide) (by decide)
/-- the state behind a call, on both sides -/
def lwN (i : Int) (n : Nat) (kd : Nat → Nat) (c t : Nat) (M : Nat → Nat → Int) : Prop := ∀ M' s', Lab M' s' → Ref M' s' → wfs s' → (∀ a, 124 ≤ a → M' a = M a) → lwW (2563, [some (.inr (.inl (999, 9999))), some (.inr (.inl (8, 0))), some (.inr (.inl (9, 97))), some (.inr (.inl (3001, 122))), some (.inr (.inl (4001, 123))), some (.inl i), none, none, none], [], pm_m n kd M', c + 10, t + 60)
theorem lw_next {i : Int} {n : Nat} {kd : Nat → Nat} {c t c' t' : Nat} {M M1 M2 : Nat → Nat → Int} {s' : stt} {L : List (Option pm_V)} (hN : lwN i n kd c t M) (hL1 : Lab M1 s') (ho2 : pm_fr 97 122 M1 M2) (hR2 : Ref M2 s') (hW : wfs s') (ho : ∀ a, 124 ≤ a → M2 a = M a) (hc : c + 10 ≤ 603072) (ht : t + 60 ≤ 7174250) (hfg : pm_fg L [some (.inr (.inl (999, 9999))), some (.inr (.inl (8, 0))), some (.inr (.inl (9, 97))), some (.inr (.inl (3001, 122))), some (.inr (.inl (4001, 123))), some (.inl i), none, none, none]) (h1 : c' ≤ c + 10) (h2 : t' ≤ t + 60) : lwW (2563, L, [], pm_m n kd M2, c', t') :=
  pm_wp_fg _ _ _ hfg h1 h2 hc ht (hN M2 s' (hL1.fr ho2 (by decide)) hR2 hW ho)
section LCS
variable {s : stt} {n : Nat} {kd : Nat → Nat} {M : Nat → Nat → Int} {i : Int} {c t : Nat}
theorem lc_0 (hi : 0 ≤ i ∧ i + 2 < M 9998 0 ∧ M 9998 0 ≤ 1536) (hv : ∀ j, pm_r (M 9999 j)) (hL : Lab M s) (hR : Ref M s) (hW : wfs s) (hc : c + 10 ≤ 603072) (ht : t + 60 ≤ 7174250) (hN : lwN i n kd c t M) : lwW (248, [some (.inr (.inl (999, 9999))), some (.inr (.inl (8, 0))), some (.inr (.inl (9, 97))), some (.inr (.inl (3001, 122))), some (.inr (.inl (4001, 123))), some (.inl i), none, none, none], [], pm_m n kd M, c, t) := by
  refine ls_248 (by omega) (by omega) (⟨⟨by omega, by omega⟩, ⟨by omega, by omega⟩, ?_⟩)
  refine wr_203 (by decide) hL hW (fun k M1 hL1 g1 hk => ?_)
  have e98 : M1 9998 = M 9998 := g1 9998 (by decide) (by decide)
  have e99 : M1 9999 = M 9999 := g1 9999 (by decide) (by decide)
  refine ls_259 (by omega) (by omega) ?_
  rw [e98, e99]
  refine ⟨⟨by omega, by omega⟩, ⟨by omega, by omega⟩, ra_129 (by decide) (hR.cg (fun a h h2 => g1 a h (by omega))) hW (RO.el (fun b M2 hR2 ho2 hb => ?_))⟩
  refine ls_271 (by omega) (by omega) (sp_123 (by decide) ?_)
  obtain ⟨k1, k2⟩ := WK.tail hk hb (ho2 122 (by decide))
  exact ls_277 ⟨fun _ => ⟨fun _ => lw_next hN hL1 ho2 hR2 (wf_appendVariable hW) (fun a h => (ho2 a (Or.inr (by omega))).trans (g1 a (by omega) (by omega))) hc ht ⟨Or.inl rfl, Or.inl rfl, Or.inl rfl, Or.inl rfl, Or.inl rfl, Or.inl rfl, Or.inr rfl, Or.inr rfl, Or.inr rfl, trivial⟩ (by omega) (by omega), fun w2 => ⟨fun _ => lw_next hN hL1 ho2 hR2 (wf_appendVariable hW) (fun a h => (ho2 a (Or.inr (by omega))).trans (g1 a (by omega) (by omega))) hc ht ⟨Or.inl rfl, Or.inl rfl, Or.inl rfl, Or.inl rfl, Or.inl rfl, Or.inl rfl, Or.inr rfl, Or.inr rfl, Or.inr rfl, trivial⟩ (by omega) (by omega), fun w3 => absurd (lw_lc (k2 (Classical.not_not.mp w2))) w3⟩⟩, fun w => absurd k1 w⟩
theorem lc_1 (hi : 0 ≤ i ∧ i + 2 < M 9998 0 ∧ M 9998 0 ≤ 1536) (hv : ∀ j, pm_r (M 9999 j)) (hL : Lab M s) (hR : Ref M s) (hW : wfs s) (hc : c + 10 ≤ 603072) (ht : t + 60 ≤ 7174250) (hN : lwN i n kd c t M) : lwW (304, [some (.inr (.inl (999, 9999))), some (.inr (.inl (8, 0))), some (.inr (.inl (9, 97))), some (.inr (.inl (3001, 122))), some (.inr (.inl (4001, 123))), some (.inl i), none, none, none], [], pm_m n kd M, c, t) := by
  refine ls_304 (by omega) (by omega) (la_58 (by decide) hL (fun M1 hL1 ho1 => ?_))
  have g1 : ∀ a, 97 ≤ a → M1 a = M a := fun a h => ho1 a (Or.inr h)
  refine ls_308 (by omega) (by omega) (ra_130 (by decide) (hR.cg (fun a h _ => g1 a h)) (fun M2 hR2 ho2 h0 => ?_))
  refine ls_312 ⟨fun _ => ?_, fun w => absurd rfl w⟩
  exact lw_next hN hL1 ho2 hR2 (wf_clearPattern hW) (fun a h => (ho2 a (Or.inr (by omega))).trans (g1 a (by omega))) hc ht ⟨Or.inl rfl, Or.inl rfl, Or.inl rfl, Or.inl rfl, Or.inl rfl, Or.inl rfl, Or.inr rfl, Or.inr rfl, Or.inr rfl, trivial⟩ (by omega) (by omega)
theorem lc_2 (hi : 0 ≤ i ∧ i + 2 < M 9998 0 ∧ M 9998 0 ≤ 1536) (hv : ∀ j, pm_r (M 9999 j)) (hL : Lab M s) (hR : Ref M s) (hW : wfs s) (hc : c + 10 ≤ 603072) (ht : t + 60 ≤ 7174250) (hN : lwN i n kd c t M) : lwW (317, [some (.inr (.inl (999, 9999))), some (.inr (.inl (8, 0))), some (.inr (.inl (9, 97))), some (.inr (.inl (3001, 122))), some (.inr (.inl (4001, 123))), some (.inl i), none, none, none], [], pm_m n kd M, c, t) := by
  refine ls_317 (by omega) (by omega) (la_59 (by decide) hL (fun M1 hL1 ho1 => ?_))
  have g1 : ∀ a, 97 ≤ a → M1 a = M a := fun a h => ho1 a (Or.inr h)
  refine ls_321 (by omega) (by omega) (ra_131 (by decide) (hR.cg (fun a h _ => g1 a h)) (fun M2 hR2 ho2 h0 => ?_))
  refine ls_325 ⟨fun _ => ?_, fun w => absurd rfl w⟩
  exact lw_next hN hL1 ho2 hR2 (wf_patternLength hW) (fun a h => (ho2 a (Or.inr (by omega))).trans (g1 a (by omega))) hc ht ⟨Or.inl rfl, Or.inl rfl, Or.inl rfl, Or.inl rfl, Or.inl rfl, Or.inl rfl, Or.inr rfl, Or.inr rfl, Or.inr rfl, trivial⟩ (by omega) (by omega)
theorem lc_3 (hi : 0 ≤ i ∧ i + 2 < M 9998 0 ∧ M 9998 0 ≤ 1536) (hv : ∀ j, pm_r (M 9999 j)) (hL : Lab M s) (hR : Ref M s) (hW : wfs s) (hc : c + 10 ≤ 603072) (ht : t + 60 ≤ 7174250) (hN : lwN i n kd c t M) : lwW (330, [some (.inr (.inl (999, 9999))), some (.inr (.inl (8, 0))), some (.inr (.inl (9, 97))), some (.inr (.inl (3001, 122))), some (.inr (.inl (4001, 123))), some (.inl i), none, none, none], [], pm_m n kd M, c, t) := by
  refine ls_330 (by omega) (by omega) (⟨⟨by omega, by omega⟩, ⟨by omega, by omega⟩, ?_⟩)
  refine wr_204 (by decide) hL hW (fun k M1 hL1 g1 hk => ?_)
  have e98 : M1 9998 = M 9998 := g1 9998 (by decide) (by decide)
  have e99 : M1 9999 = M 9999 := g1 9999 (by decide) (by decide)
  refine ls_341 (by omega) (by omega) ?_
  rw [e98, e99]
  refine ⟨⟨by omega, by omega⟩, ⟨by omega, by omega⟩, ra_132 (by decide) (hR.cg (fun a h h2 => g1 a h (by omega))) hW (RO.el (fun b M2 hR2 ho2 hb => ?_))⟩
  refine ls_353 (by omega) (by omega) (sp_123 (by decide) ?_)
  obtain ⟨k1, k2⟩ := WK.tail hk hb (ho2 122 (by decide))
  exact ls_359 ⟨fun _ => ⟨fun _ => lw_next hN hL1 ho2 hR2 (wf_patternVariable hW) (fun a h => (ho2 a (Or.inr (by omega))).trans (g1 a (by omega) (by omega))) hc ht ⟨Or.inl rfl, Or.inl rfl, Or.inl rfl, Or.inl rfl, Or.inl rfl, Or.inl rfl, Or.inr rfl, Or.inr rfl, Or.inr rfl, trivial⟩ (by omega) (by omega), fun w2 => ⟨fun _ => lw_next hN hL1 ho2 hR2 (wf_patternVariable hW) (fun a h => (ho2 a (Or.inr (by omega))).trans (g1 a (by omega) (by omega))) hc ht ⟨Or.inl rfl, Or.inl rfl, Or.inl rfl, Or.inl rfl, Or.inl rfl, Or.inl rfl, Or.inr rfl, Or.inr rfl, Or.inr rfl, trivial⟩ (by omega) (by omega), fun w3 => absurd (lw_lc (k2 (Classical.not_not.mp w2))) w3⟩⟩, fun w => absurd k1 w⟩
theorem lc_4 (hi : 0 ≤ i ∧ i + 2 < M 9998 0 ∧ M 9998 0 ≤ 1536) (hv : ∀ j, pm_r (M 9999 j)) (hL : Lab M s) (hR : Ref M s) (hW : wfs s) (hc : c + 10 ≤ 603072) (ht : t + 60 ≤ 7174250) (hN : lwN i n kd c t M) : lwW (386, [some (.inr (.inl (999, 9999))), some (.inr (.inl (8, 0))), some (.inr (.inl (9, 97))), some (.inr (.inl (3001, 122))), some (.inr (.inl (4001, 123))), some (.inl i), none, none, none], [], pm_m n kd M, c, t) := by
  refine ls_386 (by omega) (by omega) (la_61 (by decide) hL hW (fun M1 hL1 ho1 => ?_))
  have g1 : ∀ a, 97 ≤ a → M1 a = M a := fun a h => ho1 a (Or.inr h)
  refine ls_390 (by omega) (by omega) (ra_134 (by decide) (hR.cg (fun a h _ => g1 a h)) hW (fun M2 hR2 ho2 h0 => ?_))
  refine ls_394 ⟨fun _ => ?_, fun w => absurd rfl w⟩
  exact lw_next hN hL1 ho2 hR2 (wf_variables hW) (fun a h => (ho2 a (Or.inr (by omega))).trans (g1 a (by omega))) hc ht ⟨Or.inl rfl, Or.inl rfl, Or.inl rfl, Or.inl rfl, Or.inl rfl, Or.inl rfl, Or.inr rfl, Or.inr rfl, Or.inr rfl, trivial⟩ (by omega) (by omega)
theorem lc_5 (hi : 0 ≤ i ∧ i + 2 < M 9998 0 ∧ M 9998 0 ≤ 1536) (hv : ∀ j, pm_r (M 9999 j)) (hL : Lab M s) (hR : Ref M s) (hW : wfs s) (hc : c + 10 ≤ 603072) (ht : t + 60 ≤ 7174250) (hN : lwN i n kd c t M) : lwW (399, [some (.inr (.inl (999, 9999))), some (.inr (.inl (8, 0))), some (.inr (.inl (9, 97))), some (.inr (.inl (3001, 122))), some (.inr (.inl (4001, 123))), some (.inl i), none, none, none], [], pm_m n kd M, c, t) := by
  refine ls_399 (by omega) (by omega) (⟨⟨by omega, by omega⟩, ⟨by omega, by omega⟩, ?_⟩)
  refine wr_205 (by decide) hL hW (fun k M1 hL1 g1 hk => ?_)
  have e98 : M1 9998 = M 9998 := g1 9998 (by decide) (by decide)
  have e99 : M1 9999 = M 9999 := g1 9999 (by decide) (by decide)
  refine ls_410 (by omega) (by omega) ?_
  rw [e98, e99]
  refine ⟨⟨by omega, by omega⟩, ⟨by omega, by omega⟩, ra_136 (by decide) (hR.cg (fun a h h2 => g1 a h (by omega))) (RO.el (fun b M2 hR2 ho2 hb => ?_))⟩
  refine ls_422 (by omega) (by omega) (sp_123 (by decide) ?_)
  obtain ⟨k1, k2⟩ := WK.tail hk hb (ho2 122 (by decide))
  exact ls_428 ⟨fun _ => ⟨fun _ => lw_next hN hL1 ho2 hR2 (wf_loadZimin hW) (fun a h => (ho2 a (Or.inr (by omega))).trans (g1 a (by omega) (by omega))) hc ht ⟨Or.inl rfl, Or.inl rfl, Or.inl rfl, Or.inl rfl, Or.inl rfl, Or.inl rfl, Or.inr rfl, Or.inr rfl, Or.inr rfl, trivial⟩ (by omega) (by omega), fun w2 => ⟨fun _ => lw_next hN hL1 ho2 hR2 (wf_loadZimin hW) (fun a h => (ho2 a (Or.inr (by omega))).trans (g1 a (by omega) (by omega))) hc ht ⟨Or.inl rfl, Or.inl rfl, Or.inl rfl, Or.inl rfl, Or.inl rfl, Or.inl rfl, Or.inr rfl, Or.inr rfl, Or.inr rfl, trivial⟩ (by omega) (by omega), fun w3 => absurd (lw_lc (k2 (Classical.not_not.mp w2))) w3⟩⟩, fun w => absurd k1 w⟩
theorem lc_6 (hi : 0 ≤ i ∧ i + 2 < M 9998 0 ∧ M 9998 0 ≤ 1536) (hv : ∀ j, pm_r (M 9999 j)) (hL : Lab M s) (hR : Ref M s) (hW : wfs s) (hc : c + 10 ≤ 603072) (ht : t + 60 ≤ 7174250) (hN : lwN i n kd c t M) : lwW (455, [some (.inr (.inl (999, 9999))), some (.inr (.inl (8, 0))), some (.inr (.inl (9, 97))), some (.inr (.inl (3001, 122))), some (.inr (.inl (4001, 123))), some (.inl i), none, none, none], [], pm_m n kd M, c, t) := by
  refine ls_455 (by omega) (by omega) (la_63 (by decide) hL (fun M1 hL1 ho1 => ?_))
  have g1 : ∀ a, 97 ≤ a → M1 a = M a := fun a h => ho1 a (Or.inr h)
  refine ls_459 (by omega) (by omega) (ra_138 (by decide) (hR.cg (fun a h _ => g1 a h)) hW (fun M2 hR2 ho2 h0 => ?_))
  refine ls_463 ⟨fun _ => ?_, fun w => absurd rfl w⟩
  exact lw_next hN hL1 ho2 hR2 (wf_canonicalize hW) (fun a h => (ho2 a (Or.inr (by omega))).trans (g1 a (by omega))) hc ht ⟨Or.inl rfl, Or.inl rfl, Or.inl rfl, Or.inl rfl, Or.inl rfl, Or.inl rfl, Or.inr rfl, Or.inr rfl, Or.inr rfl, trivial⟩ (by omega) (by omega)
theorem lc_7 (hi : 0 ≤ i ∧ i + 2 < M 9998 0 ∧ M 9998 0 ≤ 1536) (hv : ∀ j, pm_r (M 9999 j)) (hL : Lab M s) (hR : Ref M s) (hW : wfs s) (hc : c + 10 ≤ 603072) (ht : t + 60 ≤ 7174250) (hN : lwN i n kd c t M) : lwW (468, [some (.inr (.inl (999, 9999))), some (.inr (.inl (8, 0))), some (.inr (.inl (9, 97))), some (.inr (.inl (3001, 122))), some (.inr (.inl (4001, 123))), some (.inl i), none, none, none], [], pm_m n kd M, c, t) := by
  refine ls_468 (by omega) (by omega) (la_64 (by decide) hL (fun M1 hL1 ho1 => ?_))
  have g1 : ∀ a, 97 ≤ a → M1 a = M a := fun a h => ho1 a (Or.inr h)
  refine ls_472 (by omega) (by omega) (ra_139 (by decide) (hR.cg (fun a h _ => g1 a h)) hW (fun M2 hR2 ho2 h0 => ?_))
  refine ls_476 ⟨fun _ => ?_, fun w => absurd rfl w⟩
  exact lw_next hN hL1 ho2 hR2 (wf_reversePattern hW) (fun a h => (ho2 a (Or.inr (by omega))).trans (g1 a (by omega))) hc ht ⟨Or.inl rfl, Or.inl rfl, Or.inl rfl, Or.inl rfl, Or.inl rfl, Or.inl rfl, Or.inr rfl, Or.inr rfl, Or.inr rfl, trivial⟩ (by omega) (by omega)
theorem lc_8 (hi : 0 ≤ i ∧ i + 2 < M 9998 0 ∧ M 9998 0 ≤ 1536) (hv : ∀ j, pm_r (M 9999 j)) (hL : Lab M s) (hR : Ref M s) (hW : wfs s) (hc : c + 10 ≤ 603072) (ht : t + 60 ≤ 7174250) (hN : lwN i n kd c t M) : lwW (481, [some (.inr (.inl (999, 9999))), some (.inr (.inl (8, 0))), some (.inr (.inl (9, 97))), some (.inr (.inl (3001, 122))), some (.inr (.inl (4001, 123))), some (.inl i), none, none, none], [], pm_m n kd M, c, t) := by
  refine ls_481 (by omega) (by omega) (⟨⟨by omega, by omega⟩, ⟨by omega, by omega⟩, ?_⟩)
  refine wr_206 (by decide) hL hW (fun k M1 hL1 g1 hk => ?_)
  have e98 : M1 9998 = M 9998 := g1 9998 (by decide) (by decide)
  have e99 : M1 9999 = M 9999 := g1 9999 (by decide) (by decide)
  refine ls_492 (by omega) (by omega) ?_
  rw [e98, e99]
  refine ⟨⟨by omega, by omega⟩, ⟨by omega, by omega⟩, ra_145 (by decide) (hR.cg (fun a h h2 => g1 a h (by omega))) hW (RO.el (fun b M2 hR2 ho2 hb => ?_))⟩
  refine ls_504 (by omega) (by omega) (sp_123 (by decide) ?_)
  obtain ⟨k1, k2⟩ := WK.tail hk hb (ho2 122 (by decide))
  have b1 := bb_tail hb (fun _ => bb_occursInZimin)
  exact ls_510 ⟨fun _ => ⟨fun _ => lw_next hN hL1 ho2 hR2 (wf_occursInZimin hW) (fun a h => (ho2 a (Or.inr (by omega))).trans (g1 a (by omega) (by omega))) hc ht ⟨Or.inl rfl, Or.inl rfl, Or.inl rfl, Or.inl rfl, Or.inl rfl, Or.inl rfl, Or.inr rfl, Or.inr rfl, Or.inr rfl, trivial⟩ (by omega) (by omega), fun w2 => ⟨fun w3 => ⟨fun _ => lw_next hN hL1 ho2 hR2 (wf_occursInZimin hW) (fun a h => (ho2 a (Or.inr (by omega))).trans (g1 a (by omega) (by omega))) hc ht ⟨Or.inl rfl, Or.inl rfl, Or.inl rfl, Or.inl rfl, Or.inl rfl, Or.inl rfl, Or.inr rfl, Or.inr rfl, Or.inr rfl, trivial⟩ (by omega) (by omega), fun w4 => absurd (lw_lc ((k2 (Classical.not_not.mp w2)).trans w3)) w4⟩, fun w3 => ⟨fun _ => lw_next hN hL1 ho2 hR2 (wf_occursInZimin hW) (fun a h => (ho2 a (Or.inr (by omega))).trans (g1 a (by omega) (by omega))) hc ht ⟨Or.inl rfl, Or.inl rfl, Or.inl rfl, Or.inl rfl, Or.inl rfl, Or.inl rfl, Or.inr rfl, Or.inr rfl, Or.inr rfl, trivial⟩ (by omega) (by omega), fun w4 => absurd (lw_lc ((k2 (Classical.not_not.mp w2)).trans (b1.resolve_left w3))) w4⟩⟩⟩, fun w => absurd k1 w⟩
theorem lc_9 (hi : 0 ≤ i ∧ i + 2 < M 9998 0 ∧ M 9998 0 ≤ 1536) (hv : ∀ j, pm_r (M 9999 j)) (hL : Lab M s) (hR : Ref M s) (hW : wfs s) (hc : c + 10 ≤ 603072) (ht : t + 60 ≤ 7174250) (hN : lwN i n kd c t M) : lwW (544, [some (.inr (.inl (999, 9999))), some (.inr (.inl (8, 0))), some (.inr (.inl (9, 97))), some (.inr (.inl (3001, 122))), some (.inr (.inl (4001, 123))), some (.inl i), none, none, none], [], pm_m n kd M, c, t) := by
  refine ls_544 (by omega) (by omega) (⟨⟨by omega, by omega⟩, ⟨by omega, by omega⟩, ?_⟩)
  refine wr_207 (by decide) hL hW (fun k M1 hL1 g1 hk => ?_)
  have e98 : M1 9998 = M 9998 := g1 9998 (by decide) (by decide)
  have e99 : M1 9999 = M 9999 := g1 9999 (by decide) (by decide)
  refine ls_555 (by omega) (by omega) ?_
  rw [e98, e99]
  refine ⟨⟨by omega, by omega⟩, ⟨by omega, by omega⟩, ra_146 (by decide) (hR.cg (fun a h h2 => g1 a h (by omega))) hW (RO.el (fun b M2 hR2 ho2 hb => ?_))⟩
  refine ls_567 (by omega) (by omega) (sp_123 (by decide) ?_)
  obtain ⟨k1, k2⟩ := WK.tail hk hb (ho2 122 (by decide))
  exact ls_573 ⟨fun _ => ⟨fun _ => lw_next hN hL1 ho2 hR2 (wf_shelve hW) (fun a h => (ho2 a (Or.inr (by omega))).trans (g1 a (by omega) (by omega))) hc ht ⟨Or.inl rfl, Or.inl rfl, Or.inl rfl, Or.inl rfl, Or.inl rfl, Or.inl rfl, Or.inr rfl, Or.inr rfl, Or.inr rfl, trivial⟩ (by omega) (by omega), fun w2 => ⟨fun _ => lw_next hN hL1 ho2 hR2 (wf_shelve hW) (fun a h => (ho2 a (Or.inr (by omega))).trans (g1 a (by omega) (by omega))) hc ht ⟨Or.inl rfl, Or.inl rfl, Or.inl rfl, Or.inl rfl, Or.inl rfl, Or.inl rfl, Or.inr rfl, Or.inr rfl, Or.inr rfl, trivial⟩ (by omega) (by omega), fun w3 => absurd (lw_lc (k2 (Classical.not_not.mp w2))) w3⟩⟩, fun w => absurd k1 w⟩
theorem lc_10 (hi : 0 ≤ i ∧ i + 2 < M 9998 0 ∧ M 9998 0 ≤ 1536) (hv : ∀ j, pm_r (M 9999 j)) (hL : Lab M s) (hR : Ref M s) (hW : wfs s) (hc : c + 10 ≤ 603072) (ht : t + 60 ≤ 7174250) (hN : lwN i n kd c t M) : lwW (600, [some (.inr (.inl (999, 9999))), some (.inr (.inl (8, 0))), some (.inr (.inl (9, 97))), some (.inr (.inl (3001, 122))), some (.inr (.inl (4001, 123))), some (.inl i), none, none, none], [], pm_m n kd M, c, t) := by
  refine ls_600 (by omega) (by omega) (⟨⟨by omega, by omega⟩, ⟨by omega, by omega⟩, ?_⟩)
  refine wr_208 (by decide) hL hW (fun k M1 hL1 g1 hk => ?_)
  have e98 : M1 9998 = M 9998 := g1 9998 (by decide) (by decide)
  have e99 : M1 9999 = M 9999 := g1 9999 (by decide) (by decide)
  refine ls_611 (by omega) (by omega) ?_
  rw [e98, e99]
  refine ⟨⟨by omega, by omega⟩, ⟨by omega, by omega⟩, ra_147 (by decide) (hR.cg (fun a h h2 => g1 a h (by omega))) hW (RO.el (fun b M2 hR2 ho2 hb => ?_))⟩
  refine ls_623 (by omega) (by omega) (sp_123 (by decide) ?_)
  obtain ⟨k1, k2⟩ := WK.tail hk hb (ho2 122 (by decide))
  exact ls_629 ⟨fun _ => ⟨fun _ => lw_next hN hL1 ho2 hR2 (wf_useShelf hW) (fun a h => (ho2 a (Or.inr (by omega))).trans (g1 a (by omega) (by omega))) hc ht ⟨Or.inl rfl, Or.inl rfl, Or.inl rfl, Or.inl rfl, Or.inl rfl, Or.inl rfl, Or.inr rfl, Or.inr rfl, Or.inr rfl, trivial⟩ (by omega) (by omega), fun w2 => ⟨fun _ => lw_next hN hL1 ho2 hR2 (wf_useShelf hW) (fun a h => (ho2 a (Or.inr (by omega))).trans (g1 a (by omega) (by omega))) hc ht ⟨Or.inl rfl, Or.inl rfl, Or.inl rfl, Or.inl rfl, Or.inl rfl, Or.inl rfl, Or.inr rfl, Or.inr rfl, Or.inr rfl, trivial⟩ (by omega) (by omega), fun w3 => absurd (lw_lc (k2 (Classical.not_not.mp w2))) w3⟩⟩, fun w => absurd k1 w⟩
theorem lc_11 (hi : 0 ≤ i ∧ i + 2 < M 9998 0 ∧ M 9998 0 ≤ 1536) (hv : ∀ j, pm_r (M 9999 j)) (hL : Lab M s) (hR : Ref M s) (hW : wfs s) (hc : c + 10 ≤ 603072) (ht : t + 60 ≤ 7174250) (hN : lwN i n kd c t M) : lwW (656, [some (.inr (.inl (999, 9999))), some (.inr (.inl (8, 0))), some (.inr (.inl (9, 97))), some (.inr (.inl (3001, 122))), some (.inr (.inl (4001, 123))), some (.inl i), none, none, none], [], pm_m n kd M, c, t) := by
  refine ls_656 (by omega) (by omega) (⟨⟨by omega, by omega⟩, ⟨by omega, by omega⟩, ?_⟩)
  refine wr_209 (by decide) hL hW (fun k M1 hL1 g1 hk => ?_)
  have e98 : M1 9998 = M 9998 := g1 9998 (by decide) (by decide)
  have e99 : M1 9999 = M 9999 := g1 9999 (by decide) (by decide)
  refine ls_667 (by omega) (by omega) ?_
  rw [e98, e99]
  refine ⟨⟨by omega, by omega⟩, ⟨by omega, by omega⟩, ra_148 (by decide) (hR.cg (fun a h h2 => g1 a h (by omega))) hW (RO.el (fun b M2 hR2 ho2 hb => ?_))⟩
  refine ls_679 (by omega) (by omega) (sp_123 (by decide) ?_)
  obtain ⟨k1, k2⟩ := WK.tail hk hb (ho2 122 (by decide))
  have b1 := bb_tail hb (fun _ => bb_isIsomorphic)
  exact ls_685 ⟨fun _ => ⟨fun _ => lw_next hN hL1 ho2 hR2 (wf_isIsomorphic hW) (fun a h => (ho2 a (Or.inr (by omega))).trans (g1 a (by omega) (by omega))) hc ht ⟨Or.inl rfl, Or.inl rfl, Or.inl rfl, Or.inl rfl, Or.inl rfl, Or.inl rfl, Or.inr rfl, Or.inr rfl, Or.inr rfl, trivial⟩ (by omega) (by omega), fun w2 => ⟨fun w3 => ⟨fun _ => lw_next hN hL1 ho2 hR2 (wf_isIsomorphic hW) (fun a h => (ho2 a (Or.inr (by omega))).trans (g1 a (by omega) (by omega))) hc ht ⟨Or.inl rfl, Or.inl rfl, Or.inl rfl, Or.inl rfl, Or.inl rfl, Or.inl rfl, Or.inr rfl, Or.inr rfl, Or.inr rfl, trivial⟩ (by omega) (by omega), fun w4 => absurd (lw_lc ((k2 (Classical.not_not.mp w2)).trans w3)) w4⟩, fun w3 => ⟨fun _ => lw_next hN hL1 ho2 hR2 (wf_isIsomorphic hW) (fun a h => (ho2 a (Or.inr (by omega))).trans (g1 a (by omega) (by omega))) hc ht ⟨Or.inl rfl, Or.inl rfl, Or.inl rfl, Or.inl rfl, Or.inl rfl, Or.inl rfl, Or.inr rfl, Or.inr rfl, Or.inr rfl, trivial⟩ (by omega) (by omega), fun w4 => absurd (lw_lc ((k2 (Classical.not_not.mp w2)).trans (b1.resolve_left w3))) w4⟩⟩⟩, fun w => absurd k1 w⟩
theorem lc_12 (hi : 0 ≤ i ∧ i + 2 < M 9998 0 ∧ M 9998 0 ≤ 1536) (hv : ∀ j, pm_r (M 9999 j)) (hL : Lab M s) (hR : Ref M s) (hW : wfs s) (hc : c + 10 ≤ 603072) (ht : t + 60 ≤ 7174250) (hN : lwN i n kd c t M) : lwW (719, [some (.inr (.inl (999, 9999))), some (.inr (.inl (8, 0))), some (.inr (.inl (9, 97))), some (.inr (.inl (3001, 122))), some (.inr (.inl (4001, 123))), some (.inl i), none, none, none], [], pm_m n kd M, c, t) := by
  refine ls_719 (by omega) (by omega) (⟨⟨by omega, by omega⟩, ⟨by omega, by omega⟩, ?_⟩)
  refine wr_210 (by decide) hL hW (fun k M1 hL1 g1 hk => ?_)
  have e98 : M1 9998 = M 9998 := g1 9998 (by decide) (by decide)
  have e99 : M1 9999 = M 9999 := g1 9999 (by decide) (by decide)
  refine ls_730 (by omega) (by omega) ?_
  rw [e98, e99]
  refine ⟨⟨by omega, by omega⟩, ⟨by omega, by omega⟩, ra_149 (by decide) (hR.cg (fun a h h2 => g1 a h (by omega))) hW (RO.el (fun b M2 hR2 ho2 hb => ?_))⟩
  refine ls_742 (by omega) (by omega) (sp_123 (by decide) ?_)
  obtain ⟨k1, k2⟩ := WK.tail hk hb (ho2 122 (by decide))
  have b1 := bb_tail hb (fun _ => bb_contains)
  exact ls_748 ⟨fun _ => ⟨fun _ => lw_next hN hL1 ho2 hR2 (wf_contains hW) (fun a h => (ho2 a (Or.inr (by omega))).trans (g1 a (by omega) (by omega))) hc ht ⟨Or.inl rfl, Or.inl rfl, Or.inl rfl, Or.inl rfl, Or.inl rfl, Or.inl rfl, Or.inr rfl, Or.inr rfl, Or.inr rfl, trivial⟩ (by omega) (by omega), fun w2 => ⟨fun w3 => ⟨fun _ => lw_next hN hL1 ho2 hR2 (wf_contains hW) (fun a h => (ho2 a (Or.inr (by omega))).trans (g1 a (by omega) (by omega))) hc ht ⟨Or.inl rfl, Or.inl rfl, Or.inl rfl, Or.inl rfl, Or.inl rfl, Or.inl rfl, Or.inr rfl, Or.inr rfl, Or.inr rfl, trivial⟩ (by omega) (by omega), fun w4 => absurd (lw_lc ((k2 (Classical.not_not.mp w2)).trans w3)) w4⟩, fun w3 => ⟨fun _ => lw_next hN hL1 ho2 hR2 (wf_contains hW) (fun a h => (ho2 a (Or.inr (by omega))).trans (g1 a (by omega) (by omega))) hc ht ⟨Or.inl rfl, Or.inl rfl, Or.inl rfl, Or.inl rfl, Or.inl rfl, Or.inl rfl, Or.inr rfl, Or.inr rfl, Or.inr rfl, trivial⟩ (by omega) (by omega), fun w4 => absurd (lw_lc ((k2 (Classical.not_not.mp w2)).trans (b1.resolve_left w3))) w4⟩⟩⟩, fun w => absurd k1 w⟩
theorem lc_13 (hi : 0 ≤ i ∧ i + 2 < M 9998 0 ∧ M 9998 0 ≤ 1536) (hv : ∀ j, pm_r (M 9999 j)) (hL : Lab M s) (hR : Ref M s) (hW : wfs s) (hc : c + 10 ≤ 603072) (ht : t + 60 ≤ 7174250) (hN : lwN i n kd c t M) : lwW (782, [some (.inr (.inl (999, 9999))), some (.inr (.inl (8, 0))), some (.inr (.inl (9, 97))), some (.inr (.inl (3001, 122))), some (.inr (.inl (4001, 123))), some (.inl i), none, none, none], [], pm_m n kd M, c, t) := by
  refine ls_782 (by omega) (by omega) (⟨⟨by omega, by omega⟩, ⟨by omega, by omega⟩, ?_⟩)
  refine wr_211 (by decide) hL hW (fun k M1 hL1 g1 hk => ?_)
  have e98 : M1 9998 = M 9998 := g1 9998 (by decide) (by decide)
  have e99 : M1 9999 = M 9999 := g1 9999 (by decide) (by decide)
  refine ls_793 (by omega) (by omega) ?_
  rw [e98, e99]
  refine ⟨⟨by omega, by omega⟩, ⟨by omega, by omega⟩, ra_151 (by decide) (hR.cg (fun a h h2 => g1 a h (by omega))) (RO.el (fun b M2 hR2 ho2 hb => ?_))⟩
  refine ls_805 (by omega) (by omega) (sp_123 (by decide) ?_)
  obtain ⟨k1, k2⟩ := WK.tail hk hb (ho2 122 (by decide))
  exact ls_811 ⟨fun _ => ⟨fun _ => lw_next hN hL1 ho2 hR2 (wf_setLetterCount hW) (fun a h => (ho2 a (Or.inr (by omega))).trans (g1 a (by omega) (by omega))) hc ht ⟨Or.inl rfl, Or.inl rfl, Or.inl rfl, Or.inl rfl, Or.inl rfl, Or.inl rfl, Or.inr rfl, Or.inr rfl, Or.inr rfl, trivial⟩ (by omega) (by omega), fun w2 => ⟨fun _ => lw_next hN hL1 ho2 hR2 (wf_setLetterCount hW) (fun a h => (ho2 a (Or.inr (by omega))).trans (g1 a (by omega) (by omega))) hc ht ⟨Or.inl rfl, Or.inl rfl, Or.inl rfl, Or.inl rfl, Or.inl rfl, Or.inl rfl, Or.inr rfl, Or.inr rfl, Or.inr rfl, trivial⟩ (by omega) (by omega), fun w3 => absurd (lw_lc (k2 (Classical.not_not.mp w2))) w3⟩⟩, fun w => absurd k1 w⟩
theorem lc_14 (hi : 0 ≤ i ∧ i + 2 < M 9998 0 ∧ M 9998 0 ≤ 1536) (hv : ∀ j, pm_r (M 9999 j)) (hL : Lab M s) (hR : Ref M s) (hW : wfs s) (hc : c + 10 ≤ 603072) (ht : t + 60 ≤ 7174250) (hN : lwN i n kd c t M) : lwW (838, [some (.inr (.inl (999, 9999))), some (.inr (.inl (8, 0))), some (.inr (.inl (9, 97))), some (.inr (.inl (3001, 122))), some (.inr (.inl (4001, 123))), some (.inl i), none, none, none], [], pm_m n kd M, c, t) := by
  refine ls_838 (by omega) (by omega) (⟨⟨by omega, by omega⟩, ⟨by omega, by omega⟩, ?_⟩)
  refine wr_212 (by decide) hL hW (fun k M1 hL1 g1 hk => ?_)
  have e98 : M1 9998 = M 9998 := g1 9998 (by decide) (by decide)
  have e99 : M1 9999 = M 9999 := g1 9999 (by decide) (by decide)
  refine ls_849 (by omega) (by omega) ?_
  rw [e98, e99]
  refine ⟨⟨by omega, by omega⟩, ⟨by omega, by omega⟩, ra_152 (by decide) (hR.cg (fun a h h2 => g1 a h (by omega))) hW (RO.el (fun b M2 hR2 ho2 hb => ?_))⟩
  refine ls_861 (by omega) (by omega) (sp_123 (by decide) ?_)
  obtain ⟨k1, k2⟩ := WK.tail hk hb (ho2 122 (by decide))
  exact ls_867 ⟨fun _ => ⟨fun _ => lw_next hN hL1 ho2 hR2 (wf_appendLetter hW) (fun a h => (ho2 a (Or.inr (by omega))).trans (g1 a (by omega) (by omega))) hc ht ⟨Or.inl rfl, Or.inl rfl, Or.inl rfl, Or.inl rfl, Or.inl rfl, Or.inl rfl, Or.inr rfl, Or.inr rfl, Or.inr rfl, trivial⟩ (by omega) (by omega), fun w2 => ⟨fun _ => lw_next hN hL1 ho2 hR2 (wf_appendLetter hW) (fun a h => (ho2 a (Or.inr (by omega))).trans (g1 a (by omega) (by omega))) hc ht ⟨Or.inl rfl, Or.inl rfl, Or.inl rfl, Or.inl rfl, Or.inl rfl, Or.inl rfl, Or.inr rfl, Or.inr rfl, Or.inr rfl, trivial⟩ (by omega) (by omega), fun w3 => absurd (lw_lc (k2 (Classical.not_not.mp w2))) w3⟩⟩, fun w => absurd k1 w⟩
theorem lc_15 (hi : 0 ≤ i ∧ i + 2 < M 9998 0 ∧ M 9998 0 ≤ 1536) (hv : ∀ j, pm_r (M 9999 j)) (hL : Lab M s) (hR : Ref M s) (hW : wfs s) (hc : c + 10 ≤ 603072) (ht : t + 60 ≤ 7174250) (hN : lwN i n kd c t M) : lwW (894, [some (.inr (.inl (999, 9999))), some (.inr (.inl (8, 0))), some (.inr (.inl (9, 97))), some (.inr (.inl (3001, 122))), some (.inr (.inl (4001, 123))), some (.inl i), none, none, none], [], pm_m n kd M, c, t) := by
  refine ls_894 (by omega) (by omega) (la_72 (by decide) hL (fun M1 hL1 ho1 => ?_))
  have g1 : ∀ a, 97 ≤ a → M1 a = M a := fun a h => ho1 a (Or.inr h)
  refine ls_898 (by omega) (by omega) (ra_153 (by decide) (hR.cg (fun a h _ => g1 a h)) (fun M2 hR2 ho2 h0 => ?_))
  refine ls_902 ⟨fun _ => ?_, fun w => absurd rfl w⟩
  exact lw_next hN hL1 ho2 hR2 (wf_clearWord hW) (fun a h => (ho2 a (Or.inr (by omega))).trans (g1 a (by omega))) hc ht ⟨Or.inl rfl, Or.inl rfl, Or.inl rfl, Or.inl rfl, Or.inl rfl, Or.inl rfl, Or.inr rfl, Or.inr rfl, Or.inr rfl, trivial⟩ (by omega) (by omega)
theorem lc_16 (hi : 0 ≤ i ∧ i + 2 < M 9998 0 ∧ M 9998 0 ≤ 1536) (hv : ∀ j, pm_r (M 9999 j)) (hL : Lab M s) (hR : Ref M s) (hW : wfs s) (hc : c + 10 ≤ 603072) (ht : t + 60 ≤ 7174250) (hN : lwN i n kd c t M) : lwW (907, [some (.inr (.inl (999, 9999))), some (.inr (.inl (8, 0))), some (.inr (.inl (9, 97))), some (.inr (.inl (3001, 122))), some (.inr (.inl (4001, 123))), some (.inl i), none, none, none], [], pm_m n kd M, c, t) := by
  refine ls_907 (by omega) (by omega) (la_73 (by decide) hL (fun M1 hL1 ho1 => ?_))
  have g1 : ∀ a, 97 ≤ a → M1 a = M a := fun a h => ho1 a (Or.inr h)
  refine ls_911 (by omega) (by omega) (ra_154 (by decide) (hR.cg (fun a h _ => g1 a h)) (fun M2 hR2 ho2 h0 => ?_))
  refine ls_915 ⟨fun _ => ?_, fun w => absurd rfl w⟩
  exact lw_next hN hL1 ho2 hR2 (wf_wordLength hW) (fun a h => (ho2 a (Or.inr (by omega))).trans (g1 a (by omega))) hc ht ⟨Or.inl rfl, Or.inl rfl, Or.inl rfl, Or.inl rfl, Or.inl rfl, Or.inl rfl, Or.inr rfl, Or.inr rfl, Or.inr rfl, trivial⟩ (by omega) (by omega)
theorem lc_17 (hi : 0 ≤ i ∧ i + 2 < M 9998 0 ∧ M 9998 0 ≤ 1536) (hv : ∀ j, pm_r (M 9999 j)) (hL : Lab M s) (hR : Ref M s) (hW : wfs s) (hc : c + 10 ≤ 603072) (ht : t + 60 ≤ 7174250) (hN : lwN i n kd c t M) : lwW (920, [some (.inr (.inl (999, 9999))), some (.inr (.inl (8, 0))), some (.inr (.inl (9, 97))), some (.inr (.inl (3001, 122))), some (.inr (.inl (4001, 123))), some (.inl i), none, none, none], [], pm_m n kd M, c, t) := by
  refine ls_920 (by omega) (by omega) (⟨⟨by omega, by omega⟩, ⟨by omega, by omega⟩, ?_⟩)
  refine wr_213 (by decide) hL hW (fun k M1 hL1 g1 hk => ?_)
  have e98 : M1 9998 = M 9998 := g1 9998 (by decide) (by decide)
  have e99 : M1 9999 = M 9999 := g1 9999 (by decide) (by decide)
  refine ls_931 (by omega) (by omega) ?_
  rw [e98, e99]
  refine ⟨⟨by omega, by omega⟩, ⟨by omega, by omega⟩, ra_155 (by decide) (hR.cg (fun a h h2 => g1 a h (by omega))) hW (RO.el (fun b M2 hR2 ho2 hb => ?_))⟩
  refine ls_943 (by omega) (by omega) (sp_123 (by decide) ?_)
  obtain ⟨k1, k2⟩ := WK.tail hk hb (ho2 122 (by decide))
  exact ls_949 ⟨fun _ => ⟨fun _ => lw_next hN hL1 ho2 hR2 (wf_letter hW) (fun a h => (ho2 a (Or.inr (by omega))).trans (g1 a (by omega) (by omega))) hc ht ⟨Or.inl rfl, Or.inl rfl, Or.inl rfl, Or.inl rfl, Or.inl rfl, Or.inl rfl, Or.inr rfl, Or.inr rfl, Or.inr rfl, trivial⟩ (by omega) (by omega), fun w2 => ⟨fun _ => lw_next hN hL1 ho2 hR2 (wf_letter hW) (fun a h => (ho2 a (Or.inr (by omega))).trans (g1 a (by omega) (by omega))) hc ht ⟨Or.inl rfl, Or.inl rfl, Or.inl rfl, Or.inl rfl, Or.inl rfl, Or.inl rfl, Or.inr rfl, Or.inr rfl, Or.inr rfl, trivial⟩ (by omega) (by omega), fun w3 => absurd (lw_lc (k2 (Classical.not_not.mp w2))) w3⟩⟩, fun w => absurd k1 w⟩
theorem lc_18 (hi : 0 ≤ i ∧ i + 2 < M 9998 0 ∧ M 9998 0 ≤ 1536) (hv : ∀ j, pm_r (M 9999 j)) (hL : Lab M s) (hR : Ref M s) (hW : wfs s) (hc : c + 10 ≤ 603072) (ht : t + 60 ≤ 7174250) (hN : lwN i n kd c t M) : lwW (976, [some (.inr (.inl (999, 9999))), some (.inr (.inl (8, 0))), some (.inr (.inl (9, 97))), some (.inr (.inl (3001, 122))), some (.inr (.inl (4001, 123))), some (.inl i), none, none, none], [], pm_m n kd M, c, t) := by
  refine ls_976 (by omega) (by omega) (⟨⟨by omega, by omega⟩, ⟨by omega, by omega⟩, ?_⟩)
  refine wr_214 (by decide) hL hW (fun k M1 hL1 g1 hk => ?_)
  have e98 : M1 9998 = M 9998 := g1 9998 (by decide) (by decide)
  have e99 : M1 9999 = M 9999 := g1 9999 (by decide) (by decide)
  refine ls_988 (by omega) (by omega) ?_
  rw [e98, e99]
  refine ⟨⟨by omega, by omega⟩, ⟨by omega, by omega⟩, ra_156 (by decide) (hR.cg (fun a h h2 => g1 a h (by omega))) hW (ROf.el (fun b M2 hR2 ho2 hb => ?_))⟩
  refine ls_1000 (by omega) (by omega) (sp_123 (by decide) ?_)
  obtain ⟨k1, k2⟩ := WKf.tail hk hb (ho2 123 (by decide))
  exact ls_1006 ⟨fun _ => ⟨fun _ => lw_next hN hL1 ho2 hR2 hW (fun a h => (ho2 a (Or.inr (by omega))).trans (g1 a (by omega) (by omega))) hc ht ⟨Or.inl rfl, Or.inl rfl, Or.inl rfl, Or.inl rfl, Or.inl rfl, Or.inl rfl, Or.inr rfl, Or.inr rfl, Or.inr rfl, trivial⟩ (by omega) (by omega), fun w2 => ⟨(k2 (Classical.not_not.mp w2)).1, fun _ => lw_next hN hL1 ho2 hR2 hW (fun a h => (ho2 a (Or.inr (by omega))).trans (g1 a (by omega) (by omega))) hc ht ⟨Or.inl rfl, Or.inl rfl, Or.inl rfl, Or.inl rfl, Or.inl rfl, Or.inl rfl, Or.inr rfl, Or.inr rfl, Or.inr rfl, trivial⟩ (by omega) (by omega), fun w3 => absurd (k2 (Classical.not_not.mp w2)).2 w3⟩⟩, fun w => absurd k1 w⟩
theorem lc_19 (hi : 0 ≤ i ∧ i + 2 < M 9998 0 ∧ M 9998 0 ≤ 1536) (hv : ∀ j, pm_r (M 9999 j)) (hL : Lab M s) (hR : Ref M s) (hW : wfs s) (hc : c + 10 ≤ 603072) (ht : t + 60 ≤ 7174250) (hN : lwN i n kd c t M) : lwW (1054, [some (.inr (.inl (999, 9999))), some (.inr (.inl (8, 0))), some (.inr (.inl (9, 97))), some (.inr (.inl (3001, 122))), some (.inr (.inl (4001, 123))), some (.inl i), none, none, none], [], pm_m n kd M, c, t) := by
  have hf := fp_arg (M 9999 (i + 1).toNat)
  refine ls_1054 (by omega) (by omega) ⟨⟨by omega, by omega⟩, ⟨by omega, by omega⟩, hf.vf, ?_⟩
  refine wr_215 (by decide) hL hW hf (fun k M1 hL1 g1 hk => ?_)
  have e98 : M1 9998 = M 9998 := g1 9998 (by decide) (by decide)
  have e99 : M1 9999 = M 9999 := g1 9999 (by decide) (by decide)
  refine ls_1071 (by omega) (by omega) ?_
  rw [e98, e99]
  refine ⟨⟨by omega, by omega⟩, ⟨by omega, by omega⟩, hf.vf, ra_157 (by decide) (hR.cg (fun a h h2 => g1 a h (by omega))) hW hf (ROd.el (fun b M2 hR2 ho2 hb => ?_))⟩
  refine ls_1088 (by omega) (by omega) (sp_123 (by decide) ?_)
  obtain ⟨k1, k2⟩ := WKd.tail hk hb (ho2 123 (by decide))
  exact ls_1094 ⟨fun _ => ⟨fun _ => lw_next hN hL1 ho2 hR2 hW (fun a h => (ho2 a (Or.inr (by omega))).trans (g1 a (by omega) (by omega))) hc ht ⟨Or.inl rfl, Or.inl rfl, Or.inl rfl, Or.inl rfl, Or.inl rfl, Or.inl rfl, Or.inr rfl, Or.inr rfl, Or.inr rfl, trivial⟩ (by omega) (by omega), fun w2 => ⟨fun _ => lw_next hN hL1 ho2 hR2 hW (fun a h => (ho2 a (Or.inr (by omega))).trans (g1 a (by omega) (by omega))) hc ht ⟨Or.inl rfl, Or.inl rfl, Or.inl rfl, Or.inl rfl, Or.inl rfl, Or.inl rfl, Or.inr rfl, Or.inr rfl, Or.inr rfl, trivial⟩ (by omega) (by omega), fun w3 => absurd (k2 (Classical.not_not.mp w2)) w3⟩⟩, fun w => absurd k1 w⟩
theorem lc_20 (hi : 0 ≤ i ∧ i + 2 < M 9998 0 ∧ M 9998 0 ≤ 1536) (hv : ∀ j, pm_r (M 9999 j)) (hL : Lab M s) (hR : Ref M s) (hW : wfs s) (hc : c + 10 ≤ 603072) (ht : t + 60 ≤ 7174250) (hN : lwN i n kd c t M) : lwW (1141, [some (.inr (.inl (999, 9999))), some (.inr (.inl (8, 0))), some (.inr (.inl (9, 97))), some (.inr (.inl (3001, 122))), some (.inr (.inl (4001, 123))), some (.inl i), none, none, none], [], pm_m n kd M, c, t) := by
  refine ls_1141 (by omega) (by omega) (?_)
  refine wr_216 (by decide) hL hW (fun k M1 hL1 g1 hk => ?_)
  have e98 : M1 9998 = M 9998 := g1 9998 (by decide) (by decide)
  have e99 : M1 9999 = M 9999 := g1 9999 (by decide) (by decide)
  refine ls_1147 (by omega) (by omega) ?_
  refine ra_160 (by decide) (hR.cg (fun a h h2 => g1 a h (by omega))) hW (ROd.el (fun b M2 hR2 ho2 hb => ?_))
  refine ls_1153 (by omega) (by omega) (sp_123 (by decide) ?_)
  obtain ⟨k1, k2⟩ := WKd.tail hk hb (ho2 123 (by decide))
  exact ls_1159 ⟨fun _ => ⟨fun _ => lw_next hN hL1 ho2 hR2 hW (fun a h => (ho2 a (Or.inr (by omega))).trans (g1 a (by omega) (by omega))) hc ht ⟨Or.inl rfl, Or.inl rfl, Or.inl rfl, Or.inl rfl, Or.inl rfl, Or.inl rfl, Or.inr rfl, Or.inr rfl, Or.inr rfl, trivial⟩ (by omega) (by omega), fun w2 => ⟨fun _ => lw_next hN hL1 ho2 hR2 hW (fun a h => (ho2 a (Or.inr (by omega))).trans (g1 a (by omega) (by omega))) hc ht ⟨Or.inl rfl, Or.inl rfl, Or.inl rfl, Or.inl rfl, Or.inl rfl, Or.inl rfl, Or.inr rfl, Or.inr rfl, Or.inr rfl, trivial⟩ (by omega) (by omega), fun w3 => absurd (k2 (Classical.not_not.mp w2)) w3⟩⟩, fun w => absurd k1 w⟩
theorem lc_21 (hi : 0 ≤ i ∧ i + 2 < M 9998 0 ∧ M 9998 0 ≤ 1536) (hv : ∀ j, pm_r (M 9999 j)) (hL : Lab M s) (hR : Ref M s) (hW : wfs s) (hc : c + 10 ≤ 603072) (ht : t + 60 ≤ 7174250) (hN : lwN i n kd c t M) : lwW (1206, [some (.inr (.inl (999, 9999))), some (.inr (.inl (8, 0))), some (.inr (.inl (9, 97))), some (.inr (.inl (3001, 122))), some (.inr (.inl (4001, 123))), some (.inl i), none, none, none], [], pm_m n kd M, c, t) := by
  refine ls_1206 (by omega) (by omega) (⟨⟨by omega, by omega⟩, ⟨by omega, by omega⟩, ?_⟩)
  refine wr_217 (by decide) hL hW (fun k M1 hL1 g1 hk => ?_)
  have e98 : M1 9998 = M 9998 := g1 9998 (by decide) (by decide)
  have e99 : M1 9999 = M 9999 := g1 9999 (by decide) (by decide)
  refine ls_1217 (by omega) (by omega) ?_
  rw [e98, e99]
  refine ⟨⟨by omega, by omega⟩, ⟨by omega, by omega⟩, ra_161 (by decide) (hR.cg (fun a h h2 => g1 a h (by omega))) hW (RO.el (fun b M2 hR2 ho2 hb => ?_))⟩
  refine ls_1229 (by omega) (by omega) (sp_123 (by decide) ?_)
  obtain ⟨k1, k2⟩ := WK.tail hk hb (ho2 122 (by decide))
  exact ls_1235 ⟨fun _ => ⟨fun _ => lw_next hN hL1 ho2 hR2 (wf_strongestFactor hW) (fun a h => (ho2 a (Or.inr (by omega))).trans (g1 a (by omega) (by omega))) hc ht ⟨Or.inl rfl, Or.inl rfl, Or.inl rfl, Or.inl rfl, Or.inl rfl, Or.inl rfl, Or.inr rfl, Or.inr rfl, Or.inr rfl, trivial⟩ (by omega) (by omega), fun w2 => ⟨fun _ => lw_next hN hL1 ho2 hR2 (wf_strongestFactor hW) (fun a h => (ho2 a (Or.inr (by omega))).trans (g1 a (by omega) (by omega))) hc ht ⟨Or.inl rfl, Or.inl rfl, Or.inl rfl, Or.inl rfl, Or.inl rfl, Or.inl rfl, Or.inr rfl, Or.inr rfl, Or.inr rfl, trivial⟩ (by omega) (by omega), fun w3 => absurd (lw_lc (k2 (Classical.not_not.mp w2))) w3⟩⟩, fun w => absurd k1 w⟩
theorem lc_22 (hi : 0 ≤ i ∧ i + 2 < M 9998 0 ∧ M 9998 0 ≤ 1536) (hv : ∀ j, pm_r (M 9999 j)) (hL : Lab M s) (hR : Ref M s) (hW : wfs s) (hc : c + 10 ≤ 603072) (ht : t + 60 ≤ 7174250) (hN : lwN i n kd c t M) : lwW (1262, [some (.inr (.inl (999, 9999))), some (.inr (.inl (8, 0))), some (.inr (.inl (9, 97))), some (.inr (.inl (3001, 122))), some (.inr (.inl (4001, 123))), some (.inl i), none, none, none], [], pm_m n kd M, c, t) := by
  refine ls_1262 (by omega) (by omega) (?_)
  refine wr_218 (by decide) hL hW (fun k M1 hL1 g1 hk => ?_)
  have e98 : M1 9998 = M 9998 := g1 9998 (by decide) (by decide)
  have e99 : M1 9999 = M 9999 := g1 9999 (by decide) (by decide)
  refine ls_1267 (by omega) (by omega) ?_
  refine ra_163 (by decide) (hR.cg (fun a h h2 => g1 a h (by omega))) hW (RO.el (fun b M2 hR2 ho2 hb => ?_))
  refine ls_1273 (by omega) (by omega) (sp_123 (by decide) ?_)
  obtain ⟨k1, k2⟩ := WK.tail hk hb (ho2 122 (by decide))
  have b1 := bb_tail hb (fun _ => bb_avoids)
  exact ls_1279 ⟨fun _ => ⟨fun _ => lw_next hN hL1 ho2 hR2 (wf_avoids hW) (fun a h => (ho2 a (Or.inr (by omega))).trans (g1 a (by omega) (by omega))) hc ht ⟨Or.inl rfl, Or.inl rfl, Or.inl rfl, Or.inl rfl, Or.inl rfl, Or.inl rfl, Or.inr rfl, Or.inr rfl, Or.inr rfl, trivial⟩ (by omega) (by omega), fun w2 => ⟨fun w3 => ⟨fun _ => lw_next hN hL1 ho2 hR2 (wf_avoids hW) (fun a h => (ho2 a (Or.inr (by omega))).trans (g1 a (by omega) (by omega))) hc ht ⟨Or.inl rfl, Or.inl rfl, Or.inl rfl, Or.inl rfl, Or.inl rfl, Or.inl rfl, Or.inr rfl, Or.inr rfl, Or.inr rfl, trivial⟩ (by omega) (by omega), fun w4 => absurd (lw_lc ((k2 (Classical.not_not.mp w2)).trans w3)) w4⟩, fun w3 => ⟨fun _ => lw_next hN hL1 ho2 hR2 (wf_avoids hW) (fun a h => (ho2 a (Or.inr (by omega))).trans (g1 a (by omega) (by omega))) hc ht ⟨Or.inl rfl, Or.inl rfl, Or.inl rfl, Or.inl rfl, Or.inl rfl, Or.inl rfl, Or.inr rfl, Or.inr rfl, Or.inr rfl, trivial⟩ (by omega) (by omega), fun w4 => absurd (lw_lc ((k2 (Classical.not_not.mp w2)).trans (b1.resolve_left w3))) w4⟩⟩⟩, fun w => absurd k1 w⟩
theorem lc_23 (hi : 0 ≤ i ∧ i + 2 < M 9998 0 ∧ M 9998 0 ≤ 1536) (hv : ∀ j, pm_r (M 9999 j)) (hL : Lab M s) (hR : Ref M s) (hW : wfs s) (hc : c + 10 ≤ 603072) (ht : t + 60 ≤ 7174250) (hN : lwN i n kd c t M) : lwW (1313, [some (.inr (.inl (999, 9999))), some (.inr (.inl (8, 0))), some (.inr (.inl (9, 97))), some (.inr (.inl (3001, 122))), some (.inr (.inl (4001, 123))), some (.inl i), none, none, none], [], pm_m n kd M, c, t) := by
  refine ls_1313 (by omega) (by omega) (?_)
  refine wr_219 (by decide) hL hW (fun k M1 hL1 g1 hk => ?_)
  have e98 : M1 9998 = M 9998 := g1 9998 (by decide) (by decide)
  have e99 : M1 9999 = M 9999 := g1 9999 (by decide) (by decide)
  refine ls_1318 (by omega) (by omega) ?_
  refine ra_164 (by decide) (hR.cg (fun a h h2 => g1 a h (by omega))) hW (RO.el (fun b M2 hR2 ho2 hb => ?_))
  refine ls_1324 (by omega) (by omega) (sp_123 (by decide) ?_)
  obtain ⟨k1, k2⟩ := WK.tail hk hb (ho2 122 (by decide))
  exact ls_1330 ⟨fun _ => ⟨fun _ => lw_next hN hL1 ho2 hR2 (wf_findOccurrence hW) (fun a h => (ho2 a (Or.inr (by omega))).trans (g1 a (by omega) (by omega))) hc ht ⟨Or.inl rfl, Or.inl rfl, Or.inl rfl, Or.inl rfl, Or.inl rfl, Or.inl rfl, Or.inr rfl, Or.inr rfl, Or.inr rfl, trivial⟩ (by omega) (by omega), fun w2 => ⟨fun _ => lw_next hN hL1 ho2 hR2 (wf_findOccurrence hW) (fun a h => (ho2 a (Or.inr (by omega))).trans (g1 a (by omega) (by omega))) hc ht ⟨Or.inl rfl, Or.inl rfl, Or.inl rfl, Or.inl rfl, Or.inl rfl, Or.inl rfl, Or.inr rfl, Or.inr rfl, Or.inr rfl, trivial⟩ (by omega) (by omega), fun w3 => absurd (lw_lc (k2 (Classical.not_not.mp w2))) w3⟩⟩, fun w => absurd k1 w⟩
theorem lc_24 (hi : 0 ≤ i ∧ i + 2 < M 9998 0 ∧ M 9998 0 ≤ 1536) (hv : ∀ j, pm_r (M 9999 j)) (hL : Lab M s) (hR : Ref M s) (hW : wfs s) (hc : c + 10 ≤ 603072) (ht : t + 60 ≤ 7174250) (hN : lwN i n kd c t M) : lwW (1357, [some (.inr (.inl (999, 9999))), some (.inr (.inl (8, 0))), some (.inr (.inl (9, 97))), some (.inr (.inl (3001, 122))), some (.inr (.inl (4001, 123))), some (.inl i), none, none, none], [], pm_m n kd M, c, t) := by
  refine ls_1357 (by omega) (by omega) (⟨⟨by omega, by omega⟩, ⟨by omega, by omega⟩, ?_⟩)
  refine wr_220 (by decide) hL hW (fun k M1 hL1 g1 hk => ?_)
  have e98 : M1 9998 = M 9998 := g1 9998 (by decide) (by decide)
  have e99 : M1 9999 = M 9999 := g1 9999 (by decide) (by decide)
  refine ls_1368 (by omega) (by omega) ?_
  rw [e98, e99]
  refine ⟨⟨by omega, by omega⟩, ⟨by omega, by omega⟩, ra_165 (by decide) (hR.cg (fun a h h2 => g1 a h (by omega))) (RO.el (fun b M2 hR2 ho2 hb => ?_))⟩
  refine ls_1380 (by omega) (by omega) (sp_123 (by decide) ?_)
  obtain ⟨k1, k2⟩ := WK.tail hk hb (ho2 122 (by decide))
  exact ls_1386 ⟨fun _ => ⟨fun _ => lw_next hN hL1 ho2 hR2 (wf_imageLength hW) (fun a h => (ho2 a (Or.inr (by omega))).trans (g1 a (by omega) (by omega))) hc ht ⟨Or.inl rfl, Or.inl rfl, Or.inl rfl, Or.inl rfl, Or.inl rfl, Or.inl rfl, Or.inr rfl, Or.inr rfl, Or.inr rfl, trivial⟩ (by omega) (by omega), fun w2 => ⟨fun _ => lw_next hN hL1 ho2 hR2 (wf_imageLength hW) (fun a h => (ho2 a (Or.inr (by omega))).trans (g1 a (by omega) (by omega))) hc ht ⟨Or.inl rfl, Or.inl rfl, Or.inl rfl, Or.inl rfl, Or.inl rfl, Or.inl rfl, Or.inr rfl, Or.inr rfl, Or.inr rfl, trivial⟩ (by omega) (by omega), fun w3 => absurd (lw_lc (k2 (Classical.not_not.mp w2))) w3⟩⟩, fun w => absurd k1 w⟩
theorem lc_25 (hi : 0 ≤ i ∧ i + 2 < M 9998 0 ∧ M 9998 0 ≤ 1536) (hv : ∀ j, pm_r (M 9999 j)) (hL : Lab M s) (hR : Ref M s) (hW : wfs s) (hc : c + 10 ≤ 603072) (ht : t + 60 ≤ 7174250) (hN : lwN i n kd c t M) : lwW (1413, [some (.inr (.inl (999, 9999))), some (.inr (.inl (8, 0))), some (.inr (.inl (9, 97))), some (.inr (.inl (3001, 122))), some (.inr (.inl (4001, 123))), some (.inl i), none, none, none], [], pm_m n kd M, c, t) := by
  refine ls_1413 (by omega) (by omega) (⟨⟨by omega, by omega⟩, ⟨by omega, by omega⟩, ⟨by omega, by omega⟩, ⟨by omega, by omega⟩, ?_⟩)
  refine wr_221 (by decide) hL hW (fun k M1 hL1 g1 hk => ?_)
  have e98 : M1 9998 = M 9998 := g1 9998 (by decide) (by decide)
  have e99 : M1 9999 = M 9999 := g1 9999 (by decide) (by decide)
  refine ls_1430 (by omega) (by omega) ?_
  rw [e98, e99]
  refine ⟨⟨by omega, by omega⟩, ⟨by omega, by omega⟩, ⟨by omega, by omega⟩, ⟨by omega, by omega⟩, ra_166 (by decide) (hR.cg (fun a h h2 => g1 a h (by omega))) hW (RO.el (fun b M2 hR2 ho2 hb => ?_))⟩
  refine ls_1448 (by omega) (by omega) (sp_123 (by decide) ?_)
  obtain ⟨k1, k2⟩ := WK.tail hk hb (ho2 122 (by decide))
  exact ls_1454 ⟨fun _ => ⟨fun _ => lw_next hN hL1 ho2 hR2 (wf_imageLetter hW) (fun a h => (ho2 a (Or.inr (by omega))).trans (g1 a (by omega) (by omega))) hc ht ⟨Or.inl rfl, Or.inl rfl, Or.inl rfl, Or.inl rfl, Or.inl rfl, Or.inl rfl, Or.inr rfl, Or.inr rfl, Or.inr rfl, trivial⟩ (by omega) (by omega), fun w2 => ⟨fun _ => lw_next hN hL1 ho2 hR2 (wf_imageLetter hW) (fun a h => (ho2 a (Or.inr (by omega))).trans (g1 a (by omega) (by omega))) hc ht ⟨Or.inl rfl, Or.inl rfl, Or.inl rfl, Or.inl rfl, Or.inl rfl, Or.inl rfl, Or.inr rfl, Or.inr rfl, Or.inr rfl, trivial⟩ (by omega) (by omega), fun w3 => absurd (lw_lc (k2 (Classical.not_not.mp w2))) w3⟩⟩, fun w => absurd k1 w⟩
theorem lc_26 (hi : 0 ≤ i ∧ i + 2 < M 9998 0 ∧ M 9998 0 ≤ 1536) (hv : ∀ j, pm_r (M 9999 j)) (hL : Lab M s) (hR : Ref M s) (hW : wfs s) (hc : c + 10 ≤ 603072) (ht : t + 60 ≤ 7174250) (hN : lwN i n kd c t M) : lwW (1481, [some (.inr (.inl (999, 9999))), some (.inr (.inl (8, 0))), some (.inr (.inl (9, 97))), some (.inr (.inl (3001, 122))), some (.inr (.inl (4001, 123))), some (.inl i), none, none, none], [], pm_m n kd M, c, t) := by
  refine ls_1481 (by omega) (by omega) (?_)
  refine wr_222 (by decide) hL hW (fun k M1 hL1 g1 hk => ?_)
  have e98 : M1 9998 = M 9998 := g1 9998 (by decide) (by decide)
  have e99 : M1 9999 = M 9999 := g1 9999 (by decide) (by decide)
  refine ls_1486 (by omega) (by omega) ?_
  refine ra_167 (by decide) (hR.cg (fun a h h2 => g1 a h (by omega))) hW (RO.el (fun b M2 hR2 ho2 hb => ?_))
  refine ls_1492 (by omega) (by omega) (sp_123 (by decide) ?_)
  obtain ⟨k1, k2⟩ := WK.tail hk hb (ho2 122 (by decide))
  exact ls_1498 ⟨fun _ => ⟨fun _ => lw_next hN hL1 ho2 hR2 (wf_occurrenceCount hW) (fun a h => (ho2 a (Or.inr (by omega))).trans (g1 a (by omega) (by omega))) hc ht ⟨Or.inl rfl, Or.inl rfl, Or.inl rfl, Or.inl rfl, Or.inl rfl, Or.inl rfl, Or.inr rfl, Or.inr rfl, Or.inr rfl, trivial⟩ (by omega) (by omega), fun w2 => ⟨fun _ => lw_next hN hL1 ho2 hR2 (wf_occurrenceCount hW) (fun a h => (ho2 a (Or.inr (by omega))).trans (g1 a (by omega) (by omega))) hc ht ⟨Or.inl rfl, Or.inl rfl, Or.inl rfl, Or.inl rfl, Or.inl rfl, Or.inl rfl, Or.inr rfl, Or.inr rfl, Or.inr rfl, trivial⟩ (by omega) (by omega), fun w3 => absurd (lw_lc (k2 (Classical.not_not.mp w2))) w3⟩⟩, fun w => absurd k1 w⟩
theorem lc_27 (hi : 0 ≤ i ∧ i + 2 < M 9998 0 ∧ M 9998 0 ≤ 1536) (hv : ∀ j, pm_r (M 9999 j)) (hL : Lab M s) (hR : Ref M s) (hW : wfs s) (hc : c + 10 ≤ 603072) (ht : t + 60 ≤ 7174250) (hN : lwN i n kd c t M) : lwW (1525, [some (.inr (.inl (999, 9999))), some (.inr (.inl (8, 0))), some (.inr (.inl (9, 97))), some (.inr (.inl (3001, 122))), some (.inr (.inl (4001, 123))), some (.inl i), none, none, none], [], pm_m n kd M, c, t) := by
  refine ls_1525 (by omega) (by omega) (⟨⟨by omega, by omega⟩, ⟨by omega, by omega⟩, ⟨by omega, by omega⟩, ⟨by omega, by omega⟩, ?_⟩)
  refine wr_223 (by decide) hL hW (fun k M1 hL1 g1 hk => ?_)
  have e98 : M1 9998 = M 9998 := g1 9998 (by decide) (by decide)
  have e99 : M1 9999 = M 9999 := g1 9999 (by decide) (by decide)
  refine ls_1542 (by omega) (by omega) ?_
  rw [e98, e99]
  refine ⟨⟨by omega, by omega⟩, ⟨by omega, by omega⟩, ⟨by omega, by omega⟩, ⟨by omega, by omega⟩, ra_172 (by decide) (hR.cg (fun a h h2 => g1 a h (by omega))) hW (RO.el (fun b M2 hR2 ho2 hb => ?_))⟩
  refine ls_1560 (by omega) (by omega) (sp_123 (by decide) ?_)
  obtain ⟨k1, k2⟩ := WK.tail hk hb (ho2 122 (by decide))
  have b1 := bb_tail hb (fun _ => bb_areConnected)
  exact ls_1566 ⟨fun _ => ⟨fun _ => lw_next hN hL1 ho2 hR2 (wf_areConnected hW) (fun a h => (ho2 a (Or.inr (by omega))).trans (g1 a (by omega) (by omega))) hc ht ⟨Or.inl rfl, Or.inl rfl, Or.inl rfl, Or.inl rfl, Or.inl rfl, Or.inl rfl, Or.inr rfl, Or.inr rfl, Or.inr rfl, trivial⟩ (by omega) (by omega), fun w2 => ⟨fun w3 => ⟨fun _ => lw_next hN hL1 ho2 hR2 (wf_areConnected hW) (fun a h => (ho2 a (Or.inr (by omega))).trans (g1 a (by omega) (by omega))) hc ht ⟨Or.inl rfl, Or.inl rfl, Or.inl rfl, Or.inl rfl, Or.inl rfl, Or.inl rfl, Or.inr rfl, Or.inr rfl, Or.inr rfl, trivial⟩ (by omega) (by omega), fun w4 => absurd (lw_lc ((k2 (Classical.not_not.mp w2)).trans w3)) w4⟩, fun w3 => ⟨fun _ => lw_next hN hL1 ho2 hR2 (wf_areConnected hW) (fun a h => (ho2 a (Or.inr (by omega))).trans (g1 a (by omega) (by omega))) hc ht ⟨Or.inl rfl, Or.inl rfl, Or.inl rfl, Or.inl rfl, Or.inl rfl, Or.inl rfl, Or.inr rfl, Or.inr rfl, Or.inr rfl, trivial⟩ (by omega) (by omega), fun w4 => absurd (lw_lc ((k2 (Classical.not_not.mp w2)).trans (b1.resolve_left w3))) w4⟩⟩⟩, fun w => absurd k1 w⟩
theorem lc_28 (hi : 0 ≤ i ∧ i + 2 < M 9998 0 ∧ M 9998 0 ≤ 1536) (hv : ∀ j, pm_r (M 9999 j)) (hL : Lab M s) (hR : Ref M s) (hW : wfs s) (hc : c + 10 ≤ 603072) (ht : t + 60 ≤ 7174250) (hN : lwN i n kd c t M) : lwW (1600, [some (.inr (.inl (999, 9999))), some (.inr (.inl (8, 0))), some (.inr (.inl (9, 97))), some (.inr (.inl (3001, 122))), some (.inr (.inl (4001, 123))), some (.inl i), none, none, none], [], pm_m n kd M, c, t) := by
  refine ls_1600 (by omega) (by omega) (⟨⟨by omega, by omega⟩, ⟨by omega, by omega⟩, ?_⟩)
  refine wr_224 (by decide) hL hW (hv _) (fun k M1 hL1 g1 hk => ?_)
  have e98 : M1 9998 = M 9998 := g1 9998 (by decide) (by decide)
  have e99 : M1 9999 = M 9999 := g1 9999 (by decide) (by decide)
  refine ls_1611 (by omega) (by omega) ?_
  rw [e98, e99]
  refine ⟨⟨by omega, by omega⟩, ⟨by omega, by omega⟩, ra_173 (by decide) (hR.cg (fun a h h2 => g1 a h (by omega))) hW (hv _) (RO.el (fun b M2 hR2 ho2 hb => ?_))⟩
  refine ls_1623 (by omega) (by omega) (sp_123 (by decide) ?_)
  obtain ⟨k1, k2⟩ := WK.tail hk hb (ho2 122 (by decide))
  have b1 := bb_tail hb (fun _ => bb_isFree)
  exact ls_1629 ⟨fun _ => ⟨fun _ => lw_next hN hL1 ho2 hR2 (wf_isFree hW) (fun a h => (ho2 a (Or.inr (by omega))).trans (g1 a (by omega) (by omega))) hc ht ⟨Or.inl rfl, Or.inl rfl, Or.inl rfl, Or.inl rfl, Or.inl rfl, Or.inl rfl, Or.inr rfl, Or.inr rfl, Or.inr rfl, trivial⟩ (by omega) (by omega), fun w2 => ⟨fun w3 => ⟨fun _ => lw_next hN hL1 ho2 hR2 (wf_isFree hW) (fun a h => (ho2 a (Or.inr (by omega))).trans (g1 a (by omega) (by omega))) hc ht ⟨Or.inl rfl, Or.inl rfl, Or.inl rfl, Or.inl rfl, Or.inl rfl, Or.inl rfl, Or.inr rfl, Or.inr rfl, Or.inr rfl, trivial⟩ (by omega) (by omega), fun w4 => absurd (lw_lc ((k2 (Classical.not_not.mp w2)).trans w3)) w4⟩, fun w3 => ⟨fun _ => lw_next hN hL1 ho2 hR2 (wf_isFree hW) (fun a h => (ho2 a (Or.inr (by omega))).trans (g1 a (by omega) (by omega))) hc ht ⟨Or.inl rfl, Or.inl rfl, Or.inl rfl, Or.inl rfl, Or.inl rfl, Or.inl rfl, Or.inr rfl, Or.inr rfl, Or.inr rfl, trivial⟩ (by omega) (by omega), fun w4 => absurd (lw_lc ((k2 (Classical.not_not.mp w2)).trans (b1.resolve_left w3))) w4⟩⟩⟩, fun w => absurd k1 w⟩
theorem lc_29 (hi : 0 ≤ i ∧ i + 2 < M 9998 0 ∧ M 9998 0 ≤ 1536) (hv : ∀ j, pm_r (M 9999 j)) (hL : Lab M s) (hR : Ref M s) (hW : wfs s) (hc : c + 10 ≤ 603072) (ht : t + 60 ≤ 7174250) (hN : lwN i n kd c t M) : lwW (1663, [some (.inr (.inl (999, 9999))), some (.inr (.inl (8, 0))), some (.inr (.inl (9, 97))), some (.inr (.inl (3001, 122))), some (.inr (.inl (4001, 123))), some (.inl i), none, none, none], [], pm_m n kd M, c, t) := by
  refine ls_1663 (by omega) (by omega) (la_86 (by decide) hL hW (fun M1 hL1 ho1 => ?_))
  have g1 : ∀ a, 97 ≤ a → M1 a = M a := fun a h => ho1 a (Or.inr h)
  refine ls_1667 (by omega) (by omega) (ra_174 (by decide) (hR.cg (fun a h _ => g1 a h)) hW (fun M2 hR2 ho2 h0 => ?_))
  refine ls_1671 ⟨fun _ => ?_, fun w => absurd rfl w⟩
  exact lw_next hN hL1 ho2 hR2 (wf_freeSetCount hW) (fun a h => (ho2 a (Or.inr (by omega))).trans (g1 a (by omega))) hc ht ⟨Or.inl rfl, Or.inl rfl, Or.inl rfl, Or.inl rfl, Or.inl rfl, Or.inl rfl, Or.inr rfl, Or.inr rfl, Or.inr rfl, trivial⟩ (by omega) (by omega)
theorem lc_30 (hi : 0 ≤ i ∧ i + 2 < M 9998 0 ∧ M 9998 0 ≤ 1536) (hv : ∀ j, pm_r (M 9999 j)) (hL : Lab M s) (hR : Ref M s) (hW : wfs s) (hc : c + 10 ≤ 603072) (ht : t + 60 ≤ 7174250) (hN : lwN i n kd c t M) : lwW (1676, [some (.inr (.inl (999, 9999))), some (.inr (.inl (8, 0))), some (.inr (.inl (9, 97))), some (.inr (.inl (3001, 122))), some (.inr (.inl (4001, 123))), some (.inl i), none, none, none], [], pm_m n kd M, c, t) := by
  refine ls_1676 (by omega) (by omega) (⟨⟨by omega, by omega⟩, ⟨by omega, by omega⟩, ?_⟩)
  refine wr_225 (by decide) hL hW (hv _) (fun k M1 hL1 g1 hk => ?_)
  have e98 : M1 9998 = M 9998 := g1 9998 (by decide) (by decide)
  have e99 : M1 9999 = M 9999 := g1 9999 (by decide) (by decide)
  refine ls_1687 (by omega) (by omega) ?_
  rw [e98, e99]
  refine ⟨⟨by omega, by omega⟩, ⟨by omega, by omega⟩, ra_175 (by decide) (hR.cg (fun a h h2 => g1 a h (by omega))) hW (hv _) (RO.el (fun b M2 hR2 ho2 hb => ?_))⟩
  refine ls_1699 (by omega) (by omega) (sp_123 (by decide) ?_)
  obtain ⟨k1, k2⟩ := WK.tail hk hb (ho2 122 (by decide))
  exact ls_1705 ⟨fun _ => ⟨fun _ => lw_next hN hL1 ho2 hR2 (wf_freeSet hW) (fun a h => (ho2 a (Or.inr (by omega))).trans (g1 a (by omega) (by omega))) hc ht ⟨Or.inl rfl, Or.inl rfl, Or.inl rfl, Or.inl rfl, Or.inl rfl, Or.inl rfl, Or.inr rfl, Or.inr rfl, Or.inr rfl, trivial⟩ (by omega) (by omega), fun w2 => ⟨fun _ => lw_next hN hL1 ho2 hR2 (wf_freeSet hW) (fun a h => (ho2 a (Or.inr (by omega))).trans (g1 a (by omega) (by omega))) hc ht ⟨Or.inl rfl, Or.inl rfl, Or.inl rfl, Or.inl rfl, Or.inl rfl, Or.inl rfl, Or.inr rfl, Or.inr rfl, Or.inr rfl, trivial⟩ (by omega) (by omega), fun w3 => absurd (lw_lc (k2 (Classical.not_not.mp w2))) w3⟩⟩, fun w => absurd k1 w⟩
theorem lc_31 (hi : 0 ≤ i ∧ i + 2 < M 9998 0 ∧ M 9998 0 ≤ 1536) (hv : ∀ j, pm_r (M 9999 j)) (hL : Lab M s) (hR : Ref M s) (hW : wfs s) (hc : c + 10 ≤ 603072) (ht : t + 60 ≤ 7174250) (hN : lwN i n kd c t M) : lwW (1732, [some (.inr (.inl (999, 9999))), some (.inr (.inl (8, 0))), some (.inr (.inl (9, 97))), some (.inr (.inl (3001, 122))), some (.inr (.inl (4001, 123))), some (.inl i), none, none, none], [], pm_m n kd M, c, t) := by
  refine ls_1732 (by omega) (by omega) (⟨⟨by omega, by omega⟩, ⟨by omega, by omega⟩, ?_⟩)
  refine wr_226 (by decide) hL hW (hv _) (fun k M1 hL1 g1 hk => ?_)
  have e98 : M1 9998 = M 9998 := g1 9998 (by decide) (by decide)
  have e99 : M1 9999 = M 9999 := g1 9999 (by decide) (by decide)
  refine ls_1743 (by omega) (by omega) ?_
  rw [e98, e99]
  refine ⟨⟨by omega, by omega⟩, ⟨by omega, by omega⟩, ra_176 (by decide) (hR.cg (fun a h h2 => g1 a h (by omega))) hW (hv _) (RO.el (fun b M2 hR2 ho2 hb => ?_))⟩
  refine ls_1755 (by omega) (by omega) (sp_123 (by decide) ?_)
  obtain ⟨k1, k2⟩ := WK.tail hk hb (ho2 122 (by decide))
  exact ls_1761 ⟨fun _ => ⟨fun _ => lw_next hN hL1 ho2 hR2 (wf_delete hW) (fun a h => (ho2 a (Or.inr (by omega))).trans (g1 a (by omega) (by omega))) hc ht ⟨Or.inl rfl, Or.inl rfl, Or.inl rfl, Or.inl rfl, Or.inl rfl, Or.inl rfl, Or.inr rfl, Or.inr rfl, Or.inr rfl, trivial⟩ (by omega) (by omega), fun w2 => ⟨fun _ => lw_next hN hL1 ho2 hR2 (wf_delete hW) (fun a h => (ho2 a (Or.inr (by omega))).trans (g1 a (by omega) (by omega))) hc ht ⟨Or.inl rfl, Or.inl rfl, Or.inl rfl, Or.inl rfl, Or.inl rfl, Or.inl rfl, Or.inr rfl, Or.inr rfl, Or.inr rfl, trivial⟩ (by omega) (by omega), fun w3 => absurd (lw_lc (k2 (Classical.not_not.mp w2))) w3⟩⟩, fun w => absurd k1 w⟩
theorem lc_32 (hi : 0 ≤ i ∧ i + 2 < M 9998 0 ∧ M 9998 0 ≤ 1536) (hv : ∀ j, pm_r (M 9999 j)) (hL : Lab M s) (hR : Ref M s) (hW : wfs s) (hc : c + 10 ≤ 603072) (ht : t + 60 ≤ 7174250) (hN : lwN i n kd c t M) : lwW (1788, [some (.inr (.inl (999, 9999))), some (.inr (.inl (8, 0))), some (.inr (.inl (9, 97))), some (.inr (.inl (3001, 122))), some (.inr (.inl (4001, 123))), some (.inl i), none, none, none], [], pm_m n kd M, c, t) := by
  refine ls_1788 (by omega) (by omega) (la_89 (by decide) hL hW (fun M1 hL1 ho1 => ?_))
  have g1 : ∀ a, 97 ≤ a → M1 a = M a := fun a h => ho1 a (Or.inr h)
  refine ls_1792 (by omega) (by omega) (ra_178 (by decide) (hR.cg (fun a h _ => g1 a h)) hW (fun M2 hR2 ho2 h0 => ?_))
  refine ls_1796 ⟨fun _ => ?_, fun w => absurd rfl w⟩
  exact lw_next hN hL1 ho2 hR2 (wf_isUnavoidable hW) (fun a h => (ho2 a (Or.inr (by omega))).trans (g1 a (by omega))) hc ht ⟨Or.inl rfl, Or.inl rfl, Or.inl rfl, Or.inl rfl, Or.inl rfl, Or.inl rfl, Or.inr rfl, Or.inr rfl, Or.inr rfl, trivial⟩ (by omega) (by omega)
theorem lc_33 (hi : 0 ≤ i ∧ i + 2 < M 9998 0 ∧ M 9998 0 ≤ 1536) (hv : ∀ j, pm_r (M 9999 j)) (hL : Lab M s) (hR : Ref M s) (hW : wfs s) (hc : c + 10 ≤ 603072) (ht : t + 60 ≤ 7174250) (hN : lwN i n kd c t M) : lwW (1801, [some (.inr (.inl (999, 9999))), some (.inr (.inl (8, 0))), some (.inr (.inl (9, 97))), some (.inr (.inl (3001, 122))), some (.inr (.inl (4001, 123))), some (.inl i), none, none, none], [], pm_m n kd M, c, t) := by
  refine ls_1801 (by omega) (by omega) (?_)
  refine wr_227 (by decide) hL hW (fun k M1 hL1 g1 hk => ?_)
  have e98 : M1 9998 = M 9998 := g1 9998 (by decide) (by decide)
  have e99 : M1 9999 = M 9999 := g1 9999 (by decide) (by decide)
  refine ls_1806 (by omega) (by omega) ?_
  refine ra_179 (by decide) (hR.cg (fun a h h2 => g1 a h (by omega))) hW (RO.el (fun b M2 hR2 ho2 hb => ?_))
  refine ls_1812 (by omega) (by omega) (sp_123 (by decide) ?_)
  obtain ⟨k1, k2⟩ := WK.tail hk hb (ho2 122 (by decide))
  exact ls_1818 ⟨fun _ => ⟨fun _ => lw_next hN hL1 ho2 hR2 (wf_reductionLength hW) (fun a h => (ho2 a (Or.inr (by omega))).trans (g1 a (by omega) (by omega))) hc ht ⟨Or.inl rfl, Or.inl rfl, Or.inl rfl, Or.inl rfl, Or.inl rfl, Or.inl rfl, Or.inr rfl, Or.inr rfl, Or.inr rfl, trivial⟩ (by omega) (by omega), fun w2 => ⟨fun _ => lw_next hN hL1 ho2 hR2 (wf_reductionLength hW) (fun a h => (ho2 a (Or.inr (by omega))).trans (g1 a (by omega) (by omega))) hc ht ⟨Or.inl rfl, Or.inl rfl, Or.inl rfl, Or.inl rfl, Or.inl rfl, Or.inl rfl, Or.inr rfl, Or.inr rfl, Or.inr rfl, trivial⟩ (by omega) (by omega), fun w3 => absurd (lw_lc (k2 (Classical.not_not.mp w2))) w3⟩⟩, fun w => absurd k1 w⟩
theorem lc_34 (hi : 0 ≤ i ∧ i + 2 < M 9998 0 ∧ M 9998 0 ≤ 1536) (hv : ∀ j, pm_r (M 9999 j)) (hL : Lab M s) (hR : Ref M s) (hW : wfs s) (hc : c + 10 ≤ 603072) (ht : t + 60 ≤ 7174250) (hN : lwN i n kd c t M) : lwW (1845, [some (.inr (.inl (999, 9999))), some (.inr (.inl (8, 0))), some (.inr (.inl (9, 97))), some (.inr (.inl (3001, 122))), some (.inr (.inl (4001, 123))), some (.inl i), none, none, none], [], pm_m n kd M, c, t) := by
  refine ls_1845 (by omega) (by omega) (⟨⟨by omega, by omega⟩, ⟨by omega, by omega⟩, ?_⟩)
  refine wr_228 (by decide) hL hW (fun k M1 hL1 g1 hk => ?_)
  have e98 : M1 9998 = M 9998 := g1 9998 (by decide) (by decide)
  have e99 : M1 9999 = M 9999 := g1 9999 (by decide) (by decide)
  refine ls_1856 (by omega) (by omega) ?_
  rw [e98, e99]
  refine ⟨⟨by omega, by omega⟩, ⟨by omega, by omega⟩, ra_180 (by decide) (hR.cg (fun a h h2 => g1 a h (by omega))) hW (RO.el (fun b M2 hR2 ho2 hb => ?_))⟩
  refine ls_1868 (by omega) (by omega) (sp_123 (by decide) ?_)
  obtain ⟨k1, k2⟩ := WK.tail hk hb (ho2 122 (by decide))
  exact ls_1874 ⟨fun _ => ⟨fun _ => lw_next hN hL1 ho2 hR2 (wf_reductionSet hW) (fun a h => (ho2 a (Or.inr (by omega))).trans (g1 a (by omega) (by omega))) hc ht ⟨Or.inl rfl, Or.inl rfl, Or.inl rfl, Or.inl rfl, Or.inl rfl, Or.inl rfl, Or.inr rfl, Or.inr rfl, Or.inr rfl, trivial⟩ (by omega) (by omega), fun w2 => ⟨fun _ => lw_next hN hL1 ho2 hR2 (wf_reductionSet hW) (fun a h => (ho2 a (Or.inr (by omega))).trans (g1 a (by omega) (by omega))) hc ht ⟨Or.inl rfl, Or.inl rfl, Or.inl rfl, Or.inl rfl, Or.inl rfl, Or.inl rfl, Or.inr rfl, Or.inr rfl, Or.inr rfl, trivial⟩ (by omega) (by omega), fun w3 => absurd (lw_lc (k2 (Classical.not_not.mp w2))) w3⟩⟩, fun w => absurd k1 w⟩
theorem lc_35 (hi : 0 ≤ i ∧ i + 2 < M 9998 0 ∧ M 9998 0 ≤ 1536) (hv : ∀ j, pm_r (M 9999 j)) (hL : Lab M s) (hR : Ref M s) (hW : wfs s) (hc : c + 10 ≤ 603072) (ht : t + 60 ≤ 7174250) (hN : lwN i n kd c t M) : lwW (1901, [some (.inr (.inl (999, 9999))), some (.inr (.inl (8, 0))), some (.inr (.inl (9, 97))), some (.inr (.inl (3001, 122))), some (.inr (.inl (4001, 123))), some (.inl i), none, none, none], [], pm_m n kd M, c, t) := by
  refine ls_1901 (by omega) (by omega) (⟨⟨by omega, by omega⟩, ⟨by omega, by omega⟩, ?_⟩)
  refine wr_229 (by decide) hL hW (fun k M1 hL1 g1 hk => ?_)
  have e98 : M1 9998 = M 9998 := g1 9998 (by decide) (by decide)
  have e99 : M1 9999 = M 9999 := g1 9999 (by decide) (by decide)
  refine ls_1912 (by omega) (by omega) ?_
  rw [e98, e99]
  refine ⟨⟨by omega, by omega⟩, ⟨by omega, by omega⟩, ra_184 (by decide) (hR.cg (fun a h h2 => g1 a h (by omega))) hW (RO.el (fun b M2 hR2 ho2 hb => ?_))⟩
  refine ls_1924 (by omega) (by omega) (sp_123 (by decide) ?_)
  obtain ⟨k1, k2⟩ := WK.tail hk hb (ho2 122 (by decide))
  exact ls_1930 ⟨fun _ => ⟨fun _ => lw_next hN hL1 ho2 hR2 (wf_extend hW) (fun a h => (ho2 a (Or.inr (by omega))).trans (g1 a (by omega) (by omega))) hc ht ⟨Or.inl rfl, Or.inl rfl, Or.inl rfl, Or.inl rfl, Or.inl rfl, Or.inl rfl, Or.inr rfl, Or.inr rfl, Or.inr rfl, trivial⟩ (by omega) (by omega), fun w2 => ⟨fun _ => lw_next hN hL1 ho2 hR2 (wf_extend hW) (fun a h => (ho2 a (Or.inr (by omega))).trans (g1 a (by omega) (by omega))) hc ht ⟨Or.inl rfl, Or.inl rfl, Or.inl rfl, Or.inl rfl, Or.inl rfl, Or.inl rfl, Or.inr rfl, Or.inr rfl, Or.inr rfl, trivial⟩ (by omega) (by omega), fun w3 => absurd (lw_lc (k2 (Classical.not_not.mp w2))) w3⟩⟩, fun w => absurd k1 w⟩
theorem lc_36 (hi : 0 ≤ i ∧ i + 2 < M 9998 0 ∧ M 9998 0 ≤ 1536) (hv : ∀ j, pm_r (M 9999 j)) (hL : Lab M s) (hR : Ref M s) (hW : wfs s) (hc : c + 10 ≤ 603072) (ht : t + 60 ≤ 7174250) (hN : lwN i n kd c t M) : lwW (1957, [some (.inr (.inl (999, 9999))), some (.inr (.inl (8, 0))), some (.inr (.inl (9, 97))), some (.inr (.inl (3001, 122))), some (.inr (.inl (4001, 123))), some (.inl i), none, none, none], [], pm_m n kd M, c, t) := by
  refine ls_1957 (by omega) (by omega) (⟨⟨by omega, by omega⟩, ⟨by omega, by omega⟩, ?_⟩)
  refine wr_230 (by decide) hL hW (fun k M1 hL1 g1 hk => ?_)
  have e98 : M1 9998 = M 9998 := g1 9998 (by decide) (by decide)
  have e99 : M1 9999 = M 9999 := g1 9999 (by decide) (by decide)
  refine ls_1968 (by omega) (by omega) ?_
  rw [e98, e99]
  refine ⟨⟨by omega, by omega⟩, ⟨by omega, by omega⟩, ra_185 (by decide) (hR.cg (fun a h h2 => g1 a h (by omega))) hW (RO.el (fun b M2 hR2 ho2 hb => ?_))⟩
  refine ls_1980 (by omega) (by omega) (sp_123 (by decide) ?_)
  obtain ⟨k1, k2⟩ := WK.tail hk hb (ho2 122 (by decide))
  exact ls_1986 ⟨fun _ => ⟨fun _ => lw_next hN hL1 ho2 hR2 (wf_longestAvoiding hW) (fun a h => (ho2 a (Or.inr (by omega))).trans (g1 a (by omega) (by omega))) hc ht ⟨Or.inl rfl, Or.inl rfl, Or.inl rfl, Or.inl rfl, Or.inl rfl, Or.inl rfl, Or.inr rfl, Or.inr rfl, Or.inr rfl, trivial⟩ (by omega) (by omega), fun w2 => ⟨fun _ => lw_next hN hL1 ho2 hR2 (wf_longestAvoiding hW) (fun a h => (ho2 a (Or.inr (by omega))).trans (g1 a (by omega) (by omega))) hc ht ⟨Or.inl rfl, Or.inl rfl, Or.inl rfl, Or.inl rfl, Or.inl rfl, Or.inl rfl, Or.inr rfl, Or.inr rfl, Or.inr rfl, trivial⟩ (by omega) (by omega), fun w3 => absurd (lw_lc (k2 (Classical.not_not.mp w2))) w3⟩⟩, fun w => absurd k1 w⟩
theorem lc_37 (hi : 0 ≤ i ∧ i + 2 < M 9998 0 ∧ M 9998 0 ≤ 1536) (hv : ∀ j, pm_r (M 9999 j)) (hL : Lab M s) (hR : Ref M s) (hW : wfs s) (hc : c + 10 ≤ 603072) (ht : t + 60 ≤ 7174250) (hN : lwN i n kd c t M) : lwW (2013, [some (.inr (.inl (999, 9999))), some (.inr (.inl (8, 0))), some (.inr (.inl (9, 97))), some (.inr (.inl (3001, 122))), some (.inr (.inl (4001, 123))), some (.inl i), none, none, none], [], pm_m n kd M, c, t) := by
  refine ls_2013 (by omega) (by omega) (⟨⟨by omega, by omega⟩, ⟨by omega, by omega⟩, ?_⟩)
  refine wr_231 (by decide) hL hW (fun k M1 hL1 g1 hk => ?_)
  have e98 : M1 9998 = M 9998 := g1 9998 (by decide) (by decide)
  have e99 : M1 9999 = M 9999 := g1 9999 (by decide) (by decide)
  refine ls_2024 (by omega) (by omega) ?_
  rw [e98, e99]
  refine ⟨⟨by omega, by omega⟩, ⟨by omega, by omega⟩, ra_189 (by decide) (hR.cg (fun a h h2 => g1 a h (by omega))) hW (RO.el (fun b M2 hR2 ho2 hb => ?_))⟩
  refine ls_2036 (by omega) (by omega) (sp_123 (by decide) ?_)
  obtain ⟨k1, k2⟩ := WK.tail hk hb (ho2 122 (by decide))
  exact ls_2042 ⟨fun _ => ⟨fun _ => lw_next hN hL1 ho2 hR2 (wf_countAvoiding hW) (fun a h => (ho2 a (Or.inr (by omega))).trans (g1 a (by omega) (by omega))) hc ht ⟨Or.inl rfl, Or.inl rfl, Or.inl rfl, Or.inl rfl, Or.inl rfl, Or.inl rfl, Or.inr rfl, Or.inr rfl, Or.inr rfl, trivial⟩ (by omega) (by omega), fun w2 => ⟨fun _ => lw_next hN hL1 ho2 hR2 (wf_countAvoiding hW) (fun a h => (ho2 a (Or.inr (by omega))).trans (g1 a (by omega) (by omega))) hc ht ⟨Or.inl rfl, Or.inl rfl, Or.inl rfl, Or.inl rfl, Or.inl rfl, Or.inl rfl, Or.inr rfl, Or.inr rfl, Or.inr rfl, trivial⟩ (by omega) (by omega), fun w3 => absurd (lw_lc (k2 (Classical.not_not.mp w2))) w3⟩⟩, fun w => absurd k1 w⟩
theorem lc_38 (hi : 0 ≤ i ∧ i + 2 < M 9998 0 ∧ M 9998 0 ≤ 1536) (hv : ∀ j, pm_r (M 9999 j)) (hL : Lab M s) (hR : Ref M s) (hW : wfs s) (hc : c + 10 ≤ 603072) (ht : t + 60 ≤ 7174250) (hN : lwN i n kd c t M) : lwW (2069, [some (.inr (.inl (999, 9999))), some (.inr (.inl (8, 0))), some (.inr (.inl (9, 97))), some (.inr (.inl (3001, 122))), some (.inr (.inl (4001, 123))), some (.inl i), none, none, none], [], pm_m n kd M, c, t) := by
  refine ls_2069 (by omega) (by omega) (⟨⟨by omega, by omega⟩, ⟨by omega, by omega⟩, ?_⟩)
  refine wr_232 (by decide) hL hW (fun k M1 hL1 g1 hk => ?_)
  have e98 : M1 9998 = M 9998 := g1 9998 (by decide) (by decide)
  have e99 : M1 9999 = M 9999 := g1 9999 (by decide) (by decide)
  refine ls_2081 (by omega) (by omega) ?_
  rw [e98, e99]
  refine ⟨⟨by omega, by omega⟩, ⟨by omega, by omega⟩, ra_190 (by decide) (hR.cg (fun a h h2 => g1 a h (by omega))) hW (ROd.el (fun b M2 hR2 ho2 hb => ?_))⟩
  refine ls_2093 (by omega) (by omega) (sp_123 (by decide) ?_)
  obtain ⟨k1, k2⟩ := WKd.tail hk hb (ho2 123 (by decide))
  exact ls_2099 ⟨fun _ => ⟨fun _ => lw_next hN hL1 ho2 hR2 hW (fun a h => (ho2 a (Or.inr (by omega))).trans (g1 a (by omega) (by omega))) hc ht ⟨Or.inl rfl, Or.inl rfl, Or.inl rfl, Or.inl rfl, Or.inl rfl, Or.inl rfl, Or.inr rfl, Or.inr rfl, Or.inr rfl, trivial⟩ (by omega) (by omega), fun w2 => ⟨fun _ => lw_next hN hL1 ho2 hR2 hW (fun a h => (ho2 a (Or.inr (by omega))).trans (g1 a (by omega) (by omega))) hc ht ⟨Or.inl rfl, Or.inl rfl, Or.inl rfl, Or.inl rfl, Or.inl rfl, Or.inl rfl, Or.inr rfl, Or.inr rfl, Or.inr rfl, trivial⟩ (by omega) (by omega), fun w3 => absurd (k2 (Classical.not_not.mp w2)) w3⟩⟩, fun w => absurd k1 w⟩
theorem lc_39 (hi : 0 ≤ i ∧ i + 2 < M 9998 0 ∧ M 9998 0 ≤ 1536) (hv : ∀ j, pm_r (M 9999 j)) (hL : Lab M s) (hR : Ref M s) (hW : wfs s) (hc : c + 10 ≤ 603072) (ht : t + 60 ≤ 7174250) (hN : lwN i n kd c t M) : lwW (2146, [some (.inr (.inl (999, 9999))), some (.inr (.inl (8, 0))), some (.inr (.inl (9, 97))), some (.inr (.inl (3001, 122))), some (.inr (.inl (4001, 123))), some (.inl i), none, none, none], [], pm_m n kd M, c, t) := by
  refine ls_2146 (by omega) (by omega) (⟨⟨by omega, by omega⟩, ⟨by omega, by omega⟩, ⟨by omega, by omega⟩, ⟨by omega, by omega⟩, ?_⟩)
  refine wr_233 (by decide) hL hW (fun k M1 hL1 g1 hk => ?_)
  have e98 : M1 9998 = M 9998 := g1 9998 (by decide) (by decide)
  have e99 : M1 9999 = M 9999 := g1 9999 (by decide) (by decide)
  refine ls_2163 (by omega) (by omega) ?_
  rw [e98, e99]
  refine ⟨⟨by omega, by omega⟩, ⟨by omega, by omega⟩, ⟨by omega, by omega⟩, ⟨by omega, by omega⟩, ra_191 (by decide) (hR.cg (fun a h h2 => g1 a h (by omega))) hW (RO.el (fun b M2 hR2 ho2 hb => ?_))⟩
  refine ls_2181 (by omega) (by omega) (sp_123 (by decide) ?_)
  obtain ⟨k1, k2⟩ := WK.tail hk hb (ho2 122 (by decide))
  exact ls_2187 ⟨fun _ => ⟨fun _ => lw_next hN hL1 ho2 hR2 (wf_appendImage hW) (fun a h => (ho2 a (Or.inr (by omega))).trans (g1 a (by omega) (by omega))) hc ht ⟨Or.inl rfl, Or.inl rfl, Or.inl rfl, Or.inl rfl, Or.inl rfl, Or.inl rfl, Or.inr rfl, Or.inr rfl, Or.inr rfl, trivial⟩ (by omega) (by omega), fun w2 => ⟨fun _ => lw_next hN hL1 ho2 hR2 (wf_appendImage hW) (fun a h => (ho2 a (Or.inr (by omega))).trans (g1 a (by omega) (by omega))) hc ht ⟨Or.inl rfl, Or.inl rfl, Or.inl rfl, Or.inl rfl, Or.inl rfl, Or.inl rfl, Or.inr rfl, Or.inr rfl, Or.inr rfl, trivial⟩ (by omega) (by omega), fun w3 => absurd (lw_lc (k2 (Classical.not_not.mp w2))) w3⟩⟩, fun w => absurd k1 w⟩
theorem lc_40 (hi : 0 ≤ i ∧ i + 2 < M 9998 0 ∧ M 9998 0 ≤ 1536) (hv : ∀ j, pm_r (M 9999 j)) (hL : Lab M s) (hR : Ref M s) (hW : wfs s) (hc : c + 10 ≤ 603072) (ht : t + 60 ≤ 7174250) (hN : lwN i n kd c t M) : lwW (2214, [some (.inr (.inl (999, 9999))), some (.inr (.inl (8, 0))), some (.inr (.inl (9, 97))), some (.inr (.inl (3001, 122))), some (.inr (.inl (4001, 123))), some (.inl i), none, none, none], [], pm_m n kd M, c, t) := by
  refine ls_2214 (by omega) (by omega) (⟨⟨by omega, by omega⟩, ⟨by omega, by omega⟩, ?_⟩)
  refine wr_234 (by decide) hL hW (fun k M1 hL1 g1 hk => ?_)
  have e98 : M1 9998 = M 9998 := g1 9998 (by decide) (by decide)
  have e99 : M1 9999 = M 9999 := g1 9999 (by decide) (by decide)
  refine ls_2225 (by omega) (by omega) ?_
  rw [e98, e99]
  refine ⟨⟨by omega, by omega⟩, ⟨by omega, by omega⟩, ra_192 (by decide) (hR.cg (fun a h h2 => g1 a h (by omega))) hW (RO.el (fun b M2 hR2 ho2 hb => ?_))⟩
  refine ls_2237 (by omega) (by omega) (sp_123 (by decide) ?_)
  obtain ⟨k1, k2⟩ := WK.tail hk hb (ho2 122 (by decide))
  exact ls_2243 ⟨fun _ => ⟨fun _ => lw_next hN hL1 ho2 hR2 (wf_clearImage hW) (fun a h => (ho2 a (Or.inr (by omega))).trans (g1 a (by omega) (by omega))) hc ht ⟨Or.inl rfl, Or.inl rfl, Or.inl rfl, Or.inl rfl, Or.inl rfl, Or.inl rfl, Or.inr rfl, Or.inr rfl, Or.inr rfl, trivial⟩ (by omega) (by omega), fun w2 => ⟨fun _ => lw_next hN hL1 ho2 hR2 (wf_clearImage hW) (fun a h => (ho2 a (Or.inr (by omega))).trans (g1 a (by omega) (by omega))) hc ht ⟨Or.inl rfl, Or.inl rfl, Or.inl rfl, Or.inl rfl, Or.inl rfl, Or.inl rfl, Or.inr rfl, Or.inr rfl, Or.inr rfl, trivial⟩ (by omega) (by omega), fun w3 => absurd (lw_lc (k2 (Classical.not_not.mp w2))) w3⟩⟩, fun w => absurd k1 w⟩
theorem lc_41 (hi : 0 ≤ i ∧ i + 2 < M 9998 0 ∧ M 9998 0 ≤ 1536) (hv : ∀ j, pm_r (M 9999 j)) (hL : Lab M s) (hR : Ref M s) (hW : wfs s) (hc : c + 10 ≤ 603072) (ht : t + 60 ≤ 7174250) (hN : lwN i n kd c t M) : lwW (2270, [some (.inr (.inl (999, 9999))), some (.inr (.inl (8, 0))), some (.inr (.inl (9, 97))), some (.inr (.inl (3001, 122))), some (.inr (.inl (4001, 123))), some (.inl i), none, none, none], [], pm_m n kd M, c, t) := by
  refine ls_2270 (by omega) (by omega) (?_)
  refine wr_235 (by decide) hL hW (fun k M1 hL1 g1 hk => ?_)
  have e98 : M1 9998 = M 9998 := g1 9998 (by decide) (by decide)
  have e99 : M1 9999 = M 9999 := g1 9999 (by decide) (by decide)
  refine ls_2275 (by omega) (by omega) ?_
  refine ra_195 (by decide) (hR.cg (fun a h h2 => g1 a h (by omega))) hW (RO.el (fun b M2 hR2 ho2 hb => ?_))
  refine ls_2281 (by omega) (by omega) (sp_123 (by decide) ?_)
  obtain ⟨k1, k2⟩ := WK.tail hk hb (ho2 122 (by decide))
  exact ls_2287 ⟨fun _ => ⟨fun _ => lw_next hN hL1 ho2 hR2 (wf_applyMorphism hW) (fun a h => (ho2 a (Or.inr (by omega))).trans (g1 a (by omega) (by omega))) hc ht ⟨Or.inl rfl, Or.inl rfl, Or.inl rfl, Or.inl rfl, Or.inl rfl, Or.inl rfl, Or.inr rfl, Or.inr rfl, Or.inr rfl, trivial⟩ (by omega) (by omega), fun w2 => ⟨fun _ => lw_next hN hL1 ho2 hR2 (wf_applyMorphism hW) (fun a h => (ho2 a (Or.inr (by omega))).trans (g1 a (by omega) (by omega))) hc ht ⟨Or.inl rfl, Or.inl rfl, Or.inl rfl, Or.inl rfl, Or.inl rfl, Or.inl rfl, Or.inr rfl, Or.inr rfl, Or.inr rfl, trivial⟩ (by omega) (by omega), fun w3 => absurd (lw_lc (k2 (Classical.not_not.mp w2))) w3⟩⟩, fun w => absurd k1 w⟩
theorem lc_42 (hi : 0 ≤ i ∧ i + 2 < M 9998 0 ∧ M 9998 0 ≤ 1536) (hv : ∀ j, pm_r (M 9999 j)) (hL : Lab M s) (hR : Ref M s) (hW : wfs s) (hc : c + 10 ≤ 603072) (ht : t + 60 ≤ 7174250) (hN : lwN i n kd c t M) : lwW (2314, [some (.inr (.inl (999, 9999))), some (.inr (.inl (8, 0))), some (.inr (.inl (9, 97))), some (.inr (.inl (3001, 122))), some (.inr (.inl (4001, 123))), some (.inl i), none, none, none], [], pm_m n kd M, c, t) := by
  refine ls_2314 (by omega) (by omega) (⟨⟨by omega, by omega⟩, ⟨by omega, by omega⟩, ⟨by omega, by omega⟩, ⟨by omega, by omega⟩, ?_⟩)
  refine wr_236 (by decide) hL hW (fun k M1 hL1 g1 hk => ?_)
  have e98 : M1 9998 = M 9998 := g1 9998 (by decide) (by decide)
  have e99 : M1 9999 = M 9999 := g1 9999 (by decide) (by decide)
  refine ls_2331 (by omega) (by omega) ?_
  rw [e98, e99]
  refine ⟨⟨by omega, by omega⟩, ⟨by omega, by omega⟩, ⟨by omega, by omega⟩, ⟨by omega, by omega⟩, ra_196 (by decide) (hR.cg (fun a h h2 => g1 a h (by omega))) hW (RO.el (fun b M2 hR2 ho2 hb => ?_))⟩
  refine ls_2349 (by omega) (by omega) (sp_123 (by decide) ?_)
  obtain ⟨k1, k2⟩ := WK.tail hk hb (ho2 122 (by decide))
  exact ls_2355 ⟨fun _ => ⟨fun _ => lw_next hN hL1 ho2 hR2 (wf_iterate hW) (fun a h => (ho2 a (Or.inr (by omega))).trans (g1 a (by omega) (by omega))) hc ht ⟨Or.inl rfl, Or.inl rfl, Or.inl rfl, Or.inl rfl, Or.inl rfl, Or.inl rfl, Or.inr rfl, Or.inr rfl, Or.inr rfl, trivial⟩ (by omega) (by omega), fun w2 => ⟨fun _ => lw_next hN hL1 ho2 hR2 (wf_iterate hW) (fun a h => (ho2 a (Or.inr (by omega))).trans (g1 a (by omega) (by omega))) hc ht ⟨Or.inl rfl, Or.inl rfl, Or.inl rfl, Or.inl rfl, Or.inl rfl, Or.inl rfl, Or.inr rfl, Or.inr rfl, Or.inr rfl, trivial⟩ (by omega) (by omega), fun w3 => absurd (lw_lc (k2 (Classical.not_not.mp w2))) w3⟩⟩, fun w => absurd k1 w⟩
theorem lc_43 (hi : 0 ≤ i ∧ i + 2 < M 9998 0 ∧ M 9998 0 ≤ 1536) (hv : ∀ j, pm_r (M 9999 j)) (hL : Lab M s) (hR : Ref M s) (hW : wfs s) (hc : c + 10 ≤ 603072) (ht : t + 60 ≤ 7174250) (hN : lwN i n kd c t M) : lwW (2382, [some (.inr (.inl (999, 9999))), some (.inr (.inl (8, 0))), some (.inr (.inl (9, 97))), some (.inr (.inl (3001, 122))), some (.inr (.inl (4001, 123))), some (.inl i), none, none, none], [], pm_m n kd M, c, t) := by
  refine ls_2382 (by omega) (by omega) (⟨⟨by omega, by omega⟩, ⟨by omega, by omega⟩, ⟨by omega, by omega⟩, ⟨by omega, by omega⟩, ?_⟩)
  refine wr_237 (by decide) hL hW (fun k M1 hL1 g1 hk => ?_)
  have e98 : M1 9998 = M 9998 := g1 9998 (by decide) (by decide)
  have e99 : M1 9999 = M 9999 := g1 9999 (by decide) (by decide)
  refine ls_2399 (by omega) (by omega) ?_
  rw [e98, e99]
  refine ⟨⟨by omega, by omega⟩, ⟨by omega, by omega⟩, ⟨by omega, by omega⟩, ⟨by omega, by omega⟩, ra_199 (by decide) (hR.cg (fun a h h2 => g1 a h (by omega))) hW (RO.el (fun b M2 hR2 ho2 hb => ?_))⟩
  refine ls_2417 (by omega) (by omega) (sp_123 (by decide) ?_)
  obtain ⟨k1, k2⟩ := WK.tail hk hb (ho2 122 (by decide))
  exact ls_2423 ⟨fun _ => ⟨fun _ => lw_next hN hL1 ho2 hR2 (wf_findMorphism hW) (fun a h => (ho2 a (Or.inr (by omega))).trans (g1 a (by omega) (by omega))) hc ht ⟨Or.inl rfl, Or.inl rfl, Or.inl rfl, Or.inl rfl, Or.inl rfl, Or.inl rfl, Or.inr rfl, Or.inr rfl, Or.inr rfl, trivial⟩ (by omega) (by omega), fun w2 => ⟨fun _ => lw_next hN hL1 ho2 hR2 (wf_findMorphism hW) (fun a h => (ho2 a (Or.inr (by omega))).trans (g1 a (by omega) (by omega))) hc ht ⟨Or.inl rfl, Or.inl rfl, Or.inl rfl, Or.inl rfl, Or.inl rfl, Or.inl rfl, Or.inr rfl, Or.inr rfl, Or.inr rfl, trivial⟩ (by omega) (by omega), fun w3 => absurd (lw_lc (k2 (Classical.not_not.mp w2))) w3⟩⟩, fun w => absurd k1 w⟩
theorem lc_44 (hi : 0 ≤ i ∧ i + 2 < M 9998 0 ∧ M 9998 0 ≤ 1536) (hv : ∀ j, pm_r (M 9999 j)) (hL : Lab M s) (hR : Ref M s) (hW : wfs s) (hc : c + 10 ≤ 603072) (ht : t + 60 ≤ 7174250) (hN : lwN i n kd c t M) : lwW (2450, [some (.inr (.inl (999, 9999))), some (.inr (.inl (8, 0))), some (.inr (.inl (9, 97))), some (.inr (.inl (3001, 122))), some (.inr (.inl (4001, 123))), some (.inl i), none, none, none], [], pm_m n kd M, c, t) := by
  refine ls_2450 (by omega) (by omega) (⟨⟨by omega, by omega⟩, ⟨by omega, by omega⟩, ?_⟩)
  refine wr_238 (by decide) hL hW (fun k M1 hL1 g1 hk => ?_)
  have e98 : M1 9998 = M 9998 := g1 9998 (by decide) (by decide)
  have e99 : M1 9999 = M 9999 := g1 9999 (by decide) (by decide)
  refine ls_2461 (by omega) (by omega) ?_
  rw [e98, e99]
  refine ⟨⟨by omega, by omega⟩, ⟨by omega, by omega⟩, ra_200 (by decide) (hR.cg (fun a h h2 => g1 a h (by omega))) hW (RO.el (fun b M2 hR2 ho2 hb => ?_))⟩
  refine ls_2473 (by omega) (by omega) (sp_123 (by decide) ?_)
  obtain ⟨k1, k2⟩ := WK.tail hk hb (ho2 122 (by decide))
  exact ls_2479 ⟨fun _ => ⟨fun _ => lw_next hN hL1 ho2 hR2 (wf_countSpoiled hW) (fun a h => (ho2 a (Or.inr (by omega))).trans (g1 a (by omega) (by omega))) hc ht ⟨Or.inl rfl, Or.inl rfl, Or.inl rfl, Or.inl rfl, Or.inl rfl, Or.inl rfl, Or.inr rfl, Or.inr rfl, Or.inr rfl, trivial⟩ (by omega) (by omega), fun w2 => ⟨fun _ => lw_next hN hL1 ho2 hR2 (wf_countSpoiled hW) (fun a h => (ho2 a (Or.inr (by omega))).trans (g1 a (by omega) (by omega))) hc ht ⟨Or.inl rfl, Or.inl rfl, Or.inl rfl, Or.inl rfl, Or.inl rfl, Or.inl rfl, Or.inr rfl, Or.inr rfl, Or.inr rfl, trivial⟩ (by omega) (by omega), fun w3 => absurd (lw_lc (k2 (Classical.not_not.mp w2))) w3⟩⟩, fun w => absurd k1 w⟩
theorem lc_45 (hi : 0 ≤ i ∧ i + 2 < M 9998 0 ∧ M 9998 0 ≤ 1536) (hv : ∀ j, pm_r (M 9999 j)) (hL : Lab M s) (hR : Ref M s) (hW : wfs s) (hc : c + 10 ≤ 603072) (ht : t + 60 ≤ 7174250) (hN : lwN i n kd c t M) : lwW (2506, [some (.inr (.inl (999, 9999))), some (.inr (.inl (8, 0))), some (.inr (.inl (9, 97))), some (.inr (.inl (3001, 122))), some (.inr (.inl (4001, 123))), some (.inl i), none, none, none], [], pm_m n kd M, c, t) := by
  refine ls_2506 (by omega) (by omega) (la_102 (by decide) hL (fun M1 hL1 ho1 => ?_))
  have g1 : ∀ a, 97 ≤ a → M1 a = M a := fun a h => ho1 a (Or.inr h)
  refine ls_2510 (by omega) (by omega) (ra_201 (by decide) (hR.cg (fun a h _ => g1 a h)) hW (fun M2 hR2 ho2 h0 => ?_))
  refine ls_2514 ⟨fun _ => ?_, fun w => absurd rfl w⟩
  exact lw_next hN hL1 ho2 hR2 (wf_save hW) (fun a h => (ho2 a (Or.inr (by omega))).trans (g1 a (by omega))) hc ht ⟨Or.inl rfl, Or.inl rfl, Or.inl rfl, Or.inl rfl, Or.inl rfl, Or.inl rfl, Or.inr rfl, Or.inr rfl, Or.inr rfl, trivial⟩ (by omega) (by omega)
theorem lc_46 (hi : 0 ≤ i ∧ i + 2 < M 9998 0 ∧ M 9998 0 ≤ 1536) (hv : ∀ j, pm_r (M 9999 j)) (hL : Lab M s) (hR : Ref M s) (hW : wfs s) (hc : c + 10 ≤ 603072) (ht : t + 60 ≤ 7174250) (hN : lwN i n kd c t M) : lwW (2519, [some (.inr (.inl (999, 9999))), some (.inr (.inl (8, 0))), some (.inr (.inl (9, 97))), some (.inr (.inl (3001, 122))), some (.inr (.inl (4001, 123))), some (.inl i), none, none, none], [], pm_m n kd M, c, t) := by
  refine ls_2519 (by omega) (by omega) (?_)
  refine wr_239 (by decide) hL hW (fun k M1 hL1 g1 hk => ?_)
  have e98 : M1 9998 = M 9998 := g1 9998 (by decide) (by decide)
  have e99 : M1 9999 = M 9999 := g1 9999 (by decide) (by decide)
  refine ls_2524 (by omega) (by omega) ?_
  refine ra_202 (by decide) (hR.cg (fun a h h2 => g1 a h (by omega))) hW (RO.el (fun b M2 hR2 ho2 hb => ?_))
  refine ls_2530 (by omega) (by omega) (sp_123 (by decide) ?_)
  obtain ⟨k1, k2⟩ := WK.tail hk hb (ho2 122 (by decide))
  exact ls_2536 ⟨fun _ => ⟨fun _ => lw_next hN hL1 ho2 hR2 (wf_restore hW) (fun a h => (ho2 a (Or.inr (by omega))).trans (g1 a (by omega) (by omega))) hc ht ⟨Or.inl rfl, Or.inl rfl, Or.inl rfl, Or.inl rfl, Or.inl rfl, Or.inl rfl, Or.inr rfl, Or.inr rfl, Or.inr rfl, trivial⟩ (by omega) (by omega), fun w2 => ⟨fun _ => lw_next hN hL1 ho2 hR2 (wf_restore hW) (fun a h => (ho2 a (Or.inr (by omega))).trans (g1 a (by omega) (by omega))) hc ht ⟨Or.inl rfl, Or.inl rfl, Or.inl rfl, Or.inl rfl, Or.inl rfl, Or.inl rfl, Or.inr rfl, Or.inr rfl, Or.inr rfl, trivial⟩ (by omega) (by omega), fun w3 => absurd (lw_lc (k2 (Classical.not_not.mp w2))) w3⟩⟩, fun w => absurd k1 w⟩
end LCS

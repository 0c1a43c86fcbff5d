/-! THE LAW'S OWN METHODS AROUND A CALL OF THE CLASS (laid by wip/whole/gen_law.py) -/
theorem Ref.cg {M M' : Nat → Nat → Int} {s : stt} (h : Ref M s) (g : ∀ a, 97 ≤ a → a < 122 → M' a = M a) : Ref M' s := by
  have g97 : ∀ j, M' 97 j = M 97 j := fun j => by rw [g 97 (by decide) (by decide)]
  obtain ⟨⟨a, b, c, e, f, i⟩, h2, h3, h4⟩ := h
  exact ⟨⟨(g97 3).trans a, (g97 1).trans b, (g97 4).trans c, e.cg (g 98 (by decide) (by decide)), f.cg (g 99 (by decide) (by decide)), fun l hl => ⟨by rw [g 100 (by decide) (by decide)]; exact (i l hl).1, (i l hl).2.cg (g 101 (by decide) (by decide))⟩⟩, h2.cg (fun j _ _ => g97 j) (fun a h1 h2 => g a (by omega) (by omega)), fun i hi => (h3 i hi).cg (g 102 (by decide) (by decide)) (g 103 (by decide) (by decide)), h4.cg (g97 10) (g 104 (by decide) (by decide)) (g 105 (by decide) (by decide))⟩
/-- what the law's method answers: 0 and the answer laid into out, or the code -/
def WK (o : ans) (k : Int) (M : Nat → Nat → Int) : Prop := (k = 0 ∧ o.1 = .inl (M 122 0)) ∨ (∃ c : Nat, 1 ≤ c ∧ o.1 = .inr c ∧ k = (c : Int))
def WKd (o : UInt64 ⊕ Nat) (k : Int) (M : Nat → Nat → Int) : Prop := (k = 0 ∧ ∃ v : UInt64, o = .inl v ∧ vf_n64 v ∧ M 123 0 = (v.toNat : Int)) ∨ (∃ c : Nat, 1 ≤ c ∧ o = .inr c ∧ k = (c : Int))
def WKf (o : UInt32 ⊕ Nat) (k : Int) (M : Nat → Nat → Int) : Prop := (k = 0 ∧ ∃ v : UInt32, o = .inl v ∧ vf_n64 (FP.f2d v) ∧ M 123 0 = ((FP.f2d v).toNat : Int)) ∨ (∃ c : Nat, 1 ≤ c ∧ o = .inr c ∧ k = (c : Int))
def RK (o : ans) (b : Int) (M : Nat → Nat → Int) : Prop := (o.1 = .inl b ∧ M 97 0 = 0) ∨ ∃ c : Nat, o.1 = .inr c ∧ M 97 0 = (c : Int) ∧ b = 0
def RKd (o : UInt64 ⊕ Nat) (b : UInt64) (M : Nat → Nat → Int) : Prop := (o = .inl b ∧ vf_n64 b ∧ M 97 0 = 0) ∨ ∃ c : Nat, o = .inr c ∧ M 97 0 = (c : Int)
def RKf (o : UInt32 ⊕ Nat) (b : UInt32) (M : Nat → Nat → Int) : Prop := (o = .inl b ∧ vf_n64 (FP.f2d b) ∧ M 97 0 = 0) ∨ ∃ c : Nat, o = .inr c ∧ M 97 0 = (c : Int)
section ELM
variable {n : Nat} {kd : Nat → Nat} {M : Nat → Nat → Int} {Qr : Option pm_V → pm_Me → Prop} {Qx : Nat → pm_Me → Prop} {s : stt} {xc : List Nat}
theorem LO.el {o : ans} (hb : ∀ c, o.1 = .inr c → 1 ≤ c ∧ c ≤ xc.length) (h1 : ∀ (v : Int) M', o.1 = .inl v → Lab M' o.2 → pm_fr 0 97 M M' → Qr (some (.inl v)) (pm_m n kd M')) (h2 : ∀ (c : Nat) M', o.1 = .inr c → 1 ≤ c → c ≤ xc.length → Lab M' o.2 → pm_fr 0 97 M M' → Qx (xc.getD (c - 1) 9) (pm_m n kd M')) : LO xc o n kd M Qr Qx := by
  intro M' hL ho
  cases e : o.1 with
  | inl v => exact h1 v M' e hL ho
  | inr c => exact h2 c M' e (hb c e).1 (hb c e).2 hL ho
theorem LOd.el {o : UInt64 ⊕ Nat} (hb : ∀ c, o = .inr c → 1 ≤ c ∧ c ≤ xc.length) (h1 : ∀ (v : UInt64) M', o = .inl v → vf_n64 v → Lab M' s → pm_fr 0 97 M M' → Qr (some (.inr (.inr (.inr (.inr v))))) (pm_m n kd M')) (h2 : ∀ (c : Nat) M', o = .inr c → 1 ≤ c → c ≤ xc.length → Lab M' s → pm_fr 0 97 M M' → Qx (xc.getD (c - 1) 9) (pm_m n kd M')) : LOd xc o s n kd M Qr Qx := by
  intro M' hL ho
  cases o with
  | inl v => exact fun hv => h1 v M' rfl hv hL ho
  | inr c => exact h2 c M' rfl (hb c rfl).1 (hb c rfl).2 hL ho
theorem LOf.el {o : UInt32 ⊕ Nat} (hb : ∀ c, o = .inr c → 1 ≤ c ∧ c ≤ xc.length) (h1 : ∀ (v : UInt32) M', o = .inl v → vf_n64 (FP.f2d v) → Lab M' s → pm_fr 0 97 M M' → Qr (some (.inr (.inr (.inr (.inl v))))) (pm_m n kd M')) (h2 : ∀ (c : Nat) M', o = .inr c → 1 ≤ c → c ≤ xc.length → Lab M' s → pm_fr 0 97 M M' → Qx (xc.getD (c - 1) 9) (pm_m n kd M')) : LOf xc o s n kd M Qr Qx := by
  intro M' hL ho
  cases o with
  | inl v => exact fun hv => h1 v M' rfl hv hL ho
  | inr c => exact h2 c M' rfl (hb c rfl).1 (hb c rfl).2 hL ho
theorem RO.el {o : ans} (h : ∀ (b : Int) M', Ref M' o.2 → pm_fr 97 122 M M' → RK o b M' → Qr (some (.inl b)) (pm_m n kd M')) : RO o n kd M Qr := by
  intro M' hR ho
  cases e : o.1 with
  | inl v => exact fun h0 => h v M' hR ho (Or.inl ⟨e, h0⟩)
  | inr c => exact fun h0 => h 0 M' hR ho (Or.inr ⟨c, e, h0, rfl⟩)
theorem ROd.el {o : UInt64 ⊕ Nat} (h : ∀ (b : UInt64) M', Ref M' s → pm_fr 97 122 M M' → RKd o b M' → Qr (some (.inr (.inr (.inr (.inr b))))) (pm_m n kd M')) : ROd o s n kd M Qr := by
  intro M' hR ho
  cases o with
  | inl v => exact fun hv h0 => h v M' hR ho (Or.inl ⟨rfl, hv, h0⟩)
  | inr c => exact fun h0 => h _ M' hR ho (Or.inr ⟨c, rfl, h0⟩)
theorem ROf.el {o : UInt32 ⊕ Nat} (h : ∀ (b : UInt32) M', Ref M' s → pm_fr 97 122 M M' → RKf o b M' → Qr (some (.inr (.inr (.inr (.inl b))))) (pm_m n kd M')) : ROf o s n kd M Qr := by
  intro M' hR ho
  cases o with
  | inl v => exact fun hv h0 => h v M' hR ho (Or.inl ⟨rfl, hv, h0⟩)
  | inr c => exact fun h0 => h _ M' hR ho (Or.inr ⟨c, rfl, h0⟩)
def WO (o : ans) (n : Nat) (kd : Nat → Nat) (M : Nat → Nat → Int) (Qr : Option pm_V → pm_Me → Prop) : Prop := ∀ (k : Int) M', Lab M' o.2 → (∀ a, 97 ≤ a → a ≠ 122 → M' a = M a) → WK o k M' → Qr (some (.inl k)) (pm_m n kd M')
def WOd (o : UInt64 ⊕ Nat) (s : stt) (n : Nat) (kd : Nat → Nat) (M : Nat → Nat → Int) (Qr : Option pm_V → pm_Me → Prop) : Prop := ∀ (k : Int) M', Lab M' s → (∀ a, 97 ≤ a → a ≠ 123 → M' a = M a) → WKd o k M' → Qr (some (.inl k)) (pm_m n kd M')
def WOf (o : UInt32 ⊕ Nat) (s : stt) (n : Nat) (kd : Nat → Nat) (M : Nat → Nat → Int) (Qr : Option pm_V → pm_Me → Prop) : Prop := ∀ (k : Int) M', Lab M' s → (∀ a, 97 ≤ a → a ≠ 123 → M' a = M a) → WKf o k M' → Qr (some (.inl k)) (pm_m n kd M')
theorem Lab.out {M1 : Nat → Nat → Int} {q : Nat} {v : Int} (h : Lab M1 s) (hq : q = 122 ∨ q = 123) : Lab (pm_up M1 q 0 v) s := h.fr ((pm_fr.rf (lo := 122) (hi := 124)).up (by omega) (by omega)) (by decide)
theorem WO.ok {o : ans} {v : Int} {M1 : Nat → Nat → Int} (h : WO o n kd M Qr) (e : o.1 = .inl v) (hL : Lab M1 o.2) (ho : pm_fr 0 97 M M1) : Qr (some (.inl 0)) (pm_m n kd (pm_up M1 122 0 v)) :=
  h 0 _ (hL.out (Or.inl rfl)) (fun a a1 a2 => (pm_up_row a2).trans (ho a (Or.inr a1))) (Or.inl ⟨rfl, by rw [pm_up_eq]; exact e⟩)
theorem WO.bad {o : ans} {c : Nat} {M1 : Nat → Nat → Int} (h : WO o n kd M Qr) (e : o.1 = .inr c) (c1 : 1 ≤ c) (hL : Lab M1 o.2) (ho : pm_fr 0 97 M M1) : Qr (some (.inl (c : Int))) (pm_m n kd M1) :=
  h _ _ hL (fun a a1 _ => ho a (Or.inr a1)) (Or.inr ⟨c, c1, e, rfl⟩)
theorem WOd.ok {o : UInt64 ⊕ Nat} {v : UInt64} {M1 : Nat → Nat → Int} (h : WOd o s n kd M Qr) (e : o = .inl v) (hv : vf_n64 v) (hL : Lab M1 s) (ho : pm_fr 0 97 M M1) : Qr (some (.inl 0)) (pm_m n kd (pm_up M1 123 0 (v.toNat : Int))) :=
  h 0 _ (hL.out (Or.inr rfl)) (fun a a1 a2 => (pm_up_row a2).trans (ho a (Or.inr a1))) (Or.inl ⟨rfl, v, e, hv, pm_up_eq⟩)
theorem WOd.bad {o : UInt64 ⊕ Nat} {c : Nat} {M1 : Nat → Nat → Int} (h : WOd o s n kd M Qr) (e : o = .inr c) (c1 : 1 ≤ c) (hL : Lab M1 s) (ho : pm_fr 0 97 M M1) : Qr (some (.inl (c : Int))) (pm_m n kd M1) :=
  h _ _ hL (fun a a1 _ => ho a (Or.inr a1)) (Or.inr ⟨c, c1, e, rfl⟩)
theorem WOf.ok {o : UInt32 ⊕ Nat} {v : UInt32} {M1 : Nat → Nat → Int} (h : WOf o s n kd M Qr) (e : o = .inl v) (hv : vf_n64 (FP.f2d v)) (hL : Lab M1 s) (ho : pm_fr 0 97 M M1) : Qr (some (.inl 0)) (pm_m n kd (pm_up M1 123 0 ((FP.f2d v).toNat : Int))) :=
  h 0 _ (hL.out (Or.inr rfl)) (fun a a1 a2 => (pm_up_row a2).trans (ho a (Or.inr a1))) (Or.inl ⟨rfl, v, e, hv, pm_up_eq⟩)
theorem WOf.bad {o : UInt32 ⊕ Nat} {c : Nat} {M1 : Nat → Nat → Int} (h : WOf o s n kd M Qr) (e : o = .inr c) (c1 : 1 ≤ c) (hL : Lab M1 s) (ho : pm_fr 0 97 M M1) : Qr (some (.inl (c : Int))) (pm_m n kd M1) :=
  h _ _ hL (fun a a1 _ => ho a (Or.inr a1)) (Or.inr ⟨c, c1, e, rfl⟩)
end ELM
/-- class and reference together: what was thrown is the same, and so is the answer -/
theorem WK.tail {o : ans} {k b : Int} {M1 M2 : Nat → Nat → Int} (hk : WK o k M1) (hb : RK o b M2) (e : M2 122 = M1 122) : M2 97 0 = k ∧ (k = 0 → M2 122 0 = b) := by
  rcases hk with ⟨k0, ek⟩ | ⟨c, c1, ek, kc⟩ <;> rcases hb with ⟨eb, b0⟩ | ⟨c', eb, b0, -⟩
  · have e2 : M1 122 0 = b := Sum.inl.inj (ek.symm.trans eb)
    exact ⟨by rw [b0, k0], fun _ => by rw [e]; exact e2⟩
  · cases ek.symm.trans eb
  · cases ek.symm.trans eb
  · have e2 : c = c' := Sum.inr.inj (ek.symm.trans eb)
    exact ⟨by rw [b0, kc, e2], fun w => by omega⟩
theorem cmp_eq {v : UInt64} (hv : vf_n64 v) : (Op.cmpValue (FP.dcmp v v) .l).toInt = 0 := by
  rw [fp_self hv]
  rfl
theorem WKd.tail {o : UInt64 ⊕ Nat} {k : Int} {b : UInt64} {M1 M2 : Nat → Nat → Int} (hk : WKd o k M1) (hb : RKd o b M2) (e : M2 123 = M1 123) : M2 97 0 = k ∧ (k = 0 → (Op.cmpValue (FP.dcmp (UInt64.ofNat (M2 123 0).toNat) b) .l).toInt = 0) := by
  rcases hk with ⟨k0, v, ek, hv, hm⟩ | ⟨c, c1, ek, kc⟩ <;> rcases hb with ⟨eb, -, b0⟩ | ⟨c', eb, b0⟩
  · have e2 : v = b := Sum.inl.inj (ek.symm.trans eb)
    refine ⟨by rw [b0, k0], fun _ => ?_⟩
    rw [e, hm, Int.toNat_natCast, UInt64.ofNat_toNat, ← e2]
    exact cmp_eq hv
  · cases ek.symm.trans eb
  · cases ek.symm.trans eb
  · have e2 : c = c' := Sum.inr.inj (ek.symm.trans eb)
    exact ⟨by rw [b0, kc, e2], fun w => by omega⟩
theorem WKf.tail {o : UInt32 ⊕ Nat} {k : Int} {b : UInt32} {M1 M2 : Nat → Nat → Int} (hk : WKf o k M1) (hb : RKf o b M2) (e : M2 123 = M1 123) : M2 97 0 = k ∧ (k = 0 → vf_n64 (FP.f2d b) ∧ (Op.cmpValue (FP.dcmp (UInt64.ofNat (M2 123 0).toNat) (FP.f2d b)) .l).toInt = 0) := by
  rcases hk with ⟨k0, v, ek, hv, hm⟩ | ⟨c, c1, ek, kc⟩ <;> rcases hb with ⟨eb, hvb, b0⟩ | ⟨c', eb, b0⟩
  · have e2 : v = b := Sum.inl.inj (ek.symm.trans eb)
    refine ⟨by rw [b0, k0], fun _ => ⟨hvb, ?_⟩⟩
    rw [e, hm, Int.toNat_natCast, UInt64.ofNat_toNat, ← e2]
    exact cmp_eq hv
  · cases ek.symm.trans eb
  · cases ek.symm.trans eb
  · have e2 : c = c' := Sum.inr.inj (ek.symm.trans eb)
    exact ⟨by rw [b0, kc, e2], fun w => by omega⟩
theorem bb_tail {o : ans} {b : Int} {M2 : Nat → Nat → Int} (hb : RK o b M2) (h : ∀ v, o.1 = .inl v → v = 0 ∨ v = 1) : b = 0 ∨ b = 1 := by
  rcases hb with ⟨eb, -⟩ | ⟨c', -, -, b0⟩
  · exact h b eb
  · exact Or.inl b0
section WRS
variable {d n : Nat} {kd : Nat → Nat} {M : Nat → Nat → Int} {Qr : Option pm_V → pm_Me → Prop} {Qx : Nat → pm_Me → Prop} {s : stt} {x y : Int}
theorem bb_areConnected {v : Int} (h : (o_areConnected s x y).1 = .inl v) : v = 0 ∨ v = 1 := by
  unfold o_areConnected at h
  repeat' split at h
  all_goals first | (cases h; done) | (cases h; first | exact bI_or _ | exact Or.inl rfl | exact Or.inr rfl)
theorem bb_avoids {v : Int} (h : (o_avoids s).1 = .inl v) : v = 0 ∨ v = 1 := by
  unfold o_avoids at h
  repeat' split at h
  all_goals first | (cases h; done) | (cases h; first | exact bI_or _ | exact Or.inl rfl | exact Or.inr rfl)
theorem bb_contains {v : Int} (h : (o_contains s x).1 = .inl v) : v = 0 ∨ v = 1 := by
  unfold o_contains at h
  repeat' split at h
  all_goals first | (cases h; done) | (cases h; first | exact bI_or _ | exact Or.inl rfl | exact Or.inr rfl)
theorem bb_isFree {v : Int} (h : (o_isFree s x).1 = .inl v) : v = 0 ∨ v = 1 := by
  unfold o_isFree at h
  repeat' split at h
  all_goals first | (cases h; done) | (cases h; first | exact bI_or _ | exact Or.inl rfl | exact Or.inr rfl)
theorem bb_isIsomorphic {v : Int} (h : (o_isIsomorphic s x).1 = .inl v) : v = 0 ∨ v = 1 := by
  unfold o_isIsomorphic at h
  repeat' split at h
  all_goals first | (cases h; done) | (cases h; first | exact bI_or _ | exact Or.inl rfl | exact Or.inr rfl)
theorem bb_occursInZimin {v : Int} (h : (o_occursInZimin s x).1 = .inl v) : v = 0 ∨ v = 1 := by
  unfold o_occursInZimin at h
  repeat' split at h
  all_goals first | (cases h; done) | (cases h; first | exact bI_or _ | exact Or.inl rfl | exact Or.inr rfl)
theorem wr_203 (hd : 100 ≤ d) (hL : Lab M s) (hW : wfs s) (h : WO (o_appendVariable s x) n kd M Qr) : pm_run d 203 [.inr (.inl (8, 0)), .inl x, .inr (.inl (3001, 122))] (pm_m n kd M) Qr Qx := by
  obtain ⟨d, rfl⟩ := pm_ex1 (show 1 ≤ d by omega)
  refine tr_203 (la_57 (by omega) hL (LO.el (xc := [0, 1]) cd_appendVariable (fun v M' e hL' ho => ?_) (fun c M' e c1 c2 hL' ho => ?_)))
  · exact tr_203_7 ⟨⟨by decide, by decide⟩, h.ok e hL' ho⟩
  · have c2 : c ≤ 2 := c2
    rcases (show c = 1 ∨ c = 2 by omega) with e2 | e2
    · subst e2
      exact tr_203_13 (h.bad e c1 hL' ho)
    · subst e2
      exact tr_203_16 (h.bad e c1 hL' ho)
theorem wr_204 (hd : 100 ≤ d) (hL : Lab M s) (hW : wfs s) (h : WO (o_patternVariable s x) n kd M Qr) : pm_run d 204 [.inr (.inl (8, 0)), .inl x, .inr (.inl (3001, 122))] (pm_m n kd M) Qr Qx := by
  obtain ⟨d, rfl⟩ := pm_ex1 (show 1 ≤ d by omega)
  refine tr_204 (la_60 (by omega) hL (LO.el (xc := [2]) cd_patternVariable (fun v M' e hL' ho => ?_) (fun c M' e c1 c2 hL' ho => ?_)))
  · exact tr_204_7 ⟨⟨by decide, by decide⟩, h.ok e hL' ho⟩
  · have c2 : c ≤ 1 := c2
    have e2 : c = 1 := by omega
    subst e2
    exact tr_204_13 (h.bad e c1 hL' ho)
theorem wr_205 (hd : 100 ≤ d) (hL : Lab M s) (hW : wfs s) (h : WO (o_loadZimin s x) n kd M Qr) : pm_run d 205 [.inr (.inl (8, 0)), .inl x, .inr (.inl (3001, 122))] (pm_m n kd M) Qr Qx := by
  obtain ⟨d, rfl⟩ := pm_ex1 (show 1 ≤ d by omega)
  refine tr_205 (la_62 (by omega) hL (LO.el (xc := [0]) cd_loadZimin (fun v M' e hL' ho => ?_) (fun c M' e c1 c2 hL' ho => ?_)))
  · exact tr_205_7 ⟨⟨by decide, by decide⟩, h.ok e hL' ho⟩
  · have c2 : c ≤ 1 := c2
    have e2 : c = 1 := by omega
    subst e2
    exact tr_205_13 (h.bad e c1 hL' ho)
theorem wr_206 (hd : 100 ≤ d) (hL : Lab M s) (hW : wfs s) (h : WO (o_occursInZimin s x) n kd M Qr) : pm_run d 206 [.inr (.inl (8, 0)), .inl x, .inr (.inl (3001, 122))] (pm_m n kd M) Qr Qx := by
  obtain ⟨d, rfl⟩ := pm_ex1 (show 1 ≤ d by omega)
  refine tr_206 (la_65 (by omega) hL hW (LO.el (xc := [0, 1]) cd_occursInZimin (fun v M' e hL' ho => ?_) (fun c M' e c1 c2 hL' ho => ?_)))
  · exact tr_206_7 ⟨fun w => ⟨⟨by decide, by decide⟩, h.ok (e.trans (congrArg Sum.inl w)) hL' ho⟩, fun w => ⟨⟨by decide, by decide⟩, h.ok (e.trans (congrArg Sum.inl ((bb_occursInZimin e).resolve_left w))) hL' ho⟩⟩
  · have c2 : c ≤ 2 := c2
    rcases (show c = 1 ∨ c = 2 by omega) with e2 | e2
    · subst e2
      exact tr_206_20 (h.bad e c1 hL' ho)
    · subst e2
      exact tr_206_23 (h.bad e c1 hL' ho)
theorem wr_207 (hd : 100 ≤ d) (hL : Lab M s) (hW : wfs s) (h : WO (o_shelve s x) n kd M Qr) : pm_run d 207 [.inr (.inl (8, 0)), .inl x, .inr (.inl (3001, 122))] (pm_m n kd M) Qr Qx := by
  obtain ⟨d, rfl⟩ := pm_ex1 (show 1 ≤ d by omega)
  refine tr_207 (la_66 (by omega) hL (LO.el (xc := [2]) cd_shelve (fun v M' e hL' ho => ?_) (fun c M' e c1 c2 hL' ho => ?_)))
  · exact tr_207_7 ⟨⟨by decide, by decide⟩, h.ok e hL' ho⟩
  · have c2 : c ≤ 1 := c2
    have e2 : c = 1 := by omega
    subst e2
    exact tr_207_13 (h.bad e c1 hL' ho)
theorem wr_208 (hd : 100 ≤ d) (hL : Lab M s) (hW : wfs s) (h : WO (o_useShelf s x) n kd M Qr) : pm_run d 208 [.inr (.inl (8, 0)), .inl x, .inr (.inl (3001, 122))] (pm_m n kd M) Qr Qx := by
  obtain ⟨d, rfl⟩ := pm_ex1 (show 1 ≤ d by omega)
  refine tr_208 (la_67 (by omega) hL (LO.el (xc := [2, 1]) cd_useShelf (fun v M' e hL' ho => ?_) (fun c M' e c1 c2 hL' ho => ?_)))
  · exact tr_208_7 ⟨⟨by decide, by decide⟩, h.ok e hL' ho⟩
  · have c2 : c ≤ 2 := c2
    rcases (show c = 1 ∨ c = 2 by omega) with e2 | e2
    · subst e2
      exact tr_208_13 (h.bad e c1 hL' ho)
    · subst e2
      exact tr_208_16 (h.bad e c1 hL' ho)
theorem wr_209 (hd : 100 ≤ d) (hL : Lab M s) (hW : wfs s) (h : WO (o_isIsomorphic s x) n kd M Qr) : pm_run d 209 [.inr (.inl (8, 0)), .inl x, .inr (.inl (3001, 122))] (pm_m n kd M) Qr Qx := by
  obtain ⟨d, rfl⟩ := pm_ex1 (show 1 ≤ d by omega)
  refine tr_209 (la_68 (by omega) hL (LO.el (xc := [2, 1]) cd_isIsomorphic (fun v M' e hL' ho => ?_) (fun c M' e c1 c2 hL' ho => ?_)))
  · exact tr_209_7 ⟨fun w => ⟨⟨by decide, by decide⟩, h.ok (e.trans (congrArg Sum.inl w)) hL' ho⟩, fun w => ⟨⟨by decide, by decide⟩, h.ok (e.trans (congrArg Sum.inl ((bb_isIsomorphic e).resolve_left w))) hL' ho⟩⟩
  · have c2 : c ≤ 2 := c2
    rcases (show c = 1 ∨ c = 2 by omega) with e2 | e2
    · subst e2
      exact tr_209_20 (h.bad e c1 hL' ho)
    · subst e2
      exact tr_209_23 (h.bad e c1 hL' ho)
theorem wr_210 (hd : 100 ≤ d) (hL : Lab M s) (hW : wfs s) (h : WO (o_contains s x) n kd M Qr) : pm_run d 210 [.inr (.inl (8, 0)), .inl x, .inr (.inl (3001, 122))] (pm_m n kd M) Qr Qx := by
  obtain ⟨d, rfl⟩ := pm_ex1 (show 1 ≤ d by omega)
  refine tr_210 (la_69 (by omega) hL hW (LO.el (xc := [2, 1]) cd_contains (fun v M' e hL' ho => ?_) (fun c M' e c1 c2 hL' ho => ?_)))
  · exact tr_210_7 ⟨fun w => ⟨⟨by decide, by decide⟩, h.ok (e.trans (congrArg Sum.inl w)) hL' ho⟩, fun w => ⟨⟨by decide, by decide⟩, h.ok (e.trans (congrArg Sum.inl ((bb_contains e).resolve_left w))) hL' ho⟩⟩
  · have c2 : c ≤ 2 := c2
    rcases (show c = 1 ∨ c = 2 by omega) with e2 | e2
    · subst e2
      exact tr_210_20 (h.bad e c1 hL' ho)
    · subst e2
      exact tr_210_23 (h.bad e c1 hL' ho)
theorem wr_211 (hd : 100 ≤ d) (hL : Lab M s) (hW : wfs s) (h : WO (o_setLetterCount s x) n kd M Qr) : pm_run d 211 [.inr (.inl (8, 0)), .inl x, .inr (.inl (3001, 122))] (pm_m n kd M) Qr Qx := by
  obtain ⟨d, rfl⟩ := pm_ex1 (show 1 ≤ d by omega)
  refine tr_211 (la_70 (by omega) hL (LO.el (xc := [0]) cd_setLetterCount (fun v M' e hL' ho => ?_) (fun c M' e c1 c2 hL' ho => ?_)))
  · exact tr_211_7 ⟨⟨by decide, by decide⟩, h.ok e hL' ho⟩
  · have c2 : c ≤ 1 := c2
    have e2 : c = 1 := by omega
    subst e2
    exact tr_211_13 (h.bad e c1 hL' ho)
theorem wr_212 (hd : 100 ≤ d) (hL : Lab M s) (hW : wfs s) (h : WO (o_appendLetter s x) n kd M Qr) : pm_run d 212 [.inr (.inl (8, 0)), .inl x, .inr (.inl (3001, 122))] (pm_m n kd M) Qr Qx := by
  obtain ⟨d, rfl⟩ := pm_ex1 (show 1 ≤ d by omega)
  refine tr_212 (la_71 (by omega) hL (LO.el (xc := [0, 1]) cd_appendLetter (fun v M' e hL' ho => ?_) (fun c M' e c1 c2 hL' ho => ?_)))
  · exact tr_212_7 ⟨⟨by decide, by decide⟩, h.ok e hL' ho⟩
  · have c2 : c ≤ 2 := c2
    rcases (show c = 1 ∨ c = 2 by omega) with e2 | e2
    · subst e2
      exact tr_212_13 (h.bad e c1 hL' ho)
    · subst e2
      exact tr_212_16 (h.bad e c1 hL' ho)
theorem wr_213 (hd : 100 ≤ d) (hL : Lab M s) (hW : wfs s) (h : WO (o_letter s x) n kd M Qr) : pm_run d 213 [.inr (.inl (8, 0)), .inl x, .inr (.inl (3001, 122))] (pm_m n kd M) Qr Qx := by
  obtain ⟨d, rfl⟩ := pm_ex1 (show 1 ≤ d by omega)
  refine tr_213 (la_74 (by omega) hL (LO.el (xc := [2]) cd_letter (fun v M' e hL' ho => ?_) (fun c M' e c1 c2 hL' ho => ?_)))
  · exact tr_213_7 ⟨⟨by decide, by decide⟩, h.ok e hL' ho⟩
  · have c2 : c ≤ 1 := c2
    have e2 : c = 1 := by omega
    subst e2
    exact tr_213_13 (h.bad e c1 hL' ho)
theorem wr_214 (hd : 100 ≤ d) (hL : Lab M s) (hW : wfs s) (h : WOf (o_density s x) s n kd M Qr) : pm_run d 214 [.inr (.inl (8, 0)), .inl x, .inr (.inl (4001, 123))] (pm_m n kd M) Qr Qx := by
  obtain ⟨d, rfl⟩ := pm_ex1 (show 1 ≤ d by omega)
  refine tr_214 (la_75 (by omega) hL hW (LOf.el (xc := [0, 3]) cd_density (fun v M' e hv hL' ho => ?_) (fun c M' e c1 c2 hL' ho => ?_)))
  · exact tr_214_7 ⟨hv, ⟨by decide, by decide⟩, h.ok e hv hL' ho⟩
  · have c2 : c ≤ 2 := c2
    rcases (show c = 1 ∨ c = 2 by omega) with e2 | e2
    · subst e2
      exact tr_214_13 (h.bad e c1 hL' ho)
    · subst e2
      exact tr_214_16 (h.bad e c1 hL' ho)
theorem wr_215 {f : UInt64} (hd : 100 ≤ d) (hL : Lab M s) (hW : wfs s) (hf : fpB (-21) f) (h : WOd (o_discountedSum s f) s n kd M Qr) : pm_run d 215 [.inr (.inl (8, 0)), .inr (.inr (.inr (.inr f))), .inr (.inl (4001, 123))] (pm_m n kd M) Qr Qx := by
  obtain ⟨d, rfl⟩ := pm_ex1 (show 1 ≤ d by omega)
  refine tr_215 (la_76 (by omega) hL hW hf (LOd.el (xc := [0]) cd_discountedSum (fun v M' e hv hL' ho => ?_) (fun c M' e c1 c2 hL' ho => ?_)))
  · exact tr_215_7 ⟨⟨by decide, by decide⟩, h.ok e hv hL' ho⟩
  · have c2 : c ≤ 1 := c2
    have e2 : c = 1 := by omega
    subst e2
    exact tr_215_13 (h.bad e c1 hL' ho)
theorem wr_216 (hd : 100 ≤ d) (hL : Lab M s) (hW : wfs s) (h : WOd (o_greatestExponent s) s n kd M Qr) : pm_run d 216 [.inr (.inl (8, 0)), .inr (.inl (4001, 123))] (pm_m n kd M) Qr Qx := by
  obtain ⟨d, rfl⟩ := pm_ex1 (show 1 ≤ d by omega)
  refine tr_216 (la_77 (by omega) hL hW (LOd.el (xc := [1]) cd_greatestExponent (fun v M' e hv hL' ho => ?_) (fun c M' e c1 c2 hL' ho => ?_)))
  · exact tr_216_6 ⟨⟨by decide, by decide⟩, h.ok e hv hL' ho⟩
  · have c2 : c ≤ 1 := c2
    have e2 : c = 1 := by omega
    subst e2
    exact tr_216_11 (h.bad e c1 hL' ho)
theorem wr_217 (hd : 100 ≤ d) (hL : Lab M s) (hW : wfs s) (h : WO (o_strongestFactor s x) n kd M Qr) : pm_run d 217 [.inr (.inl (8, 0)), .inl x, .inr (.inl (3001, 122))] (pm_m n kd M) Qr Qx := by
  obtain ⟨d, rfl⟩ := pm_ex1 (show 1 ≤ d by omega)
  refine tr_217 (la_78 (by omega) hL (LO.el (xc := [0, 1]) cd_strongestFactor (fun v M' e hL' ho => ?_) (fun c M' e c1 c2 hL' ho => ?_)))
  · exact tr_217_7 ⟨⟨by decide, by decide⟩, h.ok e hL' ho⟩
  · have c2 : c ≤ 2 := c2
    rcases (show c = 1 ∨ c = 2 by omega) with e2 | e2
    · subst e2
      exact tr_217_13 (h.bad e c1 hL' ho)
    · subst e2
      exact tr_217_16 (h.bad e c1 hL' ho)
theorem wr_218 (hd : 100 ≤ d) (hL : Lab M s) (hW : wfs s) (h : WO (o_avoids s) n kd M Qr) : pm_run d 218 [.inr (.inl (8, 0)), .inr (.inl (3001, 122))] (pm_m n kd M) Qr Qx := by
  obtain ⟨d, rfl⟩ := pm_ex1 (show 1 ≤ d by omega)
  refine tr_218 (la_79 (by omega) hL hW (LO.el (xc := [1]) cd_avoids (fun v M' e hL' ho => ?_) (fun c M' e c1 c2 hL' ho => ?_)))
  · exact tr_218_6 ⟨fun w => ⟨⟨by decide, by decide⟩, h.ok (e.trans (congrArg Sum.inl w)) hL' ho⟩, fun w => ⟨⟨by decide, by decide⟩, h.ok (e.trans (congrArg Sum.inl ((bb_avoids e).resolve_left w))) hL' ho⟩⟩
  · have c2 : c ≤ 1 := c2
    have e2 : c = 1 := by omega
    subst e2
    exact tr_218_19 (h.bad e c1 hL' ho)
theorem wr_219 (hd : 100 ≤ d) (hL : Lab M s) (hW : wfs s) (h : WO (o_findOccurrence s) n kd M Qr) : pm_run d 219 [.inr (.inl (8, 0)), .inr (.inl (3001, 122))] (pm_m n kd M) Qr Qx := by
  obtain ⟨d, rfl⟩ := pm_ex1 (show 1 ≤ d by omega)
  refine tr_219 (la_80 (by omega) hL hW (LO.el (xc := [1, 5]) cd_findOccurrence (fun v M' e hL' ho => ?_) (fun c M' e c1 c2 hL' ho => ?_)))
  · exact tr_219_6 ⟨⟨by decide, by decide⟩, h.ok e hL' ho⟩
  · have c2 : c ≤ 2 := c2
    rcases (show c = 1 ∨ c = 2 by omega) with e2 | e2
    · subst e2
      exact tr_219_12 (h.bad e c1 hL' ho)
    · subst e2
      exact tr_219_15 (h.bad e c1 hL' ho)
theorem wr_220 (hd : 100 ≤ d) (hL : Lab M s) (hW : wfs s) (h : WO (o_imageLength s x) n kd M Qr) : pm_run d 220 [.inr (.inl (8, 0)), .inl x, .inr (.inl (3001, 122))] (pm_m n kd M) Qr Qx := by
  obtain ⟨d, rfl⟩ := pm_ex1 (show 1 ≤ d by omega)
  refine tr_220 (la_81 (by omega) hL (LO.el (xc := [0, 1]) cd_imageLength (fun v M' e hL' ho => ?_) (fun c M' e c1 c2 hL' ho => ?_)))
  · exact tr_220_7 ⟨⟨by decide, by decide⟩, h.ok e hL' ho⟩
  · have c2 : c ≤ 2 := c2
    rcases (show c = 1 ∨ c = 2 by omega) with e2 | e2
    · subst e2
      exact tr_220_13 (h.bad e c1 hL' ho)
    · subst e2
      exact tr_220_16 (h.bad e c1 hL' ho)
theorem wr_221 (hd : 100 ≤ d) (hL : Lab M s) (hW : wfs s) (h : WO (o_imageLetter s x y) n kd M Qr) : pm_run d 221 [.inr (.inl (8, 0)), .inl x, .inl y, .inr (.inl (3001, 122))] (pm_m n kd M) Qr Qx := by
  obtain ⟨d, rfl⟩ := pm_ex1 (show 1 ≤ d by omega)
  refine tr_221 (la_82 (by omega) hL (LO.el (xc := [0, 1, 2]) cd_imageLetter (fun v M' e hL' ho => ?_) (fun c M' e c1 c2 hL' ho => ?_)))
  · exact tr_221_8 ⟨⟨by decide, by decide⟩, h.ok e hL' ho⟩
  · have c2 : c ≤ 3 := c2
    rcases (show c = 1 ∨ c = 2 ∨ c = 3 by omega) with e2 | e2 | e2
    · subst e2
      exact tr_221_15 (h.bad e c1 hL' ho)
    · subst e2
      exact tr_221_19 (h.bad e c1 hL' ho)
    · subst e2
      exact tr_221_23 (h.bad e c1 hL' ho)
theorem wr_222 (hd : 100 ≤ d) (hL : Lab M s) (hW : wfs s) (h : WO (o_occurrenceCount s) n kd M Qr) : pm_run d 222 [.inr (.inl (8, 0)), .inr (.inl (3001, 122))] (pm_m n kd M) Qr Qx := by
  obtain ⟨d, rfl⟩ := pm_ex1 (show 1 ≤ d by omega)
  refine tr_222 (la_83 (by omega) hL hW (LO.el (xc := [1]) cd_occurrenceCount (fun v M' e hL' ho => ?_) (fun c M' e c1 c2 hL' ho => ?_)))
  · exact tr_222_6 ⟨⟨by decide, by decide⟩, h.ok e hL' ho⟩
  · have c2 : c ≤ 1 := c2
    have e2 : c = 1 := by omega
    subst e2
    exact tr_222_12 (h.bad e c1 hL' ho)
theorem wr_223 (hd : 100 ≤ d) (hL : Lab M s) (hW : wfs s) (h : WO (o_areConnected s x y) n kd M Qr) : pm_run d 223 [.inr (.inl (8, 0)), .inl x, .inl y, .inr (.inl (3001, 122))] (pm_m n kd M) Qr Qx := by
  obtain ⟨d, rfl⟩ := pm_ex1 (show 1 ≤ d by omega)
  refine tr_223 (la_84 (by omega) hL hW (LO.el (xc := [0]) cd_areConnected (fun v M' e hL' ho => ?_) (fun c M' e c1 c2 hL' ho => ?_)))
  · exact tr_223_8 ⟨fun w => ⟨⟨by decide, by decide⟩, h.ok (e.trans (congrArg Sum.inl w)) hL' ho⟩, fun w => ⟨⟨by decide, by decide⟩, h.ok (e.trans (congrArg Sum.inl ((bb_areConnected e).resolve_left w))) hL' ho⟩⟩
  · have c2 : c ≤ 1 := c2
    have e2 : c = 1 := by omega
    subst e2
    exact tr_223_22 (h.bad e c1 hL' ho)
theorem wr_224 (hd : 100 ≤ d) (hL : Lab M s) (hW : wfs s) (hx : pm_r x) (h : WO (o_isFree s x) n kd M Qr) : pm_run d 224 [.inr (.inl (8, 0)), .inl x, .inr (.inl (3001, 122))] (pm_m n kd M) Qr Qx := by
  obtain ⟨d, rfl⟩ := pm_ex1 (show 1 ≤ d by omega)
  refine tr_224 (la_85 (by omega) hL hW hx (LO.el (xc := [0]) cd_isFree (fun v M' e hL' ho => ?_) (fun c M' e c1 c2 hL' ho => ?_)))
  · exact tr_224_7 ⟨fun w => ⟨⟨by decide, by decide⟩, h.ok (e.trans (congrArg Sum.inl w)) hL' ho⟩, fun w => ⟨⟨by decide, by decide⟩, h.ok (e.trans (congrArg Sum.inl ((bb_isFree e).resolve_left w))) hL' ho⟩⟩
  · have c2 : c ≤ 1 := c2
    have e2 : c = 1 := by omega
    subst e2
    exact tr_224_20 (h.bad e c1 hL' ho)
theorem wr_225 (hd : 100 ≤ d) (hL : Lab M s) (hW : wfs s) (hx : pm_r x) (h : WO (o_freeSet s x) n kd M Qr) : pm_run d 225 [.inr (.inl (8, 0)), .inl x, .inr (.inl (3001, 122))] (pm_m n kd M) Qr Qx := by
  obtain ⟨d, rfl⟩ := pm_ex1 (show 1 ≤ d by omega)
  refine tr_225 (la_87 (by omega) hL hW hx (LO.el (xc := [2]) cd_freeSet (fun v M' e hL' ho => ?_) (fun c M' e c1 c2 hL' ho => ?_)))
  · exact tr_225_7 ⟨⟨by decide, by decide⟩, h.ok e hL' ho⟩
  · have c2 : c ≤ 1 := c2
    have e2 : c = 1 := by omega
    subst e2
    exact tr_225_13 (h.bad e c1 hL' ho)
theorem wr_226 (hd : 100 ≤ d) (hL : Lab M s) (hW : wfs s) (hx : pm_r x) (h : WO (o_delete s x) n kd M Qr) : pm_run d 226 [.inr (.inl (8, 0)), .inl x, .inr (.inl (3001, 122))] (pm_m n kd M) Qr Qx := by
  obtain ⟨d, rfl⟩ := pm_ex1 (show 1 ≤ d by omega)
  refine tr_226 (la_88 (by omega) hL hW hx (LO.el (xc := [0, 1]) cd_delete (fun v M' e hL' ho => ?_) (fun c M' e c1 c2 hL' ho => ?_)))
  · exact tr_226_7 ⟨⟨by decide, by decide⟩, h.ok e hL' ho⟩
  · have c2 : c ≤ 2 := c2
    rcases (show c = 1 ∨ c = 2 by omega) with e2 | e2
    · subst e2
      exact tr_226_13 (h.bad e c1 hL' ho)
    · subst e2
      exact tr_226_16 (h.bad e c1 hL' ho)
theorem wr_227 (hd : 100 ≤ d) (hL : Lab M s) (hW : wfs s) (h : WO (o_reductionLength s) n kd M Qr) : pm_run d 227 [.inr (.inl (8, 0)), .inr (.inl (3001, 122))] (pm_m n kd M) Qr Qx := by
  obtain ⟨d, rfl⟩ := pm_ex1 (show 1 ≤ d by omega)
  refine tr_227 (la_90 (by omega) hL hW (LO.el (xc := [5]) cd_reductionLength (fun v M' e hL' ho => ?_) (fun c M' e c1 c2 hL' ho => ?_)))
  · exact tr_227_6 ⟨⟨by decide, by decide⟩, h.ok e hL' ho⟩
  · have c2 : c ≤ 1 := c2
    have e2 : c = 1 := by omega
    subst e2
    exact tr_227_12 (h.bad e c1 hL' ho)
theorem wr_228 (hd : 100 ≤ d) (hL : Lab M s) (hW : wfs s) (h : WO (o_reductionSet s x) n kd M Qr) : pm_run d 228 [.inr (.inl (8, 0)), .inl x, .inr (.inl (3001, 122))] (pm_m n kd M) Qr Qx := by
  obtain ⟨d, rfl⟩ := pm_ex1 (show 1 ≤ d by omega)
  refine tr_228 (la_91 (by omega) hL hW (LO.el (xc := [5, 2]) cd_reductionSet (fun v M' e hL' ho => ?_) (fun c M' e c1 c2 hL' ho => ?_)))
  · exact tr_228_7 ⟨⟨by decide, by decide⟩, h.ok e hL' ho⟩
  · have c2 : c ≤ 2 := c2
    rcases (show c = 1 ∨ c = 2 by omega) with e2 | e2
    · subst e2
      exact tr_228_13 (h.bad e c1 hL' ho)
    · subst e2
      exact tr_228_16 (h.bad e c1 hL' ho)
theorem wr_229 (hd : 100 ≤ d) (hL : Lab M s) (hW : wfs s) (h : WO (o_extend s x) n kd M Qr) : pm_run d 229 [.inr (.inl (8, 0)), .inl x, .inr (.inl (3001, 122))] (pm_m n kd M) Qr Qx := by
  obtain ⟨d, rfl⟩ := pm_ex1 (show 1 ≤ d by omega)
  refine tr_229 (la_92 (by omega) hL hW (LO.el (xc := [0, 1, 5, 4]) cd_extend (fun v M' e hL' ho => ?_) (fun c M' e c1 c2 hL' ho => ?_)))
  · exact tr_229_7 ⟨⟨by decide, by decide⟩, h.ok e hL' ho⟩
  · have c2 : c ≤ 4 := c2
    rcases (show c = 1 ∨ c = 2 ∨ c = 3 ∨ c = 4 by omega) with e2 | e2 | e2 | e2
    · subst e2
      exact tr_229_13 (h.bad e c1 hL' ho)
    · subst e2
      exact tr_229_16 (h.bad e c1 hL' ho)
    · subst e2
      exact tr_229_19 (h.bad e c1 hL' ho)
    · subst e2
      exact tr_229_22 (h.bad e c1 hL' ho)
theorem wr_230 (hd : 100 ≤ d) (hL : Lab M s) (hW : wfs s) (h : WO (o_longestAvoiding s x) n kd M Qr) : pm_run d 230 [.inr (.inl (8, 0)), .inl x, .inr (.inl (3001, 122))] (pm_m n kd M) Qr Qx := by
  obtain ⟨d, rfl⟩ := pm_ex1 (show 1 ≤ d by omega)
  refine tr_230 (la_93 (by omega) hL hW (LO.el (xc := [0, 1, 4]) cd_longestAvoiding (fun v M' e hL' ho => ?_) (fun c M' e c1 c2 hL' ho => ?_)))
  · exact tr_230_7 ⟨⟨by decide, by decide⟩, h.ok e hL' ho⟩
  · have c2 : c ≤ 3 := c2
    rcases (show c = 1 ∨ c = 2 ∨ c = 3 by omega) with e2 | e2 | e2
    · subst e2
      exact tr_230_13 (h.bad e c1 hL' ho)
    · subst e2
      exact tr_230_16 (h.bad e c1 hL' ho)
    · subst e2
      exact tr_230_19 (h.bad e c1 hL' ho)
theorem wr_231 (hd : 100 ≤ d) (hL : Lab M s) (hW : wfs s) (h : WO (o_countAvoiding s x) n kd M Qr) : pm_run d 231 [.inr (.inl (8, 0)), .inl x, .inr (.inl (3001, 122))] (pm_m n kd M) Qr Qx := by
  obtain ⟨d, rfl⟩ := pm_ex1 (show 1 ≤ d by omega)
  refine tr_231 (la_94 (by omega) hL hW (LO.el (xc := [0, 1, 4]) cd_countAvoiding (fun v M' e hL' ho => ?_) (fun c M' e c1 c2 hL' ho => ?_)))
  · exact tr_231_7 ⟨⟨by decide, by decide⟩, h.ok e hL' ho⟩
  · have c2 : c ≤ 3 := c2
    rcases (show c = 1 ∨ c = 2 ∨ c = 3 by omega) with e2 | e2 | e2
    · subst e2
      exact tr_231_13 (h.bad e c1 hL' ho)
    · subst e2
      exact tr_231_16 (h.bad e c1 hL' ho)
    · subst e2
      exact tr_231_19 (h.bad e c1 hL' ho)
theorem wr_232 (hd : 100 ≤ d) (hL : Lab M s) (hW : wfs s) (h : WOd (o_growth s x) s n kd M Qr) : pm_run d 232 [.inr (.inl (8, 0)), .inl x, .inr (.inl (4001, 123))] (pm_m n kd M) Qr Qx := by
  obtain ⟨d, rfl⟩ := pm_ex1 (show 1 ≤ d by omega)
  refine tr_232 (la_95 (by omega) hL hW (LOd.el (xc := [0, 1, 4, 3]) cd_growth (fun v M' e hv hL' ho => ?_) (fun c M' e c1 c2 hL' ho => ?_)))
  · exact tr_232_7 ⟨⟨by decide, by decide⟩, h.ok e hv hL' ho⟩
  · have c2 : c ≤ 4 := c2
    rcases (show c = 1 ∨ c = 2 ∨ c = 3 ∨ c = 4 by omega) with e2 | e2 | e2 | e2
    · subst e2
      exact tr_232_12 (h.bad e c1 hL' ho)
    · subst e2
      exact tr_232_15 (h.bad e c1 hL' ho)
    · subst e2
      exact tr_232_18 (h.bad e c1 hL' ho)
    · subst e2
      exact tr_232_21 (h.bad e c1 hL' ho)
theorem wr_233 (hd : 100 ≤ d) (hL : Lab M s) (hW : wfs s) (h : WO (o_appendImage s x y) n kd M Qr) : pm_run d 233 [.inr (.inl (8, 0)), .inl x, .inl y, .inr (.inl (3001, 122))] (pm_m n kd M) Qr Qx := by
  obtain ⟨d, rfl⟩ := pm_ex1 (show 1 ≤ d by omega)
  refine tr_233 (la_96 (by omega) hL hW (LO.el (xc := [0, 1]) cd_appendImage (fun v M' e hL' ho => ?_) (fun c M' e c1 c2 hL' ho => ?_)))
  · exact tr_233_8 ⟨⟨by decide, by decide⟩, h.ok e hL' ho⟩
  · have c2 : c ≤ 2 := c2
    rcases (show c = 1 ∨ c = 2 by omega) with e2 | e2
    · subst e2
      exact tr_233_15 (h.bad e c1 hL' ho)
    · subst e2
      exact tr_233_19 (h.bad e c1 hL' ho)
theorem wr_234 (hd : 100 ≤ d) (hL : Lab M s) (hW : wfs s) (h : WO (o_clearImage s x) n kd M Qr) : pm_run d 234 [.inr (.inl (8, 0)), .inl x, .inr (.inl (3001, 122))] (pm_m n kd M) Qr Qx := by
  obtain ⟨d, rfl⟩ := pm_ex1 (show 1 ≤ d by omega)
  refine tr_234 (la_97 (by omega) hL hW (LO.el (xc := [0]) cd_clearImage (fun v M' e hL' ho => ?_) (fun c M' e c1 c2 hL' ho => ?_)))
  · exact tr_234_7 ⟨⟨by decide, by decide⟩, h.ok e hL' ho⟩
  · have c2 : c ≤ 1 := c2
    have e2 : c = 1 := by omega
    subst e2
    exact tr_234_13 (h.bad e c1 hL' ho)
theorem wr_235 (hd : 100 ≤ d) (hL : Lab M s) (hW : wfs s) (h : WO (o_applyMorphism s) n kd M Qr) : pm_run d 235 [.inr (.inl (8, 0)), .inr (.inl (3001, 122))] (pm_m n kd M) Qr Qx := by
  obtain ⟨d, rfl⟩ := pm_ex1 (show 1 ≤ d by omega)
  refine tr_235 (la_98 (by omega) hL hW (LO.el (xc := [1]) cd_applyMorphism (fun v M' e hL' ho => ?_) (fun c M' e c1 c2 hL' ho => ?_)))
  · exact tr_235_6 ⟨⟨by decide, by decide⟩, h.ok e hL' ho⟩
  · have c2 : c ≤ 1 := c2
    have e2 : c = 1 := by omega
    subst e2
    exact tr_235_12 (h.bad e c1 hL' ho)
theorem wr_236 (hd : 100 ≤ d) (hL : Lab M s) (hW : wfs s) (h : WO (o_iterate s x y) n kd M Qr) : pm_run d 236 [.inr (.inl (8, 0)), .inl x, .inl y, .inr (.inl (3001, 122))] (pm_m n kd M) Qr Qx := by
  obtain ⟨d, rfl⟩ := pm_ex1 (show 1 ≤ d by omega)
  refine tr_236 (la_99 (by omega) hL hW (LO.el (xc := [0, 1]) cd_iterate (fun v M' e hL' ho => ?_) (fun c M' e c1 c2 hL' ho => ?_)))
  · exact tr_236_8 ⟨⟨by decide, by decide⟩, h.ok e hL' ho⟩
  · have c2 : c ≤ 2 := c2
    rcases (show c = 1 ∨ c = 2 by omega) with e2 | e2
    · subst e2
      exact tr_236_15 (h.bad e c1 hL' ho)
    · subst e2
      exact tr_236_19 (h.bad e c1 hL' ho)
theorem wr_237 (hd : 100 ≤ d) (hL : Lab M s) (hW : wfs s) (h : WO (o_findMorphism s x y) n kd M Qr) : pm_run d 237 [.inr (.inl (8, 0)), .inl x, .inl y, .inr (.inl (3001, 122))] (pm_m n kd M) Qr Qx := by
  obtain ⟨d, rfl⟩ := pm_ex1 (show 1 ≤ d by omega)
  refine tr_237 (la_100 (by omega) hL hW (LO.el (xc := [0, 1, 4, 5]) cd_findMorphism (fun v M' e hL' ho => ?_) (fun c M' e c1 c2 hL' ho => ?_)))
  · exact tr_237_8 ⟨⟨by decide, by decide⟩, h.ok e hL' ho⟩
  · have c2 : c ≤ 4 := c2
    rcases (show c = 1 ∨ c = 2 ∨ c = 3 ∨ c = 4 by omega) with e2 | e2 | e2 | e2
    · subst e2
      exact tr_237_15 (h.bad e c1 hL' ho)
    · subst e2
      exact tr_237_19 (h.bad e c1 hL' ho)
    · subst e2
      exact tr_237_23 (h.bad e c1 hL' ho)
    · subst e2
      exact tr_237_27 (h.bad e c1 hL' ho)
theorem wr_238 (hd : 100 ≤ d) (hL : Lab M s) (hW : wfs s) (h : WO (o_countSpoiled s x) n kd M Qr) : pm_run d 238 [.inr (.inl (8, 0)), .inl x, .inr (.inl (3001, 122))] (pm_m n kd M) Qr Qx := by
  obtain ⟨d, rfl⟩ := pm_ex1 (show 1 ≤ d by omega)
  refine tr_238 (la_101 (by omega) hL hW (LO.el (xc := [0, 1, 4]) cd_countSpoiled (fun v M' e hL' ho => ?_) (fun c M' e c1 c2 hL' ho => ?_)))
  · exact tr_238_7 ⟨⟨by decide, by decide⟩, h.ok e hL' ho⟩
  · have c2 : c ≤ 3 := c2
    rcases (show c = 1 ∨ c = 2 ∨ c = 3 by omega) with e2 | e2 | e2
    · subst e2
      exact tr_238_13 (h.bad e c1 hL' ho)
    · subst e2
      exact tr_238_16 (h.bad e c1 hL' ho)
    · subst e2
      exact tr_238_19 (h.bad e c1 hL' ho)
theorem wr_239 (hd : 100 ≤ d) (hL : Lab M s) (hW : wfs s) (h : WO (o_restore s) n kd M Qr) : pm_run d 239 [.inr (.inl (8, 0)), .inr (.inl (3001, 122))] (pm_m n kd M) Qr Qx := by
  obtain ⟨d, rfl⟩ := pm_ex1 (show 1 ≤ d by omega)
  refine tr_239 (la_103 (by omega) hL (LO.el (xc := [1]) cd_restore (fun v M' e hL' ho => ?_) (fun c M' e c1 c2 hL' ho => ?_)))
  · exact tr_239_6 ⟨⟨by decide, by decide⟩, h.ok e hL' ho⟩
  · have c2 : c ≤ 1 := c2
    have e2 : c = 1 := by omega
    subst e2
    exact tr_239_12 (h.bad e c1 hL' ho)
end WRS

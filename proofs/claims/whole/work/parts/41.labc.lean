/-! CALLS OF THE CLASS: free sets, reductions -/
noncomputable def ok1 (p : List Nat) (j : Nat) : Bool := sb j (pm_mem p) && frB p j
noncomputable def fcnt (p : List Nat) : Nat → Nat
  | 0 => 0
  | i + 1 => if ok1 p (i + 1) = true then fcnt p i + 1 else fcnt p i
/-- the free set with an index, among c sets from i on; 0 if there is none -/
noncomputable def fsel (p : List Nat) : Nat → Nat → Nat → Nat
  | _, 0, _ => 0
  | i, c + 1, k => if ok1 p i = true then (if k = 0 then i else fsel p (i + 1) c (k - 1)) else fsel p (i + 1) c k
theorem ok1_big {p : List Nat} {j : Nat} (h : pm_mem p < j) : ok1 p j = false := by
  unfold ok1
  cases hs : sb j (pm_mem p) with
  | false => rfl
  | true => have := sb_le hs; omega
theorem fcnt_stop {p : List Nat} : ∀ i, pm_mem p ≤ i → fcnt p i = fcnt p (pm_mem p) := by
  intro i
  induction i with
  | zero => intro h; have : pm_mem p = 0 := by omega
            rw [this]
  | succ i ih =>
    intro h
    by_cases e : pm_mem p = i + 1
    · rw [e]
    · rw [fcnt, ok1_big (by omega), if_neg (by decide)]
      exact ih (by omega)
theorem fcnt_le {p : List Nat} : ∀ i, fcnt p i ≤ i
  | 0 => Nat.le_refl _
  | i + 1 => by
    have := fcnt_le (p := p) i
    rw [fcnt]
    split <;> omega
theorem fsel_stop {p : List Nat} : ∀ c i k, pm_mem p < i → fsel p i c k = 0
  | 0, _, _, _ => rfl
  | c + 1, i, k, h => by
    rw [fsel, ok1_big h, if_neg (by decide)]
    exact fsel_stop c (i + 1) k (by omega)
/-- the sets of a reduction, one after the other -/
noncomputable def rp (p : List Nat) : Nat → Nat → Nat
  | k, 0 => (RD p k).2
  | k, i + 1 => rp p (k - (RD p k).2) i
noncomputable def o_areConnected (s : stt) (x y : Int) : ans := if (0 ≤ x ∧ x < 5) ∧ (0 ≤ y ∧ y < 5) ∧ (pm_mem (gP s)).testBit x.toNat = true ∧ (pm_mem (gP s)).testBit y.toNat = true then (.inl (bI (cnB (gP s) x.toNat y.toNat)), s) else (.inr 1, s)
noncomputable def o_isFree (s : stt) (x : Int) : ans := if 0 < x ∧ x < 32 ∧ sb x.toNat (pm_mem (gP s)) = true then (.inl (bI (frB (gP s) x.toNat)), s) else (.inr 1, s)
noncomputable def o_freeSetCount (s : stt) : ans := (.inl (fcnt (gP s) 31), s)
noncomputable def o_freeSet (s : stt) (x : Int) : ans := if x < 0 then (.inr 1, s) else if fsel (gP s) 1 31 x.toNat = 0 then (.inr 1, s) else (.inl (fsel (gP s) 1 31 x.toNat : Nat), s)
noncomputable def o_delete (s : stt) (x : Int) : ans := if 0 < x ∧ x < 32 ∧ sb x.toNat (pm_mem (gP s)) = true then (if frB (gP s) x.toNat = true then (.inl ((gP s).filter fun v => !(x.toNat).testBit v).length, sP s ((gP s).filter fun v => !(x.toNat).testBit v)) else (.inr 2, s)) else (.inr 1, s)
noncomputable def o_isUnavoidable (s : stt) : ans := (.inl (bI (RD (gP s) (pm_mem (gP s))).1.isSome), s)
noncomputable def o_reductionLength (s : stt) : ans := match (RD (gP s) (pm_mem (gP s))).1 with | none => (.inr 1, s) | some c => (.inl (c : Nat), s)
noncomputable def o_reductionSet (s : stt) (x : Int) : ans := match (RD (gP s) (pm_mem (gP s))).1 with | none => (.inr 1, s) | some c => if 0 ≤ x ∧ x < c then (.inl (rp (gP s) (pm_mem (gP s)) x.toNat : Nat), s) else (.inr 2, s)
def fv (o : Option Nat) : Int := match o with
  | none => 100
  | some c => (c : Int)
theorem rdL_stop {p : List Nat} {k : Nat} {F : Nat → Option Nat × Nat} : ∀ i, k ≤ i → rdL p k F i = rdL p k F k := by
  intro i
  induction i with
  | zero => intro h; have : k = 0 := by omega
            rw [this]
  | succ i ih =>
    intro h
    by_cases e : k = i + 1
    · rw [e]
    · rw [rdL_succ, ih (by omega)]
      unfold rdS
      rw [if_neg]
      intro hh
      have := sb_le hh.1
      omega
section LBC
variable {d n : Nat} {kd : Nat → Nat} {M : Nat → Nat → Int} {Qr : Option pm_V → pm_Me → Prop} {Qx : Nat → pm_Me → Prop} {s : stt} {x y : Int}
/-- countLoose -/
theorem sp_28 {p : List Nat} (hd : 5 ≤ d) (hp : pm_row M 2 p) (h5 : ∀ v ∈ p, v < 5) (h : ∀ M', pm_fr 79 80 M M' → Qr (some (.inl (fcnt p 31 : Int))) (pm_m n kd M')) : pm_run d 28 [.inr (.inl (4, 78)), .inr (.inl (6, 2))] (pm_m n kd M) Qr Qx := by
  obtain ⟨d, rfl⟩ := pm_ex1 (show 1 ≤ d by omega)
  have hm := pm_mem_lt' h5
  refine tr_28 (sp_51 (by omega) hp h5 (tr_28_4 ?_))
  refine sp_24 (by omega) hp h5 hm (fun M1 hL ho => tr_28_11 ?_)
  rw [kf_all h5] at hL
  have key := pm_lp (α := Unit) (N := pm_mem p) (G := fun i _ => pm_wq d 28 Qr Qx (16, [some (.inr (.inl (4, 78))), none, some (.inl (pm_mem p : Int)), some (.inl (fcnt p i : Int)), some (.inl ((i : Int) + 1))], [], pm_m n kd M1, 0, 0)) (I := fun _ _ => True) (fun _ _ => tr_28_16 ⟨fun _ => by
      have := h M1 ho
      rw [fcnt_stop 31 (by omega)] at this
      exact this, fun z => by omega⟩) (fun i _ hi _ ih => by
      have ih := ih () trivial
      have hle := fcnt_le (p := p) i
      rw [fcnt] at ih
      have e : ((i : Int) + 1) = ((i + 1 : Nat) : Int) := by omega
      have e2 : (((i + 1 : Nat) : Int) + 1) = ((i : Int) + 1) + 1 := by omega
      refine tr_28_16 ⟨fun z => by omega, fun _ => ?_⟩
      rw [e, sb_32 (i + 1) (by omega) _ hm]
      refine ⟨fun z => ⟨⟨by omega, by omega⟩, ?_⟩, fun z => ?_⟩
      · have hok : ok1 p (i + 1) = false := by unfold ok1; rw [z]; rfl
        rw [hok, if_neg (by decide)] at ih
        exact ih
      · have hs : sb (i + 1) (pm_mem p) = true := by cases hc : sb (i + 1) (pm_mem p); exact absurd hc z; rfl
        refine sp_27 (by omega) (by omega) hL (tr_28_37 ⟨fun z2 => ⟨⟨by omega, by omega⟩, ?_⟩, fun z2 => ⟨⟨by omega, by omega⟩, ⟨by omega, by omega⟩, ?_⟩⟩)
        · have hf : frB p (i + 1) = false := by cases hc : frB p (i + 1); rfl; rw [hc] at z2; exact absurd z2 (by decide)
          have hok : ok1 p (i + 1) = false := by unfold ok1; rw [hf, Bool.and_false]
          rw [hok, if_neg (by decide)] at ih
          exact ih
        · have hf : frB p (i + 1) = true := by cases hc : frB p (i + 1); rw [hc] at z2; exact absurd rfl z2; rfl
          have hok : ok1 p (i + 1) = true := by unfold ok1; rw [hf, hs]; rfl
          rw [hok, if_pos rfl] at ih
          exact ih) 0 () (Nat.zero_le _) trivial
  exact key
/-- looseSet -/
theorem sp_29 {p : List Nat} (hd : 5 ≤ d) (hp : pm_row M 2 p) (h5 : ∀ v ∈ p, v < 5) (hx : pm_r x) (h : ∀ M', pm_fr 79 80 M M' → Qr (some (.inl (if x < 0 then 0 else (fsel p 1 31 x.toNat : Int)))) (pm_m n kd M')) : pm_run d 29 [.inr (.inl (4, 78)), .inr (.inl (6, 2)), .inl x] (pm_m n kd M) Qr Qx := by
  obtain ⟨d, rfl⟩ := pm_ex1 (show 1 ≤ d by omega)
  have hm := pm_mem_lt' h5
  obtain ⟨hx1, hx2⟩ := hx
  refine tr_29 (sp_51 (by omega) hp h5 (tr_29_4 ?_))
  refine sp_24 (by omega) hp h5 hm (fun M1 hL ho => tr_29_11 ?_)
  rw [kf_all h5] at hL
  have hM := h M1 ho
  by_cases hneg : x < 0
  · rw [if_pos hneg] at hM
    exact tr_29_17 ⟨fun _ => hM, fun _ => ⟨fun _ => hM, fun z => absurd hneg z⟩⟩
  · rw [if_neg hneg] at hM
    generalize hF : fsel p 1 31 x.toNat = F0 at hM
    have key : ∀ (c i k : Nat), c + i = 32 → 1 ≤ i → (k : Int) ≤ x → F0 = fsel p i c k → pm_wq d 29 Qr Qx (17, [some (.inr (.inl (4, 78))), none, none, some (.inl (pm_mem p : Int)), some (.inl (k : Int)), some (.inl (i : Int))], [], pm_m n kd M1, 0, 0) := by
      intro c
      induction c with
      | zero =>
        intro i k hc hi hk he
        rw [he] at hM
        exact tr_29_17 ⟨fun _ => hM, fun z => by omega⟩
      | succ c ih =>
        intro i k hc hi hk he
        refine tr_29_17 ⟨fun z => ?_, fun z => ⟨fun z2 => by omega, fun _ => ?_⟩⟩
        · rw [he, fsel_stop _ _ _ (by omega)] at hM
          exact hM
        · rw [sb_32 i (by omega) _ hm]
          rw [fsel] at he
          refine ⟨fun z2 => ⟨⟨by omega, by omega⟩, ?_⟩, fun z2 => ?_⟩
          · have hok : ok1 p i = false := by unfold ok1; rw [z2]; rfl
            rw [hok, if_neg (by decide)] at he
            exact ih (i + 1) k (by omega) (by omega) hk he
          · have hs : sb i (pm_mem p) = true := by cases hc : sb i (pm_mem p); exact absurd hc z2; rfl
            refine sp_27 (by omega) (by omega) hL (tr_29_43 ⟨fun z3 => ⟨⟨by omega, by omega⟩, ?_⟩, fun z3 => ?_⟩)
            · have hf : frB p i = false := by cases hc : frB p i; rfl; rw [hc] at z3; exact absurd z3 (by decide)
              have hok : ok1 p i = false := by unfold ok1; rw [hf, Bool.and_false]
              rw [hok, if_neg (by decide)] at he
              exact ih (i + 1) k (by omega) (by omega) hk he
            · have hf : frB p i = true := by cases hc : frB p i; rw [hc] at z3; exact absurd rfl z3; rfl
              have hok : ok1 p i = true := by unfold ok1; rw [hf, hs]; rfl
              rw [hok, if_pos rfl] at he
              refine ⟨fun z4 => ⟨⟨by omega, by omega⟩, ⟨by omega, by omega⟩, ?_⟩, fun z4 => ?_⟩
              · rw [if_neg (by omega)] at he
                have e : ((k : Int) + (-1)) = ((k - 1 : Nat) : Int) := by omega
                rw [e]
                exact ih (i + 1) (k - 1) (by omega) (by omega) (by omega) he
              · rw [if_pos (by omega)] at he
                rw [he] at hM
                exact hM
    have e : x = ((x.toNat : Nat) : Int) := by omega
    have := key 31 1 x.toNat (by omega) (by omega) (by omega) hF.symm
    rw [← e] at this
    exact this
/-- chooseFirst -/
theorem sp_31 {p : List Nat} {k a : Nat} (hd : 4 ≤ d) (hk : 0 < k) (ha : a < 32) (hka : sb k a = true) (hL : LK M (kf k p)) (ht : ∀ j, j < k → sb j a = true → M 80 j = fv (RD p j).1 ∧ M 81 j = ((RD p j).2 : Int)) (h : ∀ M', M' 80 k = fv (RD p k).1 → M' 81 k = ((RD p k).2 : Int) → (∀ j, j ≠ k → M' 80 j = M 80 j ∧ M' 81 j = M 81 j) → pm_fr 80 82 M M' → Qr none (pm_m n kd M')) : pm_run d 31 [.inr (.inl (4, 78)), .inl (k : Int)] (pm_m n kd M) Qr Qx := by
  obtain ⟨d, rfl⟩ := pm_ex1 (show 1 ≤ d by omega)
  have hk32 : k < 32 := Nat.lt_of_le_of_lt (sb_le hka) ha
  refine tr_31 ⟨⟨by omega, by omega⟩, ⟨by omega, by omega⟩, ?_⟩
  rw [Int.toNat_natCast]
  have key := pm_lp (N := k) (G := fun i M1 => pm_wq d 31 Qr Qx (17, [some (.inr (.inl (4, 78))), some (.inl (k : Int)), some (.inl ((i : Int) + 1))], [], pm_m n kd M1, 0, 0)) (I := fun i M1 => M1 80 k = fv (rdL p k (RD p) i).1 ∧ M1 81 k = ((rdL p k (RD p) i).2 : Int) ∧ (∀ j, j ≠ k → M1 80 j = M 80 j ∧ M1 81 j = M 81 j) ∧ pm_fr 80 82 M M1) (fun M1 ⟨h1, h2, h3, ho⟩ => tr_31_17 ⟨fun _ => by
      have e : rdL p k (RD p) k = RD p k := by rw [RD_pos hk, rdL_stop 31 (by omega)]
      rw [e] at h1 h2
      exact h M1 h1 h2 h3 ho, fun z => by omega⟩) (fun i M1 hi ⟨h1, h2, h3, ho⟩ ih => by
      have e : ((i : Int) + 1) = ((i + 1 : Nat) : Int) := by omega
      have hfa : fv (rdL p k (RD p) i).1 ≤ 100 ∧ 0 ≤ fv (rdL p k (RD p) i).1 := by
        cases hc : (rdL p k (RD p) i).1 with
        | none => exact ⟨by decide, by decide⟩
        | some c =>
          have hs2 := rdL_some i c hc
          have hle := RD_le _ _ hs2.2.2.2.2
          show (c : Int) ≤ 100 ∧ 0 ≤ (c : Int)
          omega
      have same : rdS p k (RD p) (rdL p k (RD p) i) (i + 1) = rdL p k (RD p) i → pm_wq d 31 Qr Qx (17, [some (.inr (.inl (4, 78))), some (.inl (k : Int)), some (.inl (((i + 1 : Nat) : Int) + 1))], [], pm_m n kd M1, 0, 0) := fun hs => ih M1 ⟨by rw [rdL_succ, hs]; exact h1, by rw [rdL_succ, hs]; exact h2, h3, ho⟩
      refine tr_31_17 ⟨fun z => by omega, fun _ => ?_⟩
      rw [e, sb_32 (i + 1) (by omega) _ hk32]
      refine ⟨fun z => ⟨⟨by omega, by omega⟩, same ?_⟩, fun z => ?_⟩
      · unfold rdS
        rw [if_neg]
        rintro ⟨a1, _⟩
        rw [z] at a1; cases a1
      · have hs : sb (i + 1) k = true := by cases hc : sb (i + 1) k; exact absurd hc z; rfl
        refine sp_27 (by omega) (by omega) (hL.fr ho (by decide)) (tr_31_35 ⟨fun z2 => ⟨⟨by omega, by omega⟩, same ?_⟩, fun z2 => ?_⟩)
        · unfold rdS
          rw [if_neg]
          rintro ⟨_, a2⟩
          rw [a2] at z2; exact absurd z2 (by decide)
        · have hf : frB (kf k p) (i + 1) = true := by cases hc : frB (kf k p) (i + 1); rw [hc] at z2; exact absurd rfl z2; rfl
          rw [sub_32 k hk32 (i + 1) (by omega) hs, Int.toNat_natCast, Int.toNat_natCast]
          have hsub := (sb_sub hk32 (show i + 1 < 32 by omega) hs ha hka).1
          have htab := ht (k - (i + 1)) (by omega) hsub
          rw [(h3 (k - (i + 1)) (by omega)).1, htab.1, h1]
          have hrd : fv (RD p (k - (i + 1))).1 ≤ 100 ∧ 0 ≤ fv (RD p (k - (i + 1))).1 := by
            cases hc : (RD p (k - (i + 1))).1 with
            | none => exact ⟨by decide, by decide⟩
            | some c =>
              have hle := RD_le _ _ hc
              show (c : Int) ≤ 100 ∧ 0 ≤ (c : Int)
              omega
          refine ⟨⟨by omega, by omega⟩, ⟨by omega, by omega⟩, ⟨by omega, by omega⟩, fun z3 => ⟨⟨by omega, by omega⟩, same ?_⟩, fun z3 => ⟨⟨by omega, by omega⟩, ⟨by omega, by omega⟩, ⟨by omega, by omega⟩, ⟨by omega, by omega⟩, ⟨by omega, by omega⟩, ?_⟩⟩
          · unfold rdS
            rw [if_pos ⟨hs, hf⟩]
            cases hc : (RD p (k - (i + 1))).1 with
            | none => rfl
            | some c =>
              have hle := RD_le _ _ hc
              rw [hc] at z3
              cases ha2 : (rdL p k (RD p) i).1 with
              | none =>
                rw [ha2] at z3
                have z3 : (100 : Int) ≤ (c : Int) + 1 := z3
                omega
              | some m =>
                rw [ha2] at z3
                have z3 : (m : Int) ≤ (c : Int) + 1 := z3
                exact if_neg (by omega)
          · cases hc : (RD p (k - (i + 1))).1 with
            | none =>
              rw [hc] at z3
              have : fv none = 100 := rfl
              omega
            | some c =>
              have hval : rdS p k (RD p) (rdL p k (RD p) i) (i + 1) = (some (c + 1), i + 1) := by
                unfold rdS
                rw [if_pos ⟨hs, hf⟩, hc]
                rw [hc] at z3
                cases ha2 : (rdL p k (RD p) i).1 with
                | none => rfl
                | some m =>
                  rw [ha2] at z3
                  have z3 : ¬ ((m : Int) ≤ (c : Int) + 1) := z3
                  exact if_pos (by omega)
              refine ih _ ⟨?_, ?_, fun j hj => ?_, (ho.up (by decide) (by decide)).up (by decide) (by decide)⟩
              · rw [rdL_succ, hval, pm_up_ne (Or.inl (by decide)), pm_up_eq]; rfl
              · rw [rdL_succ, hval, pm_up_eq]
              · rw [pm_up_ne (Or.inl (by decide)), pm_up_ne (Or.inr hj), pm_up_ne (Or.inr hj), pm_up_ne (Or.inl (by decide))]
                exact h3 j hj) 0 _ (Nat.zero_le _) ⟨(pm_up_ne (Or.inl (by decide))).trans pm_up_eq, pm_up_eq, fun j hj => ⟨(pm_up_ne (Or.inl (by decide))).trans (pm_up_ne (Or.inr hj)), (pm_up_ne (Or.inr hj)).trans (pm_up_ne (Or.inl (by decide)))⟩, (pm_fr.rf.up (by decide) (by decide)).up (by decide) (by decide)⟩
  exact key
/-- countSteps -/
theorem sp_30 {p : List Nat} (hd : 6 ≤ d) (hp : pm_row M 2 p) (h5 : ∀ v ∈ p, v < 5) (h : ∀ M', (∀ k, sb k (pm_mem p) = true → M' 80 k = fv (RD p k).1 ∧ M' 81 k = ((RD p k).2 : Int)) → pm_fr 79 82 M M' → Qr (some (.inl (fv (RD p (pm_mem p)).1))) (pm_m n kd M')) : pm_run d 30 [.inr (.inl (4, 78)), .inr (.inl (6, 2))] (pm_m n kd M) Qr Qx := by
  obtain ⟨d, rfl⟩ := pm_ex1 (show 1 ≤ d by omega)
  have hm := pm_mem_lt' h5
  refine tr_30 (sp_51 (by omega) hp h5 (tr_30_4 ?_))
  have key := pm_lp (N := pm_mem p) (G := fun i M1 => pm_wq d 30 Qr Qx (21, [some (.inr (.inl (4, 78))), some (.inr (.inl (6, 2))), some (.inl (pm_mem p : Int)), some (.inl ((i : Int) + 1))], [], pm_m n kd M1, 0, 0)) (I := fun i M1 => (∀ j, j ≤ i → sb j (pm_mem p) = true → M1 80 j = fv (RD p j).1 ∧ M1 81 j = ((RD p j).2 : Int)) ∧ pm_fr 79 82 M M1) (fun M1 ⟨h1, ho⟩ => tr_30_21 ⟨fun _ => ⟨⟨by omega, by omega⟩, by
      rw [Int.toNat_natCast, (h1 _ (Nat.le_refl _) (sb_refl _)).1]
      exact h M1 (fun k hk => h1 k (sb_le hk) hk) ho⟩, fun z => by omega⟩) (fun i M1 hi ⟨h1, ho⟩ ih => by
      have e : ((i : Int) + 1) = ((i + 1 : Nat) : Int) := by omega
      refine tr_30_21 ⟨fun z => by omega, fun _ => ?_⟩
      rw [e, sb_32 (i + 1) (by omega) _ hm]
      refine ⟨fun z => ⟨⟨by omega, by omega⟩, ih M1 ⟨fun j hj hs => ?_, ho⟩⟩, fun z => ?_⟩
      · by_cases ej : j = i + 1
        · rw [ej, z] at hs; cases hs
        · exact h1 j (by omega) hs
      · have hs : sb (i + 1) (pm_mem p) = true := by cases hc : sb (i + 1) (pm_mem p); exact absurd hc z; rfl
        refine sp_24 (by omega) (hp.fr ho (by decide)) h5 (by omega) (fun M2 hL ho2 => tr_30_40 ?_)
        refine sp_31 (p := p) (by omega) (by omega) hm hs hL (fun j hj hs2 => ?_) (fun M3 b1 b2 b3 ho3 => tr_30_45 ⟨⟨by omega, by omega⟩, ih M3 ⟨fun j hj hs2 => ?_, ho.tr ((ho2.wd (by decide) (by decide)).tr (ho3.wd (by decide) (by decide)))⟩⟩)
        · rw [ho2.at (by decide), ho2.at (by decide)]; exact h1 j (by omega) hs2
        · by_cases ej : j = i + 1
          · rw [ej]; exact ⟨b1, b2⟩
          · rw [(b3 j ej).1, (b3 j ej).2, ho2.at (by decide), ho2.at (by decide)]; exact h1 j (by omega) hs2) 0 _ (Nat.zero_le _) ⟨fun j hj _ => by
      have : j = 0 := by omega
      rw [this, RD_zero]
      exact ⟨(pm_up_ne (Or.inl (by decide))).trans pm_up_eq, pm_up_eq⟩, (pm_fr.rf.up (by decide) (by decide)).up (by decide) (by decide)⟩
  exact key
/-- step -/
theorem sp_32 {p : List Nat} {k c : Nat} {i0 : Nat} (hd : 1 ≤ d) (h5 : ∀ v ∈ p, v < 5) (hc : (RD p (pm_mem p)).1 = some c) (hi0 : i0 < c) (ht : ∀ k, sb k (pm_mem p) = true → M 81 k = ((RD p k).2 : Int)) (h : Qr (some (.inl (rp p (pm_mem p) i0 : Int))) (pm_m n kd M)) : pm_run d 32 [.inr (.inl (4, 78)), .inl (pm_mem p : Int), .inl (i0 : Int)] (pm_m n kd M) Qr Qx := by
  obtain ⟨d, rfl⟩ := pm_ex1 hd
  have hm := pm_mem_lt' h5
  have hcle := RD_le _ _ hc
  have key : ∀ (e i k : Nat), e + i = i0 → sb k (pm_mem p) = true → (RD p k).1 = some (c - i) → rp p (pm_mem p) i0 = rp p k e → pm_wq d 32 Qr Qx (5, [some (.inr (.inl (4, 78))), none, some (.inl (i0 : Int)), some (.inl (k : Int)), some (.inl (i : Int))], [], pm_m n kd M, 0, 0) := by
    intro e
    induction e with
    | zero =>
      intro i k he hs hk hr
      have hk32 : k < 32 := Nat.lt_of_le_of_lt (sb_le hs) hm
      refine tr_32_5 ⟨fun _ => ⟨⟨by omega, by omega⟩, ?_⟩, fun z => by omega⟩
      rw [Int.toNat_natCast, ht k hs]
      rw [hr, rp] at h
      exact h
    | succ e ih =>
      intro i k he hs hk hr
      have hk32 : k < 32 := Nat.lt_of_le_of_lt (sb_le hs) hm
      obtain ⟨b1, b2, b3, b4, b5⟩ := RD_some (p := p) (k := k) (c := c - i - 1) (by rw [hk]; congr 1; omega)
      refine tr_32_5 ⟨fun z => by omega, fun _ => ⟨fun z => by omega, fun _ => ⟨⟨by omega, by omega⟩, ⟨by omega, by omega⟩, ?_⟩⟩⟩
      rw [Int.toNat_natCast, ht k hs, sub_32 k hk32 _ b4 b2]
      rw [rp] at hr
      exact ih (i + 1) (k - (RD p k).2) (by omega) (sb_sub hk32 b4 b2 hm hs).1 (by rw [b5]; congr 1) hr
  exact tr_32 (key i0 0 (pm_mem p) (by omega) (sb_refl _) hc rfl)
/-- requireSet -/
theorem la_113 (hd : 3 ≤ d) (hL : Lab M s) (hW : wfs s) (hx : pm_r x) (hy : 0 < x → x < 32 → sb x.toNat (pm_mem (gP s)) = true → Qr none (pm_m n kd M)) (hn : ¬ (0 < x ∧ x < 32 ∧ sb x.toNat (pm_mem (gP s)) = true) → Qx 0 (pm_m n kd M)) : pm_run d 113 [.inr (.inl (8, 0)), .inl x] (pm_m n kd M) Qr Qx := by
  obtain ⟨d, rfl⟩ := pm_ex1 (show 1 ≤ d by omega)
  have h5 : ∀ v ∈ gP s, v < 5 := hW.1.2.1.2
  have hm := pm_mem_lt' h5
  refine tr_113 ⟨fun z => hn (by omega), fun z => sp_51 (by omega) hL.p h5 (tr_113_15 ⟨fun z2 => ?_, fun z2 => hn (fun hh => ?_)⟩)⟩
  · have hr := ask_set hx hm z2
    obtain ⟨k, rfl⟩ : ∃ k : Nat, x = (k : Int) := ⟨x.toNat, by omega⟩
    refine hy (by omega) (by omega) ?_
    rw [Int.toNat_natCast]
    cases hc : sb k (pm_mem (gP s)) with
    | true => rfl
    | false => exact absurd z2 ((sb_32 k (by omega) _ hm).mpr hc)
  · apply z2
    obtain ⟨k, rfl⟩ : ∃ k : Nat, x = (k : Int) := ⟨x.toNat, by omega⟩
    rw [Int.toNat_natCast] at hh
    apply Classical.byContradiction
    intro w
    have := (sb_32 k (by omega) _ hm).mp w
    rw [hh.2.2] at this
    cases this
theorem la_84 (hd : 5 ≤ d) (hL : Lab M s) (hW : wfs s) (h : LO [0] (o_areConnected s x y) n kd M Qr Qx) : pm_run d 84 [.inr (.inl (8, 0)), .inl x, .inl y] (pm_m n kd M) Qr Qx := by
  obtain ⟨d, rfl⟩ := pm_ex1 (show 1 ≤ d by omega)
  have h5 : ∀ v ∈ gP s, v < 5 := hW.1.2.1.2
  have hm := pm_mem_lt' h5
  unfold o_areConnected at h
  refine tr_84 (by omega) (sp_51 (by omega) hL.p h5 (tr_84_10 (by omega) ?_))
  by_cases z : 0 ≤ x ∧ x < 5
  · by_cases z2 : 0 ≤ y ∧ y < 5
    · obtain ⟨a, rfl⟩ : ∃ k : Nat, x = (k : Int) := ⟨x.toNat, by omega⟩
      obtain ⟨b, rfl⟩ : ∃ k : Nat, y = (k : Int) := ⟨y.toNat, by omega⟩
      rw [Int.toNat_natCast, Int.toNat_natCast] at h
      rw [pm_holds _ hm a (by omega), pm_holds _ hm b (by omega)]
      refine ⟨fun z3 => ⟨fun z4 => ?_, fun z4 => ?_⟩, fun z3 => ?_⟩
      · rw [if_pos ⟨z, z2, z3, z4⟩] at h
        refine sp_24 (by omega) hL.p h5 hm (fun M1 hK ho => tr_84_52 (by omega) ?_)
        rw [kf_all h5] at hK
        exact sp_26 (by omega) (by omega) (by omega) hK (tr_84_61 (by omega) ⟨bI_or _, h M1 (hL.fr ho (by decide)) (ho.wd (by decide) (by decide))⟩)
      · rw [if_neg (fun w => z4 w.2.2.2)] at h
        exact h M hL pm_fr.rf
      · rw [if_neg (fun w => z3 w.2.2.1)] at h
        exact h M hL pm_fr.rf
    · rw [if_neg (fun w => z2 w.2.1)] at h
      exact ⟨fun _ => ⟨fun w => absurd ⟨w.1, w.2.1⟩ z2, fun _ => h M hL pm_fr.rf⟩, fun _ => h M hL pm_fr.rf⟩
  · rw [if_neg (fun w => z w.1)] at h
    exact ⟨fun w => absurd ⟨w.1, w.2.1⟩ z, fun _ => h M hL pm_fr.rf⟩
theorem la_85 (hd : 5 ≤ d) (hL : Lab M s) (hW : wfs s) (hx : pm_r x) (h : LO [0] (o_isFree s x) n kd M Qr Qx) : pm_run d 85 [.inr (.inl (8, 0)), .inl x] (pm_m n kd M) Qr Qx := by
  obtain ⟨d, rfl⟩ := pm_ex1 (show 1 ≤ d by omega)
  have h5 : ∀ v ∈ gP s, v < 5 := hW.1.2.1.2
  have hm := pm_mem_lt' h5
  unfold o_isFree at h
  refine tr_85 (la_113 (by omega) hL hW hx (fun z1 z2 z3 => ?_) (fun z => ?_))
  · rw [if_pos ⟨z1, z2, z3⟩] at h
    refine tr_85_5 (sp_51 (by omega) hL.p h5 (tr_85_26 ?_))
    refine sp_24 (by omega) hL.p h5 hm (fun M1 hK ho => tr_85_29 ?_)
    rw [kf_all h5] at hK
    have e : x = ((x.toNat : Nat) : Int) := by omega
    rw [e]
    exact sp_27 (by omega) (by omega) hK (tr_85_37 ⟨bI_or _, h M1 (hL.fr ho (by decide)) (ho.wd (by decide) (by decide))⟩)
  · rw [if_neg z] at h
    exact h M hL pm_fr.rf
theorem la_86 (hd : 6 ≤ d) (hL : Lab M s) (hW : wfs s) (h : LO [] (o_freeSetCount s) n kd M Qr Qx) : pm_run d 86 [.inr (.inl (8, 0))] (pm_m n kd M) Qr Qx := by
  obtain ⟨d, rfl⟩ := pm_ex1 (show 1 ≤ d by omega)
  exact tr_86 (sp_28 (by omega) hL.p hW.1.2.1.2 (fun M1 ho => tr_86_14 (h M1 (hL.fr ho (by decide)) (ho.wd (by decide) (by decide)))))
theorem la_87 (hd : 6 ≤ d) (hL : Lab M s) (hW : wfs s) (hx : pm_r x) (h : LO [2] (o_freeSet s x) n kd M Qr Qx) : pm_run d 87 [.inr (.inl (8, 0)), .inl x] (pm_m n kd M) Qr Qx := by
  obtain ⟨d, rfl⟩ := pm_ex1 (show 1 ≤ d by omega)
  unfold o_freeSet at h
  refine tr_87 (sp_29 (by omega) hL.p hW.1.2.1.2 hx (fun M1 ho => tr_87_15 ?_))
  have hM : ∀ o : ans, LO [2] o n kd M Qr Qx → o.2 = s → match o.1 with | .inl v => Qr (some (.inl v)) (pm_m n kd M1) | .inr c => Qx ([2].getD (c - 1) 9) (pm_m n kd M1) := fun o ho2 e => ho2 M1 (by rw [e]; exact hL.fr ho (by decide)) (ho.wd (by decide) (by decide))
  by_cases hneg : x < 0
  · rw [if_pos hneg] at h ⊢
    exact ⟨fun z => absurd rfl z, fun _ => hM _ h rfl⟩
  · rw [if_neg hneg] at h ⊢
    by_cases h0 : fsel (gP s) 1 31 x.toNat = 0
    · rw [if_pos h0] at h
      rw [h0]
      exact ⟨fun z => absurd rfl z, fun _ => hM _ h rfl⟩
    · rw [if_neg h0] at h
      exact ⟨fun _ => hM _ h rfl, fun z => by omega⟩
theorem la_88 (hd : 5 ≤ d) (hL : Lab M s) (hW : wfs s) (hx : pm_r x) (h : LO [0, 1] (o_delete s x) n kd M Qr Qx) : pm_run d 88 [.inr (.inl (8, 0)), .inl x] (pm_m n kd M) Qr Qx := by
  obtain ⟨d, rfl⟩ := pm_ex1 (show 1 ≤ d by omega)
  have h5 : ∀ v ∈ gP s, v < 5 := hW.1.2.1.2
  have hm := pm_mem_lt' h5
  unfold o_delete at h
  refine tr_88 (la_113 (by omega) hL hW hx (fun z1 z2 z3 => ?_) (fun z => ?_))
  · rw [if_pos ⟨z1, z2, z3⟩] at h
    refine tr_88_5 (sp_51 (by omega) hL.p h5 (tr_88_26 ?_))
    refine sp_24 (by omega) hL.p h5 hm (fun M1 hK ho => tr_88_29 ?_)
    rw [kf_all h5] at hK
    have e : x = ((x.toNat : Nat) : Int) := by omega
    rw [e]
    refine sp_27 (by omega) (by omega) hK (tr_88_37 ⟨fun z => ?_, fun z => ?_⟩)
    · have hf : frB (gP s) x.toNat = true := by cases hc : frB (gP s) x.toNat; rw [hc] at z; exact absurd rfl z; rfl
      rw [if_pos hf] at h
      refine sp_47 (by omega) (hL.p.fr ho (by decide)) h5 (by omega) (fun M2 hr ho2 => tr_88_62 ?_)
      rw [hr.size.1]
      exact h M2 ((hL.fr ho (by decide)).sp ho2 hr) ((ho.wd (by decide) (by decide)).tr (ho2.wd (by decide) (by decide)))
    · have hf : ¬ frB (gP s) x.toNat = true := fun w => by rw [w] at z; exact z (by decide)
      rw [if_neg hf] at h
      exact h M1 (hL.fr ho (by decide)) (ho.wd (by decide) (by decide))
  · rw [if_neg z] at h
    exact h M hL pm_fr.rf
theorem la_89 (hd : 7 ≤ d) (hL : Lab M s) (hW : wfs s) (h : LO [] (o_isUnavoidable s) n kd M Qr Qx) : pm_run d 89 [.inr (.inl (8, 0))] (pm_m n kd M) Qr Qx := by
  obtain ⟨d, rfl⟩ := pm_ex1 (show 1 ≤ d by omega)
  have h5 : ∀ v ∈ gP s, v < 5 := hW.1.2.1.2
  have hm := pm_mem_lt' h5
  unfold o_isUnavoidable at h
  refine tr_89 (sp_30 (by omega) hL.p h5 (fun M1 _ ho => ?_))
  have := h M1 (hL.fr ho (by decide)) (ho.wd (by decide) (by decide))
  cases hc : (RD (gP s) (pm_mem (gP s))).1 with
  | none => rw [hc] at this; exact tr_89_14 ⟨fun _ => this, fun z => absurd (by decide) z⟩
  | some c =>
    rw [hc] at this
    have hle := RD_le _ _ hc
    exact tr_89_14 ⟨fun z => by have z : (100 : Int) ≤ (c : Int) := z; omega, fun _ => this⟩
/-- requireReduction -/
theorem la_114 (hd : 7 ≤ d) (hL : Lab M s) (hW : wfs s) (hy : ∀ M' c, (RD (gP s) (pm_mem (gP s))).1 = some c → (∀ k, sb k (pm_mem (gP s)) = true → M' 81 k = ((RD (gP s) k).2 : Int)) → pm_fr 79 82 M M' → Qr (some (.inl (c : Int))) (pm_m n kd M')) (hn : ∀ M', (RD (gP s) (pm_mem (gP s))).1 = none → pm_fr 79 82 M M' → Qx 5 (pm_m n kd M')) : pm_run d 114 [.inr (.inl (8, 0))] (pm_m n kd M) Qr Qx := by
  obtain ⟨d, rfl⟩ := pm_ex1 (show 1 ≤ d by omega)
  have h5 : ∀ v ∈ gP s, v < 5 := hW.1.2.1.2
  have hm := pm_mem_lt' h5
  refine tr_114 (sp_30 (by omega) hL.p h5 (fun M1 ht ho => ?_))
  cases hc : (RD (gP s) (pm_mem (gP s))).1 with
  | none => exact tr_114_14 ⟨fun z => absurd z (by decide), fun _ => hn M1 hc ho⟩
  | some c =>
    have hle := RD_le _ _ hc
    exact tr_114_14 ⟨fun _ => hy M1 c hc (fun k hk => (ht k hk).2) ho, fun z => absurd (show (c : Int) < 100 by omega) z⟩
theorem la_90 (hd : 8 ≤ d) (hL : Lab M s) (hW : wfs s) (h : LO [5] (o_reductionLength s) n kd M Qr Qx) : pm_run d 90 [.inr (.inl (8, 0))] (pm_m n kd M) Qr Qx := by
  obtain ⟨d, rfl⟩ := pm_ex1 (show 1 ≤ d by omega)
  unfold o_reductionLength at h
  refine tr_90 (la_114 (by omega) hL hW (fun M1 c hc _ ho => ?_) (fun M1 hc ho => ?_))
  · rw [hc] at h
    exact tr_90_4 (h M1 (hL.fr ho (by decide)) (ho.wd (by decide) (by decide)))
  · rw [hc] at h
    exact h M1 (hL.fr ho (by decide)) (ho.wd (by decide) (by decide))
theorem la_91 (hd : 8 ≤ d) (hL : Lab M s) (hW : wfs s) (h : LO [5, 2] (o_reductionSet s x) n kd M Qr Qx) : pm_run d 91 [.inr (.inl (8, 0)), .inl x] (pm_m n kd M) Qr Qx := by
  obtain ⟨d, rfl⟩ := pm_ex1 (show 1 ≤ d by omega)
  have h5 : ∀ v ∈ gP s, v < 5 := hW.1.2.1.2
  unfold o_reductionSet at h
  refine tr_91 (la_114 (by omega) hL hW (fun M1 c hc ht ho => ?_) (fun M1 hc ho => ?_))
  · rw [hc] at h
    have h : LO [5, 2] (if 0 ≤ x ∧ x < c then (.inl (rp (gP s) (pm_mem (gP s)) x.toNat : Nat), s) else (.inr 2, s)) n kd M Qr Qx := h
    refine tr_91_4 ⟨fun z => ?_, fun z => ⟨fun z2 => ?_, fun z2 => ?_⟩⟩
    · rw [if_neg (by omega)] at h
      exact h M1 (hL.fr ho (by decide)) (ho.wd (by decide) (by decide))
    · rw [if_pos (by omega)] at h
      refine sp_51 (by omega) (hL.p.fr ho (by decide)) h5 (tr_91_39 ?_)
      have e : x = ((x.toNat : Nat) : Int) := by omega
      rw [e]
      exact sp_32 (k := 0) (by omega) h5 hc (by omega) ht (tr_91_43 (h M1 (hL.fr ho (by decide)) (ho.wd (by decide) (by decide))))
    · rw [if_neg (by omega)] at h
      exact h M1 (hL.fr ho (by decide)) (ho.wd (by decide) (by decide))
  · rw [hc] at h
    exact h M1 (hL.fr ho (by decide)) (ho.wd (by decide) (by decide))
end LBC

/-! CALLS OF THE REFERENCE: occurrences, shelves, images, snapshot -/
/-- a field and an array changed -/
def px_f1 (f q : Nat) (M M' : Nat → Nat → Int) : Prop := (∀ a, a ≠ 97 → a ≠ q → M' a = M a) ∧ ∀ j, j ≠ f → M' 97 j = M 97 j
theorem px_f1.up0 {f q : Nat} {M : Nat → Nat → Int} {x : Int} (hq : q ≠ 97) : px_f1 f q M (pm_up M 97 f x) := ⟨fun a h1 h2 => pm_up_row h1, fun j hj => pm_up_ne (Or.inr hj)⟩
theorem px_f1.up {f q j : Nat} {M M1 : Nat → Nat → Int} {x : Int} (h : px_f1 f q M M1) (hq : q ≠ 97) : px_f1 f q M (pm_up M1 q j x) := ⟨fun a h1 h2 => (pm_up_row h2).trans (h.1 a h1 h2), fun j hj => (pm_up_ne (Or.inl (by omega))).trans (h.2 j hj)⟩
theorem px_f1.sc {f q : Nat} {M M' : Nat → Nat → Int} (h : px_f1 f q M M') (hf : f = 0 ∨ 23 ≤ f) (hq : 110 ≤ q ∧ q < 122) : px_sc M M' := ⟨fun a ha => h.1 a (by omega) (by omega), fun j h1 h2 => h.2 j (by omega)⟩
theorem px_sk.cg {M M' : Nat → Nat → Int} {p : List Nat} (h : px_sk M p) (e1 : M' 97 23 = M 97 23) (e2 : M' 111 = M 111) : px_sk M' p := ⟨e1.trans h.1, h.2.1, h.2.2.1, fun j hj => by rw [e2]; exact h.2.2.2 j hj⟩
theorem px_tx.cg {M M' : Nat → Nat → Int} {p : List Nat} (h : px_tx M p) (e1 : M' 97 25 = M 97 25) (e2 : M' 112 = M 112) : px_tx M' p := ⟨e1.trans h.1, h.2.1, fun j hj => by rw [e2]; exact h.2.2 j hj⟩
theorem px_sk.f1 {M M' : Nat → Nat → Int} {p : List Nat} {f q : Nat} (h : px_sk M p) (g : px_f1 f q M M') (h1 : f ≠ 23) (h2 : q ≠ 111) : px_sk M' p := h.cg (g.2 23 (by omega)) (g.1 111 (by omega) (by omega))
/-- equal equality, equal canonical names -/
theorem ix_inj {S : List Nat} {u v : Nat} (hu : u ∈ S) (hv : v ∈ S) (h : pm_ix S u = pm_ix S v) : u = v := by
  have a := (pm_ix_mem hu).2
  rw [h, (pm_ix_mem hv).2] at a
  exact a.symm
theorem iso_iff {p q : List Nat} : pm_cn p = pm_cn q ↔ p.length = q.length ∧ ∀ a, a < p.length → ∀ b, b < a → (p.getD a 0 = p.getD b 0 ↔ q.getD a 0 = q.getD b 0) := by
  constructor
  · intro h
    have hl : p.length = q.length := by
      have := congrArg List.length h
      rwa [cn_len, cn_len] at this
    refine ⟨hl, fun a ha b hb => ?_⟩
    have e : ∀ (x : List Nat), ∀ a, a < x.length → ∀ b, b < x.length → (x.getD a 0 = x.getD b 0 ↔ (pm_cn x).getD a 0 = (pm_cn x).getD b 0) := by
      intro x a ha b hb
      rw [cn_at ha, cn_at hb]
      exact ⟨fun z => by rw [z], fun z => ix_inj (pm_sn_mem.mpr (gd_mem ha)) (pm_sn_mem.mpr (gd_mem hb)) z⟩
    rw [e p a ha b (by omega), e q a (by omega) b (by omega), h]
  · rintro ⟨hl, h⟩
    have key : ∀ i, i ≤ p.length → pm_cn (p.take i) = pm_cn (q.take i) ∧ (pm_sn (p.take i)).length = (pm_sn (q.take i)).length := by
      intro i
      induction i with
      | zero => intro _; exact ⟨rfl, rfl⟩
      | succ i ih =>
        intro hi
        obtain ⟨i1, i2⟩ := ih (by omega)
        have hin : ∀ (x : List Nat), i < x.length → (x.getD i 0 ∈ x.take i ↔ ∃ b, b < i ∧ x.getD i 0 = x.getD b 0) := by
          intro x hx
          constructor
          · intro hm
            have := pm_ix_mem hm
            rw [tk_len (by omega)] at this
            exact ⟨_, this.1, by rw [← gd_take this.1]; exact this.2.symm⟩
          · rintro ⟨b, hb, he⟩
            have := @gd_mem (x.take i) b (by rw [tk_len (by omega)]; exact hb)
            rwa [gd_take hb, ← he] at this
        rw [tk_succ (show i < p.length by omega), tk_succ (show i < q.length by omega)]
        by_cases hm : p.getD i 0 ∈ p.take i
        · obtain ⟨b, hb, he⟩ := (hin p (by omega)).mp hm
          have he2 := (h i (by omega) b hb).mp he
          have hm2 : q.getD i 0 ∈ q.take i := (hin q (by omega)).mpr ⟨b, hb, he2⟩
          rw [pm_cn_old hm, pm_cn_old hm2, pm_sn_snoc, pm_sn_snoc, if_pos (pm_sn_mem.mpr hm), if_pos (pm_sn_mem.mpr hm2)]
          refine ⟨?_, i2⟩
          have e1 : pm_ix (pm_sn (p.take i)) (p.getD i 0) = (pm_cn (p.take i)).getD b 0 := by
            rw [cn_at (by rw [tk_len (by omega)]; exact hb), gd_take hb, he]
          have e2 : pm_ix (pm_sn (q.take i)) (q.getD i 0) = (pm_cn (q.take i)).getD b 0 := by
            rw [cn_at (by rw [tk_len (by omega)]; exact hb), gd_take hb, he2]
          rw [e1, e2, i1]
        · have hm2 : q.getD i 0 ∉ q.take i := by
            intro w
            obtain ⟨b, hb, he⟩ := (hin q (by omega)).mp w
            exact hm ((hin p (by omega)).mpr ⟨b, hb, (h i (by omega) b hb).mpr he⟩)
          rw [pm_cn_new hm, pm_cn_new hm2, pm_sn_snoc, pm_sn_snoc, if_neg (fun w => hm (pm_sn_mem.mp w)), if_neg (fun w => hm2 (pm_sn_mem.mp w))]
          exact ⟨by rw [i1, i2], by rw [List.length_append, List.length_append, i2]; rfl⟩
    have := (key p.length (Nat.le_refl _)).1
    rwa [List.take_length, hl, List.take_length] at this
section RFB
variable {d n : Nat} {kd : Nat → Nat} {M : Nat → Nat → Int} {Qr : Option pm_V → pm_Me → Prop} {Qx : Nat → pm_Me → Prop} {s : stt} {x y : Int}
/-- seek, of the pattern -/
theorem ra_140 {p : List Nat} (hd : 1 ≤ d) (hp : wfp p) (ha : ∀ j, j < p.length → M 98 j = ((p.getD j 0 : Nat) : Int)) (h : ∀ M', px_sk M' p → px_f1 23 111 M M' → Qr none (pm_m n kd M')) : pm_run d 140 [.inr (.inl (9, 97)), .inr (.inl (1015, 98)), .inl 0, .inl (p.length : Int)] (pm_m n kd M) Qr Qx := by
  obtain ⟨d, rfl⟩ := pm_ex1 hd
  have h15 := hp.1
  refine tr_140 (pm_lp (N := p.length) (G := fun i M1 => pm_wq d 140 Qr Qx (8, [some (.inr (.inl (9, 97))), some (.inr (.inl (1015, 98))), some (.inl 0), some (.inl (p.length : Int)), some (.inl (i : Int))], [], pm_m n kd M1, 0, 0)) (I := fun i M1 => (∀ j, j < i → M1 111 j = ((p.getD j 0 : Nat) : Int)) ∧ M1 97 23 = (p.length : Int) ∧ px_f1 23 111 M M1) ?_ ?_ 0 _ (Nat.zero_le _) ⟨fun j hj => absurd hj (Nat.not_lt_zero j), pm_up_eq, px_f1.up0 (by decide)⟩)
  · intro M1 ⟨hj, h23, ho⟩
    exact tr_140_8 ⟨fun _ => h M1 ⟨h23, hp.1, hp.2, hj⟩ ho, fun z => by omega⟩
  · intro i M1 hi ⟨hj, h23, ho⟩ ih
    have e0 : ((0 : Int) + (i : Int)).toNat = i := by omega
    refine tr_140_8 ⟨fun z => by omega, fun _ => ⟨⟨by omega, by omega⟩, ⟨by omega, by omega⟩, ⟨by omega, by omega⟩, ⟨by omega, by omega⟩, ih _ ⟨fun j hj2 => ?_, (pm_up_ne (Or.inl (by decide))).trans h23, ho.up (by decide)⟩⟩⟩
    rw [Int.toNat_natCast, e0, ho.1 98 (by decide) (by decide)]
    by_cases e : j = i
    · rw [e, pm_up_eq]; exact ha i hi
    · rw [pm_up_ne (Or.inr e)]; exact hj j (by omega)
/-- seek, of a shelf -/
theorem ra_140s {p : List Nat} {k : Nat} (hd : 1 ≤ d) (hp : wfp p) (hk : k < 4) (ha : px_ar M 103 (15 * k) p) (h : ∀ M', px_sk M' p → px_f1 23 111 M M' → Qr none (pm_m n kd M')) : pm_run d 140 [.inr (.inl (9, 97)), .inr (.inl (1060, 103)), .inl (15 * (k : Int)), .inl (p.length : Int)] (pm_m n kd M) Qr Qx := by
  obtain ⟨d, rfl⟩ := pm_ex1 hd
  have h15 := hp.1
  refine tr_140s (pm_lp (N := p.length) (G := fun i M1 => pm_wq d 140 Qr Qx (8, [some (.inr (.inl (9, 97))), some (.inr (.inl (1060, 103))), some (.inl (15 * (k : Int))), some (.inl (p.length : Int)), some (.inl (i : Int))], [], pm_m n kd M1, 0, 0)) (I := fun i M1 => (∀ j, j < i → M1 111 j = ((p.getD j 0 : Nat) : Int)) ∧ M1 97 23 = (p.length : Int) ∧ px_f1 23 111 M M1) ?_ ?_ 0 _ (Nat.zero_le _) ⟨fun j hj => absurd hj (Nat.not_lt_zero j), pm_up_eq, px_f1.up0 (by decide)⟩)
  · intro M1 ⟨hj, h23, ho⟩
    exact tr_140s_8 ⟨fun _ => h M1 ⟨h23, hp.1, hp.2, hj⟩ ho, fun z => by omega⟩
  · intro i M1 hi ⟨hj, h23, ho⟩ ih
    have e0 : (15 * (k : Int) + (i : Int)).toNat = 15 * k + i := by omega
    refine tr_140s_8 ⟨fun z => by omega, fun _ => ⟨⟨by omega, by omega⟩, ⟨by omega, by omega⟩, ⟨by omega, by omega⟩, ⟨by omega, by omega⟩, ih _ ⟨fun j hj2 => ?_, (pm_up_ne (Or.inl (by decide))).trans h23, ho.up (by decide)⟩⟩⟩
    rw [Int.toNat_natCast, e0, ho.1 103 (by decide) (by decide)]
    by_cases e : j = i
    · rw [e, pm_up_eq]; exact ha i hi
    · rw [pm_up_ne (Or.inr e)]; exact hj j (by omega)
/-- layWord -/
theorem ra_144 (hd : 1 ≤ d) (hR : Ref M s) (hW : wfs s) (h : ∀ M', px_tx M' (gW s) → px_f1 25 112 M M' → Qr none (pm_m n kd M')) : pm_run d 144 [.inr (.inl (9, 97))] (pm_m n kd M) Qr Qx := by
  obtain ⟨d, rfl⟩ := pm_ex1 hd
  have h24 : (gW s).length ≤ 24 := hW.1.2.2.1.1
  have hn := hR.nw
  refine tr_144 ?_
  rw [hn]
  refine pm_lp (N := (gW s).length) (G := fun i M1 => pm_wq d 144 Qr Qx (10, [some (.inr (.inl (9, 97))), some (.inl (i : Int))], [], pm_m n kd M1, 0, 0)) (I := fun i M1 => (∀ j, j < i → M1 112 j = (((gW s).getD j 0 : Nat) : Int)) ∧ M1 97 25 = ((gW s).length : Int) ∧ px_f1 25 112 M M1) ?_ ?_ 0 _ (Nat.zero_le _) ⟨fun j hj => absurd hj (Nat.not_lt_zero j), pm_up_eq, px_f1.up0 (by decide)⟩
  · intro M1 ⟨hj, h25, ho⟩
    have h4 := (ho.2 4 (by decide)).trans hn
    exact tr_144_10 ⟨fun _ => h M1 ⟨h25, h24, hj⟩ ho, fun z => by omega⟩
  · intro i M1 hi ⟨hj, h25, ho⟩ ih
    have h4 := (ho.2 4 (by decide)).trans hn
    refine tr_144_10 ⟨fun z => by omega, fun _ => ⟨⟨by omega, by omega⟩, ⟨by omega, by omega⟩, ⟨by omega, by omega⟩, ih _ ⟨fun j hj2 => ?_, (pm_up_ne (Or.inl (by decide))).trans h25, ho.up (by decide)⟩⟩⟩
    rw [Int.toNat_natCast, ho.1 99 (by decide) (by decide)]
    by_cases e : j = i
    · rw [e, pm_up_eq]; exact hR.w i hi
    · rw [pm_up_ne (Or.inr e)]; exact hj j (by omega)
/-- first, without an end -/
theorem ra_143 {p t : List Nat} (hd : 20 ≤ d) (hm : px_sk M p) (ht : px_tx M t) (h : ∀ M', (∀ s0 E, FO p t = some (s0, E) → pm_en M' 105 t E t.length) → px_gf M M' → Qr (some (.inl (match FO p t with | none => -1 | some q => (q.1 : Int)))) (pm_m n kd M')) : pm_run d 143 [.inr (.inl (9, 97)), .inl (-1)] (pm_m n kd M) Qr Qx := by
  have h15 := hm.2.1
  refine sp_143 (en := false) (by omega) hm ht ?_ ?_
  · intro M1 s0 E r hb hs hh he g
    rw [occF_false] at hh
    have hF := FO_some hh hs (fun j hj => by rw [← occF_false]; exact hb j hj)
    have := h M1 (fun s1 E1 e => by rw [hF] at e; cases e; exact he) g
    rw [hF] at this
    exact this
  · intro M1 hb g
    have hF : FO p t = none := FO_none (fun j hj => by rw [← occF_false]; exact hb j hj)
    have := h M1 (fun s1 E1 e => by rw [hF] at e; cases e) g
    rw [hF] at this
    exact this
theorem fo_b {o : Option (Nat × (Nat → List Nat))} : (match o with | none => (-1 : Int) | some q => (q.1 : Int)) = -1 ↔ o.isSome = false := by
  cases o with
  | none => simp
  | some q =>
    simp only [Option.isSome_some]
    constructor
    · intro z; omega
    · intro z; cases z
theorem ra_145 (hd : 22 ≤ d) (hR : Ref M s) (hW : wfs s) (h : RO (o_occursInZimin s x) n kd M Qr) : pm_run d 145 [.inr (.inl (9, 97)), .inl x] (pm_m n kd M) Qr Qx := by
  obtain ⟨d, rfl⟩ := pm_ex1 (show 1 ≤ d by omega)
  have hn := hR.np
  unfold o_occursInZimin at h
  refine tr_145 (by omega) ⟨fun z => ⟨fun z2 => ?_, fun z2 => ?_⟩, fun z => ?_⟩
  · have hne : gP s ≠ [] := ln0.mp (by omega)
    rw [if_pos z, if_neg hne] at h
    obtain ⟨k, rfl⟩ : ∃ k : Nat, x = (k : Int) := ⟨x.toNat, by omega⟩
    rw [Int.toNat_natCast] at h
    rw [hn]
    refine ra_140 (by omega) hW.1.2.1 hR.p (fun M1 hsk ho => tr_145_41 (by omega) ?_)
    rw [shl_zm k (by omega) (by omega)]
    have hl := @zm_le k (by omega)
    refine ⟨⟨by omega, by omega⟩, ?_⟩
    refine pm_lp (N := (pm_zm k).length) (G := fun i M2 => pm_wq d 145 Qr Qx (52, [some (.inr (.inl (9, 97))), none, some (.inl (i : Int))], [], pm_m n kd M2, 0, 0)) (I := fun i M2 => (∀ j, j < i → M2 112 j = (((pm_zm k).getD j 0 : Nat) : Int)) ∧ M2 97 25 = ((pm_zm k).length : Int) ∧ px_f1 25 112 M1 M2) ?_ ?_ 0 _ (Nat.zero_le _) ⟨fun j hj => absurd hj (Nat.not_lt_zero j), pm_up_eq, px_f1.up0 (by decide)⟩
    · intro M2 ⟨hj, h25, ho2⟩
      refine tr_145_52 (by omega) ⟨fun _ => ?_, fun z => by omega⟩
      refine ra_143 (by omega) (hsk.f1 ho2 (by decide) (by decide)) ⟨h25, by omega, hj⟩ (fun M3 _ g => ?_)
      have hok := RO.ok h hR (((ho.sc (by decide) (by decide)).tr (ho2.sc (by decide) (by decide))).tr g.sc)
      refine tr_145_82 (by omega) ⟨fun z => ?_, fun z => ?_⟩
      · rw [fo_b.mp z] at hok; exact hok
      · have : (FO (gP s) (pm_zm k)).isSome = true := by
          cases hb : (FO (gP s) (pm_zm k)).isSome
          · exact absurd (fo_b.mpr hb) z
          · rfl
        rw [this] at hok; exact hok
    · intro i M2 hi ⟨hj, h25, ho2⟩ ih
      refine tr_145_52 (by omega) ⟨fun z => by omega, fun _ => ra_135 (by omega) (by omega) (tr_145_69 (by omega) ⟨⟨by omega, by omega⟩, ⟨by omega, by omega⟩, ih _ ⟨fun j hj2 => ?_, (pm_up_ne (Or.inl (by decide))).trans h25, ho2.up (by decide)⟩⟩)⟩
      rw [Int.toNat_natCast]
      by_cases e : j = i
      · rw [e, pm_up_eq, rul_zm k (by omega) i (by omega) hi]
      · rw [pm_up_ne (Or.inr e)]; exact hj j (by omega)
  · have hne : gP s = [] := List.length_eq_zero_iff.mp (by omega)
    rw [if_pos z, if_pos hne] at h
    exact h.bad hR px_sc.rf
  · rw [if_neg z] at h
    exact h.bad hR px_sc.rf
theorem ra_146 (hd : 2 ≤ d) (hR : Ref M s) (hW : wfs s) (h : RO (o_shelve s x) n kd M Qr) : pm_run d 146 [.inr (.inl (9, 97)), .inl x] (pm_m n kd M) Qr Qx := by
  obtain ⟨d, rfl⟩ := pm_ex1 (show 1 ≤ d by omega)
  have hn := hR.np
  have h15 : (gP s).length ≤ 15 := hW.1.2.1.1
  unfold o_shelve at h
  refine tr_146 (by omega) ⟨fun z => ⟨⟨by omega, by omega⟩, ?_⟩, fun z => ?_⟩
  · rw [if_pos (by omega)] at h
    obtain ⟨k, rfl⟩ : ∃ k : Nat, x = (k : Int) := ⟨x.toNat, by omega⟩
    rw [Int.toNat_natCast] at h ⊢
    rw [hn]
    refine pm_lp (N := (gP s).length) (G := fun i M1 => pm_wq d 146 Qr Qx (27, [some (.inr (.inl (9, 97))), some (.inl (k : Int)), some (.inl (i : Int))], [], pm_m n kd M1, 0, 0)) (I := fun i M1 => (∀ j, j < i → M1 103 (15 * k + j) = (((gP s).getD j 0 : Nat) : Int)) ∧ (∀ j, j < 15 * k ∨ 15 * k + 15 ≤ j → M1 103 j = M 103 j) ∧ px_ao 103 (pm_up M 102 k ((gP s).length : Int)) M1) ?_ ?_ 0 _ (Nat.zero_le _) ⟨fun j hj => absurd hj (Nat.not_lt_zero j), fun j _ => pm_up_ne (by omega), px_ao.rf⟩
    · intro M1 ⟨ha, hb, ho⟩
      have h1 : M1 97 1 = ((gP s).length : Int) := by rw [ho.at (by decide), pm_up_ne (by omega)]; exact hn
      refine tr_146_27 (by omega) ⟨fun _ => ?_, fun z => by omega⟩
      rw [h1]
      have ga : ∀ a, a ≠ 97 → a ≠ 102 → a ≠ 103 → pm_up M1 97 0 0 a = M a := fun a a1 a2 a3 => by rw [pm_up_row a1, ho a a3, pm_up_row a2]
      have gf : ∀ j, j ≠ 0 → pm_up M1 97 0 0 97 j = M 97 j := fun j hj => by rw [pm_up_ne (Or.inr hj), ho.at (by decide), pm_up_ne (by omega)]
      refine h _ ⟨?_, hR.2.1.cg (fun j j1 j2 => gf j (by omega)) (fun a a1 a2 => ga a (by omega) (by omega) (by omega)), fun i hi => ?_, hR.2.2.2.cg (gf 10 (by decide)) (ga 104 (by decide) (by decide) (by decide)) (ga 105 (by decide) (by decide) (by decide))⟩ (fun a ha2 => ga a (by omega) (by omega) (by omega)) pm_up_eq
      · obtain ⟨r1, r2, r3, r4, r5, r6⟩ := hR.1
        exact ⟨(gf 3 (by decide)).trans r1, (gf 1 (by decide)).trans r2, (gf 4 (by decide)).trans r3, r4.cg (ga 98 (by decide) (by decide) (by decide)), r5.cg (ga 99 (by decide) (by decide) (by decide)), fun l hl => ⟨by rw [ga 100 (by decide) (by decide) (by decide)]; exact (r6 l hl).1, (r6 l hl).2.cg (ga 101 (by decide) (by decide) (by decide))⟩⟩
      · show RefS _ i (if i = k then some (gP s) else gS s i)
        by_cases e : i = k
        · rw [if_pos e]
          subst e
          refine ⟨?_, fun j hj => ?_⟩
          · rw [pm_up_ne (by omega), ho.at (by decide), pm_up_eq]
          · rw [pm_up_ne (by omega)]; exact ha j hj
        · rw [if_neg e]
          have hh : RefS M i (gS s i) := hR.2.2.1 i hi
          have e2 : pm_up M1 97 0 0 102 i = M 102 i := by rw [pm_up_ne (by omega), ho.at (by decide), pm_up_ne (Or.inr e)]
          cases hc : gS s i with
          | none => rw [hc] at hh; exact e2.trans hh
          | some q =>
            rw [hc] at hh
            refine ⟨e2.trans hh.1, fun j hj => ?_⟩
            have hq15 : q.length ≤ 15 := (hW.2.2.1 _ _ hc).1
            rw [pm_up_ne (by omega), hb _ (by omega)]
            exact hh.2 j hj
    · intro i M1 hi ⟨ha, hb, ho⟩ ih
      have h1 : M1 97 1 = ((gP s).length : Int) := by rw [ho.at (by decide), pm_up_ne (by omega)]; exact hn
      have e0 : (15 * (k : Int) + (i : Int)).toNat = 15 * k + i := by omega
      refine tr_146_27 (by omega) ⟨fun z => by omega, fun _ => ⟨⟨by omega, by omega⟩, ⟨by omega, by omega⟩, ⟨by omega, by omega⟩, ⟨by omega, by omega⟩, ⟨by omega, by omega⟩, ih _ ⟨fun j hj => ?_, fun j hj => ?_, ho.up⟩⟩⟩
      · have hat : M1 98 i = (((gP s).getD i 0 : Nat) : Int) := by rw [ho.at (by decide), pm_up_ne (Or.inl (by decide))]; exact hR.p i hi
        rw [e0, Int.toNat_natCast, hat]
        by_cases e : j = i
        · rw [e, pm_up_eq]
        · rw [pm_up_ne (by omega)]; exact ha j (by omega)
      · rw [pm_up_ne (by omega)]; exact hb j hj
  · rw [if_neg (by omega)] at h
    exact h.bad hR px_sc.rf
theorem ra_147 (hd : 2 ≤ d) (hR : Ref M s) (hW : wfs s) (h : RO (o_useShelf s x) n kd M Qr) : pm_run d 147 [.inr (.inl (9, 97)), .inl x] (pm_m n kd M) Qr Qx := by
  obtain ⟨d, rfl⟩ := pm_ex1 (show 1 ≤ d by omega)
  unfold o_useShelf at h
  refine tr_147 (by omega) ⟨fun z => ⟨⟨by omega, by omega⟩, ?_⟩, fun z => ?_⟩
  · rw [if_pos (by omega)] at h
    obtain ⟨k, rfl⟩ : ∃ k : Nat, x = (k : Int) := ⟨x.toNat, by omega⟩
    rw [Int.toNat_natCast] at h ⊢
    have hh : RefS M k (gS s k) := hR.2.2.1 k (by omega)
    cases hc : gS s k with
    | none =>
      rw [hc] at hh h
      have hh : M 102 k = -1 := hh
      exact ⟨fun z2 => absurd hh z2, fun _ => RO.bad h hR px_sc.rf⟩
    | some q =>
      rw [hc] at hh h
      have h1 : M 102 k = (q.length : Int) := hh.1
      have hq15 : q.length ≤ 15 := (hW.2.2.1 _ _ hc).1
      refine ⟨fun _ => ⟨⟨by omega, by omega⟩, ?_⟩, fun z2 => absurd (by rw [h1]; omega) z2⟩
      rw [h1]
      refine pm_lp (N := q.length) (G := fun i M1 => pm_wq d 147 Qr Qx (43, [some (.inr (.inl (9, 97))), some (.inl (k : Int)), some (.inl (i : Int))], [], pm_m n kd M1, 0, 0)) (I := fun i M1 => (∀ j, j < i → M1 98 j = ((q.getD j 0 : Nat) : Int)) ∧ M1 97 1 = (q.length : Int) ∧ px_f1 1 98 M M1) ?_ ?_ 0 _ (Nat.zero_le _) ⟨fun j hj => absurd hj (Nat.not_lt_zero j), pm_up_eq, px_f1.up0 (by decide)⟩
      · intro M1 ⟨ha, h97, ho⟩
        refine tr_147_43 (by omega) ⟨fun _ => ?_, fun z => by omega⟩
        rw [h97]
        exact RO.sp h hR ⟨fun a ha2 => ho.1 a (by omega) (by omega), fun j j1 j2 => ho.2 j (by omega)⟩ (ho.2 3 (by decide)) (ho.2 4 (by decide)) (fun a a1 a2 => ho.1 a (by omega) (by omega)) h97 ha
      · intro i M1 hi ⟨ha, h97, ho⟩ ih
        have e0 : (15 * (k : Int) + (i : Int)).toNat = 15 * k + i := by omega
        refine tr_147_43 (by omega) ⟨fun z => by omega, fun _ => ⟨⟨by omega, by omega⟩, ⟨by omega, by omega⟩, ⟨by omega, by omega⟩, ⟨by omega, by omega⟩, ⟨by omega, by omega⟩, ih _ ⟨fun j hj => ?_, (pm_up_ne (by omega)).trans h97, ho.up (by decide)⟩⟩⟩
        rw [e0, Int.toNat_natCast, ho.1 103 (by decide) (by decide)]
        by_cases e : j = i
        · rw [e, pm_up_eq]; exact hh.2 i hi
        · rw [pm_up_ne (Or.inr e)]; exact ha j (by omega)
  · rw [if_neg (by omega)] at h
    exact h.bad hR px_sc.rf
theorem ra_148 (hd : 2 ≤ d) (hR : Ref M s) (hW : wfs s) (h : RO (o_isIsomorphic s x) n kd M Qr) : pm_run d 148 [.inr (.inl (9, 97)), .inl x] (pm_m n kd M) Qr Qx := by
  obtain ⟨d, rfl⟩ := pm_ex1 (show 1 ≤ d by omega)
  have hn := hR.np
  have h15 : (gP s).length ≤ 15 := hW.1.2.1.1
  unfold o_isIsomorphic at h
  refine tr_148 (by omega) ⟨fun z => ⟨⟨by omega, by omega⟩, ?_⟩, fun z => ?_⟩
  · rw [if_pos (by omega)] at h
    obtain ⟨k, rfl⟩ : ∃ k : Nat, x = (k : Int) := ⟨x.toNat, by omega⟩
    rw [Int.toNat_natCast] at h ⊢
    have hh : RefS M k (gS s k) := hR.2.2.1 k (by omega)
    cases hc : gS s k with
    | none =>
      rw [hc] at hh h
      have hh : M 102 k = -1 := hh
      exact ⟨fun z2 => absurd hh z2, fun _ => RO.bad h hR px_sc.rf⟩
    | some q =>
      rw [hc] at hh h
      have h1 : M 102 k = (q.length : Int) := hh.1
      have hok := RO.ok h hR px_sc.rf
      have no : ¬ (pm_cn (gP s) = pm_cn q) → ∀ i : Int, pm_wq d 148 Qr Qx (52, [some (.inr (.inl (9, 97))), some (.inl (k : Int)), some (.inl 0), some (.inl i), none], [], pm_m n kd M, 0, 0) := by
        intro w i
        rw [if_neg w] at hok
        exact tr_148_52 (by omega) ⟨fun _ => ⟨Or.inl rfl, Or.inl rfl, hok⟩, fun z => absurd rfl z⟩
      refine ⟨fun _ => ⟨⟨by omega, by omega⟩, fun z3 => ?_, fun z3 => ?_⟩, fun z2 => absurd (by rw [h1]; omega) z2⟩
      · exact no (fun w => by have := (iso_iff.mp w).1; omega) 0
      · have hl : (gP s).length = q.length := by omega
        refine pm_lp (α := Unit) (N := (gP s).length) (G := fun a _ => pm_wq d 148 Qr Qx (52, [some (.inr (.inl (9, 97))), some (.inl (k : Int)), some (.inl 1), some (.inl (a : Int)), none], [], pm_m n kd M, 0, 0)) (I := fun a _ => ∀ a', a' < a → ∀ b, b < a' → ((gP s).getD a' 0 = (gP s).getD b 0 ↔ q.getD a' 0 = q.getD b 0)) ?_ ?_ 0 () (Nat.zero_le _) (fun a' h => absurd h (Nat.not_lt_zero a'))
        · intro _ hI
          rw [if_pos (iso_iff.mpr ⟨hl, hI⟩)] at hok
          exact tr_148_52 (by omega) ⟨fun z => absurd z (by decide), fun _ => ⟨fun _ => ⟨Or.inr rfl, Or.inr rfl, hok⟩, fun z => by omega⟩⟩
        · intro a _ ha hI ih
          refine tr_148_52 (by omega) ⟨fun z => absurd z (by decide), fun _ => ⟨fun z => by omega, fun _ => ?_⟩⟩
          refine pm_lp (α := Int) (N := a) (G := fun b c => pm_wq d 148 Qr Qx (67, [some (.inr (.inl (9, 97))), some (.inl (k : Int)), some (.inl c), some (.inl (a : Int)), some (.inl (b : Int))], [], pm_m n kd M, 0, 0)) (I := fun b c => (c = 1 ∧ ∀ b', b' < b → ((gP s).getD a 0 = (gP s).getD b' 0 ↔ q.getD a 0 = q.getD b' 0)) ∨ (c = 0 ∧ ¬ (pm_cn (gP s) = pm_cn q))) ?_ ?_ 0 1 (Nat.zero_le _) (Or.inl ⟨rfl, fun b' h => absurd h (Nat.not_lt_zero b')⟩)
          · intro c hc2
            refine tr_148_67 (by omega) ⟨fun _ => ⟨⟨by omega, by omega⟩, ?_⟩, fun z => by omega⟩
            rcases hc2 with ⟨c1, hb⟩ | ⟨c0, hne⟩
            · rw [c1]
              refine ih () (fun a' ha' b hb2 => ?_)
              by_cases e : a' = a
              · rw [e] at hb2 ⊢; exact hb b hb2
              · exact hI a' (by omega) b hb2
            · rw [c0]; exact no hne _
          · intro b c hb hc2 ih2
            have e1 : (15 * (k : Int) + (a : Int)).toNat = 15 * k + a := by omega
            have e2 : (15 * (k : Int) + (b : Int)).toNat = 15 * k + b := by omega
            refine tr_148_67 (by omega) ⟨fun z => by omega, fun _ => ?_⟩
            rw [e1, e2, Int.toNat_natCast, Int.toNat_natCast, hR.p a ha, hR.p b (by omega), hh.2 a (by omega), hh.2 b (by omega)]
            have good : ((gP s).getD a 0 = (gP s).getD b 0 ↔ q.getD a 0 = q.getD b 0) → c ≠ 0 → pm_wq d 148 Qr Qx (67, [some (.inr (.inl (9, 97))), some (.inl (k : Int)), some (.inl 1), some (.inl (a : Int)), some (.inl ((b + 1 : Nat) : Int))], [], pm_m n kd M, 0, 0) := by
              intro hg hc0
              refine ih2 1 (Or.inl ⟨rfl, fun b' hb' => ?_⟩)
              rcases hc2 with ⟨_, hbb⟩ | ⟨c0, _⟩
              · by_cases e : b' = b
                · rw [e]; exact hg
                · exact hbb b' (by omega)
              · exact absurd c0 hc0
            have bad : ¬ ((gP s).getD a 0 = (gP s).getD b 0 ↔ q.getD a 0 = q.getD b 0) → pm_wq d 148 Qr Qx (67, [some (.inr (.inl (9, 97))), some (.inl (k : Int)), some (.inl 0), some (.inl (a : Int)), some (.inl ((b + 1 : Nat) : Int))], [], pm_m n kd M, 0, 0) := by
              intro hg
              exact ih2 0 (Or.inr ⟨rfl, fun w => hg ((iso_iff.mp w).2 a ha b hb)⟩)
            refine ⟨fun z => ⟨⟨by omega, by omega⟩, ?_⟩, fun z => ⟨⟨by omega, by omega⟩, ⟨by omega, by omega⟩, fun z4 => ⟨⟨by omega, by omega⟩, ⟨by omega, by omega⟩, ⟨by omega, by omega⟩, ⟨by omega, by omega⟩, ⟨by omega, by omega⟩, ⟨by omega, by omega⟩, fun z5 => ⟨⟨by omega, by omega⟩, good (by omega) z⟩, fun z5 => ⟨⟨by omega, by omega⟩, bad (by omega)⟩⟩, fun z4 => ⟨⟨by omega, by omega⟩, ⟨by omega, by omega⟩, ⟨by omega, by omega⟩, ⟨by omega, by omega⟩, ⟨by omega, by omega⟩, ⟨by omega, by omega⟩, fun z5 => ⟨⟨by omega, by omega⟩, bad (by omega)⟩, fun z5 => ⟨⟨by omega, by omega⟩, good (by omega) z⟩⟩⟩⟩
            rcases hc2 with ⟨c1, _⟩ | ⟨_, hne⟩
            · omega
            · exact ih2 0 (Or.inr ⟨rfl, hne⟩)
  · rw [if_neg (by omega)] at h
    exact h.bad hR px_sc.rf
theorem ra_149 (hd : 22 ≤ d) (hR : Ref M s) (hW : wfs s) (h : RO (o_contains s x) n kd M Qr) : pm_run d 149 [.inr (.inl (9, 97)), .inl x] (pm_m n kd M) Qr Qx := by
  obtain ⟨d, rfl⟩ := pm_ex1 (show 1 ≤ d by omega)
  have hn := hR.np
  have h15 : (gP s).length ≤ 15 := hW.1.2.1.1
  unfold o_contains at h
  refine tr_149 (by omega) ⟨fun z => ⟨⟨by omega, by omega⟩, ?_⟩, fun z => ?_⟩
  · rw [if_pos (by omega)] at h
    obtain ⟨k, rfl⟩ : ∃ k : Nat, x = (k : Int) := ⟨x.toNat, by omega⟩
    rw [Int.toNat_natCast] at h ⊢
    have hh : RefS M k (gS s k) := hR.2.2.1 k (by omega)
    cases hc : gS s k with
    | none =>
      rw [hc] at hh h
      have hh : M 102 k = -1 := hh
      exact ⟨fun z2 => absurd z2 (by rw [hh]; decide), fun _ => RO.bad h hR px_sc.rf⟩
    | some q =>
      rw [hc] at hh h
      have h1 : M 102 k = (q.length : Int) := hh.1
      have h : RO (if q = [] then (.inr 2, s) else (.inl (bI (FO q (gP s)).isSome), s)) n kd M Qr := h
      refine ⟨fun z2 => ⟨⟨by omega, by omega⟩, ⟨by omega, by omega⟩, ?_⟩, fun z2 => ?_⟩
      · have hne : q ≠ [] := ln0.mp (by omega)
        rw [if_neg hne] at h
        rw [h1]
        refine ra_140s (by omega) (hW.2.2.1 _ _ hc) (by omega) hh.2 (fun M1 hsk ho => tr_149_49 (by omega) ?_)
        have hn1 : M1 97 1 = ((gP s).length : Int) := (ho.2 1 (by decide)).trans hn
        rw [hn1]
        refine pm_lp (N := (gP s).length) (G := fun i M2 => pm_wq d 149 Qr Qx (59, [some (.inr (.inl (9, 97))), none, some (.inl (i : Int))], [], pm_m n kd M2, 0, 0)) (I := fun i M2 => (∀ j, j < i → M2 112 j = (((gP s).getD j 0 : Nat) : Int)) ∧ M2 97 25 = ((gP s).length : Int) ∧ px_f1 25 112 M1 M2) ?_ ?_ 0 _ (Nat.zero_le _) ⟨fun j hj => absurd hj (Nat.not_lt_zero j), pm_up_eq, px_f1.up0 (by decide)⟩
        · intro M2 ⟨hj, h25, ho2⟩
          have hn2 : M2 97 1 = ((gP s).length : Int) := (ho2.2 1 (by decide)).trans hn1
          refine tr_149_59 (by omega) ⟨fun _ => ?_, fun z => by omega⟩
          refine ra_143 (by omega) (hsk.f1 ho2 (by decide) (by decide)) ⟨h25, by omega, hj⟩ (fun M3 _ g => ?_)
          have hok := RO.ok h hR (((ho.sc (by decide) (by decide)).tr (ho2.sc (by decide) (by decide))).tr g.sc)
          refine tr_149_91 (by omega) ⟨fun z => ?_, fun z => ?_⟩
          · rw [fo_b.mp z] at hok; exact hok
          · have : (FO q (gP s)).isSome = true := by
              cases hb : (FO q (gP s)).isSome
              · exact absurd (fo_b.mpr hb) z
              · rfl
            rw [this] at hok; exact hok
        · intro i M2 hi ⟨hj, h25, ho2⟩ ih
          have hn2 : M2 97 1 = ((gP s).length : Int) := (ho2.2 1 (by decide)).trans hn1
          refine tr_149_59 (by omega) ⟨fun z => by omega, fun _ => ⟨⟨by omega, by omega⟩, ⟨by omega, by omega⟩, ⟨by omega, by omega⟩, ih _ ⟨fun j hj2 => ?_, (pm_up_ne (by omega)).trans h25, ho2.up (by decide)⟩⟩⟩
          rw [Int.toNat_natCast, ho2.1 98 (by decide) (by decide), ho.1 98 (by decide) (by decide)]
          by_cases e : j = i
          · rw [e, pm_up_eq]; exact hR.p i hi
          · rw [pm_up_ne (Or.inr e)]; exact hj j (by omega)
      · have hne : q = [] := List.length_eq_zero_iff.mp (by omega)
        rw [if_pos hne] at h
        exact RO.bad h hR px_sc.rf
  · rw [if_neg (by omega)] at h
    exact h.bad hR px_sc.rf
/-- doesAvoid -/
theorem ra_162 (hd : 22 ≤ d) (hR : Ref M s) (hW : wfs s) (h : ∀ M', px_sk M' (gP s) → px_tx M' (gW s) → px_sc M M' → Qr (some (.inl (bI (!(FO (gP s) (gW s)).isSome)))) (pm_m n kd M')) : pm_run d 162 [.inr (.inl (9, 97))] (pm_m n kd M) Qr Qx := by
  obtain ⟨d, rfl⟩ := pm_ex1 (show 1 ≤ d by omega)
  refine tr_162 ?_
  rw [hR.np]
  refine ra_140 (by omega) hW.1.2.1 hR.p (fun M1 hsk ho => tr_162_13 ?_)
  have g1 := ho.sc (by decide) (by decide)
  refine ra_144 (by omega) (hR.sc g1) hW (fun M2 htx ho2 => tr_162_17 ?_)
  have hsk2 := hsk.f1 ho2 (by decide) (by decide)
  refine ra_143 (by omega) hsk2 htx (fun M3 _ g => ?_)
  have := h M3 (hsk2.gf g) (htx.gf g) ((g1.tr (ho2.sc (by decide) (by decide))).tr g.sc)
  refine tr_162_22 ⟨fun z => ?_, fun z => ?_⟩
  · have hb : (FO (gP s) (gW s)).isSome = true := by
      cases hb : (FO (gP s) (gW s)).isSome
      · exact absurd (fo_b.mpr hb) z
      · rfl
    rw [hb] at this; exact this
  · rw [fo_b.mp (Classical.not_not.mp z)] at this; exact this
theorem ra_163 (hd : 24 ≤ d) (hR : Ref M s) (hW : wfs s) (h : RO (o_avoids s) n kd M Qr) : pm_run d 163 [.inr (.inl (9, 97))] (pm_m n kd M) Qr Qx := by
  obtain ⟨d, rfl⟩ := pm_ex1 (show 1 ≤ d by omega)
  have hn := hR.np
  unfold o_avoids at h
  refine tr_163 (by omega) ⟨fun z => ?_, fun z => ?_⟩
  · rw [if_neg (ln0.mp (by omega))] at h
    exact ra_162 (by omega) hR hW (fun M1 _ _ g => tr_163_20 (by omega) ⟨bI_or _, bI_or _, RO.ok h hR g⟩)
  · rw [if_pos (List.length_eq_zero_iff.mp (by omega))] at h
    exact h.bad hR px_sc.rf
theorem ra_164 (hd : 24 ≤ d) (hR : Ref M s) (hW : wfs s) (h : RO (o_findOccurrence s) n kd M Qr) : pm_run d 164 [.inr (.inl (9, 97))] (pm_m n kd M) Qr Qx := by
  obtain ⟨d, rfl⟩ := pm_ex1 (show 1 ≤ d by omega)
  have hn := hR.np
  have h24 : (gW s).length ≤ 24 := hW.1.2.2.1.1
  unfold o_findOccurrence at h
  refine tr_164 (by omega) ⟨fun z => ?_, fun z => ?_⟩
  · rw [if_neg (ln0.mp (by omega))] at h
    refine ra_162 (by omega) hR hW (fun M1 hsk htx g => ?_)
    cases hF : FO (gP s) (gW s) with
    | none =>
      rw [hF] at h
      exact tr_164_17 (by omega) ⟨fun z => absurd z (by decide), fun _ => RO.bad h hR g⟩
    | some q =>
      obtain ⟨s0, E⟩ := q
      rw [hF] at h
      refine tr_164_17 (by omega) ⟨fun _ => ?_, fun z => absurd rfl z⟩
      refine ra_143 (by omega) hsk htx (fun M2 hen g2 => ?_)
      have he := hen s0 E hF
      rw [hF]
      refine tr_164_31 (by omega) ?_
      have htx2 := htx.gf g2
      have g12 : px_sc M M2 := g.tr g2.sc
      have hlen : ∀ v, v < 5 → (E v).length ≤ 24 := by
        intro v hv
        by_cases hE : E v = []
        · rw [hE]; exact Nat.zero_le _
        · obtain ⟨st, a1, a2, a3⟩ := (he v hv).2 hE
          omega
      -- frame: fields 10, 11 and the arrays 104, 105
      have fin : ∀ M3 : Nat → Nat → Int, (∀ v, v < 5 → M3 104 v = ((E v).length : Int) ∧ px_ar M3 105 (24 * v) (E v)) → M3 97 10 = 1 → (∀ a, a ≠ 97 → a ≠ 104 → a ≠ 105 → M3 a = M2 a) → (∀ j, j ≠ 10 → j ≠ 11 → M3 97 j = M2 97 j) → Qr (some (.inl (s0 : Int))) (pm_m n kd (pm_up M3 97 0 0)) := by
        intro M3 h1 h10 hga hgf
        have ga : ∀ a, a ≠ 97 → a ≠ 104 → a ≠ 105 → (a < 97 ∨ (98 ≤ a ∧ a < 110) ∨ 122 ≤ a) → pm_up M3 97 0 0 a = M a := fun a a1 a2 a3 a4 => by rw [pm_up_row a1, hga a a1 a2 a3]; exact g12.1 a a4
        have gf : ∀ j, 0 < j → j < 23 → j ≠ 10 → j ≠ 11 → pm_up M3 97 0 0 97 j = M 97 j := fun j j1 j2 j3 j4 => by rw [pm_up_ne (by omega), hgf j j3 j4]; exact g12.2 j j1 j2
        refine h _ ⟨?_, hR.2.1.cg (fun j j1 j2 => gf j (by omega) (by omega) (by omega) (by omega)) (fun a a1 a2 => ga a (by omega) (by omega) (by omega) (by omega)), fun i hi => (hR.2.2.1 i hi).cg (ga 102 (by decide) (by decide) (by decide) (by decide)) (ga 103 (by decide) (by decide) (by decide) (by decide)), ?_⟩ (fun a ha => ga a (by omega) (by omega) (by omega) (by omega)) pm_up_eq
        · obtain ⟨r1, r2, r3, r4, r5, r6⟩ := hR.1
          exact ⟨(gf 3 (by decide) (by decide) (by decide) (by decide)).trans r1, (gf 1 (by decide) (by decide) (by decide) (by decide)).trans r2, (gf 4 (by decide) (by decide) (by decide) (by decide)).trans r3, r4.cg (ga 98 (by decide) (by decide) (by decide) (by decide)), r5.cg (ga 99 (by decide) (by decide) (by decide) (by decide)), fun l hl => ⟨by rw [ga 100 (by decide) (by decide) (by decide) (by decide)]; exact (r6 l hl).1, (r6 l hl).2.cg (ga 101 (by decide) (by decide) (by decide) (by decide))⟩⟩
        · exact ⟨(pm_up_ne (by decide)).trans h10, fun v hv => ⟨(pm_up_ne (by omega)).trans (h1 v hv).1, fun j hj => (pm_up_ne (by omega)).trans ((h1 v hv).2 j hj)⟩⟩
      refine pm_lp (N := 5) (G := fun i M3 => pm_wq d 164 Qr Qx (44, [some (.inr (.inl (9, 97))), some (.inl (s0 : Int)), some (.inl (i : Int)), none], [], pm_m n kd M3, 0, 0)) (I := fun i M3 => (∀ v, v < i → M3 104 v = ((E v).length : Int) ∧ px_ar M3 105 (24 * v) (E v)) ∧ M3 97 10 = 1 ∧ (∀ a, a ≠ 97 → a ≠ 104 → a ≠ 105 → M3 a = M2 a) ∧ (∀ j, j ≠ 10 → j ≠ 11 → M3 97 j = M2 97 j)) ?_ ?_ 0 _ (Nat.zero_le _) ⟨fun v hv => absurd hv (Nat.not_lt_zero v), (pm_up_ne (by omega)).trans pm_up_eq, fun a a1 a2 a3 => (pm_up_row a1).trans (pm_up_row a1), fun j j1 j2 => (pm_up_ne (by omega)).trans (pm_up_ne (by omega))⟩
      · intro M3 ⟨h1, h10, hga, hgf⟩
        exact tr_164_44 (by omega) ⟨fun _ => fin M3 h1 h10 hga hgf, fun z => by omega⟩
      · intro i M3 hi ⟨h1, h10, hga, hgf⟩ ih
        have h114 : ∀ M4 : Nat → Nat → Int, M4 114 = M3 114 → M4 114 i = ((E i).length : Int) := fun M4 e => by rw [e, hga 114 (by decide) (by decide) (by decide)]; exact (he i hi).1
        refine tr_164_44 (by omega) ⟨fun z => by omega, fun _ => ⟨⟨by omega, by omega⟩, ⟨by omega, by omega⟩, ?_⟩⟩
        rw [Int.toNat_natCast, h114 M3 rfl]
        refine pm_lp (N := (E i).length) (G := fun j M4 => pm_wq d 164 Qr Qx (63, [some (.inr (.inl (9, 97))), some (.inl (s0 : Int)), some (.inl (i : Int)), some (.inl (j : Int))], [], pm_m n kd M4, 0, 0)) (I := fun j M4 => (∀ j', j' < j → M4 105 (24 * i + j') = (((E i).getD j' 0 : Nat) : Int)) ∧ (∀ j', j' < 24 * i → M4 105 j' = M3 105 j') ∧ M4 104 i = ((E i).length : Int) ∧ (∀ v, v ≠ i → M4 104 v = M3 104 v) ∧ (∀ a, a ≠ 104 → a ≠ 105 → M4 a = M3 a)) ?_ ?_ 0 _ (Nat.zero_le _) ⟨fun j hj => absurd hj (Nat.not_lt_zero j), fun j' _ => pm_up_ne (by omega), pm_up_eq, fun v hv => pm_up_ne (Or.inr hv), fun a a1 a2 => pm_up_row a1⟩
        · intro M4 ⟨b1, b2, b3, b4, b5⟩
          refine tr_164_63 (by omega) ⟨⟨by omega, by omega⟩, ?_⟩
          rw [Int.toNat_natCast, h114 M4 (b5 114 (by decide) (by decide))]
          refine ⟨fun _ => ⟨⟨by omega, by omega⟩, ih M4 ⟨fun v hv => ?_, ?_, fun a a1 a2 a3 => (b5 a a2 a3).trans (hga a a1 a2 a3), fun j j1 j2 => ?_⟩⟩, fun z => by omega⟩
          · by_cases e : v = i
            · subst e; exact ⟨b3, b1⟩
            · have hl := hlen v (by omega)
              refine ⟨(b4 v e).trans (h1 v (by omega)).1, fun j hj => ?_⟩
              rw [b2 _ (by omega)]; exact (h1 v (by omega)).2 j hj
          · rw [b5 97 (by decide) (by decide)]; exact h10
          · rw [b5 97 (by decide) (by decide)]; exact hgf j j1 j2
        · intro j M4 hj ⟨b1, b2, b3, b4, b5⟩ ih2
          have hE : E i ≠ [] := fun z => by rw [z] at hj; exact absurd hj (Nat.not_lt_zero j)
          obtain ⟨st, a1, a2, a3⟩ := (he i hi).2 hE
          have h113 : M4 113 i = (st : Int) := by rw [b5 113 (by decide) (by decide), hga 113 (by decide) (by decide) (by decide)]; exact a1
          have hl := hlen i hi
          have e0 : (24 * (i : Int) + (j : Int)).toNat = 24 * i + j := by omega
          have e1 : ((st : Int) + (j : Int)).toNat = st + j := by omega
          have h112 : M4 112 (st + j) = (((E i).getD j 0 : Nat) : Int) := by
            rw [b5 112 (by decide) (by decide), hga 112 (by decide) (by decide) (by decide), htx2.2.2 _ (by omega)]
            congr 1
            conv => rhs; rw [← a3]
            rw [gd_take hj, gd_drop]
          refine tr_164_63 (by omega) ⟨⟨by omega, by omega⟩, ?_⟩
          rw [Int.toNat_natCast, h114 M4 (b5 114 (by decide) (by decide)), h113, e0, e1, h112]
          refine ⟨fun z => by omega, fun _ => ⟨⟨by omega, by omega⟩, ⟨by omega, by omega⟩, ⟨by omega, by omega⟩, ⟨by omega, by omega⟩, ⟨by omega, by omega⟩, ⟨by omega, by omega⟩, ⟨by omega, by omega⟩, ih2 _ ⟨fun j' hj' => ?_, fun j' hj' => ?_, (pm_up_ne (by omega)).trans b3, fun v hv => (pm_up_ne (by omega)).trans (b4 v hv), fun a a1 a2 => (pm_up_row a2).trans (b5 a a1 a2)⟩⟩⟩
          · by_cases e : j' = j
            · rw [e, pm_up_eq]
            · rw [pm_up_ne (by omega)]; exact b1 j' (by omega)
          · rw [pm_up_ne (by omega)]; exact b2 j' hj'
  · rw [if_pos (List.length_eq_zero_iff.mp (by omega))] at h
    exact h.bad hR px_sc.rf
theorem ra_165 (hd : 2 ≤ d) (hR : Ref M s) (h : RO (o_imageLength s x) n kd M Qr) : pm_run d 165 [.inr (.inl (9, 97)), .inl x] (pm_m n kd M) Qr Qx := by
  obtain ⟨d, rfl⟩ := pm_ex1 (show 1 ≤ d by omega)
  unfold o_imageLength at h
  have hh : RefO M (gO s) := hR.2.2.2
  refine tr_165 (by omega) ⟨fun z => ?_, fun z => ?_⟩
  · rw [if_pos (by omega)] at h
    cases hc : gO s with
    | none =>
      rw [hc] at hh h
      have hh : M 97 10 = 0 := hh
      exact ⟨fun _ => RO.bad h hR px_sc.rf, fun z2 => absurd hh z2⟩
    | some f =>
      rw [hc] at hh h
      refine ⟨fun z2 => absurd z2 (by rw [hh.1]; decide), fun _ => ⟨⟨by omega, by omega⟩, ?_⟩⟩
      rw [(hh.2 x.toNat (by omega)).1]
      exact RO.ok h hR px_sc.rf
  · rw [if_neg (by omega)] at h
    exact h.bad hR px_sc.rf
theorem ra_166 (hd : 2 ≤ d) (hR : Ref M s) (hW : wfs s) (h : RO (o_imageLetter s x y) n kd M Qr) : pm_run d 166 [.inr (.inl (9, 97)), .inl x, .inl y] (pm_m n kd M) Qr Qx := by
  obtain ⟨d, rfl⟩ := pm_ex1 (show 1 ≤ d by omega)
  unfold o_imageLetter at h
  have hh : RefO M (gO s) := hR.2.2.2
  refine tr_166 (by omega) ⟨fun z => ?_, fun z => ?_⟩
  · rw [if_pos (by omega)] at h
    cases hc : gO s with
    | none =>
      rw [hc] at hh h
      have hh : M 97 10 = 0 := hh
      exact ⟨fun z2 => absurd hh z2, fun _ => RO.bad h hR px_sc.rf⟩
    | some f =>
      rw [hc] at hh h
      have h24 := hW.2.2.2 f hc x.toNat
      have hl := (hh.2 x.toNat (by omega)).1
      have h : RO (if 0 ≤ y ∧ y < (f x.toNat).length then (.inl ((f x.toNat).getD y.toNat 0 : Nat), s) else (.inr 3, s)) n kd M Qr := h
      refine ⟨fun _ => ⟨⟨by omega, by omega⟩, ?_⟩, fun z2 => absurd (by rw [hh.1]; decide) z2⟩
      rw [hl]
      refine ⟨⟨by omega, by omega⟩, fun z2 => ⟨⟨by omega, by omega⟩, ⟨by omega, by omega⟩, ⟨by omega, by omega⟩, ?_⟩, fun z2 => ?_⟩
      · rw [if_pos (by omega)] at h
        have e : (24 * x + y).toNat = 24 * x.toNat + y.toNat := by omega
        rw [e, (hh.2 x.toNat (by omega)).2 y.toNat (by omega)]
        exact RO.ok h hR px_sc.rf
      · rw [if_neg (by omega)] at h
        exact RO.bad h hR px_sc.rf
  · rw [if_neg (by omega)] at h
    exact h.bad hR px_sc.rf
theorem ra_167 (hd : 24 ≤ d) (hR : Ref M s) (hW : wfs s) (h : RO (o_occurrenceCount s) n kd M Qr) : pm_run d 167 [.inr (.inl (9, 97))] (pm_m n kd M) Qr Qx := by
  obtain ⟨d, rfl⟩ := pm_ex1 (show 1 ≤ d by omega)
  have hn := hR.np
  have h24 : (gW s).length ≤ 24 := hW.1.2.2.1.1
  have h15 : (gP s).length ≤ 15 := hW.1.2.1.1
  unfold o_occurrenceCount at h
  refine tr_167 (by omega) ⟨fun z => ?_, fun z => ?_⟩
  · rw [if_neg (ln0.mp (by omega))] at h
    rw [hn]
    refine ra_140 (by omega) hW.1.2.1 hR.p (fun M1 hsk ho => tr_167_26 (by omega) ?_)
    have g1 := ho.sc (by decide) (by decide)
    refine ra_144 (by omega) (hR.sc g1) hW (fun M2 htx ho2 => tr_167_30 (by omega) ?_)
    have hsk2 := hsk.f1 ho2 (by decide) (by decide)
    have g2 := g1.tr (ho2.sc (by decide) (by decide))
    have hb1 : ∀ i, (occ (gP s) (gW s) i).length ≤ 7962624 := fun i => cnt_le5 hW.1.2.1.2 (by rw [List.length_drop]; omega)
    refine pm_lp (N := (gW s).length) (G := fun i M3 => pm_wq d 167 Qr Qx (37, [some (.inr (.inl (9, 97))), some (.inl (i : Int)), none], [], pm_m n kd M3, 0, 0)) (I := fun i M3 => M3 97 29 = (sm (fun j => (occ (gP s) (gW s) j).length) 0 i : Int) ∧ px_gf M2 M3) ?_ ?_ 0 _ (Nat.zero_le _) ⟨pm_up_eq, px_gf.rf.up (by omega)⟩
    · intro M3 ⟨h29, g3⟩
      have h25 := (htx.gf g3).1
      refine tr_167_37 (by omega) ⟨fun _ => ?_, fun z => by omega⟩
      rw [h29]
      exact RO.ok h hR (g2.tr g3.sc)
    · intro i M3 hi ⟨h29, g3⟩ ih
      have h25 := (htx.gf g3).1
      have hbs : sm (fun j => (occ (gP s) (gW s) j).length) 0 i ≤ i * 7962624 := sm_le (fun j _ _ => hb1 j)
      refine tr_167_37 (by omega) ⟨fun z => by omega, fun _ => ?_⟩
      refine pm_lp (N := 5) (G := fun j M4 => pm_wq d 167 Qr Qx (47, [some (.inr (.inl (9, 97))), some (.inl (i : Int)), some (.inl (j : Int))], [], pm_m n kd M4, 0, 0)) (I := fun j M4 => (∀ v, v < j → M4 114 v = 0) ∧ M4 97 29 = M3 97 29 ∧ px_gf M2 M4) ?_ ?_ 0 M3 (Nat.zero_le _) ⟨fun v hv => absurd hv (Nat.not_lt_zero v), rfl, g3⟩
      · intro M4 ⟨h0, h29', g4⟩
        refine tr_167_47 (by omega) ⟨fun _ => ?_, fun z => by omega⟩
        have hL : mtF false (gP s) e0 ((gW s).drop i) = occ (gP s) (gW s) i := occF_false
        have hb2 := hb1 i
        refine sp_141 (p := gP s) (t := gW s) (en := false) (on := 0) (Or.inl rfl) (gP s) d 0 i e0 M4 _ rfl (Nat.zero_le _) (by omega) (hsk2.gf g4) (htx.gf g4) (fun v hv => ⟨h0 v hv, fun z => absurd rfl z⟩) (by omega) (fun z => absurd z (by decide)) (by rw [h29', h29]; omega) (by rw [h29', h29, hL]; omega) (fun M5 E' r' z => absurd z (by decide)) (fun M5 _ hc _ g5 => tr_167_73 (by omega) ⟨⟨by omega, by omega⟩, ih M5 ⟨?_, g4.tr g5⟩⟩)
        rw [hc, h29', h29, hL, sm_snoc, Nat.zero_add]
        rfl
      · intro j M4 hj ⟨h0, h29', g4⟩ ih2
        refine tr_167_47 (by omega) ⟨fun z => by omega, fun _ => ⟨⟨by omega, by omega⟩, ⟨by omega, by omega⟩, ih2 _ ⟨fun v hv => ?_, (pm_up_ne (by omega)).trans h29', g4.up (by omega)⟩⟩⟩
        rw [Int.toNat_natCast]
        by_cases e : v = j
        · subst e; exact pm_up_eq
        · rw [pm_up_ne (Or.inr e)]; exact h0 v (by omega)
  · rw [if_pos (List.length_eq_zero_iff.mp (by omega))] at h
    exact h.bad hR px_sc.rf
end RFB

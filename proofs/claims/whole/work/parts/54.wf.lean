/-! WHAT A CALL LEAVES IS WELL FORMED; which codes it can throw -/
theorem wfs.sp {s : stt} {p : List Nat} (h : wfs s) (hp : wfp p) : wfs (sP s p) := ⟨⟨h.1.1, hp, h.1.2.2.1, h.1.2.2.2⟩, h.2⟩
theorem wfs.sw {s : stt} {w : List Nat} (h : wfs s) (hw : wfw (gK s) w) : wfs (sW s w) := ⟨⟨h.1.1, h.1.2.1, hw, h.1.2.2.2⟩, h.2⟩
theorem wfs.si {s : stt} {im : Nat → List Nat} (h : wfs s) (hi : wfi (gK s) im) : wfs (sI s im) := ⟨⟨h.1.1, h.1.2.1, h.1.2.2.1, hi⟩, h.2⟩
theorem wfs.P {s : stt} (h : wfs s) : wfp (gP s) := h.1.2.1
theorem wfs.W {s : stt} (h : wfs s) : wfw (gK s) (gW s) := h.1.2.2.1
theorem wfs.I {s : stt} (h : wfs s) : wfi (gK s) (gI s) := h.1.2.2.2
theorem wfp_nil : wfp [] := ⟨by decide, fun v hv => by cases hv⟩
theorem snoc_all {xs : List Nat} {a : Nat} {f : Nat → Prop} (h : ∀ v ∈ xs, f v) (ha : f a) : ∀ v ∈ xs ++ [a], f v := fun v hv => by
  rcases List.mem_append.mp hv with e | e
  · exact h v e
  · rw [List.mem_singleton.mp e]; exact ha
theorem snoc_len {xs : List Nat} {a : Nat} : (xs ++ [a]).length = xs.length + 1 := by rw [List.length_append, List.length_singleton]
/-- pairwise different numbers below n are at most n -/
theorem nd_len : ∀ (n : Nat) (l : List Nat), l.Nodup → (∀ v ∈ l, v < n) → l.length ≤ n
  | 0, l, _, h => by
    cases l with
    | nil => exact Nat.le_refl _
    | cons a l => exact absurd (h a List.mem_cons_self) (Nat.not_lt_zero _)
  | n + 1, l, hn, h => by
    by_cases hm : n ∈ l
    · have h1 := nd_len n (l.erase n) (hn.erase n) (fun v hv => by
        have e := (hn.mem_erase_iff).mp hv
        have := h v e.2
        have := e.1
        omega)
      rw [List.length_erase_of_mem hm] at h1
      omega
    · have := nd_len n l hn (fun v hv => by
        have := h v hv
        have : v ≠ n := fun e => hm (e ▸ hv)
        omega)
      omega
theorem sn_cnt {xs : List Nat} : ∀ i, i ≤ xs.length → ∀ u, (pm_sn (xs.take i)).count u ≤ 1
  | 0, _, u => Nat.zero_le _
  | i + 1, hi, u => by
    have ih := sn_cnt (xs := xs) i (by omega) u
    rw [tk_succ (show i < xs.length by omega), pm_sn_snoc]
    split
    · exact ih
    · next hne =>
      rw [List.count_append]
      by_cases e : u = xs.getD i 0
      · rw [← e] at hne ⊢
        rw [List.count_eq_zero.mpr hne]
        simp
      · have : [xs.getD i 0].count u = 0 := List.count_eq_zero.mpr (fun w => e (List.mem_singleton.mp w))
        omega
theorem sn_len5 {xs : List Nat} (h : ∀ v ∈ xs, v < 5) : (pm_sn xs).length ≤ 5 := by
  have hc := sn_cnt (xs := xs) xs.length (Nat.le_refl _)
  rw [List.take_length] at hc
  exact nd_len 5 _ (nodup_of (p := []) (fun x _ => hc x)) (fun v hv => h v (pm_sn_mem.mp hv))
theorem wfp_cn {p : List Nat} (h : wfp p) : wfp (pm_cn p) := by
  refine ⟨by rw [cn_len]; exact h.1, fun v hv => ?_⟩
  obtain ⟨u, hu, e⟩ := List.mem_map.mp hv
  have h1 := (pm_ix_mem (pm_sn_mem.mpr hu)).1
  have h2 := sn_len5 h.2
  omega
theorem wfp_rev {p : List Nat} (h : wfp p) : wfp p.reverse := ⟨by rw [List.length_reverse]; exact h.1, fun v hv => h.2 v (List.mem_reverse.mp hv)⟩
theorem wfp_fil {p : List Nat} {f : Nat → Bool} (h : wfp p) : wfp (p.filter f) := ⟨Nat.le_trans (List.length_filter_le _ _) h.1, fun v hv => h.2 v (List.mem_filter.mp hv).1⟩
theorem wfp_zm {x : Nat} (h : x ≤ 4) : wfp (pm_zm x) := ⟨zm_le h, fun v hv => by have := pm_zm_lt x h v hv; omega⟩
theorem mt_len {lim : Nat → Nat} {E' : Nat → List Nat} {r' : List Nat} : ∀ (p : List Nat) (E : Nat → List Nat) (r : List Nat), (E', r') ∈ mtL lim p E r → (∀ v, (E v).length ≤ 24) → r.length ≤ 24 → ∀ v, (E' v).length ≤ 24
  | [], E, r, h, hE, _, v => by
    have h : (E', r') ∈ [(E, r)] := h
    have h := List.mem_singleton.mp h
    have h : E' = E := congrArg Prod.fst h
    rw [h]
    exact hE v
  | u :: p, E, r, h, hE, hr, v => by
    rw [mtL] at h
    split at h
    · obtain ⟨j, -, -, hj⟩ := fm_mem h
      refine mt_len p _ _ hj (fun w => ?_) (by rw [List.length_drop]; omega) v
      by_cases e : w = u
      · rw [e, ud_eq, List.length_take]; omega
      · rw [ud_ne e]; exact hE w
    · split at h
      · exact mt_len p _ _ h hE (by rw [List.length_drop]; omega) v
      · cases h
theorem foA_mem {p t : List Nat} {s : Nat} {E : Nat → List Nat} : ∀ (c i : Nat), foA p t i c = some (s, E) → ∃ j r, (E, r) ∈ occ p t j
  | 0, i, h => by cases h
  | c + 1, i, h => by
    rw [foA] at h
    split at h
    · next q hq =>
      have e : q.1 = E := congrArg Prod.snd (Option.some.inj h)
      refine ⟨i, q.2, ?_⟩
      rw [← e]
      cases hl : occ p t i with
      | nil => rw [hl] at hq; cases hq
      | cons a l => rw [hl] at hq; cases hq; exact List.mem_cons_self
    · exact foA_mem c (i + 1) h
theorem FO_len {p t : List Nat} {s : Nat} {E : Nat → List Nat} (ht : t.length ≤ 24) (h : FO p t = some (s, E)) : ∀ v, (E v).length ≤ 24 := by
  obtain ⟨j, r, hm⟩ := foA_mem _ _ h
  exact mt_len p e0 _ hm (fun v => Nat.zero_le _) (by rw [List.length_drop]; omega)
theorem DF_lt {p : List Nat} {K : Nat} : ∀ (D : Nat) (w : List Nat) (tr : Nat), (∀ v ∈ w, v < K) → ∀ q ∈ (DF p K D w tr).1, ∀ v ∈ q.1, v < K
  | 0, w, tr, _, q, hq => by cases hq
  | D + 1, w, tr, hw, q, hq => by
    have key : ∀ c l tr, l + c = K → ∀ q ∈ (lpc p (DF p K D) c w l tr).1, ∀ v ∈ q.1, v < K := by
      intro c
      induction c with
      | zero => intro l tr _ q hq; cases hq
      | succ c ihc =>
        intro l tr hl q hq
        rw [lpc] at hq
        split at hq
        · cases hq
        · split at hq
          · have hw2 : ∀ v ∈ w ++ [l], v < K := snoc_all hw (by omega)
            have hq : q ∈ (w ++ [l], tr + 1) :: (evb (DF p K D (w ++ [l]) (tr + 1)) (fun t1 => lpc p (DF p K D) c w (l + 1) t1)).1 := hq
            rcases List.mem_cons.mp hq with e | e
            · rw [e]; exact hw2
            · unfold evb at e
              split at e
              · exact DF_lt D (w ++ [l]) (tr + 1) hw2 q e
              · rcases List.mem_append.mp e with e | e
                · exact DF_lt D (w ++ [l]) (tr + 1) hw2 q e
                · exact ihc (l + 1) _ (by omega) q e
          · exact ihc (l + 1) _ (by omega) q hq
    exact key K 0 tr (by omega) q hq
theorem itr_wf {K : Nat} {im : Nat → List Nat} (hi : wfi K im) : ∀ (c : Nat) (w w' : List Nat), wfw K w → itr im w c = some w' → wfw K w'
  | 0, w, w', hw, h => by cases h; exact hw
  | c + 1, w, w', hw, h => by
    rw [itr] at h
    split at h
    · next h24 => exact itr_wf hi c _ w' ⟨h24, ap_lt hi⟩ h
    · cases h
theorem ffm_lt {s : stt} {m lg : Nat} : ∀ (c num k : Nat), ffm s m lg c num = some k → k < num + c
  | 0, num, k, h => by cases h
  | c + 1, num, k, h => by
    rw [ffm] at h
    split at h
    · cases h; omega
    · have := ffm_lt c (num + 1) k h
      omega
theorem wfi_ud {K x : Nat} {im : Nat → List Nat} {w : List Nat} (h : wfi K im) (hx : x < K) (hl : w.length ≤ 4) (hw : ∀ v ∈ w, v < K) : wfi K (ud im x w) := by
  refine ⟨fun l => ?_, fun l => ?_, fun l hl2 => ?_⟩
  · by_cases e : l = x
    · rw [e, ud_eq]; exact hl
    · rw [ud_ne e]; exact h.1 l
  · by_cases e : l = x
    · rw [e, ud_eq]; exact hw
    · rw [ud_ne e]; exact h.2.1 l
  · rw [ud_ne (by omega)]; exact h.2.2 l hl2
theorem wfi_gim {K m num : Nat} (hm : m ≤ 4) : wfi K (gim K m num) := by
  refine ⟨fun l => by rw [gim_len]; split <;> omega, fun l v hv => ?_, fun l hl => if_neg (by omega)⟩
  unfold gim at hv
  split at hv
  · obtain ⟨i, -, hi⟩ := List.mem_map.mp hv
    rw [← hi]
    exact Nat.mod_lt _ (by omega)
  · cases hv
section WFO
variable {s : stt} {x y : Int}
theorem wf_appendVariable (h : wfs s) : wfs (o_appendVariable s x).2 := by
  unfold o_appendVariable
  split
  · split
    · exact h.sp ⟨by rw [snoc_len]; omega, snoc_all h.P.2 (by omega)⟩
    · exact h
  · exact h
theorem wf_clearPattern (h : wfs s) : wfs (o_clearPattern s ).2 := by
  unfold o_clearPattern
  exact h.sp wfp_nil
theorem wf_loadZimin (h : wfs s) : wfs (o_loadZimin s x).2 := by
  unfold o_loadZimin
  split
  · exact h.sp (wfp_zm (by omega))
  · exact h
theorem wf_canonicalize (h : wfs s) : wfs (o_canonicalize s ).2 := by
  unfold o_canonicalize
  exact h.sp (wfp_cn h.P)
theorem wf_reversePattern (h : wfs s) : wfs (o_reversePattern s ).2 := by
  unfold o_reversePattern
  exact h.sp (wfp_rev h.P)
theorem wf_shelve (h : wfs s) : wfs (o_shelve s x).2 := by
  unfold o_shelve
  split
  · refine ⟨h.1, h.2.1, fun i q hq => ?_, h.2.2.2⟩
    have hq : (if i = x.toNat then some (gP s) else gS s i) = some q := hq
    split at hq
    · cases hq; exact h.P
    · exact h.2.2.1 i q hq
  · exact h
theorem wf_useShelf (h : wfs s) : wfs (o_useShelf s x).2 := by
  unfold o_useShelf
  split
  · split
    · exact h
    · next q hq => exact h.sp (h.2.2.1 _ q hq)
  · exact h
theorem wf_setLetterCount (h : wfs s) : wfs (o_setLetterCount s x).2 := by
  unfold o_setLetterCount
  split
  · exact ⟨⟨⟨by show 2 ≤ x.toNat; omega, by show x.toNat ≤ 4; omega⟩, h.P, ⟨Nat.zero_le _, fun v hv => (by cases hv)⟩, ⟨fun l => Nat.zero_le _, fun l v hv => (by cases hv), fun l _ => rfl⟩⟩, h.2⟩
  · exact h
theorem wf_appendLetter (h : wfs s) : wfs (o_appendLetter s x).2 := by
  unfold o_appendLetter
  split
  · split
    · exact h.sw ⟨by rw [snoc_len]; omega, snoc_all h.W.2 (by omega)⟩
    · exact h
  · exact h
theorem wf_clearWord (h : wfs s) : wfs (o_clearWord s ).2 := by
  unfold o_clearWord
  exact h.sw ⟨Nat.zero_le _, fun v hv => (by cases hv)⟩
theorem wf_findOccurrence (h : wfs s) : wfs (o_findOccurrence s ).2 := by
  unfold o_findOccurrence
  split
  · exact h
  · split
    · exact h
    · next q hq =>
      refine ⟨h.1, h.2.1, h.2.2.1, fun f hf => ?_⟩
      have hf : some q.2 = some f := hf
      cases hf
      exact FO_len h.W.1 hq
theorem wf_appendImage (h : wfs s) : wfs (o_appendImage s x y).2 := by
  unfold o_appendImage
  split
  · split
    · exact h.si (wfi_ud h.I (by omega) (by rw [snoc_len]; omega) (snoc_all (h.I.2.1 _) (by omega)))
    · exact h
  · exact h
theorem wf_clearImage (h : wfs s) : wfs (o_clearImage s x).2 := by
  unfold o_clearImage
  split
  · exact h.si (wfi_ud h.I (by omega) (by decide) (fun v hv => by cases hv))
  · exact h
theorem wf_applyMorphism (h : wfs s) : wfs (o_applyMorphism s ).2 := by
  unfold o_applyMorphism
  split
  · next h24 => exact h.sw ⟨h24, ap_lt h.I⟩
  · exact h
theorem wf_iterate (h : wfs s) : wfs (o_iterate s x y).2 := by
  unfold o_iterate
  split
  · split
    · exact h
    · next w hw => exact h.sw (itr_wf h.I _ _ w ⟨(by show 1 ≤ 24; decide), fun v hv => (by rw [List.mem_singleton.mp hv]; omega)⟩ hw)
  · exact h
theorem wf_save (h : wfs s) : wfs (o_save s ).2 := by
  unfold o_save
  exact ⟨h.1, fun z hz => by cases hz; exact h.1, h.2.2⟩
theorem wf_restore (h : wfs s) : wfs (o_restore s ).2 := by
  unfold o_restore
  split
  · exact h
  · next z hz => exact ⟨h.2.1 z hz, h.2⟩
theorem wf_delete (h : wfs s) : wfs (o_delete s x).2 := by
  unfold o_delete
  split
  · split
    · exact h.sp (wfp_fil h.P)
    · exact h
  · exact h
theorem wf_extend (h : wfs s) : wfs (o_extend s x).2 := by
  unfold o_extend
  split
  · split
    · exact h
    · split
      · exact h
      · split
        · next q hq =>
          refine h.sw ⟨by rw [fnd_len hq]; omega, ?_⟩
          have hm := List.mem_of_find?_eq_some hq
          rcases List.mem_cons.mp hm with e | e
          · rw [e]; exact h.W.2
          · exact DF_lt _ _ _ h.W.2 q e
        · split <;> exact h
  · exact h
theorem wf_findMorphism (h : wfs s) : wfs (o_findMorphism s x y).2 := by
  unfold o_findMorphism
  split
  · split
    · exact h
    · split
      · exact h.si (wfi_gim (by omega))
      · split <;> exact h
  · exact h
theorem wf_patternLength (h : wfs s) : wfs (o_patternLength s ).2 := by
  unfold o_patternLength
  repeat' split
  all_goals exact h
theorem wf_patternVariable (h : wfs s) : wfs (o_patternVariable s x).2 := by
  unfold o_patternVariable
  repeat' split
  all_goals exact h
theorem wf_variables (h : wfs s) : wfs (o_variables s ).2 := by
  unfold o_variables
  repeat' split
  all_goals exact h
theorem wf_occursInZimin (h : wfs s) : wfs (o_occursInZimin s x).2 := by
  unfold o_occursInZimin
  repeat' split
  all_goals exact h
theorem wf_isIsomorphic (h : wfs s) : wfs (o_isIsomorphic s x).2 := by
  unfold o_isIsomorphic
  repeat' split
  all_goals exact h
theorem wf_contains (h : wfs s) : wfs (o_contains s x).2 := by
  unfold o_contains
  repeat' split
  all_goals exact h
theorem wf_wordLength (h : wfs s) : wfs (o_wordLength s ).2 := by
  unfold o_wordLength
  repeat' split
  all_goals exact h
theorem wf_letter (h : wfs s) : wfs (o_letter s x).2 := by
  unfold o_letter
  repeat' split
  all_goals exact h
theorem wf_avoids (h : wfs s) : wfs (o_avoids s ).2 := by
  unfold o_avoids
  repeat' split
  all_goals exact h
theorem wf_imageLength (h : wfs s) : wfs (o_imageLength s x).2 := by
  unfold o_imageLength
  repeat' split
  all_goals exact h
theorem wf_imageLetter (h : wfs s) : wfs (o_imageLetter s x y).2 := by
  unfold o_imageLetter
  repeat' split
  all_goals exact h
theorem wf_occurrenceCount (h : wfs s) : wfs (o_occurrenceCount s ).2 := by
  unfold o_occurrenceCount
  repeat' split
  all_goals exact h
theorem wf_areConnected (h : wfs s) : wfs (o_areConnected s x y).2 := by
  unfold o_areConnected
  repeat' split
  all_goals exact h
theorem wf_isFree (h : wfs s) : wfs (o_isFree s x).2 := by
  unfold o_isFree
  repeat' split
  all_goals exact h
theorem wf_freeSetCount (h : wfs s) : wfs (o_freeSetCount s ).2 := by
  unfold o_freeSetCount
  repeat' split
  all_goals exact h
theorem wf_freeSet (h : wfs s) : wfs (o_freeSet s x).2 := by
  unfold o_freeSet
  repeat' split
  all_goals exact h
theorem wf_isUnavoidable (h : wfs s) : wfs (o_isUnavoidable s ).2 := by
  unfold o_isUnavoidable
  repeat' split
  all_goals exact h
theorem wf_reductionLength (h : wfs s) : wfs (o_reductionLength s ).2 := by
  unfold o_reductionLength
  repeat' split
  all_goals exact h
theorem wf_reductionSet (h : wfs s) : wfs (o_reductionSet s x).2 := by
  unfold o_reductionSet
  repeat' split
  all_goals exact h
theorem wf_longestAvoiding (h : wfs s) : wfs (o_longestAvoiding s x).2 := by
  unfold o_longestAvoiding
  repeat' split
  all_goals exact h
theorem wf_countAvoiding (h : wfs s) : wfs (o_countAvoiding s x).2 := by
  unfold o_countAvoiding
  repeat' split
  all_goals exact h
theorem wf_countSpoiled (h : wfs s) : wfs (o_countSpoiled s x).2 := by
  unfold o_countSpoiled
  repeat' split
  all_goals exact h
theorem wf_strongestFactor (h : wfs s) : wfs (o_strongestFactor s x).2 := by
  unfold o_strongestFactor
  repeat' split
  all_goals exact h
theorem cd_appendVariable : ∀ c, (o_appendVariable s x).1 = .inr c → 1 ≤ c ∧ c ≤ 2 := by
  intro c hc
  unfold o_appendVariable at hc
  repeat' split at hc
  all_goals first | (cases hc; done) | (cases hc; decide)
theorem cd_patternVariable : ∀ c, (o_patternVariable s x).1 = .inr c → 1 ≤ c ∧ c ≤ 1 := by
  intro c hc
  unfold o_patternVariable at hc
  repeat' split at hc
  all_goals first | (cases hc; done) | (cases hc; decide)
theorem cd_loadZimin : ∀ c, (o_loadZimin s x).1 = .inr c → 1 ≤ c ∧ c ≤ 1 := by
  intro c hc
  unfold o_loadZimin at hc
  repeat' split at hc
  all_goals first | (cases hc; done) | (cases hc; decide)
theorem cd_occursInZimin : ∀ c, (o_occursInZimin s x).1 = .inr c → 1 ≤ c ∧ c ≤ 2 := by
  intro c hc
  unfold o_occursInZimin at hc
  repeat' split at hc
  all_goals first | (cases hc; done) | (cases hc; decide)
theorem cd_shelve : ∀ c, (o_shelve s x).1 = .inr c → 1 ≤ c ∧ c ≤ 1 := by
  intro c hc
  unfold o_shelve at hc
  repeat' split at hc
  all_goals first | (cases hc; done) | (cases hc; decide)
theorem cd_useShelf : ∀ c, (o_useShelf s x).1 = .inr c → 1 ≤ c ∧ c ≤ 2 := by
  intro c hc
  unfold o_useShelf at hc
  repeat' split at hc
  all_goals first | (cases hc; done) | (cases hc; decide)
theorem cd_isIsomorphic : ∀ c, (o_isIsomorphic s x).1 = .inr c → 1 ≤ c ∧ c ≤ 2 := by
  intro c hc
  unfold o_isIsomorphic at hc
  repeat' split at hc
  all_goals first | (cases hc; done) | (cases hc; decide)
theorem cd_contains : ∀ c, (o_contains s x).1 = .inr c → 1 ≤ c ∧ c ≤ 2 := by
  intro c hc
  unfold o_contains at hc
  repeat' split at hc
  all_goals first | (cases hc; done) | (cases hc; decide)
theorem cd_setLetterCount : ∀ c, (o_setLetterCount s x).1 = .inr c → 1 ≤ c ∧ c ≤ 1 := by
  intro c hc
  unfold o_setLetterCount at hc
  repeat' split at hc
  all_goals first | (cases hc; done) | (cases hc; decide)
theorem cd_appendLetter : ∀ c, (o_appendLetter s x).1 = .inr c → 1 ≤ c ∧ c ≤ 2 := by
  intro c hc
  unfold o_appendLetter at hc
  repeat' split at hc
  all_goals first | (cases hc; done) | (cases hc; decide)
theorem cd_letter : ∀ c, (o_letter s x).1 = .inr c → 1 ≤ c ∧ c ≤ 1 := by
  intro c hc
  unfold o_letter at hc
  repeat' split at hc
  all_goals first | (cases hc; done) | (cases hc; decide)
theorem cd_strongestFactor : ∀ c, (o_strongestFactor s x).1 = .inr c → 1 ≤ c ∧ c ≤ 2 := by
  intro c hc
  unfold o_strongestFactor at hc
  repeat' split at hc
  all_goals first | (cases hc; done) | (cases hc; decide)
theorem cd_avoids : ∀ c, (o_avoids s ).1 = .inr c → 1 ≤ c ∧ c ≤ 1 := by
  intro c hc
  unfold o_avoids at hc
  repeat' split at hc
  all_goals first | (cases hc; done) | (cases hc; decide)
theorem cd_findOccurrence : ∀ c, (o_findOccurrence s ).1 = .inr c → 1 ≤ c ∧ c ≤ 2 := by
  intro c hc
  unfold o_findOccurrence at hc
  repeat' split at hc
  all_goals first | (cases hc; done) | (cases hc; decide)
theorem cd_imageLength : ∀ c, (o_imageLength s x).1 = .inr c → 1 ≤ c ∧ c ≤ 2 := by
  intro c hc
  unfold o_imageLength at hc
  repeat' split at hc
  all_goals first | (cases hc; done) | (cases hc; decide)
theorem cd_imageLetter : ∀ c, (o_imageLetter s x y).1 = .inr c → 1 ≤ c ∧ c ≤ 3 := by
  intro c hc
  unfold o_imageLetter at hc
  repeat' split at hc
  all_goals first | (cases hc; done) | (cases hc; decide)
theorem cd_occurrenceCount : ∀ c, (o_occurrenceCount s ).1 = .inr c → 1 ≤ c ∧ c ≤ 1 := by
  intro c hc
  unfold o_occurrenceCount at hc
  repeat' split at hc
  all_goals first | (cases hc; done) | (cases hc; decide)
theorem cd_areConnected : ∀ c, (o_areConnected s x y).1 = .inr c → 1 ≤ c ∧ c ≤ 1 := by
  intro c hc
  unfold o_areConnected at hc
  repeat' split at hc
  all_goals first | (cases hc; done) | (cases hc; decide)
theorem cd_isFree : ∀ c, (o_isFree s x).1 = .inr c → 1 ≤ c ∧ c ≤ 1 := by
  intro c hc
  unfold o_isFree at hc
  repeat' split at hc
  all_goals first | (cases hc; done) | (cases hc; decide)
theorem cd_freeSet : ∀ c, (o_freeSet s x).1 = .inr c → 1 ≤ c ∧ c ≤ 1 := by
  intro c hc
  unfold o_freeSet at hc
  repeat' split at hc
  all_goals first | (cases hc; done) | (cases hc; decide)
theorem cd_delete : ∀ c, (o_delete s x).1 = .inr c → 1 ≤ c ∧ c ≤ 2 := by
  intro c hc
  unfold o_delete at hc
  repeat' split at hc
  all_goals first | (cases hc; done) | (cases hc; decide)
theorem cd_reductionLength : ∀ c, (o_reductionLength s ).1 = .inr c → 1 ≤ c ∧ c ≤ 1 := by
  intro c hc
  unfold o_reductionLength at hc
  repeat' split at hc
  all_goals first | (cases hc; done) | (cases hc; decide)
theorem cd_reductionSet : ∀ c, (o_reductionSet s x).1 = .inr c → 1 ≤ c ∧ c ≤ 2 := by
  intro c hc
  unfold o_reductionSet at hc
  repeat' split at hc
  all_goals first | (cases hc; done) | (cases hc; decide)
theorem cd_extend : ∀ c, (o_extend s x).1 = .inr c → 1 ≤ c ∧ c ≤ 4 := by
  intro c hc
  unfold o_extend at hc
  repeat' split at hc
  all_goals first | (cases hc; done) | (cases hc; decide)
theorem cd_longestAvoiding : ∀ c, (o_longestAvoiding s x).1 = .inr c → 1 ≤ c ∧ c ≤ 3 := by
  intro c hc
  unfold o_longestAvoiding at hc
  repeat' split at hc
  all_goals first | (cases hc; done) | (cases hc; decide)
theorem cd_countAvoiding : ∀ c, (o_countAvoiding s x).1 = .inr c → 1 ≤ c ∧ c ≤ 3 := by
  intro c hc
  unfold o_countAvoiding at hc
  repeat' split at hc
  all_goals first | (cases hc; done) | (cases hc; decide)
theorem cd_appendImage : ∀ c, (o_appendImage s x y).1 = .inr c → 1 ≤ c ∧ c ≤ 2 := by
  intro c hc
  unfold o_appendImage at hc
  repeat' split at hc
  all_goals first | (cases hc; done) | (cases hc; decide)
theorem cd_clearImage : ∀ c, (o_clearImage s x).1 = .inr c → 1 ≤ c ∧ c ≤ 1 := by
  intro c hc
  unfold o_clearImage at hc
  repeat' split at hc
  all_goals first | (cases hc; done) | (cases hc; decide)
theorem cd_applyMorphism : ∀ c, (o_applyMorphism s ).1 = .inr c → 1 ≤ c ∧ c ≤ 1 := by
  intro c hc
  unfold o_applyMorphism at hc
  repeat' split at hc
  all_goals first | (cases hc; done) | (cases hc; decide)
theorem cd_iterate : ∀ c, (o_iterate s x y).1 = .inr c → 1 ≤ c ∧ c ≤ 2 := by
  intro c hc
  unfold o_iterate at hc
  repeat' split at hc
  all_goals first | (cases hc; done) | (cases hc; decide)
theorem cd_findMorphism : ∀ c, (o_findMorphism s x y).1 = .inr c → 1 ≤ c ∧ c ≤ 4 := by
  intro c hc
  unfold o_findMorphism at hc
  repeat' split at hc
  all_goals first | (cases hc; done) | (cases hc; decide)
theorem cd_countSpoiled : ∀ c, (o_countSpoiled s x).1 = .inr c → 1 ≤ c ∧ c ≤ 3 := by
  intro c hc
  unfold o_countSpoiled at hc
  repeat' split at hc
  all_goals first | (cases hc; done) | (cases hc; decide)
theorem cd_restore : ∀ c, (o_restore s ).1 = .inr c → 1 ≤ c ∧ c ≤ 1 := by
  intro c hc
  unfold o_restore at hc
  repeat' split at hc
  all_goals first | (cases hc; done) | (cases hc; decide)
theorem cd_density : ∀ c, o_density s x = .inr c → 1 ≤ c ∧ c ≤ 2 := by
  intro c hc
  unfold o_density at hc
  repeat' split at hc
  all_goals first | (cases hc; done) | (cases hc; decide)
theorem cd_discountedSum {f : UInt64} : ∀ c, o_discountedSum s f = .inr c → 1 ≤ c ∧ c ≤ 1 := by
  intro c hc
  unfold o_discountedSum at hc
  repeat' split at hc
  all_goals first | (cases hc; done) | (cases hc; decide)
theorem cd_greatestExponent : ∀ c, o_greatestExponent s  = .inr c → 1 ≤ c ∧ c ≤ 1 := by
  intro c hc
  unfold o_greatestExponent at hc
  repeat' split at hc
  all_goals first | (cases hc; done) | (cases hc; decide)
theorem cd_growth : ∀ c, o_growth s x = .inr c → 1 ≤ c ∧ c ≤ 4 := by
  intro c hc
  unfold o_growth at hc
  repeat' split at hc
  all_goals first | (cases hc; done) | (cases hc; decide)
end WFO

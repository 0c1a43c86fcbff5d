/-! handlers that begin with an astore of two bytes -/
def pm_okA (mi pc e : Nat) : Bool := match pm_cd mi (pm_hd mi pc e) with
  | (.astore n, _) => decide (decode (pm_b mi) (pm_hd mi pc e) = .ok (.astore n, 2)) && decide (n < pm_ml mi) && decide (pm_hd mi pc e + 2 ∈ (pm_p mi).map Prod.fst) && decide (pm_fd pc e (pm_hh mi) = some (pm_hd mi pc e)) && ((pm_hh mi).all fun q => decide (pm_ct q.2.2.2 < 6 ∧ q.2.2.2 ≠ 0 ∧ Cond.classLink (pm_ow mi) q.2.2.2 (pm_exn (pm_ct q.2.2.2)) ∈ lw_tbl))
  | _ => true
set_option maxRecDepth 100000 in
set_option maxHeartbeats 4000000 in
theorem pm_okA_all : ((List.range 241).all fun mi => bif pm_hb mi then (pm_p mi).all fun q => (List.range 6).all fun e => pm_okA mi q.1 e else true) = true := by decide +kernel
theorem pm_okA_at {mi pc e : Nat} (hm : mi < 241) (hb : pm_hb mi = true) (hp : pc ∈ (pm_p mi).map Prod.fst) (he : e < 6) : pm_okA mi pc e = true := by
  have h := List.all_eq_true.mp pm_okA_all mi (List.mem_range.mpr hm)
  rw [hb] at h
  obtain ⟨q, hq, rfl⟩ := List.mem_map.mp hp
  exact List.all_eq_true.mp (List.all_eq_true.mp h q hq) e (List.mem_range.mpr he)

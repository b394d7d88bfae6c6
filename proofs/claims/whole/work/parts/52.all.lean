/-! ===== all together ===== -/
theorem sys_ok (z : Nat) : SysOK z (z + 150) (Inv z) := by
  refine ⟨fun j w h => ?_, fun j w h => h.mono, step_put, step_cut, step_change, step_feed, step_end, step_load, step_bad, step_day, step_look, step_line, step_finding, step_find, step_silence, step_speak, step_since, step_log⟩
  obtain ⟨n, β, ι, M, ℓ, tn, τ, chg, day, ids, bad, wrk, hC, hM, -⟩ := h
  exact ⟨hC.split.1.o, hM.o⟩
theorem whole_start {p : Program} {e : Env} {s : State} {m : MethodId} {below : List Frame} {meth : Method} {c : Code} (l : Launch) {b L : Nat} {xs : Nat → Int32} (hL : L ≤ 3072) (C0 : lw_At p s m meth c b L xs) : W p l e room_1 s m #[Value.ref b] below meth c s.heap [] 0 0 (lw_Z below #[Value.ref b] s) (entryFrame m ([Value.ref b] : List Value).toArray 4) := whole_open (fun z => ⟨Inv z, sys_ok z, start_ok z⟩) l hL C0

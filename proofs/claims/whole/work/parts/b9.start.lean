/-! The law's walk -/
theorem whole_start {p : Program} {e : Env} {s : State} {m : MethodId} {below : List Frame} {meth : Method} {c : Code} (l : Launch) (hflags : l.flags = flags0) {b L : Nat} {xs : Nat → Int32} (hL : L ≤ 2560) (C0 : lw_At p s m meth c b L xs) : W p l e room_1 s m #[Value.ref b] below meth c s.heap [] 0 0 (lw_Z below #[Value.ref b] s) (entryFrame m ([Value.ref b] : List Value).toArray 4) := by
  obtain ⟨adK, adV, hF, hZ⟩ := jF_start C0.2.2.2.2.2.1 C0.2.2.2.2.2.2.2.2.2
  refine whole_of l C0 (fun k => if k = 1000000 then b else adK (k - 2000000)) (if_pos rfl) (fun D tys => js_PO hF hZ (fun i hi => ?_)) (lw_runs _ ?_)
  · rw [if_neg (by omega), Nat.add_sub_cancel_left]
  · rw [List.length_map, List.length_range]
    exact hL

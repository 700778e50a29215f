/-! At the start all is as it should be; the law's run -/
theorem CL_0 : CL kd0 := ⟨rfl, rfl, rfl, rfl, rfl, rfl, rfl, rfl, rfl, rfl, rfl⟩
theorem okM_0 : okM (n0L 25) := fun k hk => ⟨false, by
  rw [List.getElem?_replicate, if_pos hk]
  rfl⟩
theorem okM_kd : okM kd0.2.1.2.2.2.2.2.2.2.2.2 := okM_0
theorem CN_0 : CN kd0 0 0 0 := ⟨CL_0, rfl, rfl, rfl, by omega, by omega, by omega⟩
theorem GS_0 : GS kd0 := ⟨CL_0, okM_kd⟩
theorem wK_0 : wK kd0 0 0 0 := ⟨CN_0, okM_kd, ⟨10, by omega, by omega, rfl, fun b hb => absurd hb (Nat.not_lt_zero b)⟩, ⟨40, by omega, by omega, rfl⟩, ⟨0, by omega, rfl⟩, fun t ht => absurd ht (Nat.not_lt_zero t), fun i hi => absurd hi (Nat.not_lt_zero i)⟩
theorem caI_0 : caI 0 0 0 kd0 kd0 := ⟨wK_0, CN_0, rfl, rfl, rfl, fun b hb => absurd hb (Nat.not_lt_zero b), fun t ht => absurd ht (Nat.not_lt_zero t), fun i hi => absurd hi (Nat.not_lt_zero i)⟩
theorem shI_0 : ∀ k, k < 4 → shI r00 (z00 (-1) [] (flK kd0)) k := by
  intro k hk
  match k, hk with
  | 0, _ => exact ⟨rfl, Or.inl ⟨rfl, rfl⟩⟩
  | 1, _ => exact ⟨rfl, Or.inl ⟨rfl, rfl⟩⟩
  | 2, _ => exact ⟨rfl, Or.inl ⟨rfl, rfl⟩⟩
  | 3, _ => exact ⟨rfl, Or.inl ⟨rfl, rfl⟩⟩
set_option maxRecDepth 100000 in
theorem rsI_0 : rsI kd0 kd0 p00 f00 r00 0 (z00 (-1) [] (flK kd0)) (n0L 87) (n0L 87) := by
  refine ⟨⟨GS_0, List.length_replicate .., fun h => by cases h⟩, ⟨GS_0, List.length_replicate .., fun h => by cases h⟩, rfl, ⟨List.length_replicate .., List.length_replicate .., rfl, 0, fun _ => 0, ⟨Nat.zero_le _, fun q hq => absurd hq (Nat.not_lt_zero q)⟩, ⟨Nat.zero_le _, fun q hq => absurd hq (Nat.not_lt_zero q)⟩, rfl, rfl⟩, shI_0, rfl, ⟨List.length_replicate .., List.length_replicate .., List.length_replicate .., rfl⟩, fun v _ => List.length_replicate .., List.length_replicate .., List.length_replicate .., rfl, flK_len kd0, List.length_replicate .., List.length_replicate .., rfl, List.length_replicate .., List.length_replicate .., List.length_replicate ..⟩
theorem mX_eq : mX (-1) (flK kd0 ++ n0L 174) (flK kd0) = mH (zS (z00 (-1) [] (flK kd0)) kd0 (n0L 87 ++ n0L 87)) (n0L 87) (n0L 6) (n0L 5) (n0L 25) (n0L 5) (0, 0, 0, 0) := by
  have e : n0L 174 = n0L 87 ++ n0L 87 := by decide +kernel
  rw [e]
  rfl
theorem Inv_0 : Inv h0c (mX (-1) (flK kd0 ++ n0L 174) (flK kd0)) := by
  rw [mX_eq]
  exact ⟨kd0, kd0, kd0, kd0, kd0, p00, f00, r00, 0, z00 (-1) [] (flK kd0), kd0, n0L 87, n0L 87, n0L 87, n0L 6, n0L 5, n0L 25, n0L 5, (0, 0, 0, 0), 0, 0, 0, rfl, rfl, caI_0, GS_0, CL_0, ⟨List.length_replicate .., List.length_replicate .., List.length_replicate .., List.length_replicate .., List.length_replicate .., okM_0⟩, rsI_0⟩
set_option maxRecDepth 100000 in
theorem lw_runs (xs : List Int32) (hL : xs.length ≤ 2560) : LawRuns xs := by
  obtain ⟨lsr, h', hv⟩ := lw_loop (d := 19) (nc := 144) (ns := 4760) hL xs.length 0 (by omega) (by omega) h0c _ Inv_0
  have h3 : Ev1 xs 40 202 0 [some (.ref 1000000), none, none, none] [] [] 0 0 (1356, lsr, [.int 1], h', 144, 4760) := by
    refine e1_go (pc' := 4) (ls' := [some (.ref 1000000), none, none, none]) (st' := [.ref 0, .ref 0]) (h1 := [ic_o [.null, .null, .null, .null, .null, .null, .null, .null, .null, .null, .null, .int 0]]) (nc' := 1) (ns' := 12) 2 (fun _ => rfl) ?_
    refine e1_ini (y' := 57) rfl rfl rfl rfl (in_57 xs 36) rfl ?_
    refine e1_go (pc' := 12) (ls' := [some (.ref 1000000), some (.ref 0), none, none]) (st' := [.ref 128, .ref 128]) (h1 := h0c ++ [im_D]) (nc' := 129) (ns' := 2607) 3 (fun _ => rfl) ?_
    refine e1_ini (y' := 109) rfl rfl rfl rfl (in_109 xs 38) rfl ?_
    refine e1_go (pc' := 18) (ls' := lwL 0) (st' := []) (h1 := h0c ++ shH 128 (mX (-1) (flK kd0 ++ n0L 174) (flK kd0))) (nc' := 144) (ns' := 4760) 3 (fun _ => rfl) ?_
    exact hv
  obtain ⟨n, hn⟩ := h3
  exact ⟨n, 1356, lsr, h', 144, 4760, hn, f_1356, by decide, by decide⟩

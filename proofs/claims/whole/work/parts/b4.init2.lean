/-! The constructors of the class -/
section IN2
variable (xs : List Int32) (d : Nat)
set_option maxRecDepth 100000 in
theorem in_fog : Ev1 xs (d + 1) 25 0 [some (.ref 59), none] [] ((([ic_o [.ref 1, .ref 19, .ref 37, .ref 38, .ref 39, .null, .null, .null, .null, .null, .null, .int 0]] ++ (bH 1 kd0 ++ (bH 19 kd0 ++ [.inr (100, [.null, .null]), .inl (1, [0, 0]), tpO 39 p00, .inl (2, List.replicate 160 0)]))) ++ bH 41 kd0) ++ [ic_F]) 0 0 (64, [some (.ref 59), some (.int 9)], [], (([ic_o [.ref 1, .ref 19, .ref 37, .ref 38, .ref 39, .null, .null, .null, .null, .null, .null, .int 0]] ++ (bH 1 kd0 ++ (bH 19 kd0 ++ [.inr (100, [.null, .null]), .inl (1, [0, 0]), tpO 39 p00, .inl (2, List.replicate 160 0)]))) ++ bH 41 kd0) ++ fgH 59 f00, 13, 123) := ⟨200, rfl⟩
set_option maxRecDepth 100000 in
theorem in_tape : Ev1 xs (d + 2) 42 0 [some (.ref 39)] [] ([ic_o [.ref 1, .ref 19, .ref 37, .ref 38, .null, .null, .null, .null, .null, .null, .null, .int 0]] ++ (bH 1 kd0 ++ (bH 19 kd0 ++ [.inr (100, [.null, .null]), .inl (1, [0, 0]), ic_T]))) 0 0 (24, [some (.ref 39)], [], ([ic_o [.ref 1, .ref 19, .ref 37, .ref 38, .null, .null, .null, .null, .null, .null, .null, .int 0]] ++ (bH 1 kd0 ++ (bH 19 kd0 ++ [.inr (100, [.null, .null]), .inl (1, [0, 0]), tpO 39 p00, .inl (2, List.replicate 160 0)]))) ++ bH 41 kd0, 19, 318) := by
  refine e1_go (pc' := 18) (ls' := [some (.ref 39)]) (st' := [.ref 41, .ref 41, .ref 39]) (h1 := ([ic_o [.ref 1, .ref 19, .ref 37, .ref 38, .null, .null, .null, .null, .null, .null, .null, .int 0]] ++ (bH 1 kd0 ++ (bH 19 kd0 ++ [.inr (100, [.null, .null]), .inl (1, [0, 0]), .inr (3, [.ref 40, .int 0, .null, .int 0, .int 0, .int 0, .int 0, .int 0, .int 0, .int 0, .int 0]), .inl (2, List.replicate 160 0)]))) ++ [ic_D]) (nc' := 2) (ns' := 179) 9 (fun _ => rfl) ?_
  refine e1_ini (y' := 0) rfl rfl rfl rfl (in_c41 xs d) rfl ?_
  exact e1_ret 3 rfl
set_option maxRecDepth 100000 in
theorem in_57 : Ev1 xs (d + 3) 57 0 [some (.ref 0), none] [] [ic_o [.null, .null, .null, .null, .null, .null, .null, .null, .null, .null, .null, .int 0]] 0 0 (154, [some (.ref 0), some (.int 4)], [], hCl kd0 kd0 kd0 kd0 kd0 p00 f00 r00 0, 127, 2560) := by
  refine e1_go (pc' := 9) (ls' := [some (.ref 0), none]) (st' := [.ref 1, .ref 1, .ref 0]) (h1 := [ic_o [.null, .null, .null, .null, .null, .null, .null, .null, .null, .null, .null, .int 0]] ++ [ic_D]) (nc' := 1) (ns' := 19) 5 (fun _ => rfl) ?_
  refine e1_ini (y' := 0) rfl rfl rfl rfl (in_c1 xs (d + 1)) rfl ?_
  refine e1_go (pc' := 20) (ls' := [some (.ref 0), none]) (st' := [.ref 19, .ref 19, .ref 0]) (h1 := ([ic_o [.ref 1, .null, .null, .null, .null, .null, .null, .null, .null, .null, .null, .int 0]] ++ bH 1 kd0) ++ [ic_D]) (nc' := 19) (ns' := 177) 4 (fun _ => rfl) ?_
  refine e1_ini (y' := 0) rfl rfl rfl rfl (in_c19 xs (d + 1)) rfl ?_
  refine e1_go (pc' := 46) (ls' := [some (.ref 0), none]) (st' := [.ref 39, .ref 39, .ref 0]) (h1 := [ic_o [.ref 1, .ref 19, .ref 37, .ref 38, .null, .null, .null, .null, .null, .null, .null, .int 0]] ++ (bH 1 kd0 ++ (bH 19 kd0 ++ [.inr (100, [.null, .null]), .inl (1, [0, 0]), ic_T]))) (nc' := 39) (ns' := 331) 12 (fun _ => rfl) ?_
  refine e1_ini (y' := 42) rfl rfl rfl rfl (in_tape xs d) rfl ?_
  refine e1_go (pc' := 57) (ls' := [some (.ref 0), none]) (st' := [.ref 59, .ref 59, .ref 0]) (h1 := (([ic_o [.ref 1, .ref 19, .ref 37, .ref 38, .ref 39, .null, .null, .null, .null, .null, .null, .int 0]] ++ (bH 1 kd0 ++ (bH 19 kd0 ++ [.inr (100, [.null, .null]), .inl (1, [0, 0]), tpO 39 p00, .inl (2, List.replicate 160 0)]))) ++ bH 41 kd0) ++ [ic_F]) (nc' := 59) (ns' := 658) 4 (fun _ => rfl) ?_
  refine e1_ini (y' := 25) rfl rfl rfl rfl (in_fog xs (d + 1)) rfl ?_
  refine e1_go (pc' := 124) (ls' := [some (.ref 0), some (.int 0)]) (st' := [.ref 92, .ref 92, .int 0, .ref 37]) (h1 := ([ic_o [.ref 1, .ref 19, .ref 37, .ref 38, .ref 39, .ref 59, .ref 73, .ref 84, .ref 85, .ref 90, .ref 91, .int 0]] ++ (bH 1 kd0 ++ (bH 19 kd0 ++ ([.inr (100, [.null, .null]), .inl (1, [0, 0]), tpO 39 p00, .inl (2, List.replicate 160 0)] ++ (bH 41 kd0 ++ (fgH 59 f00 ++ ic_B)))))) ++ [ic_D]) (nc' := 92) (ns' := 2263) 33 (fun _ => rfl) ?_
  refine e1_ini (y' := 0) rfl rfl rfl rfl (in_c92 xs (d + 1)) rfl ?_
  refine e1_go (pc' := 124) (ls' := [some (.ref 0), some (.int 1)]) (st' := [.ref 110, .ref 110, .int 1, .ref 37]) (h1 := ([ic_o [.ref 1, .ref 19, .ref 37, .ref 38, .ref 39, .ref 59, .ref 73, .ref 84, .ref 85, .ref 90, .ref 91, .int 0]] ++ (bH 1 kd0 ++ (bH 19 kd0 ++ ([.inr (100, [.ref 92, .null]), .inl (1, [0, 0]), tpO 39 p00, .inl (2, List.replicate 160 0)] ++ (bH 41 kd0 ++ (fgH 59 f00 ++ (ic_B ++ bH 92 kd0))))))) ++ [ic_D]) (nc' := 110) (ns' := 2421) 11 (fun _ => rfl) ?_
  refine e1_ini (y' := 0) rfl rfl rfl rfl (in_c110 xs (d + 1)) rfl ?_
  exact e1_ret 60 rfl
end IN2

/-! What the constructors make -/
def ic_D : MC := .inr (0, [.int 0, .int 0, .int 0, .int 0, .null, .null, .null, .int 0, .null, .int 0, .null, .null, .null, .null, .null, .null, .null, .int 0, .int 0])
def ic_o (fs : List Value) : MC := .inr (4, fs)
def ic_T : MC := .inr (3, [.null, .int 0, .null, .int 0, .int 0, .int 0, .int 0, .int 0, .int 0, .int 0, .int 0])
def ic_F : MC := .inr (1, [.null, .null, .null, .null, .int 0, .int 0, .int 0, .int 0, .int 0])
def f00 : FP := ((0, 0, 0, 0, 0), (List.replicate 8 0, List.replicate 8 0, List.replicate 8 0), [zT10, zT10, zT10, zT10, zT10, zT10, zT10, zT10, zT10])
def r00 : RS := ((false, false), List.replicate 160 0, fun _ => List.replicate 126 0, List.replicate 21 0, fun _ => List.replicate 40 0, List.replicate 4 0, [-1, -1, -1, -1])
def p00 : TP := (0, false, false, 0, 0, 0, 0, 0, 0)
section IN
variable (xs : List Int32) (d : Nat)
def ic_B : MH := clB ((false, false), List.replicate 160 0, fun _ => List.replicate 126 0, List.replicate 21 0, fun _ => List.replicate 40 0, List.replicate 4 0, List.replicate 4 0)
set_option maxRecDepth 100000 in
theorem in_c1 : Ev1 xs (d + 1) 0 0 [some (.ref 1), none] [] ([ic_o [.null, .null, .null, .null, .null, .null, .null, .null, .null, .null, .null, .int 0]] ++ [ic_D]) 0 0 (126, [some (.ref 1), some (.int 6)], [], [ic_o [.null, .null, .null, .null, .null, .null, .null, .null, .null, .null, .null, .int 0]] ++ bH 1 kd0, 17, 139) := ⟨160, rfl⟩
set_option maxRecDepth 100000 in
theorem in_c19 : Ev1 xs (d + 1) 0 0 [some (.ref 19), none] [] (([ic_o [.ref 1, .null, .null, .null, .null, .null, .null, .null, .null, .null, .null, .int 0]] ++ bH 1 kd0) ++ [ic_D]) 0 0 (126, [some (.ref 19), some (.int 6)], [], ([ic_o [.ref 1, .null, .null, .null, .null, .null, .null, .null, .null, .null, .null, .int 0]] ++ bH 1 kd0) ++ bH 19 kd0, 17, 139) := ⟨160, rfl⟩
set_option maxRecDepth 100000 in
theorem in_c41 : Ev1 xs (d + 1) 0 0 [some (.ref 41), none] [] (([ic_o [.ref 1, .ref 19, .ref 37, .ref 38, .null, .null, .null, .null, .null, .null, .null, .int 0]] ++ (bH 1 kd0 ++ (bH 19 kd0 ++ [.inr (100, [.null, .null]), .inl (1, [0, 0]), .inr (3, [.ref 40, .int 0, .null, .int 0, .int 0, .int 0, .int 0, .int 0, .int 0, .int 0, .int 0]), .inl (2, List.replicate 160 0)]))) ++ [ic_D]) 0 0 (126, [some (.ref 41), some (.int 6)], [], ([ic_o [.ref 1, .ref 19, .ref 37, .ref 38, .null, .null, .null, .null, .null, .null, .null, .int 0]] ++ (bH 1 kd0 ++ (bH 19 kd0 ++ [.inr (100, [.null, .null]), .inl (1, [0, 0]), .inr (3, [.ref 40, .int 0, .null, .int 0, .int 0, .int 0, .int 0, .int 0, .int 0, .int 0, .int 0]), .inl (2, List.replicate 160 0)]))) ++ bH 41 kd0, 17, 139) := ⟨160, rfl⟩
set_option maxRecDepth 100000 in
theorem in_c92 : Ev1 xs (d + 1) 0 0 [some (.ref 92), none] [] (([ic_o [.ref 1, .ref 19, .ref 37, .ref 38, .ref 39, .ref 59, .ref 73, .ref 84, .ref 85, .ref 90, .ref 91, .int 0]] ++ (bH 1 kd0 ++ (bH 19 kd0 ++ ([.inr (100, [.null, .null]), .inl (1, [0, 0]), tpO 39 p00, .inl (2, List.replicate 160 0)] ++ (bH 41 kd0 ++ (fgH 59 f00 ++ ic_B)))))) ++ [ic_D]) 0 0 (126, [some (.ref 92), some (.int 6)], [], ([ic_o [.ref 1, .ref 19, .ref 37, .ref 38, .ref 39, .ref 59, .ref 73, .ref 84, .ref 85, .ref 90, .ref 91, .int 0]] ++ (bH 1 kd0 ++ (bH 19 kd0 ++ ([.inr (100, [.null, .null]), .inl (1, [0, 0]), tpO 39 p00, .inl (2, List.replicate 160 0)] ++ (bH 41 kd0 ++ (fgH 59 f00 ++ ic_B)))))) ++ bH 92 kd0, 17, 139) := ⟨160, rfl⟩
set_option maxRecDepth 100000 in
theorem in_c110 : Ev1 xs (d + 1) 0 0 [some (.ref 110), none] [] (([ic_o [.ref 1, .ref 19, .ref 37, .ref 38, .ref 39, .ref 59, .ref 73, .ref 84, .ref 85, .ref 90, .ref 91, .int 0]] ++ (bH 1 kd0 ++ (bH 19 kd0 ++ ([.inr (100, [.ref 92, .null]), .inl (1, [0, 0]), tpO 39 p00, .inl (2, List.replicate 160 0)] ++ (bH 41 kd0 ++ (fgH 59 f00 ++ (ic_B ++ bH 92 kd0))))))) ++ [ic_D]) 0 0 (126, [some (.ref 110), some (.int 6)], [], ([ic_o [.ref 1, .ref 19, .ref 37, .ref 38, .ref 39, .ref 59, .ref 73, .ref 84, .ref 85, .ref 90, .ref 91, .int 0]] ++ (bH 1 kd0 ++ (bH 19 kd0 ++ ([.inr (100, [.ref 92, .null]), .inl (1, [0, 0]), tpO 39 p00, .inl (2, List.replicate 160 0)] ++ (bH 41 kd0 ++ (fgH 59 f00 ++ (ic_B ++ bH 92 kd0))))))) ++ bH 110 kd0, 17, 139) := ⟨160, rfl⟩
end IN

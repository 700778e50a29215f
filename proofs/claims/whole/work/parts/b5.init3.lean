/-! The reference's constructor -/
def h0c : MH := hCl kd0 kd0 kd0 kd0 kd0 p00 f00 r00 0
def im_D : MC := .inr (5, [.null, .null, .null, .null, .int 0, .int 0, .int 0, .null, .int 0, .int 0, .int 0, .int 0, .int 0, .int 0, .int 0, .int 0, .int 0, .int 0, .int 0, .null, .null, .null, .null, .int 0, .int 0, .long 0, .long 0, .long 0, .null, .null, .null, .null, .null, .int 0, .null])
/-- the reference's numbers as they are made: its draft, its highest, what it keeps -/
def z00 (hi : Int32) (st dr : List Int32) : ZT := ((false, false, hi, 0, 0, 0, 0, 0, 0, 0), (0, 0), 0, (0, 0, 0), st, [0, 0], dr, List.replicate 160 0, List.replicate 126 0, List.replicate 1134 0, [-4, -4, -4, -4], List.replicate 4 0, List.replicate 160 0, List.replicate 87 0)
def mX (hi : Int32) (st dr : List Int32) : MH := mH (z00 hi st dr) (List.replicate 87 0) (List.replicate 6 0) (List.replicate 5 0) (List.replicate 25 0) (List.replicate 5 0) (0, 0, 0, 0)
def hX (hi : Int32) (st dr : List Int32) : MH := h0c ++ shH 128 (mX hi st dr)
abbrev n0L (n : Nat) : List Int32 := List.replicate n 0
section IN3
variable (xs : List Int32) (d : Nat)
set_option maxRecDepth 100000 in
theorem hX_dr (hi : Int32) (st dr : List Int32) : (hX hi st dr)[132]? = some (.inl (0, dr)) := rfl
set_option maxRecDepth 100000 in
theorem hX_st (hi : Int32) (st dr : List Int32) : (hX hi st dr)[129]? = some (.inl (0, st)) := rfl
set_option maxRecDepth 100000 in
theorem hX_kp (hi : Int32) (st dr : List Int32) : (hX hi st dr)[131]? = some (.inl (1, [0, 0])) := rfl
set_option maxRecDepth 100000 in
theorem hX_sdr (hi : Int32) (st dr dr' : List Int32) : (hX hi st dr).set 132 (.inl (0, dr')) = hX hi st dr' := rfl
set_option maxRecDepth 100000 in
theorem hX_sst (hi : Int32) (st dr st' : List Int32) : (hX hi st dr).set 129 (.inl (0, st')) = hX hi st' dr := rfl
set_option maxRecDepth 100000 in
theorem hX_skp (hi : Int32) (st dr : List Int32) : (hX hi st dr).set 131 (.inl (1, [0, 0])) = hX hi st dr := rfl
set_option maxRecDepth 100000 in
theorem lp_fdX (R : MH) (kk : ∀ zz, Ev xs d 113 21 [some (.ref 128), zz] [] (hX 0 (n0L 261) (n0L 87)) none R) : ∀ m t, t + m = 87 → Ev xs d 113 2 [some (.ref 128), some (.int (nI t))] [] (hX 0 (n0L 261) (n0L 87)) none R := by
  intro m
  induction m with
  | zero =>
    intro t ht
    have e : t = 87 := by omega
    subst e
    refine ev_go 3 (fun _ => rfl) (kk _)
  | succ m ih =>
    intro t ht
    refine ev_go 2 (fun _ => rfl) ?_
    refine ev_ic_ge rfl rfl (fun n => absurd n (nI_ge (a := t) (b := 87) (by omega) (by omega))) (fun _ => ?_)
    refine ev_go 4 (ls' := [some (.ref 128), some (.int (nI t))]) (st' := [.int 0, .int (nI t), .ref 132]) (h1 := hX 0 (n0L 261) (n0L 87)) (fun _ => rfl) ?_
    refine ev_iastE rfl (L := n0L 87) (h2 := hX 0 (n0L 261) (n0L 87)) (hX_dr 0 _ _) (mm_ix_nI (n := t) (by omega)) (by rw [List.length_replicate]; omega) (by rw [List.set_replicate_self]; exact hX_sdr 0 _ _ _) ?_
    refine ev_go 2 (ls' := [some (.ref 128), some (.int (nI t + Int32.ofInt 1))]) (st' := []) (h1 := hX 0 (n0L 261) (n0L 87)) (fun _ => rfl) ?_
    rw [nI_inc]
    exact ih (t + 1) (by omega)
set_option maxRecDepth 100000 in
theorem sp_fdX : Ev xs d 113 0 [some (.ref 128), none] [] (hX 0 (n0L 261) (n0L 87)) none (hX (-1) (n0L 261) (flK kd0)) := by
  refine ev_go 2 (ls' := [some (.ref 128), some (.int (nI 0))]) (st' := []) (h1 := hX 0 (n0L 261) (n0L 87)) (fun _ => rfl) ?_
  refine lp_fdX xs d _ (fun zz => ?_) 87 0 (by omega)
  rw [← kd0_fl]
  refine ev_go 4 (ls' := [some (.ref 128), zz]) (st' := [.int 10, .int 0, .ref 132]) (h1 := hX 0 (n0L 261) (n0L 87)) (fun _ => rfl) ?_
  refine ev_iastE rfl (L := n0L 87) (h2 := hX 0 (n0L 261) ((n0L 87).set 0 10)) (hX_dr 0 _ _) (k := 0) rfl (by decide) (hX_sdr 0 _ _ _) ?_
  refine ev_go 4 (ls' := [some (.ref 128), zz]) (st' := [.int 40, .int 1, .ref 132]) (h1 := hX 0 (n0L 261) ((n0L 87).set 0 10)) (fun _ => rfl) ?_
  refine ev_iastE rfl (L := (n0L 87).set 0 10) (h2 := hX 0 (n0L 261) (((n0L 87).set 0 10).set 1 40)) (hX_dr 0 _ _) (k := 1) rfl (by rw [List.length_set]; decide) (hX_sdr 0 _ _ _) ?_
  exact ev_end 10 rfl
set_option maxRecDepth 100000 in
theorem lp_kdX (R : MH) (kk : ∀ zz, Ev xs d 114 68 [some (.ref 128), zz] [] (hX (-1) (flK kd0 ++ n0L 174) (flK kd0)) none R) : ∀ m t, t + m = 87 → Ev xs d 114 44 [some (.ref 128), some (.int (nI t))] [] (hX (-1) (up (fun j => (flK kd0).getD j 0) t (n0L 261)) (flK kd0)) none R := by
  intro m
  induction m with
  | zero =>
    intro t ht
    have e : t = 87 := by omega
    subst e
    have e2 : n0L 261 = n0L 87 ++ n0L 174 := by decide +kernel
    rw [e2, up_ap (List.length_replicate ..), rg_get (flK_len kd0)]
    refine ev_go 3 (fun _ => rfl) (kk _)
  | succ m ih =>
    intro t ht
    have e1 : t < (flK kd0).length := by rw [flK_len]; omega
    have e2 : t < (n0L 261).length := by rw [List.length_replicate]; omega
    refine ev_go 2 (fun _ => rfl) ?_
    refine ev_ic_ge rfl rfl (fun n => absurd n (nI_ge (a := t) (b := 87) (by omega) (by omega))) (fun _ => ?_)
    refine ev_go 6 (ls' := [some (.ref 128), some (.int (nI t))]) (st' := [.int (nI t), .ref 132, .int (nI t), .ref 129]) (h1 := hX (-1) (up (fun j => (flK kd0).getD j 0) t (n0L 261)) (flK kd0)) (fun _ => rfl) ?_
    refine ev_iald rfl (L := flK kd0) (hX_dr (-1) _ _) (mm_ix_nI (n := t) (by omega)) (getD_at e1) ?_
    refine ev_iastE rfl (L := up (fun j => (flK kd0).getD j 0) t (n0L 261)) (h2 := hX (-1) (up (fun j => (flK kd0).getD j 0) (t + 1) (n0L 261)) (flK kd0)) (hX_st (-1) _ _) (mm_ix_nI (n := t) (by omega)) (by rw [up_len (by omega)]; exact e2) (by rw [← up_s (g := fun j => (flK kd0).getD j 0) (l := n0L 261) (t := t) e2]; exact hX_sst (-1) _ _ _) ?_
    refine ev_go 2 (ls' := [some (.ref 128), some (.int (nI t + Int32.ofInt 1))]) (st' := []) (h1 := hX (-1) (up (fun j => (flK kd0).getD j 0) (t + 1) (n0L 261)) (flK kd0)) (fun _ => rfl) ?_
    rw [nI_inc]
    exact ih (t + 1) (by omega)
set_option maxRecDepth 100000 in
theorem sp_kdX : Ev xs d 114 0 [some (.ref 128), none] [] (hX (-1) (n0L 261) (flK kd0)) none (hX (-1) (flK kd0 ++ n0L 174) (flK kd0)) := by
  refine ev_go 6 (ls' := [some (.ref 128), some (.int 0)]) (st' := [.int 18, .ref 132, .int 0]) (h1 := hX (-1) (n0L 261) (flK kd0)) (fun _ => rfl) ?_
  refine ev_iald rfl (L := flK kd0) (hX_dr (-1) _ _) (k := 18) rfl fq_18 ?_
  refine ev_ic_ge rfl rfl (fun _ => ?_) (fun n => absurd (by decide) n)
  refine ev_go 2 (ls' := [some (.ref 128), some (.int (nI 0))]) (st' := []) (h1 := hX (-1) (n0L 261) (flK kd0)) (fun _ => rfl) ?_
  refine lp_kdX xs d _ (fun zz => ?_) 87 0 (by omega)
  refine ev_go 4 (ls' := [some (.ref 128), zz]) (st' := [.int (bI false), .int 0, .ref 131]) (h1 := hX (-1) (flK kd0 ++ n0L 174) (flK kd0)) (fun _ => rfl) ?_
  refine ev_zast (L := [0, 0]) (b := false) (k := 0) rfl (hX_kp (-1) _ _) rfl (Nat.le_of_ble_eq_true rfl) ?_
  rw [show ([0, 0] : List Int32).set 0 (bI false) = [0, 0] from rfl, hX_skp]
  refine ev_go 4 (ls' := [some (.ref 128), zz]) (st' := [.int (bI false), .int 1, .ref 131]) (h1 := hX (-1) (flK kd0 ++ n0L 174) (flK kd0)) (fun _ => rfl) ?_
  refine ev_zast (L := [0, 0]) (b := false) (k := 1) rfl (hX_kp (-1) _ _) rfl (Nat.le_of_ble_eq_true rfl) ?_
  rw [show ([0, 0] : List Int32).set 1 (bI false) = [0, 0] from rfl, hX_skp]
  exact ev_end 1 rfl
set_option maxRecDepth 100000 in
theorem in_109 : Ev1 xs (d + 1) 109 0 [some (.ref 128), none] [] (h0c ++ [im_D]) 0 0 (152, [some (.ref 128), some (.int 4)], [], hX (-1) (flK kd0 ++ n0L 174) (flK kd0), 15, 2153) := by
  refine e1_go (pc' := 145) (ls' := [some (.ref 128), some (.int 4)]) (st' := [.ref 128]) (h1 := hX 0 (n0L 261) (n0L 87)) (nc' := 15) (ns' := 2153) 108 (fun _ => rfl) ?_
  refine e1_call (y' := 113) rfl rfl rfl (sp_fdX xs d) ?_
  refine e1_go (pc' := 149) (ls' := [some (.ref 128), some (.int 4)]) (st' := [.ref 128]) (h1 := hX (-1) (n0L 261) (flK kd0)) (nc' := 15) (ns' := 2153) 1 (fun _ => rfl) ?_
  refine e1_call (y' := 114) rfl rfl rfl (sp_kdX xs d) ?_
  exact e1_ret 1 rfl
end IN3

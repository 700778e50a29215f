/-! keep, back, count, sheet, lay -/
section CLS11
variable (xs : List Int32) (d : Nat) (now trial told im0 im1 : CK) (p : TP) (f : FP) (r : RS) (tr : Int32)
theorem at_kept : (hCl now trial told im0 im1 p f r tr)[38]? = some (.inl (1, [bI r.1.1, bI r.1.2])) := rfl
theorem set_kept (a b : Bool) : (hCl now trial told im0 im1 p f r tr).set 38 (.inl (1, [bI a, bI b])) = hCl now trial told im0 im1 p f ((a, b), r.2) tr := by
  unfold hCl
  rw [List.set_append_right _ _ (by show 1 ≤ 38; decide), List.set_append_right _ _ (by show 18 ≤ 37; decide), List.set_append_right _ _ (by show 18 ≤ 19; decide)]
  rfl
theorem sp_keep_bad (k : Int32) (c : wiI k 0 1 = false) : Ev xs (d + 1) 88 0 [some (.ref 0), some (.int k), none] [] (hCl now trial told im0 im1 p f r tr) (some (.int (-1))) (hCl now trial told im0 im1 p f r tr) := by
  refine ev_go 3 (fun _ => rfl) ?_
  refine ev_call (y' := 95) rfl rfl rfl rfl (sp_within xs d _ k 0 1) ?_
  rw [c]
  exact ev_end 3 rfl
theorem sp_keep0 (B TN S : Nat) (hn : CN now B TN S) (hi : CL im0) : Ev xs (d + 2) 88 0 [some (.ref 0), some (.int 0), none] [] (hCl now trial told im0 im1 p f r tr) (some (.int (bI r.1.1))) (hCl now trial told (cpK im0 now B TN S) im1 p f ((true, r.1.2), r.2) tr) := by
  obtain ⟨hcl, e1, e2, e3, hB, hTN, hS⟩ := hn
  have x1 : exK now = now := exK_eq (CL6 hcl)
  have x2 : exK im0 = im0 := exK_eq (CL6 hi)
  have hc := CL_cp (L := now) hB hTN hS hi
  have x3 : cpK (exK im0) (exK now) B TN S = exK (cpK im0 now B TN S) := by rw [x1, x2, exK_eq (CL6 hc)]
  obtain ⟨⟨k0, k1⟩, r2⟩ := r
  refine ev_go 3 (fun _ => rfl) ?_
  refine ev_call (y' := 95) rfl rfl rfl rfl (sp_within xs _ _ 0 0 1) ?_
  have key : Ev xs (d + 2) 88 25 [some (.ref 0), some (.int 0), none] [.int (bI k0)] (hCl now trial told im0 im1 p f ((k0, k1), r2) tr) (some (.int (bI k0))) (hCl now trial told (cpK im0 now B TN S) im1 p f ((true, k1), r2) tr) := by
    refine ev_go 7 (st' := [.ref 1, .ref 92]) (fun _ => rfl) ?_
    refine ev_callCC (n := 92) (m := 1) (K := exK im0) (L := exK now) B TN S rfl rfl rfl rfl (has_im0 now trial told im0 im1 p f _ tr) (has_now now trial told im0 im1 p f _ tr) rfl hB hTN hS (by rw [x2]; exact hi) (by rw [x1]; exact hcl) e1 e2 e3 ?_
    rw [x3, put_im0_now]
    refine ev_go 4 (fun _ => rfl) ?_
    refine ev_zast (b := true) rfl (at_kept now trial told _ im1 p f _ tr) rfl (by show 0 < 2; decide) ?_
    show Ev xs (d + 2) 88 46 _ _ ((hCl now trial told (cpK im0 now B TN S) im1 p f ((k0, k1), r2) tr).set 38 (.inl (1, [bI true, bI k1]))) _ _
    rw [set_kept]
    exact ev_end 2 rfl
  cases k0 with
  | true => exact ev_go 8 (fun _ => rfl) key
  | false => exact ev_go 7 (fun _ => rfl) key
theorem sp_keep1 (B TN S : Nat) (hn : CN now B TN S) (hi : CL im1) : Ev xs (d + 2) 88 0 [some (.ref 0), some (.int 1), none] [] (hCl now trial told im0 im1 p f r tr) (some (.int (bI r.1.2))) (hCl now trial told im0 (cpK im1 now B TN S) p f ((r.1.1, true), r.2) tr) := by
  obtain ⟨hcl, e1, e2, e3, hB, hTN, hS⟩ := hn
  have x1 : exK now = now := exK_eq (CL6 hcl)
  have x2 : exK im1 = im1 := exK_eq (CL6 hi)
  have hc := CL_cp (L := now) hB hTN hS hi
  have x3 : cpK (exK im1) (exK now) B TN S = exK (cpK im1 now B TN S) := by rw [x1, x2, exK_eq (CL6 hc)]
  obtain ⟨⟨k0, k1⟩, r2⟩ := r
  refine ev_go 3 (fun _ => rfl) ?_
  refine ev_call (y' := 95) rfl rfl rfl rfl (sp_within xs _ _ 1 0 1) ?_
  have key : Ev xs (d + 2) 88 25 [some (.ref 0), some (.int 1), none] [.int (bI k1)] (hCl now trial told im0 im1 p f ((k0, k1), r2) tr) (some (.int (bI k1))) (hCl now trial told im0 (cpK im1 now B TN S) p f ((k0, true), r2) tr) := by
    refine ev_go 7 (st' := [.ref 1, .ref 110]) (fun _ => rfl) ?_
    refine ev_callCC (n := 110) (m := 1) (K := exK im1) (L := exK now) B TN S rfl rfl rfl rfl (has_im1 now trial told im0 im1 p f _ tr) (has_now now trial told im0 im1 p f _ tr) rfl hB hTN hS (by rw [x2]; exact hi) (by rw [x1]; exact hcl) e1 e2 e3 ?_
    rw [x3, put_im1_now]
    refine ev_go 4 (fun _ => rfl) ?_
    refine ev_zast (b := true) rfl (at_kept now trial told im0 _ p f _ tr) (k := 1) rfl (by show 1 < 2; decide) ?_
    show Ev xs (d + 2) 88 46 _ _ ((hCl now trial told im0 (cpK im1 now B TN S) p f ((k0, k1), r2) tr).set 38 (.inl (1, [bI k0, bI true]))) _ _
    rw [set_kept]
    exact ev_end 2 rfl
  cases k1 with
  | true => exact ev_go 8 (fun _ => rfl) key
  | false => exact ev_go 7 (fun _ => rfl) key
theorem sp_back_bad (k : Int32) (c : wiI k 0 1 = false) : Ev xs (d + 1) 89 0 [some (.ref 0), some (.int k)] [] (hCl now trial told im0 im1 p f r tr) (some (.int (-1))) (hCl now trial told im0 im1 p f r tr) := by
  refine ev_go 3 (fun _ => rfl) ?_
  refine ev_call (y' := 95) rfl rfl rfl rfl (sp_within xs d _ k 0 1) ?_
  rw [c]
  exact ev_end 3 rfl
theorem sp_back0_no (c : r.1.1 = false) : Ev xs (d + 1) 89 0 [some (.ref 0), some (.int 0)] [] (hCl now trial told im0 im1 p f r tr) (some (.int (-2))) (hCl now trial told im0 im1 p f r tr) := by
  obtain ⟨⟨k0, k1⟩, r2⟩ := r
  dsimp only at c
  subst c
  refine ev_go 3 (fun _ => rfl) ?_
  refine ev_call (y' := 95) rfl rfl rfl rfl (sp_within xs _ _ 0 0 1) ?_
  exact ev_end 8 rfl
theorem sp_back1_no (c : r.1.2 = false) : Ev xs (d + 1) 89 0 [some (.ref 0), some (.int 1)] [] (hCl now trial told im0 im1 p f r tr) (some (.int (-2))) (hCl now trial told im0 im1 p f r tr) := by
  obtain ⟨⟨k0, k1⟩, r2⟩ := r
  dsimp only at c
  subst c
  refine ev_go 3 (fun _ => rfl) ?_
  refine ev_call (y' := 95) rfl rfl rfl rfl (sp_within xs _ _ 1 0 1) ?_
  exact ev_end 8 rfl
theorem sp_back0 (B TN S : Nat) (c : r.1.1 = true) (hn : CN im0 B TN S) (hi : CL now) : Ev xs (d + 2) 89 0 [some (.ref 0), some (.int 0)] [] (hCl now trial told im0 im1 p f r tr) (some (.int im0.1.2.2.1)) (hCl (cpK now im0 B TN S) trial told im0 im1 p f r tr) := by
  obtain ⟨hcl, e1, e2, e3, hB, hTN, hS⟩ := hn
  have x1 : exK im0 = im0 := exK_eq (CL6 hcl)
  have x2 : exK now = now := exK_eq (CL6 hi)
  have hc := CL_cp (L := im0) hB hTN hS hi
  have x3 : cpK (exK now) (exK im0) B TN S = exK (cpK now im0 B TN S) := by rw [x1, x2, exK_eq (CL6 hc)]
  obtain ⟨⟨k0, k1⟩, r2⟩ := r
  dsimp only at c
  subst c
  refine ev_go 3 (fun _ => rfl) ?_
  refine ev_call (y' := 95) rfl rfl rfl rfl (sp_within xs _ _ 0 0 1) ?_
  refine ev_go 12 (st' := [.ref 92, .ref 1]) (fun _ => rfl) ?_
  refine ev_callCC (n := 1) (m := 92) (K := exK now) (L := exK im0) B TN S rfl rfl rfl rfl (has_now now trial told im0 im1 p f _ tr) (has_im0 now trial told im0 im1 p f _ tr) rfl hB hTN hS (by rw [x2]; exact hi) (by rw [x1]; exact hcl) e1 e2 e3 ?_
  rw [x3, put_now_im0]
  exact ev_end 4 rfl
theorem sp_back1 (B TN S : Nat) (c : r.1.2 = true) (hn : CN im1 B TN S) (hi : CL now) : Ev xs (d + 2) 89 0 [some (.ref 0), some (.int 1)] [] (hCl now trial told im0 im1 p f r tr) (some (.int im1.1.2.2.1)) (hCl (cpK now im1 B TN S) trial told im0 im1 p f r tr) := by
  obtain ⟨hcl, e1, e2, e3, hB, hTN, hS⟩ := hn
  have x1 : exK im1 = im1 := exK_eq (CL6 hcl)
  have x2 : exK now = now := exK_eq (CL6 hi)
  have hc := CL_cp (L := im1) hB hTN hS hi
  have x3 : cpK (exK now) (exK im1) B TN S = exK (cpK now im1 B TN S) := by rw [x1, x2, exK_eq (CL6 hc)]
  obtain ⟨⟨k0, k1⟩, r2⟩ := r
  dsimp only at c
  subst c
  refine ev_go 3 (fun _ => rfl) ?_
  refine ev_call (y' := 95) rfl rfl rfl rfl (sp_within xs _ _ 1 0 1) ?_
  refine ev_go 12 (st' := [.ref 110, .ref 1]) (fun _ => rfl) ?_
  refine ev_callCC (n := 1) (m := 110) (K := exK now) (L := exK im1) B TN S rfl rfl rfl rfl (has_now now trial told im0 im1 p f _ tr) (has_im1 now trial told im0 im1 p f _ tr) rfl hB hTN hS (by rw [x2]; exact hi) (by rw [x1]; exact hcl) e1 e2 e3 ?_
  rw [x3, put_now_im1]
  exact ev_end 4 rfl
/-- count -/
theorem sp_pacesC (K : CK) (B TN S : Nat) (h : CN K B TN S) : Ev xs d 24 0 [some (.ref 0), none, none] [] (bH 0 K) (some (.int (smI (K.2.1.2.2.1.take B)))) (bH 0 K) := by
  obtain ⟨⟨l1, l2, l3, l4, l5, l6, l7, l8⟩, ⟨r1, r2, r3, r4, r5, r6, r7, r8, r9, r10⟩, rw2⟩ := K
  obtain ⟨hcl, e1, e2, e3, hB, hTN, hS⟩ := h
  dsimp only at e1
  subst e1
  exact sp_paces xs d l1 l2 l3 l5 l6 l7 l8 r1 r2 r3 r4 r5 r6 r7 r8 r9 r10 rw2 B hB hcl.2.2.1
theorem sp_count_bad (w : Int32) (c : wiI w 0 5 = false) : Ev xs d 94 0 [some (.ref 0), some (.int w)] [] (hCl now trial told im0 im1 p f r tr) (some (.int (-1))) (hCl now trial told im0 im1 p f r tr) := by
  refine ev_go 1 (fun _ => rfl) ?_
  refine ev_ts_d (t := 125) rfl rfl (wi_no (M := 5) (by decide) c) ?_
  exact ev_end 2 rfl
def countA (now : CK) (p : TP) (r : RS) (B TN k : Nat) : Int32 := match k with
  | 0 => now.1.2.2.2.2.2.1
  | 1 => bI r.1.1 + bI r.1.2
  | 2 => p.1
  | 3 => if r.2.2.2.2.2.2.getD 0 0 = -1 then -4 else r.2.2.2.2.2.2.getD 0 0
  | 4 => smI (now.2.1.2.2.1.take B)
  | _ => smT 2 (now.2.2.take TN)
theorem at_sizes : (hCl now trial told im0 im1 p f r tr)[91]? = some (.inl (0, r.2.2.2.2.2.2)) := rfl
theorem at_lanes : (hCl now trial told im0 im1 p f r tr)[90]? = some (.inl (0, r.2.2.2.2.2.1)) := rfl
theorem sp_count (B TN S k : Nat) (hn : CN now B TN S) (hk : k ≤ 5) (hs : r.2.2.2.2.2.2.length = 4) : Ev xs (d + 3) 94 0 [some (.ref 0), some (.int (nI k))] [] (hCl now trial told im0 im1 p f r tr) (some (.int (countA now p r B TN k))) (hCl now trial told im0 im1 p f r tr) := by
  match k, hk with
  | 0, _ => exact ev_end 6 rfl
  | 1, _ =>
    obtain ⟨⟨k0, k1⟩, r2⟩ := r
    cases k0 with
    | true =>
      cases k1 with
      | true => exact ev_end 18 rfl
      | false => exact ev_end 17 rfl
    | false =>
      cases k1 with
      | true => exact ev_end 17 rfl
      | false => exact ev_end 16 rfl
  | 2, _ => exact ev_end 6 rfl
  | 3, _ =>
    show Ev _ _ _ _ _ _ _ (some (.int (if r.2.2.2.2.2.2.getD 0 0 = -1 then -4 else r.2.2.2.2.2.2.getD 0 0))) _
    refine ev_go 5 (fun _ => rfl) ?_
    refine ev_iald rfl (at_sizes now trial told im0 im1 p f r tr) rfl (getD_at (k := 0) (by show 0 < r.2.2.2.2.2.2.length; omega)) ?_
    refine ev_go 1 (fun _ => rfl) ?_
    split
    · rename_i c
      refine ev_ic_ne rfl rfl (fun n => absurd n (fun n => n c)) (fun _ => ?_)
      exact ev_end 3 rfl
    · rename_i c
      refine ev_ic_ne rfl rfl (fun _ => ?_) (fun n => absurd (c) n)
      refine ev_go 3 (fun _ => rfl) ?_
      refine ev_iald rfl (at_sizes now trial told im0 im1 p f r tr) rfl (getD_at (k := 0) (by show 0 < r.2.2.2.2.2.2.length; omega)) ?_
      exact ev_end 1 rfl
  | 4, _ =>
    refine ev_go 4 (fun _ => rfl) ?_
    refine ev_cNow (y' := 24) (As := []) (K' := now) rfl rfl rfl rfl rfl nil_i (CL6 hn.1) (CL6 hn.1) (sp_pacesC xs _ now B TN S hn) (Or.inr ⟨_, rfl⟩) ?_
    exact ev_end 1 rfl
  | 5, _ =>
    refine ev_go 5 (fun _ => rfl) ?_
    refine ev_cNow (y' := 23) (As := [.int (nI 2)]) (K' := now) rfl rfl rfl rfl rfl one_i (CL6 hn.1) (CL6 hn.1) (sp_sumC xs _ now B TN S 2 hn (by decide)) (Or.inr ⟨_, rfl⟩) ?_
    exact ev_end 1 rfl
  | n + 6, h => exact absurd h (by omega)
/-- the sheets' cells -/
def upF (g : Nat → List Int32) (k : Nat) (l : List Int32) : Nat → List Int32 := fun j => match Nat.beq j k with
  | true => l
  | false => g j
theorem at_cell (k : Nat) (hk : k < 4) : (hCl now trial told im0 im1 p f r tr)[86 + k]? = some (.inl (0, r.2.2.2.2.1 k)) := by
  match k, hk with
  | 0, _ => rfl
  | 1, _ => rfl
  | 2, _ => rfl
  | 3, _ => rfl
theorem cells_at (k : Nat) (hk : k < 4) : ([.ref 86, .ref 87, .ref 88, .ref 89] : List Value)[k]? = some (.ref (86 + k)) := by
  match k, hk with
  | 0, _ => rfl
  | 1, _ => rfl
  | 2, _ => rfl
  | 3, _ => rfl
def setC (r : RS) (k : Nat) (l : List Int32) : RS := (r.1, r.2.1, r.2.2.1, r.2.2.2.1, upF r.2.2.2.2.1 k l, r.2.2.2.2.2)
theorem set_B {j : Nat} {x : MC} (hj : j < 19) (r' : RS) (he : (clB r).set j x = clB r') (h1 : r'.1 = r.1) (h2 : r'.2.1 = r.2.1) : (hCl now trial told im0 im1 p f r tr).set (73 + j) x = hCl now trial told im0 im1 p f r' tr := by
  have ea : clA p r' = clA p r := by unfold clA; rw [h1, h2]
  unfold hCl
  rw [ea, ← he, List.set_append_right _ _ (by show 1 ≤ 73 + j; omega), List.set_append_right _ _ (by show 18 ≤ 73 + j - 1; omega), List.set_append_right _ _ (by show 18 ≤ 73 + j - 1 - 18; omega), List.set_append_right _ _ (by show 4 ≤ 73 + j - 1 - 18 - 18; omega), List.set_append_right _ _ (by show 18 ≤ 73 + j - 1 - 18 - 18 - 4; omega), List.set_append_right _ _ (by show 14 ≤ 73 + j - 1 - 18 - 18 - 4 - 18; omega), List.set_append_left _ _ (by show 73 + j - 1 - 18 - 18 - 4 - 18 - 14 < 19; omega)]
  have e : 73 + j - 1 - 18 - 18 - 4 - 18 - 14 = j := by omega
  show _ ++ (_ ++ (_ ++ (_ ++ (_ ++ (_ ++ ((clB r).set (73 + j - 1 - 18 - 18 - 4 - 18 - 14) x ++ _)))))) = _
  rw [e]
theorem set_cell (k : Nat) (hk : k < 4) (l : List Int32) : (hCl now trial told im0 im1 p f r tr).set (86 + k) (.inl (0, l)) = hCl now trial told im0 im1 p f (setC r k l) tr := by
  have e : 86 + k = 73 + (13 + k) := by omega
  rw [e]
  refine set_B now trial told im0 im1 p f r tr (by omega) (setC r k l) ?_ rfl rfl
  match k, hk with
  | 0, _ => rfl
  | 1, _ => rfl
  | 2, _ => rfl
  | 3, _ => rfl
theorem set_lanes (l : List Int32) : (hCl now trial told im0 im1 p f r tr).set 90 (.inl (0, l)) = hCl now trial told im0 im1 p f (r.1, r.2.1, r.2.2.1, r.2.2.2.1, r.2.2.2.2.1, l, r.2.2.2.2.2.2) tr := set_B now trial told im0 im1 p f r tr (j := 17) (by decide) _ rfl rfl rfl
theorem set_sizes (l : List Int32) : (hCl now trial told im0 im1 p f r tr).set 91 (.inl (0, l)) = hCl now trial told im0 im1 p f (r.1, r.2.1, r.2.2.1, r.2.2.2.1, r.2.2.2.2.1, r.2.2.2.2.2.1, l) tr := set_B now trial told im0 im1 p f r tr (j := 18) (by decide) _ rfl rfl rfl
end CLS11

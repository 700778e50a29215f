/-! Fog: meet, metByFirst, metBySecond, behind, span, odds, kindOfFirst, kindOfSecond, memoryHours -/
def p10 (n : Nat) : Int64 := match n with
  | 0 => 1
  | n + 1 => p10 n * 10
set_option maxRecDepth 100000 in
theorem lp_all (xs : List Int32) (d : Nat) (h : MH) (N : Nat) (hN : N < 2 ^ 31) : ∀ m k, k + m = N → Ev xs d 26 4 [some (.int (nI N)), some (.long (p10 k)), none, some (.int (nI k))] [] h (some (.long (p10 N))) h := by
  intro m
  induction m with
  | zero =>
    intro k hk
    have e : k = N := by omega
    subst e
    refine ev_go 2 (fun _ => rfl) ?_
    exact ev_ic_ge rfl rfl (fun _ => ev_end 2 rfl) (fun n => absurd (nI_le (Nat.le_refl _) hN) n)
  | succ m ih =>
    intro k hk
    refine ev_go 2 (fun _ => rfl) ?_
    refine ev_ic_ge rfl rfl (fun n => absurd n (nI_ge (by omega) hN)) (fun _ => ?_)
    refine ev_go 6 (ls' := [some (.int (nI N)), some (.long (p10 (k + 1))), none, some (.int (nI k + Int32.ofInt 1))]) (fun _ => rfl) ?_
    rw [nI_inc]
    exact ih (k + 1) (by omega)
set_option maxRecDepth 100000 in
theorem sp_all10 (xs : List Int32) (d : Nat) (h : MH) (N : Nat) (hN : N < 2 ^ 31) : Ev xs d 26 0 [some (.int (nI N)), none, none, none] [] h (some (.long (p10 N))) h := by
  refine ev_go 4 (fun _ => rfl) ?_
  exact lp_all xs d h N hN N 0 (by omega)
def fO (span odds k1 k2 mm : Int32) : MC := .inr (1, [.ref 1, .ref 2, .ref 3, .ref 4, .int span, .int odds, .int k1, .int k2, .int mm])
def fR : MC := .inr (102, [.ref 5, .ref 6, .ref 7, .ref 8, .ref 9, .ref 10, .ref 11, .ref 12, .ref 13])
def fH (o : MC) (me m1 m2 : List Int32) (bh : List TT) : MH := o :: .inl (1, me) :: .inl (0, m1) :: .inl (0, m2) :: fR :: bh.map tkc
theorem fH_tk {o : MC} {me m1 m2 : List Int32} {bh : List TT} {t : Nat} {T : TT} (h : bh[t]? = some T) : (fH o me m1 m2 bh)[5 + t]? = some (tkc T) := by
  rw [Nat.add_comm]
  show (bh.map tkc)[t]? = _
  rw [List.getElem?_map, h]
  rfl
theorem fH_set {o : MC} {me m1 m2 : List Int32} {bh : List TT} {t : Nat} {T : TT} : (fH o me m1 m2 bh).set (5 + t) (tkc T) = fH o me m1 m2 (bh.set t T) := by
  rw [Nat.add_comm]
  unfold fH
  rw [List.map_set]
  rfl
theorem fR_at {t : Nat} (h : t < 9) : ([.ref 5, .ref 6, .ref 7, .ref 8, .ref 9, .ref 10, .ref 11, .ref 12, .ref 13] : List Value)[t]? = some (.ref (5 + t)) := by
  match t, h with
  | 0, _ => rfl
  | 1, _ => rfl
  | 2, _ => rfl
  | 3, _ => rfl
  | 4, _ => rfl
  | 5, _ => rfl
  | 6, _ => rfl
  | 7, _ => rfl
  | 8, _ => rfl
/-- tenths by which they don't meet; an hour of the Talk in the fog -/
def F_ap (me : List Int32) (odds : Int32) (k : Nat) : Int32 := if me.getD k 0 = 0 then 10 else odds
def F_q (k1 k2 mm : Int32) (m1 m2 : List Int32) (b : Bool) (T : TT) (k : Nat) : Int32 × TT := T_pass T b (if T_turn T = T.1 then k1 else k2) (if T_turn T = T.1 then m1.getD k 0 else m2.getD k 0) mm
section FG
variable (xs : List Int32) (d : Nat) (odds k1 k2 mm : Int32) (me m1 m2 : List Int32)
theorem sp_apart (span : Int32) (bh : List TT) (k : Nat) (hk : k < 8) (hme : me.length = 8) : Ev xs d 28 0 [some (.ref 0), some (.int (nI k))] [] (fH (fO span odds k1 k2 mm) me m1 m2 bh) (some (.int (F_ap me odds k))) (fH (fO span odds k1 k2 mm) me m1 m2 bh) := by
  unfold F_ap
  refine ev_go 3 (fun _ => rfl) ?_
  refine ev_zald rfl rfl (mm_ix_nI (by omega)) (getD_at (by omega)) ?_
  split
  · rename_i c
    exact ev_if_eq rfl rfl (fun _ => ev_end 2 rfl) (fun n => absurd c n)
  · rename_i c
    exact ev_if_eq rfl rfl (fun n => absurd n c) (fun _ => ev_end 4 rfl)
theorem sp_fpass (span : Int32) (bh : List TT) (k : Nat) (b : Bool) (T : TT) (hk : k < 8) (hbh : bh.length = 9) (hT : bh[k]? = some T) (h1 : m1.length = 8) (h2 : m2.length = 8) : Ev xs (d + 3) 29 0 [some (.ref 0), some (.int (nI k)), some (.int (bI b)), none, none, none, none] [] (fH (fO span odds k1 k2 mm) me m1 m2 bh) (some (.int (F_q k1 k2 mm m1 m2 b T k).1)) (fH (fO span odds k1 k2 mm) me m1 m2 (bh.set (k + 1) (F_q k1 k2 mm m1 m2 b T k).2)) := by
  have ix : mm_ix (nI k) = some k := mm_ix_nI (by omega)
  have ix1 : mm_ix (nI k + Int32.ofInt 1) = some (k + 1) := by rw [nI_inc]; exact mm_ix_nI (by omega)
  have g1 : bh[k + 1]? = some bh[k + 1] := List.getElem?_eq_getElem (by omega)
  refine ev_go 5 (fun _ => rfl) ?_
  refine ev_aald rfl rfl (by decide) ix1 (fR_at (by omega)) ?_
  refine ev_go 5 (fun _ => rfl) ?_
  refine ev_aald rfl rfl (by decide) ix (fR_at (by omega)) ?_
  refine ev_callT2 (q := 5 + (k + 1)) (p := 5 + k) rfl rfl rfl rfl (by omega) (fH_tk g1) (fH_tk hT) ?_
  rw [fH_set]
  have g2 : (bh.set (k + 1) T)[k + 1]? = some T := List.getElem?_set_self (by omega)
  refine ev_go 1 (fun _ => rfl) ?_
  refine ev_callT (y' := 36) (q := 5 + (k + 1)) (As := []) rfl rfl rfl rfl rfl (by intro v hv; cases hv) (fH_tk g2) (sp_turn xs _ T) (Or.inr ⟨_, rfl⟩) ?_
  rw [fH_set, set_self g2]
  refine ev_go 1 (fun _ => rfl) ?_
  refine ev_gfT rfl rfl (fH_tk g2) rfl ?_
  unfold F_q
  by_cases c : T_turn T = T.1
  · rw [if_pos c, if_pos c]
    refine ev_ic_ne rfl rfl (fun n => absurd c n) (fun _ => ?_)
    refine ev_go 14 (fun _ => rfl) ?_
    refine ev_iald rfl rfl ix (getD_at (by omega)) ?_
    refine ev_go 8 (fun _ => rfl) ?_
    refine ev_callT (y' := 38) (q := 5 + (k + 1)) (As := [.int (bI b), .int k1, .int (m1.getD k 0), .int mm]) rfl rfl rfl rfl rfl (by intro v hv; simp at hv; rcases hv with rfl | rfl | rfl | rfl <;> exact ⟨_, rfl⟩) (fH_tk g2) (sp_pass xs d T b k1 (m1.getD k 0) mm) (Or.inr ⟨_, rfl⟩) ?_
    rw [fH_set, List.set_set]
    exact ev_end 1 rfl
  · rw [if_neg c, if_neg c]
    refine ev_ic_ne rfl rfl (fun _ => ?_) (fun n => absurd c n)
    refine ev_go 12 (fun _ => rfl) ?_
    refine ev_iald rfl rfl ix (getD_at (by omega)) ?_
    refine ev_go 7 (fun _ => rfl) ?_
    refine ev_callT (y' := 38) (q := 5 + (k + 1)) (As := [.int (bI b), .int k2, .int (m2.getD k 0), .int mm]) rfl rfl rfl rfl rfl (by intro v hv; simp at hv; rcases hv with rfl | rfl | rfl | rfl <;> exact ⟨_, rfl⟩) (fH_tk g2) (sp_pass xs d T b k2 (m2.getD k 0) mm) (Or.inr ⟨_, rfl⟩) ?_
    rw [fH_set, List.set_set]
    exact ev_end 1 rfl
/-- ways without an end from hour k on, m hours left -/
def wE (m k : Nat) (T : TT) : Int64 := match m with
  | 0 => 1
  | m + 1 => if 10 ≤ F_ap me odds k then (if F_ap me odds k ≤ 0 then 0 else 0 + (F_ap me odds k).toInt64 * wE m (k + 1) (F_q k1 k2 mm m1 m2 false T k).2)
    else if (F_q k1 k2 mm m1 m2 true T k).2.2.2.2.2.2.2.2.2.1 = T.2.2.2.2.2.2.2.2.1 then (if F_ap me odds k ≤ 0 then 0 else 0 + (F_ap me odds k).toInt64 * wE m (k + 1) (F_q k1 k2 mm m1 m2 false T k).2) + (10 - F_ap me odds k).toInt64 * wE m (k + 1) (F_q k1 k2 mm m1 m2 true T k).2
    else (if F_ap me odds k ≤ 0 then 0 else 0 + (F_ap me odds k).toInt64 * wE m (k + 1) (F_q k1 k2 mm m1 m2 false T k).2)
/-- words in all ways -/
def wW (m k : Nat) (T : TT) : Int64 := match m with
  | 0 => 0
  | m + 1 => if 10 ≤ F_ap me odds k then (if F_ap me odds k ≤ 0 then 0 else 0 + (F_ap me odds k).toInt64 * wW m (k + 1) (F_q k1 k2 mm m1 m2 false T k).2)
    else (if F_ap me odds k ≤ 0 then 0 else 0 + (F_ap me odds k).toInt64 * wW m (k + 1) (F_q k1 k2 mm m1 m2 false T k).2) + (10 - F_ap me odds k).toInt64 * ((F_q k1 k2 mm m1 m2 true T k).1.toInt64 * p10 m + wW m (k + 1) (F_q k1 k2 mm m1 m2 true T k).2)
end FG

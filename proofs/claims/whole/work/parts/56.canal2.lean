/-- the first t of a list changed by f; put by a function of their places -/
def mapUp {α : Type} (f : α → α) (t : Nat) (l : List α) : List α := (l.take t).map f ++ l.drop t
def up {α : Type} (g : Nat → α) (t : Nat) (l : List α) : List α := (List.range t).map g ++ l.drop t
theorem mapUp_0 {α : Type} {f : α → α} {l : List α} : mapUp f 0 l = l := rfl
theorem mapUp_len {α : Type} {f : α → α} {t : Nat} {l : List α} : (mapUp f t l).length = l.length := by
  unfold mapUp
  rw [List.length_append, List.length_map, List.length_take, List.length_drop]
  omega
theorem mapUp_at {α : Type} {f : α → α} {t : Nat} {l : List α} : (mapUp f t l)[t]? = l[t]? := by
  unfold mapUp
  by_cases h : t ≤ l.length
  · rw [List.getElem?_append_right (by rw [List.length_map, List.length_take]; omega), List.length_map, List.length_take, Nat.min_eq_left h, Nat.sub_self, List.getElem?_drop]
    rfl
  · rw [List.getElem?_eq_none (by rw [List.length_append, List.length_map, List.length_take, List.length_drop]; omega), List.getElem?_eq_none (by omega)]
theorem set_mid {α : Type} {a b : List α} {k : Nat} {x y : α} (h : a.length = k) : (a ++ x :: b).set k y = a ++ y :: b := by
  subst h
  rw [List.set_append_right _ _ (Nat.le_refl _), Nat.sub_self]
  rfl
theorem mapUp_s {α : Type} {f : α → α} {t : Nat} {l : List α} {a : α} (h : l[t]? = some a) : (mapUp f t l).set t (f a) = mapUp f (t + 1) l := by
  have hl := (List.getElem?_eq_some_iff.mp h).1
  unfold mapUp
  have e : l.drop t = a :: l.drop (t + 1) := by
    rw [List.drop_eq_getElem_cons hl]
    congr 1
    exact (List.getElem?_eq_some_iff.mp h).2
  rw [e, set_mid (by rw [List.length_map, List.length_take]; omega), take_s h, List.map_append, List.append_assoc]
  rfl
theorem up_len {α : Type} {g : Nat → α} {t : Nat} {l : List α} (h : t ≤ l.length) : (up g t l).length = l.length := by
  unfold up
  rw [List.length_append, List.length_map, List.length_range, List.length_drop]
  omega
theorem up_at {α : Type} {g : Nat → α} {t : Nat} {l : List α} : (up g t l)[t]? = l[t]? := by
  unfold up
  rw [List.getElem?_append_right (by rw [List.length_map, List.length_range]; omega), List.length_map, List.length_range, Nat.sub_self, List.getElem?_drop]
  rfl
theorem up_lt {α : Type} {g : Nat → α} {t j : Nat} {l : List α} (h : j < t) : (up g t l)[j]? = some (g j) := by
  unfold up
  rw [List.getElem?_append_left (by rw [List.length_map, List.length_range]; exact h), List.getElem?_map, List.getElem?_range h]
  rfl
theorem up_s {α : Type} {g : Nat → α} {t : Nat} {l : List α} (hl : t < l.length) : (up g t l).set t (g t) = up g (t + 1) l := by
  unfold up
  rw [List.drop_eq_getElem_cons hl, set_mid (by rw [List.length_map, List.length_range]), List.range_succ, List.map_append, List.append_assoc]
  rfl
def tkF (T : TT) : List Value := [.int T.1, .int T.2.1, .int T.2.2.1, .int T.2.2.2.1, .int T.2.2.2.2.1, .int (bI T.2.2.2.2.2.1), .int T.2.2.2.2.2.2.1, .int T.2.2.2.2.2.2.2.1, .int T.2.2.2.2.2.2.2.2.1, .int T.2.2.2.2.2.2.2.2.2]
/-- a field of a Talk in a variable place -/
theorem ev_gfT {xs : List Int32} {d y pc q j idx : Nat} {ls : ML} {st : List Value} {h h' : MH} {r : Option Value} {T : TT} {ty : FieldType} {fin : Bool} {w : Value} (hf : fetT y pc = some (.getfield idx)) (hfl : fldT y idx = some (2, j, ty, fin)) (hq : h[q]? = some (tkc T)) (hj : (tkF T)[j]? = some w) (hv : Ev xs d y (pc + 3) ls (w :: st) h r h') : Ev xs d y pc ls (.ref q :: st) h r h' := ev_gf hf hfl hq hj hv
theorem ev_pfT {xs : List Int32} {d y pc q j idx : Nat} {ls : ML} {st : List Value} {h h' : MH} {r : Option Value} {T T' : TT} {ty : FieldType} {w : Value} (hf : fetT y pc = some (.putfield idx)) (hfl : fldT y idx = some (2, j, ty, false)) (hq : h[q]? = some (tkc T)) (hj : j < 10) (hw : mm_fit ty w = true) (he : Sum.inr (2, (tkF T).set j w) = tkc T') (hv : Ev xs d y (pc + 3) ls st (h.set q (tkc T')) r h') : Ev xs d y pc ls (w :: .ref q :: st) h r h' := ev_pf hf hfl hq hj hw (by rw [he.symm] at hv; exact hv)
def T_clr (T : TT) : TT := (T.1, T.2.1, T.2.2.1, T.2.2.2.1, T.2.2.2.2.1, T.2.2.2.2.2.1, T.2.2.2.2.2.2.1, T.2.2.2.2.2.2.2.1, 0, 0)
theorem nI_mul5 {i j : Nat} : nI i * Int32.ofInt 5 + nI j = nI (5 * i + j) := by
  have e : Int32.ofInt 5 = nI 5 := rfl
  rw [e, Nat.mul_comm 5 i]
  unfold nI
  rw [Int32.ofNat_add, Int32.ofNat_mul]
section CN2
variable (xs : List Int32) (d : Nat) (len mem hour bg tn sn wd mg : Int32) (kd ph pc sb st ss pa pt mt ms : List Int32) (rw : List TT)
theorem lp_paces (B : Nat) (hB : B ≤ 5) (hpc : pc.length = 5) : ∀ m t, t + m = B → Ev xs d 24 4 [some (.ref 0), some (.int (smI (pc.take t))), some (.int (nI t))] [] (cH (cO len mem hour (nI B) tn sn wd mg) kd ph pc sb st ss pa pt mt ms rw) (some (.int (smI (pc.take B)))) (cH (cO len mem hour (nI B) tn sn wd mg) kd ph pc sb st ss pa pt mt ms rw) := by
  intro m
  induction m with
  | zero =>
    intro t ht
    have e : t = B := by omega
    subst e
    refine ev_go 3 (fun _ => rfl) ?_
    refine ev_ic_ge rfl rfl (fun _ => ?_) (fun n => absurd (nI_le (Nat.le_refl _) (by omega)) n)
    exact ev_end 2 rfl
  | succ m ih =>
    intro t ht
    have hT : pc[t]? = some pc[t] := List.getElem?_eq_getElem (by omega)
    refine ev_go 3 (fun _ => rfl) ?_
    refine ev_ic_ge rfl rfl (fun n => absurd n (nI_ge (by omega) (by omega))) (fun _ => ?_)
    refine ev_go 4 (fun _ => rfl) ?_
    refine ev_iald rfl rfl (mm_ix_nI (by omega)) hT ?_
    refine ev_go 4 (ls' := [some (.ref 0), some (.int (smI (pc.take t) + pc[t])), some (.int (nI t + Int32.ofInt 1))]) (fun _ => rfl) ?_
    rw [nI_inc, ← smI_s hT]
    exact ih (t + 1) (by omega)
theorem sp_paces (B : Nat) (hB : B ≤ 5) (hpc : pc.length = 5) : Ev xs d 24 0 [some (.ref 0), none, none] [] (cH (cO len mem hour (nI B) tn sn wd mg) kd ph pc sb st ss pa pt mt ms rw) (some (.int (smI (pc.take B)))) (cH (cO len mem hour (nI B) tn sn wd mg) kd ph pc sb st ss pa pt mt ms rw) := by
  refine ev_go 4 (fun _ => rfl) ?_
  exact lp_paces xs d len mem hour tn sn wd mg kd ph pc sb st ss pa pt mt ms rw B hB hpc B 0 (by omega)
theorem lp_long (TN : Nat) (hTN : TN ≤ 6) (hrw : rw.length = 6) : ∀ m t, t + m = TN → Ev xs d 22 4 [some (.ref 0), some (.int (lgT (rw.take t))), some (.int (nI t))] [] (cH (cO len mem hour bg (nI TN) sn wd mg) kd ph pc sb st ss pa pt mt ms rw) (some (.int (lgT (rw.take TN)))) (cH (cO len mem hour bg (nI TN) sn wd mg) kd ph pc sb st ss pa pt mt ms rw) := by
  intro m
  induction m with
  | zero =>
    intro t ht
    have e : t = TN := by omega
    subst e
    refine ev_go 3 (fun _ => rfl) ?_
    refine ev_ic_ge rfl rfl (fun _ => ?_) (fun n => absurd (nI_le (Nat.le_refl _) (by omega)) n)
    exact ev_end 2 rfl
  | succ m ih =>
    intro t ht
    have hT : rw[t]? = some rw[t] := List.getElem?_eq_getElem (by omega)
    refine ev_go 3 (fun _ => rfl) ?_
    refine ev_ic_ge rfl rfl (fun n => absurd n (nI_ge (by omega) (by omega))) (fun _ => ?_)
    refine ev_go 4 (fun _ => rfl) ?_
    refine ev_aald rfl rfl (by decide) (mm_ix_nI (by omega)) (cR_at (by omega)) ?_
    refine ev_gfT rfl rfl (cH_tk hT) rfl ?_
    refine ev_go 4 (ls' := [some (.ref 0), some (.int (mxI (lgT (rw.take t)) rw[t].2.2.2.2.1)), some (.int (nI t + Int32.ofInt 1))]) (fun _ => rfl) ?_
    rw [nI_inc, ← lgT_s hT]
    exact ih (t + 1) (by omega)
theorem sp_long (TN : Nat) (hTN : TN ≤ 6) (hrw : rw.length = 6) : Ev xs d 22 0 [some (.ref 0), none, none] [] (cH (cO len mem hour bg (nI TN) sn wd mg) kd ph pc sb st ss pa pt mt ms rw) (some (.int (lgT (rw.take TN)))) (cH (cO len mem hour bg (nI TN) sn wd mg) kd ph pc sb st ss pa pt mt ms rw) := by
  refine ev_go 4 (fun _ => rfl) ?_
  exact lp_long xs d len mem hour bg sn wd mg kd ph pc sb st ss pa pt mt ms rw TN hTN hrw TN 0 (by omega)
theorem lp_clear (TN : Nat) (hTN : TN ≤ 6) (hrw : rw.length = 6) : ∀ m t, t + m = TN → Ev xs d 15 12 [some (.ref 0), some (.int (nI t))] [] (cH (cO len mem hour bg (nI TN) sn wd mg) kd ph pc sb st ss pa pt mt ms (mapUp T_clr t rw)) none (cH (cO len mem hour bg (nI TN) sn wd mg) kd ph pc sb st ss pa pt mt ms (mapUp T_clr TN rw)) := by
  intro m
  induction m with
  | zero =>
    intro t ht
    have e : t = TN := by omega
    subst e
    refine ev_go 3 (fun _ => rfl) ?_
    refine ev_ic_ge rfl rfl (fun _ => ?_) (fun n => absurd (nI_le (Nat.le_refl _) (by omega)) n)
    exact ev_end 1 rfl
  | succ m ih =>
    intro t ht
    have hT : rw[t]? = some rw[t] := List.getElem?_eq_getElem (by omega)
    have hT2 : (mapUp T_clr t rw)[t]? = some rw[t] := mapUp_at.trans hT
    refine ev_go 3 (fun _ => rfl) ?_
    refine ev_ic_ge rfl rfl (fun n => absurd n (nI_ge (by omega) (by omega))) (fun _ => ?_)
    refine ev_go 3 (fun _ => rfl) ?_
    refine ev_aald rfl rfl (by decide) (mm_ix_nI (by omega)) (cR_at (by omega)) ?_
    refine ev_go 1 (fun _ => rfl) ?_
    generalize hR : rw[t] = T at hT hT2
    refine ev_pfT (T' := (T.1, T.2.1, T.2.2.1, T.2.2.2.1, T.2.2.2.2.1, T.2.2.2.2.2.1, T.2.2.2.2.2.2.1, T.2.2.2.2.2.2.2.1, 0, T.2.2.2.2.2.2.2.2.2)) rfl rfl (cH_tk hT2) (by decide) rfl rfl ?_
    rw [cH_set]
    refine ev_go 3 (fun _ => rfl) ?_
    refine ev_aald rfl rfl (by decide) (mm_ix_nI (by omega)) (cR_at (by omega)) ?_
    refine ev_go 1 (fun _ => rfl) ?_
    refine ev_pfT (T' := T_clr T) rfl rfl (cH_tk (List.getElem?_set_self (by rw [mapUp_len]; omega))) (by decide) rfl rfl ?_
    rw [cH_set, List.set_set, mapUp_s hT]
    refine ev_go 2 (ls' := [some (.ref 0), some (.int (nI t + Int32.ofInt 1))]) (fun _ => rfl) ?_
    rw [nI_inc]
    exact ih (t + 1) (by omega)
theorem sp_clear (TN : Nat) (hTN : TN ≤ 6) (hrw : rw.length = 6) : Ev xs d 15 0 [some (.ref 0), none] [] (cH (cO len mem hour bg (nI TN) sn wd mg) kd ph pc sb st ss pa pt mt ms rw) none (cH (cO len mem hour bg (nI TN) sn 0 0) kd ph pc sb st ss pa pt mt ms (mapUp T_clr TN rw)) := by
  refine ev_go 8 (fun _ => rfl) ?_
  exact lp_clear xs d len mem hour bg sn 0 0 kd ph pc sb st ss pa pt mt ms rw TN hTN hrw TN 0 (by omega)
theorem pos_ne {x : Int32} (h : 0 < x) : ¬ x = 0 := by
  intro e
  subst e
  exact absurd h (by decide)
theorem sp_onW (f : Int32) (hw : 0 < 2 * len) : Ev xs (d + 1) 200 0 [some (.ref 0), some (.int f), none] [] (cH (cO len mem hour bg tn sn wd mg) kd ph pc sb st ss pa pt mt ms rw) (some (.int (rmI f (2 * len)))) (cH (cO len mem hour bg tn sn wd mg) kd ph pc sb st ss pa pt mt ms rw) := by
  refine ev_go 1 (fun _ => rfl) ?_
  refine ev_call (y' := 5) rfl rfl rfl rfl (sp_way xs d len mem hour bg tn sn wd mg kd ph pc sb st ss pa pt mt ms rw) ?_
  refine ev_go 2 (fun _ => rfl) ?_
  refine ev_if_le rfl rfl (fun n => absurd hw (Int32.not_lt.mpr n)) (fun _ => ?_)
  refine ev_go 2 (fun _ => rfl) ?_
  refine ev_irem rfl (pos_ne hw) ?_
  exact ev_end 2 rfl
theorem gt5 {l : List Int32} {k : Nat} (h : k < l.length) : l[k]? = some (l.getD k 0) := by
  rw [List.getD_eq_getElem?_getD, List.getElem?_eq_getElem h]
  rfl
theorem sp_phB (b : Nat) (n : Int32) (hb : b < 5) (hph : ph.length = 5) (hpc : pc.length = 5) (hw : 0 < 2 * len) : Ev xs (d + 2) 201 0 [some (.ref 0), some (.int (nI b)), some (.int n)] [] (cH (cO len mem hour bg tn sn wd mg) kd ph pc sb st ss pa pt mt ms rw) (some (.int (rmI (ph.getD b 0 + n * pc.getD b 0) (2 * len)))) (cH (cO len mem hour bg tn sn wd mg) kd ph pc sb st ss pa pt mt ms rw) := by
  refine ev_go 4 (fun _ => rfl) ?_
  refine ev_iald rfl rfl (mm_ix_nI (by omega)) (gt5 (by omega)) ?_
  refine ev_go 4 (fun _ => rfl) ?_
  refine ev_iald rfl rfl (mm_ix_nI (by omega)) (gt5 (by omega)) ?_
  refine ev_go 2 (fun _ => rfl) ?_
  refine ev_call (y' := 200) rfl rfl rfl rfl (sp_onW xs d len mem hour bg tn sn wd mg kd ph pc sb st ss pa pt mt ms rw _ hw) ?_
  exact ev_end 1 rfl
theorem lp_home (B : Nat) (hB : B ≤ 5) (hph : ph.length = 5) (hw : 0 < 2 * len) : ∀ m t, t + m = B → Ev xs (d + 2) 14 2 [some (.ref 0), some (.int (nI t))] [] (cH (cO len mem hour (nI B) tn sn wd mg) kd (mapUp (fun x => rmI x (2 * len)) t ph) pc sb st ss pa pt mt ms rw) none (cH (cO len mem hour (nI B) tn sn wd mg) kd (mapUp (fun x => rmI x (2 * len)) B ph) pc sb st ss pa pt mt ms rw) := by
  intro m
  induction m with
  | zero =>
    intro t ht
    have e : t = B := by omega
    subst e
    refine ev_go 3 (fun _ => rfl) ?_
    refine ev_ic_ge rfl rfl (fun _ => ?_) (fun n => absurd (nI_le (Nat.le_refl _) (by omega)) n)
    exact ev_end 1 rfl
  | succ m ih =>
    intro t ht
    have hT : ph[t]? = some ph[t] := List.getElem?_eq_getElem (by omega)
    have hT2 : (mapUp (fun x => rmI x (2 * len)) t ph)[t]? = some ph[t] := mapUp_at.trans hT
    refine ev_go 3 (fun _ => rfl) ?_
    refine ev_ic_ge rfl rfl (fun n => absurd n (nI_ge (by omega) (by omega))) (fun _ => ?_)
    refine ev_go 7 (fun _ => rfl) ?_
    refine ev_iald rfl rfl (mm_ix_nI (by omega)) hT2 ?_
    refine ev_call (y' := 200) rfl rfl rfl rfl (sp_onW xs d len mem hour _ tn sn wd mg kd _ pc sb st ss pa pt mt ms rw _ hw) ?_
    refine ev_iast rfl rfl (mm_ix_nI (by omega)) (by rw [mapUp_len]; omega) ?_
    refine ev_go 2 (ls' := [some (.ref 0), some (.int (nI t + Int32.ofInt 1))]) (h1 := cH (cO len mem hour (nI B) tn sn wd mg) kd ((mapUp (fun x => rmI x (2 * len)) t ph).set t (rmI ph[t] (2 * len))) pc sb st ss pa pt mt ms rw) (fun _ => rfl) ?_
    rw [nI_inc, mapUp_s (f := fun x => rmI x (2 * len)) hT]
    exact ih (t + 1) (by omega)
theorem sp_home (B : Nat) (hB : B ≤ 5) (hph : ph.length = 5) (hw : 0 < 2 * len) : Ev xs (d + 2) 14 0 [some (.ref 0), none] [] (cH (cO len mem hour (nI B) tn sn wd mg) kd ph pc sb st ss pa pt mt ms rw) none (cH (cO len mem hour (nI B) tn sn wd mg) kd (mapUp (fun x => rmI x (2 * len)) B ph) pc sb st ss pa pt mt ms rw) := by
  refine ev_go 2 (fun _ => rfl) ?_
  exact lp_home xs d len mem hour tn sn wd mg kd ph pc sb st ss pa pt mt ms rw B hB hph hw B 0 (by omega)
theorem sp_doMeet (i j : Nat) (b : Bool) (hi : i < 5) (hj : j < 5) (hm : ms[5 * i + j]? = some (bI b)) : Ev xs d 18 0 [some (.ref 0), some (.int (nI i)), some (.int (nI j))] [] (cH (cO len mem hour bg tn sn wd mg) kd ph pc sb st ss pa pt mt ms rw) (some (.int (bI b))) (cH (cO len mem hour bg tn sn wd mg) kd ph pc sb st ss pa pt mt ms rw) := by
  refine ev_go 7 (fun _ => rfl) ?_
  refine ev_zald rfl rfl (by rw [nI_mul5]; exact mm_ix_nI (by omega)) hm ?_
  cases b <;> exact ev_end 1 rfl
/-- are all back behind n hours, from the t-th on -/
def allB (n way : Int32) (ph pc : List Int32) (m t : Nat) : Bool := match m with
  | 0 => true
  | m + 1 => decide (rmI (ph.getD t 0 + n * pc.getD t 0) way = ph.getD t 0) && allB n way ph pc m (t + 1)
theorem lp_back (B : Nat) (n : Int32) (hB : B ≤ 5) (hph : ph.length = 5) (hpc : pc.length = 5) (hw : 0 < 2 * len) : ∀ m t, t + m = B → Ev xs (d + 3) 21 2 [some (.ref 0), some (.int n), some (.int (nI t))] [] (cH (cO len mem hour (nI B) tn sn wd mg) kd ph pc sb st ss pa pt mt ms rw) (some (.int (bI (allB n (2 * len) ph pc m t)))) (cH (cO len mem hour (nI B) tn sn wd mg) kd ph pc sb st ss pa pt mt ms rw) := by
  intro m
  induction m with
  | zero =>
    intro t ht
    have e : t = B := by omega
    subst e
    refine ev_go 3 (fun _ => rfl) ?_
    refine ev_ic_ge rfl rfl (fun _ => ?_) (fun n => absurd (nI_le (Nat.le_refl _) (by omega)) n)
    exact ev_end 2 rfl
  | succ m ih =>
    intro t ht
    rw [show allB n (2 * len) ph pc (m + 1) t = (decide (rmI (ph.getD t 0 + n * pc.getD t 0) (2 * len) = ph.getD t 0) && allB n (2 * len) ph pc m (t + 1)) from rfl]
    refine ev_go 3 (fun _ => rfl) ?_
    refine ev_ic_ge rfl rfl (fun n => absurd n (nI_ge (by omega) (by omega))) (fun _ => ?_)
    refine ev_go 3 (fun _ => rfl) ?_
    refine ev_call (y' := 201) rfl rfl rfl rfl (sp_phB xs d len mem hour (nI B) tn sn wd mg kd ph pc sb st ss pa pt mt ms rw t n (by omega) hph hpc hw) ?_
    refine ev_go 3 (fun _ => rfl) ?_
    refine ev_iald rfl rfl (mm_ix_nI (by omega)) (gt5 (by omega)) ?_
    by_cases c : rmI (ph.getD t 0 + n * pc.getD t 0) (2 * len) = ph.getD t 0
    · refine ev_ic_eq rfl rfl (fun _ => ?_) (fun n => absurd c n)
      rw [decide_eq_true c, Bool.true_and]
      refine ev_go 2 (ls' := [some (.ref 0), some (.int n), some (.int (nI t + Int32.ofInt 1))]) (fun _ => rfl) ?_
      rw [nI_inc]
      exact ih (t + 1) (by omega)
    · refine ev_ic_eq rfl rfl (fun n => absurd n c) (fun _ => ?_)
      rw [decide_eq_false c]
      exact ev_end 2 rfl
theorem sp_back (B : Nat) (n : Int32) (hB : B ≤ 5) (hph : ph.length = 5) (hpc : pc.length = 5) (hw : 0 < 2 * len) : Ev xs (d + 3) 21 0 [some (.ref 0), some (.int n), none] [] (cH (cO len mem hour (nI B) tn sn wd mg) kd ph pc sb st ss pa pt mt ms rw) (some (.int (bI (allB n (2 * len) ph pc B 0)))) (cH (cO len mem hour (nI B) tn sn wd mg) kd ph pc sb st ss pa pt mt ms rw) := by
  refine ev_go 2 (fun _ => rfl) ?_
  exact lp_back xs d len mem hour tn sn wd mg kd ph pc sb st ss pa pt mt ms rw B n hB hph hpc hw B 0 (by omega)
end CN2

/-- where a barge is behind an hour -/
def fwI (len : Int32) (ph pc : List Int32) (j : Nat) : Int32 := rmI (ph.getD j 0 + pc.getD j 0) (2 * len)
def paU (len : Int32) (ph : List Int32) (B : Nat) (pa : List Int32) : List Int32 := up (fun j => plI len (ph.getD j 0)) B pa
def phU (len : Int32) (ph pc : List Int32) (B : Nat) : List Int32 := up (fwI len ph pc) B ph
def ptU (len : Int32) (ph pc : List Int32) (B : Nat) (pt : List Int32) : List Int32 := up (fun j => plI len (fwI len ph pc j)) B pt
def mtU (B : Nat) (mt : List Int32) : List Int32 := up (fun _ => (0 : Int32)) B mt
/-- the notes of a move -/
def mvN (len : Int32) (ph pc pa pt mt ms : List Int32) (mg : Int32) (B : Nat) : NW3 := nwO (paU len ph B pa) (ptU len ph pc B pt) B B 0 (ms, mtU B mt, mg)
section CN5
variable (xs : List Int32) (d : Nat) (len mem hour tn sn wd mg : Int32) (kd ph pc sb st ss pa pt mt ms : List Int32) (rw : List TT)
theorem lp_move (B : Nat) (hB : B ≤ 5) (hph : ph.length = 5) (hpc : pc.length = 5) (hpa : pa.length = 5) (hpt : pt.length = 5) (hmt : mt.length = 5) (hw : 0 < 2 * len) (R : MH) (kk : Ev xs (d + 2) 19 78 [some (.ref 0), some (.int (nI B)), none] [] (cH (cO len mem hour (nI B) tn sn wd mg) kd (phU len ph pc B) pc sb st ss (paU len ph B pa) (ptU len ph pc B pt) (mtU B mt) ms rw) none R) : ∀ m t, t + m = B → Ev xs (d + 2) 19 2 [some (.ref 0), some (.int (nI t)), none] [] (cH (cO len mem hour (nI B) tn sn wd mg) kd (phU len ph pc t) pc sb st ss (paU len ph t pa) (ptU len ph pc t pt) (mtU t mt) ms rw) none R := by
  intro m
  induction m with
  | zero =>
    intro t ht
    have e : t = B := by omega
    subst e
    refine ev_go 3 (fun _ => rfl) ?_
    exact ev_ic_ge rfl rfl (fun _ => kk) (fun n => absurd (nI_le (Nat.le_refl _) (by omega)) n)
  | succ m ih =>
    intro t ht
    have g1 : (phU len ph pc t)[t]? = some (ph.getD t 0) := up_at.trans (getD_at (by omega))
    have g2 : pc[t]? = some (pc.getD t 0) := getD_at (by omega)
    have l1 : (phU len ph pc t).length = 5 := by unfold phU; rw [up_len (by omega)]; exact hph
    have l2 : (paU len ph t pa).length = 5 := by unfold paU; rw [up_len (by omega)]; exact hpa
    have l3 : (ptU len ph pc t pt).length = 5 := by unfold ptU; rw [up_len (by omega)]; exact hpt
    have l4 : (mtU t mt).length = 5 := by unfold mtU; rw [up_len (by omega)]; exact hmt
    refine ev_go 3 (fun _ => rfl) ?_
    refine ev_ic_ge rfl rfl (fun n => absurd n (nI_ge (by omega) (by omega))) (fun _ => ?_)
    refine ev_go 7 (fun _ => rfl) ?_
    refine ev_iald rfl rfl (mm_ix_nI (by omega)) g1 ?_
    refine ev_call (y' := 6) rfl rfl rfl rfl (sp_place xs d len mem hour _ tn sn wd mg kd _ pc sb st ss _ _ _ ms rw (ph.getD t 0)) ?_
    refine ev_iast rfl rfl (mm_ix_nI (by omega)) (by omega) ?_
    refine ev_go 7 (fun _ => rfl) ?_
    refine ev_iald rfl rfl (mm_ix_nI (by omega)) g1 ?_
    refine ev_go 3 (fun _ => rfl) ?_
    refine ev_iald rfl rfl (mm_ix_nI (by omega)) g2 ?_
    refine ev_go 1 (fun _ => rfl) ?_
    refine ev_call (y' := 200) rfl rfl rfl rfl (sp_onW xs _ len mem hour _ tn sn wd mg kd _ pc sb st ss _ _ _ ms rw _ hw) ?_
    refine ev_iast rfl rfl (mm_ix_nI (by omega)) (by omega) ?_
    refine ev_go 7 (fun _ => rfl) ?_
    refine ev_iald rfl rfl (mm_ix_nI (by omega)) (List.getElem?_set_self (by omega)) ?_
    refine ev_call (y' := 6) rfl rfl rfl rfl (sp_place xs d len mem hour _ tn sn wd mg kd _ pc sb st ss _ _ _ ms rw (fwI len ph pc t)) ?_
    refine ev_iast rfl rfl (mm_ix_nI (by omega)) (by omega) ?_
    refine ev_go 4 (fun _ => rfl) ?_
    refine ev_iast rfl rfl (mm_ix_nI (by omega)) (by omega) ?_
    refine ev_go 2 (ls' := [some (.ref 0), some (.int (nI t + Int32.ofInt 1)), none]) (h1 := cH (cO len mem hour (nI B) tn sn wd mg) kd ((phU len ph pc t).set t (fwI len ph pc t)) pc sb st ss ((paU len ph t pa).set t (plI len (ph.getD t 0))) ((ptU len ph pc t pt).set t (plI len (fwI len ph pc t))) ((mtU t mt).set t 0) ms rw) (fun _ => rfl) ?_
    have u1 : (phU len ph pc t).set t (fwI len ph pc t) = phU len ph pc (t + 1) := up_s (by omega)
    have u2 : (paU len ph t pa).set t (plI len (ph.getD t 0)) = paU len ph (t + 1) pa := up_s (g := fun j => plI len (ph.getD j 0)) (by omega)
    have u3 : (ptU len ph pc t pt).set t (plI len (fwI len ph pc t)) = ptU len ph pc (t + 1) pt := up_s (g := fun j => plI len (fwI len ph pc j)) (by omega)
    have u4 : (mtU t mt).set t 0 = mtU (t + 1) mt := up_s (g := fun _ => (0 : Int32)) (by omega)
    rw [nI_inc, u1, u2, u3, u4]
    exact ih (t + 1) (by omega)
theorem sp_move (B : Nat) (hB : B ≤ 5) (hph : ph.length = 5) (hpc : pc.length = 5) (hpa : pa.length = 5) (hpt : pt.length = 5) (hmt : mt.length = 5) (hms : ms.length = 25) (hw : 0 < 2 * len) : Ev xs (d + 2) 19 0 [some (.ref 0), none, none] [] (cH (cO len mem hour (nI B) tn sn wd mg) kd ph pc sb st ss pa pt mt ms rw) none (cH (cO len mem hour (nI B) tn sn wd (mvN len ph pc pa pt mt ms mg B).2.2) kd (phU len ph pc B) pc sb st ss (paU len ph B pa) (ptU len ph pc B pt) (mvN len ph pc pa pt mt ms mg B).2.1 (mvN len ph pc pa pt mt ms mg B).1 rw) := by
  refine ev_go 2 (fun _ => rfl) ?_
  refine lp_move xs d len mem hour tn sn wd mg kd ph pc sb st ss pa pt mt ms rw B hB hph hpc hpa hpt hmt hw _ ?_ B 0 (by omega)
  refine ev_go 2 (fun _ => rfl) ?_
  exact lp_nwO xs (d + 1) len mem hour tn sn wd kd (phU len ph pc B) pc sb st ss (paU len ph B pa) (ptU len ph pc B pt) rw B hB (by unfold paU; rw [up_len (by omega)]; exact hpa) (by unfold ptU; rw [up_len (by omega)]; exact hpt) B 0 (by omega) none (ms, mtU B mt, mg) hms (by unfold mtU; show (up _ B mt).length = 5; rw [up_len (by omega)]; exact hmt)
/-- a Talk of two barges that there are places for; rows of booleans -/
def okT (T : TT) : Prop := ∃ i j : Nat, i < 5 ∧ j < 5 ∧ T.1 = nI i ∧ T.2.1 = nI j
def okM (ms : List Int32) : Prop := ∀ k, k < 25 → ∃ b : Bool, ms[k]? = some (bI b)
/-- an hour of a Talk -/
def T_hr (kd mt ms : List Int32) (mem : Int32) (T : TT) : Int32 × TT := T_pass T (decide (ms.getD (5 * T.1.toNatClampNeg + T.2.1.toNatClampNeg) 0 = 1)) (kd.getD (T_turn T).toNatClampNeg 0) (mt.getD (T_turn T).toNatClampNeg 0) mem
def T_wd (kd mt ms : List Int32) (mem wd : Int32) (l : List TT) : Int32 := l.foldl (fun a T => a + (T_hr kd mt ms mem T).1) wd
theorem T_wd_s {kd mt ms : List Int32} {mem wd : Int32} {t : Nat} {l : List TT} {T : TT} (h : l[t]? = some T) : T_wd kd mt ms mem wd (l.take (t + 1)) = T_wd kd mt ms mem wd (l.take t) + (T_hr kd mt ms mem T).1 := by
  unfold T_wd
  rw [take_s h, List.foldl_append]
  rfl
theorem okT_turn {T : TT} (h : okT T) : ∃ w : Nat, w < 5 ∧ T_turn T = nI w := by
  obtain ⟨i, j, hi, hj, e1, e2⟩ := h
  unfold T_turn
  split
  · exact ⟨i, hi, e1⟩
  · exact ⟨j, hj, e2⟩
theorem lp_hour (TN : Nat) (bg : Int32) (hTN : TN ≤ 6) (hrw : rw.length = 6) (hkd : kd.length = 5) (hmt : mt.length = 5) (hT : ∀ T ∈ rw.take TN, okT T) (hM : okM ms) (R : MH) (kk : ∀ z1 z2 : Option Value, Ev xs (d + 3) 17 73 [some (.ref 0), some (.int (nI TN)), z1, z2] [] (cH (cO len mem hour bg (nI TN) sn (T_wd kd mt ms mem wd (rw.take TN)) mg) kd ph pc sb st ss pa pt mt ms (mapUp (fun T => (T_hr kd mt ms mem T).2) TN rw)) none R) : ∀ m t, t + m = TN → ∀ z1 z2 : Option Value, Ev xs (d + 3) 17 6 [some (.ref 0), some (.int (nI t)), z1, z2] [] (cH (cO len mem hour bg (nI TN) sn (T_wd kd mt ms mem wd (rw.take t)) mg) kd ph pc sb st ss pa pt mt ms (mapUp (fun T => (T_hr kd mt ms mem T).2) t rw)) none R := by
  intro m
  induction m with
  | zero =>
    intro t ht z1 z2
    have e : t = TN := by omega
    subst e
    refine ev_go 3 (fun _ => rfl) ?_
    exact ev_ic_ge rfl rfl (fun _ => kk z1 z2) (fun n => absurd (nI_le (Nat.le_refl _) (by omega)) n)
  | succ m ih =>
    intro t ht z1 z2
    have h0 : rw[t]? = some rw[t] := List.getElem?_eq_getElem (by omega)
    have hok : okT rw[t] := hT _ (List.mem_of_getElem? (i := t) (by rw [List.getElem?_take, if_pos (by omega)]; exact h0))
    have h2 : (mapUp (fun T => (T_hr kd mt ms mem T).2) t rw)[t]? = some rw[t] := mapUp_at.trans h0
    generalize rw[t] = T at h0 hok h2
    obtain ⟨w, hw5, hw⟩ := okT_turn hok
    obtain ⟨i, j, hi, hj, e1, e2⟩ := hok
    obtain ⟨b, hb⟩ := hM (5 * i + j) (by omega)
    have e3 : T_hr kd mt ms mem T = T_pass T b (kd.getD w 0) (mt.getD w 0) mem := by
      unfold T_hr
      rw [hw, e1, e2, nI_clamp (by omega), nI_clamp (by omega), nI_clamp (by omega), List.getD_eq_getElem?_getD (l := ms), hb]
      cases b <;> rfl
    refine ev_go 3 (fun _ => rfl) ?_
    refine ev_ic_ge rfl rfl (fun n => absurd n (nI_ge (by omega) (by omega))) (fun _ => ?_)
    refine ev_go 3 (fun _ => rfl) ?_
    refine ev_aald rfl rfl (by decide) (mm_ix_nI (by omega)) (cR_at (by omega)) ?_
    refine ev_go 2 (fun _ => rfl) ?_
    refine ev_callT (y' := 36) (q := 12 + t) (As := []) rfl rfl rfl rfl rfl (by intro v hv; cases hv) (cH_tk h2) (sp_turn xs _ T) (Or.inr ⟨_, rfl⟩) ?_
    rw [cH_set, set_self h2, hw]
    refine ev_go 7 (fun _ => rfl) ?_
    refine ev_gfT rfl rfl (cH_tk h2) rfl ?_
    refine ev_go 1 (fun _ => rfl) ?_
    refine ev_gfT rfl rfl (cH_tk h2) rfl ?_
    rw [e1, e2]
    refine ev_call (y' := 18) rfl rfl rfl rfl (sp_doMeet xs _ len mem hour bg _ sn _ mg kd ph pc sb st ss pa pt mt ms _ i j b hi hj hb) ?_
    refine ev_go 3 (fun _ => rfl) ?_
    refine ev_iald rfl rfl (mm_ix_nI (by omega)) (getD_at (by omega)) ?_
    refine ev_go 3 (fun _ => rfl) ?_
    refine ev_iald rfl rfl (mm_ix_nI (by omega)) (getD_at (by omega)) ?_
    refine ev_go 2 (fun _ => rfl) ?_
    refine ev_callT (y' := 38) (q := 12 + t) (As := [.int (bI b), .int (kd.getD w 0), .int (mt.getD w 0), .int mem]) rfl rfl rfl rfl rfl (by intro v hv; simp at hv; rcases hv with rfl | rfl | rfl | rfl <;> exact ⟨_, rfl⟩) (cH_tk h2) (sp_pass xs d T b (kd.getD w 0) (mt.getD w 0) mem) (Or.inr ⟨_, rfl⟩) ?_
    rw [cH_set, ← e3, mapUp_s (f := fun T => (T_hr kd mt ms mem T).2) h0]
    refine ev_go 4 (ls' := [some (.ref 0), some (.int (nI t + Int32.ofInt 1)), some (.ref (12 + t)), some (.int (nI w))]) (h1 := cH (cO len mem hour bg (nI TN) sn (T_wd kd mt ms mem wd (rw.take t) + (T_hr kd mt ms mem T).1) mg) kd ph pc sb st ss pa pt mt ms (mapUp (fun T => (T_hr kd mt ms mem T).2) (t + 1) rw)) (fun _ => rfl) ?_
    rw [nI_inc, ← T_wd_s h0]
    exact ih (t + 1) (by omega) _ _
end CN5

def leI (w : Int32) : Int32 := if w = 2 then 1 else 0
def moI (len w : Int32) : Int32 := if w = 0 then 3 else if w = 1 then 2 * len - 1 else 9
/-- may a part of a barge be v -/
def mayI (len w v : Int32) : Bool := decide (¬ w < 0) && (decide (¬ 2 < w) && (decide (¬ v < leI w) && decide (¬ moI len w < v)))
/-- a sum over Talks, over numbers; the longest silence -/
def smT (k : Nat) (l : List TT) : Int32 := l.foldl (fun a T => a + T_tell T k) 0
def smI (l : List Int32) : Int32 := l.foldl (fun a x => a + x) 0
def lgT (l : List TT) : Int32 := l.foldl (fun a T => mxI a T.2.2.2.2.1) 0
theorem take_s {α : Type} {l : List α} {t : Nat} {a : α} (h : l[t]? = some a) : l.take (t + 1) = l.take t ++ [a] := by
  rw [List.take_add_one, h]
  rfl
theorem smT_s {k t : Nat} {l : List TT} {T : TT} (h : l[t]? = some T) : smT k (l.take (t + 1)) = smT k (l.take t) + T_tell T k := by
  unfold smT
  rw [take_s h, List.foldl_append]
  rfl
theorem smI_s {t : Nat} {l : List Int32} {x : Int32} (h : l[t]? = some x) : smI (l.take (t + 1)) = smI (l.take t) + x := by
  unfold smI
  rw [take_s h, List.foldl_append]
  rfl
theorem lgT_s {t : Nat} {l : List TT} {T : TT} (h : l[t]? = some T) : lgT (l.take (t + 1)) = mxI (lgT (l.take t)) T.2.2.2.2.1 := by
  unfold lgT
  rw [take_s h, List.foldl_append]
  rfl
section CN1
variable (xs : List Int32) (d : Nat) (len mem hour bg tn sn wd mg : Int32) (kd ph pc sb st ss pa pt mt ms : List Int32) (rw : List TT)
set_option maxRecDepth 100000 in
theorem sp_least (w : Int32) : Ev xs d 7 0 [some (.ref 0), some (.int w)] [] (cH (cO len mem hour bg tn sn wd mg) kd ph pc sb st ss pa pt mt ms rw) (some (.int (leI w))) (cH (cO len mem hour bg tn sn wd mg) kd ph pc sb st ss pa pt mt ms rw) := by
  unfold leI
  refine ev_go 2 (fun _ => rfl) ?_
  split
  · rename_i c
    exact ev_ic_ne rfl rfl (fun n => absurd c n) (fun _ => ev_end 3 rfl)
  · rename_i c
    exact ev_ic_ne rfl rfl (fun _ => ev_end 2 rfl) (fun n => absurd c n)
set_option maxRecDepth 100000 in
theorem sp_most (w : Int32) : Ev xs (d + 1) 8 0 [some (.ref 0), some (.int w)] [] (cH (cO len mem hour bg tn sn wd mg) kd ph pc sb st ss pa pt mt ms rw) (some (.int (moI len w))) (cH (cO len mem hour bg tn sn wd mg) kd ph pc sb st ss pa pt mt ms rw) := by
  unfold moI
  refine ev_go 1 (fun _ => rfl) ?_
  split
  · rename_i c
    exact ev_if_ne rfl rfl (fun n => absurd c n) (fun _ => ev_end 2 rfl)
  · rename_i c
    refine ev_if_ne rfl rfl (fun _ => ?_) (fun n => absurd c n)
    refine ev_go 2 (fun _ => rfl) ?_
    split
    · rename_i c2
      refine ev_ic_ne rfl rfl (fun n => absurd c2 n) (fun _ => ?_)
      refine ev_go 1 (fun _ => rfl) ?_
      refine ev_call (y' := 5) rfl rfl rfl rfl (sp_way xs d len mem hour bg tn sn wd mg kd ph pc sb st ss pa pt mt ms rw) ?_
      exact ev_end 4 rfl
    · rename_i c2
      exact ev_ic_ne rfl rfl (fun _ => ev_end 2 rfl) (fun n => absurd c2 n)
set_option maxRecDepth 100000 in
theorem sp_mayBe (w v : Int32) : Ev xs (d + 2) 9 0 [some (.ref 0), some (.int w), some (.int v)] [] (cH (cO len mem hour bg tn sn wd mg) kd ph pc sb st ss pa pt mt ms rw) (some (.int (bI (mayI len w v)))) (cH (cO len mem hour bg tn sn wd mg) kd ph pc sb st ss pa pt mt ms rw) := by
  unfold mayI
  refine ev_go 1 (fun _ => rfl) ?_
  by_cases c : w < 0
  · refine ev_if_lt rfl rfl (fun _ => ?_) (fun n => absurd c n)
    rw [decide_eq_false (fun n => n c)]
    exact ev_end 2 rfl
  · refine ev_if_lt rfl rfl (fun n => absurd n c) (fun _ => ?_)
    rw [decide_eq_true c]
    refine ev_go 2 (fun _ => rfl) ?_
    by_cases c2 : 2 < w
    · refine ev_ic_gt rfl rfl (fun _ => ?_) (fun n => absurd c2 n)
      rw [decide_eq_false (fun n => n c2)]
      exact ev_end 2 rfl
    · refine ev_ic_gt rfl rfl (fun n => absurd n c2) (fun _ => ?_)
      rw [decide_eq_true c2]
      refine ev_go 3 (fun _ => rfl) ?_
      refine ev_call (y' := 7) rfl rfl rfl rfl (sp_least xs _ len mem hour bg tn sn wd mg kd ph pc sb st ss pa pt mt ms rw w) ?_
      by_cases c3 : v < leI w
      · refine ev_ic_lt rfl rfl (fun _ => ?_) (fun n => absurd c3 n)
        rw [decide_eq_false (fun n => n c3)]
        exact ev_end 2 rfl
      · refine ev_ic_lt rfl rfl (fun n => absurd n c3) (fun _ => ?_)
        rw [decide_eq_true c3]
        refine ev_go 3 (fun _ => rfl) ?_
        refine ev_call (y' := 8) rfl rfl rfl rfl (sp_most xs d len mem hour bg tn sn wd mg kd ph pc sb st ss pa pt mt ms rw w) ?_
        by_cases c4 : moI len w < v
        · refine ev_ic_gt rfl rfl (fun _ => ?_) (fun n => absurd c4 n)
          rw [decide_eq_false (fun n => n c4)]
          exact ev_end 2 rfl
        · refine ev_ic_gt rfl rfl (fun n => absurd n c4) (fun _ => ?_)
          rw [decide_eq_true c4]
          exact ev_end 3 rfl
set_option maxRecDepth 100000 in
theorem sp_put0 (b v x : Int32) (k : Nat) (hb : mm_ix b = some k) (hk : kd[k]? = some x) : Ev xs d 10 0 [some (.ref 0), some (.int b), some (.int 0), some (.int v), none, none] [] (cH (cO len mem hour bg tn sn wd mg) kd ph pc sb st ss pa pt mt ms rw) (some (.int x)) (cH (cO len mem hour bg tn sn wd mg) (kd.set k v) ph pc sb st ss pa pt mt ms rw) := by
  refine ev_go 8 (fun _ => rfl) ?_
  refine ev_iald rfl rfl hb hk ?_
  refine ev_go 4 (fun _ => rfl) ?_
  refine ev_iast rfl rfl hb (List.getElem?_eq_some_iff.mp hk).1 ?_
  exact ev_end 2 rfl
set_option maxRecDepth 100000 in
theorem sp_put1 (b v x : Int32) (k : Nat) (hb : mm_ix b = some k) (hk : ph[k]? = some x) : Ev xs d 10 0 [some (.ref 0), some (.int b), some (.int 1), some (.int v), none, none] [] (cH (cO len mem hour bg tn sn wd mg) kd ph pc sb st ss pa pt mt ms rw) (some (.int x)) (cH (cO len mem hour bg tn sn wd mg) kd (ph.set k v) pc sb st ss pa pt mt ms rw) := by
  refine ev_go 11 (fun _ => rfl) ?_
  refine ev_iald rfl rfl hb hk ?_
  refine ev_go 4 (fun _ => rfl) ?_
  refine ev_iast rfl rfl hb (List.getElem?_eq_some_iff.mp hk).1 ?_
  exact ev_end 2 rfl
set_option maxRecDepth 100000 in
theorem sp_put2 (b v x : Int32) (k : Nat) (hb : mm_ix b = some k) (hk : pc[k]? = some x) : Ev xs d 10 0 [some (.ref 0), some (.int b), some (.int 2), some (.int v), none, none] [] (cH (cO len mem hour bg tn sn wd mg) kd ph pc sb st ss pa pt mt ms rw) (some (.int x)) (cH (cO len mem hour bg tn sn wd mg) kd ph (pc.set k v) sb st ss pa pt mt ms rw) := by
  refine ev_go 10 (fun _ => rfl) ?_
  refine ev_iald rfl rfl hb hk ?_
  refine ev_go 4 (fun _ => rfl) ?_
  refine ev_iast rfl rfl hb (List.getElem?_eq_some_iff.mp hk).1 ?_
  exact ev_end 2 rfl
set_option maxRecDepth 100000 in
theorem sp_addB (a b c : Int32) (k : Nat) (hb : mm_ix bg = some k) (h1 : k < kd.length) (h2 : k < ph.length) (h3 : k < pc.length) : Ev xs d 11 0 [some (.ref 0), some (.int a), some (.int b), some (.int c)] [] (cH (cO len mem hour bg tn sn wd mg) kd ph pc sb st ss pa pt mt ms rw) none (cH (cO len mem hour (bg + 1) tn sn wd mg) (kd.set k a) (ph.set k b) (pc.set k c) sb st ss pa pt mt ms rw) := by
  refine ev_go 5 (fun _ => rfl) ?_
  refine ev_iast rfl rfl hb h1 ?_
  refine ev_go 5 (fun _ => rfl) ?_
  refine ev_iast rfl rfl hb h2 ?_
  refine ev_go 5 (fun _ => rfl) ?_
  refine ev_iast rfl rfl hb h3 ?_
  exact ev_end 7 rfl
set_option maxRecDepth 100000 in
theorem sp_addS (a b c : Int32) (k : Nat) (hb : mm_ix sn = some k) (h1 : k < sb.length) (h2 : k < st.length) (h3 : k < ss.length) : Ev xs d 13 0 [some (.ref 0), some (.int a), some (.int b), some (.int c)] [] (cH (cO len mem hour bg tn sn wd mg) kd ph pc sb st ss pa pt mt ms rw) none (cH (cO len mem hour bg tn (sn + 1) wd mg) kd ph pc (sb.set k a) (st.set k b) (ss.set k c) pa pt mt ms rw) := by
  refine ev_go 5 (fun _ => rfl) ?_
  refine ev_iast rfl rfl hb h1 ?_
  refine ev_go 5 (fun _ => rfl) ?_
  refine ev_iast rfl rfl hb h2 ?_
  refine ev_go 5 (fun _ => rfl) ?_
  refine ev_iast rfl rfl hb h3 ?_
  exact ev_end 7 rfl
set_option maxRecDepth 100000 in
theorem sp_addT (a b c : Int32) (k : Nat) (T : TT) (hb : mm_ix tn = some k) (hk : k < 6) (hT : rw[k]? = some T) : Ev xs (d + 2) 12 0 [some (.ref 0), some (.int a), some (.int b), some (.int c)] [] (cH (cO len mem hour bg tn sn wd mg) kd ph pc sb st ss pa pt mt ms rw) none (cH (cO len mem hour bg (tn + 1) sn wd mg) kd ph pc sb st ss pa pt mt ms (rw.set k (a, b, c, 0, 0, false, 0, 0, 0, 0))) := by
  refine ev_go 4 (fun _ => rfl) ?_
  refine ev_aald rfl rfl (by decide) hb (cR_at hk) ?_
  refine ev_go 3 (fun _ => rfl) ?_
  refine ev_callT (y' := 33) (q := 12 + k) (As := [.int a, .int b, .int c]) (T := T) rfl rfl rfl rfl rfl (by intro v hv; simp at hv; rcases hv with rfl | rfl | rfl <;> exact ⟨_, rfl⟩) (cH_tk hT) (sp_begin xs d T a b c) (Or.inl rfl) ?_
  rw [cH_set]
  exact ev_end 7 rfl
/-- the sum's loop -/
theorem lp_sum (TN k : Nat) (hk : k ≤ 10) (hTN : TN ≤ 6) (hrw : rw.length = 6) : ∀ m t, t + m = TN → Ev xs (d + 2) 23 4 [some (.ref 0), some (.int (nI k)), some (.int (smT k (rw.take t))), some (.int (nI t))] [] (cH (cO len mem hour bg (nI TN) sn wd mg) kd ph pc sb st ss pa pt mt ms rw) (some (.int (smT k (rw.take TN)))) (cH (cO len mem hour bg (nI TN) sn wd mg) kd ph pc sb st ss pa pt mt ms rw) := by
  intro m
  induction m with
  | zero =>
    intro t ht
    have e : t = TN := by omega
    subst e
    refine ev_go 3 (fun _ => rfl) ?_
    refine ev_ic_ge rfl rfl (fun _ => ?_) (fun n => absurd (nI_le (Nat.le_refl _) (by omega)) n)
    exact ev_end 2 rfl
  | succ m ih =>
    intro t ht
    have hT : rw[t]? = some rw[t] := List.getElem?_eq_getElem (by omega)
    refine ev_go 3 (fun _ => rfl) ?_
    refine ev_ic_ge rfl rfl (fun n => absurd n (nI_ge (by omega) (by omega))) (fun _ => ?_)
    refine ev_go 4 (fun _ => rfl) ?_
    refine ev_aald rfl rfl (by decide) (mm_ix_nI (by omega)) (cR_at (by omega)) ?_
    refine ev_go 1 (fun _ => rfl) ?_
    refine ev_callT (y' := 35) (q := 12 + t) (As := [.int (nI k)]) rfl rfl rfl rfl rfl (by intro v hv; simp at hv; exact ⟨_, hv⟩) (cH_tk hT) (sp_tell xs d _ k hk) (Or.inr ⟨_, rfl⟩) ?_
    rw [cH_set, set_self hT]
    refine ev_go 4 (ls' := [some (.ref 0), some (.int (nI k)), some (.int (smT k (rw.take t) + T_tell rw[t] k)), some (.int (nI t + Int32.ofInt 1))]) (fun _ => rfl) ?_
    rw [nI_inc, ← smT_s hT]
    exact ih (t + 1) (by omega)
theorem sp_sum (TN k : Nat) (hk : k ≤ 10) (hTN : TN ≤ 6) (hrw : rw.length = 6) : Ev xs (d + 2) 23 0 [some (.ref 0), some (.int (nI k)), none, none] [] (cH (cO len mem hour bg (nI TN) sn wd mg) kd ph pc sb st ss pa pt mt ms rw) (some (.int (smT k (rw.take TN)))) (cH (cO len mem hour bg (nI TN) sn wd mg) kd ph pc sb st ss pa pt mt ms rw) := by
  refine ev_go 4 (fun _ => rfl) ?_
  exact lp_sum xs d len mem hour bg sn wd mg kd ph pc sb st ss pa pt mt ms rw TN k hk hTN hrw TN 0 (by omega)
end CN1

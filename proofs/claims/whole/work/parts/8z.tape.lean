/-! The Tape: tokens -/
def tpB (p : TP) (by_ : List Int32) (K : CK) : MH := tpO 0 p :: .inl (2, by_) :: bH 2 K
def bsel (b : Bool) (x y : Int32) : Int32 := match b with
  | true => x
  | false => y
theorem cls_le (c : Nat) : cls c ≤ 4 := by
  unfold cls
  split
  · omega
  · split
    · omega
    · split <;> omega
section TK
variable (xs : List Int32) (d : Nat) (h : MH)
theorem sp_tbb (c : Nat) (hc : c < 128) : Ev xs d 56 0 [some (.int (nI c))] [] h (some (.int (nI (cls c)))) h := by
  unfold cls
  refine ev_go 2 (fun _ => rfl) ?_
  have two : (¬ (48 ≤ c ∧ c ≤ 57) → Ev xs d 56 28 [some (.int (nI c))] [] h (some (.int (nI (if c = 59 then 3 else 4)))) h) ∧ True := by
    refine ⟨fun _ => ?_, trivial⟩
    refine ev_go 2 (fun _ => rfl) ?_
    by_cases c3 : c = 59
    · rw [if_pos c3]
      refine ev_ic_ne rfl rfl (fun n => absurd n (fun n => n (by rw [c3]; rfl))) (fun _ => ?_)
      exact ev_end 3 rfl
    · rw [if_neg c3]
      refine ev_ic_ne rfl rfl (fun _ => ?_) (fun n => absurd (nI_neq (a := c) (b := 59) c3 (by omega) (by omega)) n)
      exact ev_end 2 rfl
  have one : ¬ (97 ≤ c ∧ c ≤ 122) → Ev xs d 56 14 [some (.int (nI c))] [] h (some (.int (nI (if 48 ≤ c ∧ c ≤ 57 then 2 else if c = 59 then 3 else 4)))) h := by
    intro _
    refine ev_go 2 (fun _ => rfl) ?_
    by_cases c1 : 48 ≤ c
    · refine ev_ic_lt rfl rfl (fun n => absurd n (nI_nlt (a := c) (b := 48) c1 (by omega))) (fun _ => ?_)
      refine ev_go 2 (fun _ => rfl) ?_
      by_cases c2 : c ≤ 57
      · rw [if_pos ⟨c1, c2⟩]
        refine ev_ic_gt rfl rfl (fun n => absurd n (nI_nlt (a := 57) (b := c) c2 (by omega))) (fun _ => ?_)
        exact ev_end 2 rfl
      · rw [if_neg (fun q => c2 q.2)]
        refine ev_ic_gt rfl rfl (fun _ => ?_) (fun n => absurd (nI_lt (a := 57) (b := c) (by omega) (by omega)) n)
        exact two.1 (fun q => c2 q.2)
    · rw [if_neg (fun q => c1 q.1)]
      refine ev_ic_lt rfl rfl (fun _ => ?_) (fun n => absurd (nI_lt (a := c) (b := 48) (by omega) (by omega)) n)
      exact two.1 (fun q => c1 q.1)
  by_cases c1 : 97 ≤ c
  · refine ev_ic_lt rfl rfl (fun n => absurd n (nI_nlt (a := c) (b := 97) c1 (by omega))) (fun _ => ?_)
    refine ev_go 2 (fun _ => rfl) ?_
    by_cases c2 : c ≤ 122
    · rw [if_pos ⟨c1, c2⟩]
      refine ev_ic_gt rfl rfl (fun n => absurd n (nI_nlt (a := 122) (b := c) c2 (by omega))) (fun _ => ?_)
      exact ev_end 2 rfl
    · rw [if_neg (fun q => c2 q.2)]
      refine ev_ic_gt rfl rfl (fun _ => ?_) (fun n => absurd (nI_lt (a := 122) (b := c) (by omega) (by omega)) n)
      exact one (fun q => c2 q.2)
  · rw [if_neg (fun q => c1 q.1)]
    refine ev_ic_lt rfl rfl (fun _ => ?_) (fun n => absurd (nI_lt (a := c) (b := 97) (by omega) (by omega)) n)
    exact one (fun q => c1 q.1)
end TK
/-- the bytes are D's -/
def byD (D : Nat → Nat) (L : Nat) (l : List Int32) : Prop := L ≤ 160 ∧ ∀ q, q < L → l[q]? = some (nI (D q)) ∧ D q < 128
section TN
variable (xs : List Int32) (d : Nat) (K : CK) (by_ : List Int32) (D : Nat → Nat) (L : Nat)
theorem lp_nx1 (c m : Bool) (t t1 t2 v f fp : Int32) (hD : byD D L by_) (rs : Option Value) (R : MH) : ∀ n q, q + n = L → Ev xs d 55 30 [some (.ref 0), some (.int (nI (spn (fun q => decide (D q = 32)) n q))), none] [] (tpB (nI L, c, m, t, t1, t2, v, f, fp) by_ K) rs R → Ev xs d 55 5 [some (.ref 0), some (.int (nI q)), none] [] (tpB (nI L, c, m, t, t1, t2, v, f, fp) by_ K) rs R := by
  have hL := hD.1
  intro n
  induction n with
  | zero =>
    intro q hq kk
    have e : q = L := by omega
    subst e
    refine ev_go 3 (fun _ => rfl) ?_
    refine ev_ic_ge rfl rfl (fun _ => ?_) (fun n => absurd (nI_le (Nat.le_refl _) (by omega)) n)
    exact kk
  | succ n ih =>
    intro q hq kk
    unfold spn at kk
    refine ev_go 3 (fun _ => rfl) ?_
    refine ev_ic_ge rfl rfl (fun n => absurd n (nI_ge (by omega) (by omega))) (fun _ => ?_)
    refine ev_go 3 (fun _ => rfl) ?_
    refine ev_bald rfl (L := by_) rfl (mm_ix_nI (n := q) (by omega)) (hD.2 q (by omega)).1 ?_
    refine ev_go 1 (fun _ => rfl) ?_
    by_cases c0 : D q = 32
    · rw [decide_eq_true c0] at kk
      refine ev_ic_ne rfl rfl (fun n => absurd n (fun n => n (by rw [c0]; rfl))) (fun _ => ?_)
      refine ev_go 2 (ls' := [some (.ref 0), some (.int (nI q + Int32.ofInt 1)), none]) (fun _ => rfl) ?_
      rw [nI_inc]
      exact ih (q + 1) (by omega) kk
    · rw [decide_eq_false c0] at kk
      refine ev_ic_ne rfl rfl (fun _ => ?_) (fun n => absurd (nI_neq (a := D q) (b := 32) c0 (by have := (hD.2 q (by omega)).2; omega) (by omega)) n)
      exact kk
theorem lp_nx2 (k : Nat) (hk : k ≤ 4) (h3 : k ≠ 3) (c m : Bool) (t1 t2 v f fp : Int32) (hD : byD D L by_) (rs : Option Value) (R : MH) : ∀ n q, q + n = L → Ev xs (d + 1) 55 98 [some (.ref 0), some (.int (nI (spn (fun q => decide (cls (D q) = k)) n q))), none] [] (tpB (nI L, c, m, nI k, t1, t2, v, f, fp) by_ K) rs R → Ev xs (d + 1) 55 60 [some (.ref 0), some (.int (nI q)), none] [] (tpB (nI L, c, m, nI k, t1, t2, v, f, fp) by_ K) rs R := by
  have hL := hD.1
  intro n
  induction n with
  | zero =>
    intro q hq kk
    have e : q = L := by omega
    subst e
    refine ev_go 3 (fun _ => rfl) ?_
    refine ev_ic_ge rfl rfl (fun _ => ?_) (fun n => absurd (nI_le (Nat.le_refl _) (by omega)) n)
    exact kk
  | succ n ih =>
    intro q hq kk
    have hc := cls_le (D q)
    unfold spn at kk
    refine ev_go 3 (fun _ => rfl) ?_
    refine ev_ic_ge rfl rfl (fun n => absurd n (nI_ge (by omega) (by omega))) (fun _ => ?_)
    refine ev_go 3 (fun _ => rfl) ?_
    refine ev_bald rfl (L := by_) rfl (mm_ix_nI (n := q) (by omega)) (hD.2 q (by omega)).1 ?_
    refine ev_call (y' := 56) rfl rfl rfl rfl (sp_tbb xs _ _ (D q) (hD.2 q (by omega)).2) ?_
    refine ev_go 2 (fun _ => rfl) ?_
    by_cases c0 : cls (D q) = k
    · rw [decide_eq_true c0] at kk
      refine ev_ic_ne rfl rfl (fun n => absurd n (fun n => n (by rw [c0]))) (fun _ => ?_)
      refine ev_go 4 (fun _ => rfl) ?_
      refine ev_ic_ne rfl rfl (fun _ => ?_) (fun n => absurd (nI_neq (a := k) (b := 3) h3 (by omega) (by omega)) n)
      have := ih (q + 1) (by omega) kk
      rw [← nI_inc] at this
      exact this
    · rw [decide_eq_false c0] at kk
      refine ev_ic_ne rfl rfl (fun _ => ?_) (fun n => absurd (nI_neq c0 (by omega) (by omega)) n)
      exact kk
theorem sp_fail (c m : Bool) (l t t1 t2 v f fp w : Int32) : Ev xs d 54 0 [some (.ref 0), some (.int w)] [] (tpB (l, c, m, t, t1, t2, v, f, fp) by_ K) (some (.int 0)) (tpB (l, c, m, t, t1, t2, v, w, t1) by_ K) := ev_end 9 rfl
/-- behind a token's end: is it one -/
theorem nx_tl (k p e : Nat) (hk : k ≤ 4) (hpe : p ≤ e) (he : e ≤ 160) (b : Bool) (hb : b = (decide (k = 4) || (decide (k = 2) && decide (2 < e - p)))) (c m : Bool) (t2 v f fp : Int32) : Ev xs (d + 1) 55 98 [some (.ref 0), some (.int (nI e)), none] [] (tpB (nI L, c, m, nI k, nI p, t2, v, f, fp) by_ K) (some (.int (bI (!b)))) (tpB (nI L, c, m, nI k, nI p, nI e, v, bsel (b) (1) f, bsel (b) (nI p) fp) by_ K) := by
  have esub : nI e - nI p = nI (e - p) := nI_subN hpe
  have tl : ∀ q : Bool, q = (decide (k = 2) && decide (2 < e - p)) → Ev xs (d + 1) 55 129 [some (.ref 0), some (.int (nI e)), none] [.int (bI q)] (tpB (nI L, c, m, nI k, nI p, nI e, v, f, fp) by_ K) (some (.int (bI (!b)))) (tpB (nI L, c, m, nI k, nI p, nI e, v, bsel (b) (1) f, bsel (b) (nI p) fp) by_ K) := by
    intro q hq
    rw [← hq] at hb
    refine ev_go 4 (fun _ => rfl) ?_
    by_cases c4 : k = 4
    · rw [decide_eq_true c4] at hb
      have hb : b = true := hb
      subst hb
      refine ev_ic_eq rfl rfl (fun _ => ?_) (fun n => absurd (by rw [c4]; rfl) n)
      refine ev_go 2 (fun _ => rfl) ?_
      refine ev_call (y' := 54) rfl rfl rfl rfl (sp_fail xs _ K by_ c m (nI L) (nI k) (nI p) (nI e) v f fp 1) ?_
      exact ev_end 3 rfl
    · rw [decide_eq_false c4] at hb
      have hb : b = q := hb
      subst hb
      refine ev_ic_eq rfl rfl (fun n => absurd n (nI_neq (a := k) (b := 4) c4 (by omega) (by omega))) (fun _ => ?_)
      cases b with
      | true =>
        refine ev_go 4 (fun _ => rfl) ?_
        refine ev_call (y' := 54) rfl rfl rfl rfl (sp_fail xs _ K by_ c m (nI L) (nI k) (nI p) (nI e) v f fp 1) ?_
        exact ev_end 3 rfl
      | false => exact ev_end 5 rfl
  refine ev_go 6 (fun _ => rfl) ?_
  by_cases c2 : k = 2
  · rw [decide_eq_true c2] at tl
    refine ev_ic_ne rfl rfl (fun n => absurd n (fun n => n (by rw [c2]; rfl))) (fun _ => ?_)
    refine ev_go 6 (fun _ => rfl) ?_
    rw [esub]
    by_cases c3 : 2 < e - p
    · rw [decide_eq_true c3] at tl
      refine ev_ic_le rfl rfl (fun n => absurd n (nI_ge (a := 2) (b := e - p) c3 (by omega))) (fun _ => ?_)
      refine ev_go 2 (fun _ => rfl) (tl true rfl)
    · rw [decide_eq_false c3] at tl
      refine ev_ic_le rfl rfl (fun _ => ?_) (fun n => absurd (nI_le (a := e - p) (b := 2) (by omega) (by omega)) n)
      refine ev_go 1 (fun _ => rfl) (tl false rfl)
  · rw [decide_eq_false c2] at tl
    refine ev_ic_ne rfl rfl (fun _ => ?_) (fun n => absurd (nI_neq (a := k) (b := 2) c2 (by omega) (by omega)) n)
    refine ev_go 1 (fun _ => rfl) (tl false rfl)
theorem sp_next (e : Nat) (he : e ≤ L) (hD : byD D L by_) (c m : Bool) (t t1 v f fp : Int32) : Ev xs (d + 1) 55 0 [some (.ref 0), none, none] [] (tpB (nI L, c, m, t, t1, nI e, v, f, fp) by_ K) (some (.int (bI (!tkB D L (tkP D L e))))) (tpB (nI L, c, m, nI (tsK D L (tkP D L e)), nI (tkP D L e), nI (tkE D L (tkP D L e)), v, bsel (tkB D L (tkP D L e)) (1) f, bsel (tkB D L (tkP D L e)) (nI (tkP D L e)) fp) by_ K) := by
  have hL := hD.1
  have hP := tkP_b (D := D) he
  have hE := tkE_b (D := D) hP.2
  refine ev_go 3 (ls' := [some (.ref 0), some (.int (nI e)), none]) (fun _ => rfl) ?_
  refine lp_nx1 xs _ K by_ D L c m t t1 (nI e) v f fp hD _ _ (L - e) e (by omega) ?_
  show Ev _ _ _ _ [some (.ref 0), some (.int (nI (tkP D L e))), none] _ _ _ _
  generalize hp : tkP D L e = P at hP hE
  have hk4 : tsK D L P ≤ 4 := by
    unfold tsK
    split
    · exact cls_le _
    · omega
  have fin := nx_tl xs d K by_ L (tsK D L P) P (tkE D L P) hk4 hE.1 (by omega) (tkB D L P) rfl c m (nI e) v f fp
  by_cases c0 : P < L
  · have ek : tsK D L P = cls (D P) := if_pos c0
    refine ev_go 7 (fun _ => rfl) ?_
    refine ev_ic_ge rfl rfl (fun n => absurd n (nI_ge c0 (by omega))) (fun _ => ?_)
    refine ev_go 3 (fun _ => rfl) ?_
    refine ev_bald rfl (L := by_) rfl (mm_ix_nI (n := P) (by omega)) (hD.2 P c0).1 ?_
    refine ev_call (y' := 56) rfl rfl rfl rfl (sp_tbb xs _ _ (D P) (hD.2 P c0).2) ?_
    refine ev_go 2 (h1 := tpB (nI L, c, m, nI (cls (D P)), nI P, nI e, v, f, fp) by_ K) (fun _ => rfl) ?_
    rw [ek] at fin
    rw [ek]
    by_cases c3 : cls (D P) = 3
    · have ee : tkE D L P = P + 1 := by
        unfold tkE
        rw [if_pos c0, if_pos c3]
      rw [ee] at fin
      rw [ee]
      refine ev_go 3 (fun _ => rfl) ?_
      refine ev_ic_ge rfl rfl (fun n => absurd n (nI_ge c0 (by omega))) (fun _ => ?_)
      refine ev_go 3 (fun _ => rfl) ?_
      refine ev_bald rfl (L := by_) rfl (mm_ix_nI (n := P) (by omega)) (hD.2 P c0).1 ?_
      refine ev_call (y' := 56) rfl rfl rfl rfl (sp_tbb xs _ _ (D P) (hD.2 P c0).2) ?_
      refine ev_go 2 (fun _ => rfl) ?_
      refine ev_ic_ne rfl rfl (fun n => absurd n (fun n => n rfl)) (fun _ => ?_)
      refine ev_go 4 (fun _ => rfl) ?_
      refine ev_ic_ne rfl rfl (fun n => absurd n (fun n => n (by rw [c3]; rfl))) (fun _ => ?_)
      refine ev_go 1 (ls' := [some (.ref 0), some (.int (nI P + Int32.ofInt 1)), none]) (fun _ => rfl) ?_
      rw [nI_inc]
      exact fin
    · have ee : tkE D L P = spn (fun q => decide (cls (D q) = cls (D P))) (L - P) P := by
        unfold tkE
        rw [if_pos c0, if_neg c3]
      rw [ee] at fin
      rw [ee]
      exact lp_nx2 xs d K by_ D L (cls (D P)) (cls_le _) c3 c m (nI P) (nI e) v f fp hD _ _ (L - P) P (by omega) fin
  · have ek : tsK D L P = 0 := if_neg c0
    have ee : tkE D L P = P := if_neg c0
    rw [ek, ee] at fin
    rw [ek, ee]
    refine ev_go 7 (fun _ => rfl) ?_
    refine ev_ic_ge rfl rfl (fun _ => ?_) (fun n => absurd (nI_le (by omega) (by omega)) n)
    refine ev_go 2 (h1 := tpB (nI L, c, m, nI 0, nI P, nI e, v, f, fp) by_ K) (fun _ => rfl) ?_
    refine ev_go 3 (fun _ => rfl) ?_
    refine ev_ic_ge rfl rfl (fun _ => ?_) (fun n => absurd (nI_le (by omega) (by omega)) n)
    exact fin
end TN

/-! The reference reads its text: a line, all -/
def hB1 (ln B : Nat) : Bool := decide (4 ≤ ln ∧ ln < 7) || decide (B < 5)
def hB2 (ln T : Nat) : Bool := !decide (ln = 6) || decide (T < 6)
def hB3 (ln : Nat) (hc : Bool) : Bool := !decide (ln = 4) || !hc
def hB4 (ln : Nat) (hm : Bool) : Bool := !decide (ln = 5) || !hm
/-- the line's name judged -/
def hdZ (q : PZ) (ln B T : Nat) (hc hm : Bool) : PZ := rqZ (rqZ (rqZ (rqZ (rqZ q (!decide (ln = 7)) 2) (hB1 ln B) 5) (hB2 ln T) 5) (hB3 ln hc) 4) (hB4 ln hm) 4
theorem lnM_eq {ln k : Nat} (h : ln ≤ 7) (hk : k < 7) : lnM ln = nI k ↔ ln = k := by
  unfold lnM
  by_cases c : ln = 7
  · rw [if_pos c]
    constructor
    · intro w
      exact absurd w.symm (nI_nn4 (by omega))
    · intro w
      omega
  · rw [if_neg c]
    exact nI_eq (by omega) (by omega)
theorem rqZ_3 (q : PZ) (b : Bool) (c : Int32) : (rqZ q b c).1 = q.1 ∧ (rqZ q b c).2.1 = q.2.1 := by
  unfold rqZ
  cases b with
  | true => exact ⟨rfl, rfl⟩
  | false =>
    dsimp only
    split <;> exact ⟨rfl, rfl⟩
def flZ (q : PZ) (a b : Bool) : PZ := (a, b, q.2.2)
section MLI
variable (xs : List Int32) (d : Nat) (z : ZT) (nw eb wa ms mt : List Int32) (cc : C4) (D : Nat → Nat) (L : Nat)
theorem sp_hdr (q0 : PZ) (ln B T : Nat) (hln : ln ≤ 7) (Kd : CK) (eB : Kd.1.2.2.2.1 = nI B) (hB : B ≤ 5) (eT : Kd.1.2.2.2.2.1 = nI T) (hT : T ≤ 6) (rs : Option Value) (R : MH) (kk : Ev xs (d + 1) 127 174 [some (.ref 0), some (.int (lnM ln))] [] (mH (zR z (flZ (hdZ q0 ln B T q0.1 q0.2.1) (q0.1 || decide (ln = 4)) (q0.2.1 || decide (ln = 5))) (flK Kd)) nw eb wa ms mt cc) rs R) : Ev xs (d + 1) 127 18 [some (.ref 0), some (.int (lnM ln))] [] (mH (zR z q0 (flK Kd)) nw eb wa ms mt cc) rs R := by
  have m7 : ∀ h : ln = 7, lnM ln = -4 := fun h => if_pos h
  have mI : ∀ h : ¬ ln = 7, lnM ln = nI ln := fun h => if_neg h
  -- the flags
  have tl5 : ∀ q : PZ, q.1 = q0.1 → q.2.1 = q0.2.1 → Ev xs (d + 1) 127 174 [some (.ref 0), some (.int (lnM ln))] [] (mH (zR z (flZ q (q0.1 || decide (ln = 4)) (q0.2.1 || decide (ln = 5))) (flK Kd)) nw eb wa ms mt cc) rs R → Ev xs (d + 1) 127 132 [some (.ref 0), some (.int (lnM ln))] [] (mH (zR z q (flK Kd)) nw eb wa ms mt cc) rs R := by
    intro q e1 e2 hr
    rw [← e1, ← e2] at hr
    obtain ⟨a, b, q3⟩ := q
    have tlB : ∀ a2 : Bool, Ev xs (d + 1) 127 174 [some (.ref 0), some (.int (lnM ln))] [] (mH (zR z (a2, b || decide (ln = 5), q3) (flK Kd)) nw eb wa ms mt cc) rs R → Ev xs (d + 1) 127 153 [some (.ref 0), some (.int (lnM ln))] [] (mH (zR z (a2, b, q3) (flK Kd)) nw eb wa ms mt cc) rs R := by
      intro a2 hr
      cases b with
      | true =>
        refine ev_go 7 (h1 := mH (zR z (a2, true, q3) (flK Kd)) nw eb wa ms mt cc) (fun _ => rfl) hr
      | false =>
        refine ev_go 6 (fun _ => rfl) ?_
        by_cases c : ln = 5
        · rw [decide_eq_true c] at hr
          refine ev_ic_ne rfl rfl (fun n => absurd n (fun w => w ((lnM_eq hln (by decide)).mpr c))) (fun _ => ?_)
          refine ev_go 3 (h1 := mH (zR z (a2, true, q3) (flK Kd)) nw eb wa ms mt cc) (fun _ => rfl) hr
        · rw [decide_eq_false c] at hr
          refine ev_ic_ne rfl rfl (fun _ => ?_) (fun n => absurd (fun w => c ((lnM_eq (k := 5) hln (by decide)).mp w)) n)
          refine ev_go 2 (h1 := mH (zR z (a2, false, q3) (flK Kd)) nw eb wa ms mt cc) (fun _ => rfl) hr
    cases a with
    | true =>
      refine ev_go 7 (h1 := mH (zR z (true, b, q3) (flK Kd)) nw eb wa ms mt cc) (fun _ => rfl) (tlB true hr)
    | false =>
      refine ev_go 6 (fun _ => rfl) ?_
      by_cases c : ln = 4
      · rw [decide_eq_true c] at hr
        refine ev_ic_ne rfl rfl (fun n => absurd n (fun w => w ((lnM_eq hln (by decide)).mpr c))) (fun _ => ?_)
        refine ev_go 3 (h1 := mH (zR z (true, b, q3) (flK Kd)) nw eb wa ms mt cc) (fun _ => rfl) (tlB true hr)
      · rw [decide_eq_false c] at hr
        refine ev_ic_ne rfl rfl (fun _ => ?_) (fun n => absurd (fun w => c ((lnM_eq (k := 4) hln (by decide)).mp w)) n)
        refine ev_go 2 (h1 := mH (zR z (false, b, q3) (flK Kd)) nw eb wa ms mt cc) (fun _ => rfl) (tlB false hr)
  unfold hdZ at kk
  -- memory
  have tl4 : ∀ q : PZ, q.1 = q0.1 → q.2.1 = q0.2.1 → Ev xs (d + 1) 127 132 [some (.ref 0), some (.int (lnM ln))] [] (mH (zR z (rqZ q (hB4 ln q0.2.1) 4) (flK Kd)) nw eb wa ms mt cc) rs R → Ev xs (d + 1) 127 110 [some (.ref 0), some (.int (lnM ln))] [] (mH (zR z q (flK Kd)) nw eb wa ms mt cc) rs R := by
    intro q e1 e2 hr
    have fin : ∀ b : Bool, b = hB4 ln q0.2.1 → Ev xs (d + 1) 127 128 [some (.ref 0), some (.int (lnM ln))] [.int (bI b), .ref 0] (mH (zR z q (flK Kd)) nw eb wa ms mt cc) rs R := by
      intro b hb
      rw [← hb] at hr
      refine ev_go 1 (fun _ => rfl) ?_
      refine ev_call (y' := 117) rfl rfl rfl rfl (sp_rq xs _ z nw eb wa ms mt cc q b 4 (flK Kd)) ?_
      exact hr
    unfold hB4 at fin
    refine ev_go 3 (fun _ => rfl) ?_
    by_cases c : ln = 5
    · rw [decide_eq_true c] at fin
      refine ev_ic_ne rfl rfl (fun n => absurd n (fun w => w ((lnM_eq hln (by decide)).mpr c))) (fun _ => ?_)
      obtain ⟨a, b, q3⟩ := q
      dsimp only at e2
      rw [← e2] at fin
      cases b with
      | true => exact ev_go 4 (fun _ => rfl) (fin false rfl)
      | false => exact ev_go 5 (fun _ => rfl) (fin true rfl)
    · rw [decide_eq_false c] at fin
      refine ev_ic_ne rfl rfl (fun _ => ?_) (fun n => absurd (fun w => c ((lnM_eq (k := 5) hln (by decide)).mp w)) n)
      exact ev_go 2 (fun _ => rfl) (fin true rfl)
  have tl3 : ∀ q : PZ, q.1 = q0.1 → Ev xs (d + 1) 127 110 [some (.ref 0), some (.int (lnM ln))] [] (mH (zR z (rqZ q (hB3 ln q0.1) 4) (flK Kd)) nw eb wa ms mt cc) rs R → Ev xs (d + 1) 127 88 [some (.ref 0), some (.int (lnM ln))] [] (mH (zR z q (flK Kd)) nw eb wa ms mt cc) rs R := by
    intro q e1 hr
    have fin : ∀ b : Bool, b = hB3 ln q0.1 → Ev xs (d + 1) 127 106 [some (.ref 0), some (.int (lnM ln))] [.int (bI b), .ref 0] (mH (zR z q (flK Kd)) nw eb wa ms mt cc) rs R := by
      intro b hb
      rw [← hb] at hr
      refine ev_go 1 (fun _ => rfl) ?_
      refine ev_call (y' := 117) rfl rfl rfl rfl (sp_rq xs _ z nw eb wa ms mt cc q b 4 (flK Kd)) ?_
      exact hr
    unfold hB3 at fin
    refine ev_go 3 (fun _ => rfl) ?_
    by_cases c : ln = 4
    · rw [decide_eq_true c] at fin
      refine ev_ic_ne rfl rfl (fun n => absurd n (fun w => w ((lnM_eq hln (by decide)).mpr c))) (fun _ => ?_)
      obtain ⟨a, b, q3⟩ := q
      dsimp only at e1
      rw [← e1] at fin
      cases a with
      | true => exact ev_go 4 (fun _ => rfl) (fin false rfl)
      | false => exact ev_go 5 (fun _ => rfl) (fin true rfl)
    · rw [decide_eq_false c] at fin
      refine ev_ic_ne rfl rfl (fun _ => ?_) (fun n => absurd (fun w => c ((lnM_eq (k := 4) hln (by decide)).mp w)) n)
      exact ev_go 2 (fun _ => rfl) (fin true rfl)
  have tl2 : ∀ q : PZ, Ev xs (d + 1) 127 88 [some (.ref 0), some (.int (lnM ln))] [] (mH (zR z (rqZ q (hB2 ln T) 5) (flK Kd)) nw eb wa ms mt cc) rs R → Ev xs (d + 1) 127 60 [some (.ref 0), some (.int (lnM ln))] [] (mH (zR z q (flK Kd)) nw eb wa ms mt cc) rs R := by
    intro q hr
    have fin : ∀ b : Bool, b = hB2 ln T → Ev xs (d + 1) 127 84 [some (.ref 0), some (.int (lnM ln))] [.int (bI b), .ref 0] (mH (zR z q (flK Kd)) nw eb wa ms mt cc) rs R := by
      intro b hb
      rw [← hb] at hr
      refine ev_go 1 (fun _ => rfl) ?_
      refine ev_call (y' := 117) rfl rfl rfl rfl (sp_rq xs _ z nw eb wa ms mt cc q b 5 (flK Kd)) ?_
      exact hr
    unfold hB2 at fin
    refine ev_go 3 (fun _ => rfl) ?_
    by_cases c : ln = 6
    · rw [decide_eq_true c] at fin
      refine ev_ic_ne rfl rfl (fun n => absurd n (fun w => w ((lnM_eq (k := 6) hln (by decide)).mpr c))) (fun _ => ?_)
      refine ev_go 3 (fun _ => rfl) ?_
      refine ev_iald rfl (L := flK Kd) rfl (k := 67) rfl fq_67 ?_
      rw [eT]
      refine ev_go 1 (fun _ => rfl) ?_
      by_cases c2 : T < 6
      · rw [decide_eq_true c2] at fin
        refine ev_ic_ge rfl rfl (fun n => absurd n (nI_ge (a := T) (b := 6) c2 (by omega))) (fun _ => ?_)
        exact ev_go 2 (fun _ => rfl) (fin true rfl)
      · rw [decide_eq_false c2] at fin
        refine ev_ic_ge rfl rfl (fun _ => ?_) (fun n => absurd (nI_le (a := 6) (b := T) (by omega) (by omega)) n)
        exact ev_go 1 (fun _ => rfl) (fin false rfl)
    · rw [decide_eq_false c] at fin
      refine ev_ic_ne rfl rfl (fun _ => ?_) (fun n => absurd (fun w => c ((lnM_eq (k := 6) hln (by decide)).mp w)) n)
      exact ev_go 2 (fun _ => rfl) (fin true rfl)
  have tl1 : ∀ q : PZ, Ev xs (d + 1) 127 60 [some (.ref 0), some (.int (lnM ln))] [] (mH (zR z (rqZ q (hB1 ln B) 5) (flK Kd)) nw eb wa ms mt cc) rs R → Ev xs (d + 1) 127 34 [some (.ref 0), some (.int (lnM ln))] [] (mH (zR z q (flK Kd)) nw eb wa ms mt cc) rs R := by
    intro q hr
    have fin : ∀ b : Bool, b = hB1 ln B → Ev xs (d + 1) 127 56 [some (.ref 0), some (.int (lnM ln))] [.int (bI b), .ref 0] (mH (zR z q (flK Kd)) nw eb wa ms mt cc) rs R := by
      intro b hb
      rw [← hb] at hr
      refine ev_go 1 (fun _ => rfl) ?_
      refine ev_call (y' := 117) rfl rfl rfl rfl (sp_rq xs _ z nw eb wa ms mt cc q b 5 (flK Kd)) ?_
      exact hr
    unfold hB1 at fin
    refine ev_go 3 (fun _ => rfl) ?_
    by_cases c : 4 ≤ ln ∧ ln < 7
    · rw [decide_eq_true c] at fin
      refine ev_ic_ge rfl rfl (fun _ => ?_) (fun n => absurd (by rw [mI (by omega)]; exact nI_le (a := 4) (b := ln) c.1 (by omega)) n)
      exact ev_go 2 (fun _ => rfl) (fin true rfl)
    · rw [decide_eq_false c] at fin
      have hn : ¬ Int32.ofInt 4 ≤ lnM ln := by
        by_cases c7 : ln = 7
        · rw [m7 c7]
          decide
        · rw [mI c7]
          exact nI_ge (a := ln) (b := 4) (by omega) (by omega)
      refine ev_ic_ge rfl rfl (fun n => absurd n (hn)) (fun _ => ?_)
      refine ev_go 3 (fun _ => rfl) ?_
      refine ev_iald rfl (L := flK Kd) rfl (k := 18) rfl fq_18 ?_
      rw [eB]
      refine ev_go 1 (fun _ => rfl) ?_
      by_cases c2 : B < 5
      · rw [decide_eq_true c2] at fin
        refine ev_ic_ge rfl rfl (fun n => absurd n (nI_ge (a := B) (b := 5) c2 (by omega))) (fun _ => ?_)
        exact ev_go 2 (fun _ => rfl) (fin true rfl)
      · rw [decide_eq_false c2] at fin
        refine ev_ic_ge rfl rfl (fun _ => ?_) (fun n => absurd (nI_le (a := 5) (b := B) (by omega) (by omega)) n)
        exact ev_go 1 (fun _ => rfl) (fin false rfl)
  have tl0 : ∀ q : PZ, Ev xs (d + 1) 127 34 [some (.ref 0), some (.int (lnM ln))] [] (mH (zR z (rqZ q (!decide (ln = 7)) 2) (flK Kd)) nw eb wa ms mt cc) rs R → Ev xs (d + 1) 127 18 [some (.ref 0), some (.int (lnM ln))] [] (mH (zR z q (flK Kd)) nw eb wa ms mt cc) rs R := by
    intro q hr
    have fin : ∀ b : Bool, b = !decide (ln = 7) → Ev xs (d + 1) 127 30 [some (.ref 0), some (.int (lnM ln))] [.int (bI b), .ref 0] (mH (zR z q (flK Kd)) nw eb wa ms mt cc) rs R := by
      intro b hb
      rw [← hb] at hr
      refine ev_go 1 (fun _ => rfl) ?_
      refine ev_call (y' := 117) rfl rfl rfl rfl (sp_rq xs _ z nw eb wa ms mt cc q b 2 (flK Kd)) ?_
      exact hr
    refine ev_go 3 (fun _ => rfl) ?_
    by_cases c : ln = 7
    · rw [decide_eq_true c] at fin
      refine ev_ic_eq rfl rfl (fun _ => ?_) (fun n => absurd (m7 c) n)
      exact ev_go 1 (fun _ => rfl) (fin false rfl)
    · rw [decide_eq_false c] at fin
      refine ev_ic_eq rfl rfl (fun n => absurd n (by rw [mI c]; exact nI_nn4 (by omega))) (fun _ => ?_)
      exact ev_go 2 (fun _ => rfl) (fin true rfl)
  have f1 := rqZ_3 q0 (!decide (ln = 7)) 2
  have f2 := rqZ_3 (rqZ q0 (!decide (ln = 7)) 2) (hB1 ln B) 5
  have f3 := rqZ_3 (rqZ (rqZ q0 (!decide (ln = 7)) 2) (hB1 ln B) 5) (hB2 ln T) 5
  have f4 := rqZ_3 (rqZ (rqZ (rqZ q0 (!decide (ln = 7)) 2) (hB1 ln B) 5) (hB2 ln T) 5) (hB3 ln q0.1) 4
  have f5 := rqZ_3 (rqZ (rqZ (rqZ (rqZ q0 (!decide (ln = 7)) 2) (hB1 ln B) 5) (hB2 ln T) 5) (hB3 ln q0.1) 4) (hB4 ln q0.2.1) 4
  refine tl0 _ (tl1 _ (tl2 _ (tl3 _ ?_ (tl4 _ ?_ ?_ (tl5 _ ?_ ?_ kk)))))
  · rw [f3.1, f2.1, f1.1]
  · rw [f4.1, f3.1, f2.1, f1.1]
  · rw [f4.2, f3.2, f2.2, f1.2]
  · rw [f5.1, f4.1, f3.1, f2.1, f1.1]
  · rw [f5.2, f4.2, f3.2, f2.2, f1.2]
end MLI

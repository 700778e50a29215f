/-! The reference reads its text: names, numbers -/
section ML1
variable (xs : List Int32) (d : Nat) (z : ZT) (dr nw eb wa ms mt : List Int32) (cc : C4) (D : Nat → Nat) (L : Nat) (hc hm : Bool) (hi : Int32)
theorem bA_eq {p : Nat} (h : p < L) : bA D L p = nI (D p) := if_pos h
theorem sp_is (hD : byD D L z.2.2.2.2.2.2.2.1) (p e n a b c : Nat) (hn : 3 ≤ n) (hn2 : n ≤ 6) (ha : a < 128) (hb : b < 128) (hcc : c < 128) (hpe : p ≤ e) (he : e ≤ L) (so va f wr : Int32) : Ev xs (d + 1) 119 0 [some (.ref 0), some (.int (nI n)), some (.int (nI a)), some (.int (nI b)), some (.int (nI c))] [] (mH (zR z (hc, hm, hi, nI L, nI e, nI p, so, va, f, wr) dr) nw eb wa ms mt cc) (some (.int (bI (decide (e - p = n) && (decide (D p = a) && (decide (D (p + 1) = b) && decide (D (p + 2) = c))))))) (mH (zR z (hc, hm, hi, nI L, nI e, nI p, so, va, f, wr) dr) nw eb wa ms mt cc) := by
  have hL := hD.1
  have hb0 := sp_byt xs d z dr nw eb wa ms mt cc D L hc hm hi hD (nI e) (nI p) so va f wr p (by omega)
  have hb1 := sp_byt xs d z dr nw eb wa ms mt cc D L hc hm hi hD (nI e) (nI p) so va f wr (p + 1) (by omega)
  have hb2 := sp_byt xs d z dr nw eb wa ms mt cc D L hc hm hi hD (nI e) (nI p) so va f wr (p + 2) (by omega)
  rw [← nI_inc] at hb1
  rw [show nI (p + 2) = nI p + Int32.ofInt 2 from (nI_add p 2).symm] at hb2
  refine ev_go 6 (st' := [.int (nI n), .int (nI e - nI p)]) (fun _ => rfl) ?_
  rw [nI_subN hpe]
  by_cases c0 : e - p = n
  · rw [decide_eq_true c0]
    have h0 := (hD.2 p (by omega)).2
    have h1 := (hD.2 (p + 1) (by omega)).2
    have h2 := (hD.2 (p + 2) (by omega)).2
    rw [bA_eq D L (by omega)] at hb0 hb1 hb2
    refine ev_ic_ne rfl rfl (fun n => absurd n (fun w => w (by rw [c0]))) (fun _ => ?_)
    refine ev_go 3 (fun _ => rfl) ?_
    refine ev_call (y' := 118) rfl rfl rfl rfl (hb0) ?_
    refine ev_go 1 (fun _ => rfl) ?_
    by_cases c1 : D p = a
    · rw [decide_eq_true c1]
      refine ev_ic_ne rfl rfl (fun n => absurd n (fun w => w (by rw [c1]))) (fun _ => ?_)
      refine ev_go 5 (fun _ => rfl) ?_
      refine ev_call (y' := 118) rfl rfl rfl rfl (hb1) ?_
      refine ev_go 1 (fun _ => rfl) ?_
      by_cases c2 : D (p + 1) = b
      · rw [decide_eq_true c2]
        refine ev_ic_ne rfl rfl (fun n => absurd n (fun w => w (by rw [c2]))) (fun _ => ?_)
        refine ev_go 5 (fun _ => rfl) ?_
        refine ev_call (y' := 118) rfl rfl rfl rfl (hb2) ?_
        refine ev_go 1 (fun _ => rfl) ?_
        by_cases c3 : D (p + 2) = c
        · rw [decide_eq_true c3]
          refine ev_ic_ne rfl rfl (fun n => absurd n (fun w => w (by rw [c3]))) (fun _ => ?_)
          exact ev_end 3 rfl
        · rw [decide_eq_false c3]
          refine ev_ic_ne rfl rfl (fun _ => ?_) (fun n => absurd (nI_neq c3 (by omega) (by omega)) n)
          exact ev_end 2 rfl
      · rw [decide_eq_false c2]
        refine ev_ic_ne rfl rfl (fun _ => ?_) (fun n => absurd (nI_neq c2 (by omega) (by omega)) n)
        exact ev_end 2 rfl
    · rw [decide_eq_false c1]
      refine ev_ic_ne rfl rfl (fun _ => ?_) (fun n => absurd (nI_neq c1 (by omega) (by omega)) n)
      exact ev_end 2 rfl
  · rw [decide_eq_false c0]
    refine ev_ic_ne rfl rfl (fun _ => ?_) (fun n => absurd (nI_neq c0 (by omega) (by omega)) n)
    exact ev_end 2 rfl
theorem sp_ei (hD : byD D L z.2.2.2.2.2.2.2.1) (p e a b c : Nat) (ha : a < 128) (hb : b < 128) (hcc : c < 128) (h3 : p + 3 < L) (h4 : b ≠ 0 → p + 4 < L) (h5 : c ≠ 0 → p + 5 < L) (so va f wr : Int32) : Ev xs (d + 1) 120 0 [some (.ref 0), some (.int (nI a)), some (.int (nI b)), some (.int (nI c))] [] (mH (zR z (hc, hm, hi, nI L, nI e, nI p, so, va, f, wr) dr) nw eb wa ms mt cc) (some (.int (bI (decide (D (p + 3) = a) && ((decide (b = 0) || decide (D (p + 4) = b)) && (decide (c = 0) || decide (D (p + 5) = c))))))) (mH (zR z (hc, hm, hi, nI L, nI e, nI p, so, va, f, wr) dr) nw eb wa ms mt cc) := by
  have hL := hD.1
  have hb3 := sp_byt xs d z dr nw eb wa ms mt cc D L hc hm hi hD (nI e) (nI p) so va f wr (p + 3) (by omega)
  have hb4 := sp_byt xs d z dr nw eb wa ms mt cc D L hc hm hi hD (nI e) (nI p) so va f wr (p + 4) (by omega)
  have hb5 := sp_byt xs d z dr nw eb wa ms mt cc D L hc hm hi hD (nI e) (nI p) so va f wr (p + 5) (by omega)
  rw [show nI (p + 3) = nI p + Int32.ofInt 3 from (nI_add p 3).symm] at hb3
  rw [show nI (p + 4) = nI p + Int32.ofInt 4 from (nI_add p 4).symm] at hb4
  rw [show nI (p + 5) = nI p + Int32.ofInt 5 from (nI_add p 5).symm] at hb5
  rw [bA_eq D L h3] at hb3
  have g3 := (hD.2 (p + 3) h3).2
  have tl : Ev xs (d + 1) 120 32 [some (.ref 0), some (.int (nI a)), some (.int (nI b)), some (.int (nI c))] [] (mH (zR z (hc, hm, hi, nI L, nI e, nI p, so, va, f, wr) dr) nw eb wa ms mt cc) (some (.int (bI (decide (c = 0) || decide (D (p + 5) = c))))) (mH (zR z (hc, hm, hi, nI L, nI e, nI p, so, va, f, wr) dr) nw eb wa ms mt cc) := by
    refine ev_go 1 (fun _ => rfl) ?_
    by_cases c0 : c = 0
    · rw [decide_eq_true c0]
      refine ev_if_eq rfl rfl (fun _ => ?_) (fun n => absurd (by rw [c0]; rfl) n)
      exact ev_end 3 rfl
    · rw [decide_eq_false c0, Bool.false_or]
      rw [bA_eq D L (h5 c0)] at hb5
      have g5 := (hD.2 (p + 5) (h5 c0)).2
      refine ev_if_eq rfl rfl (fun n => absurd n (nI_ne0 (Nat.pos_of_ne_zero c0) (by omega))) (fun _ => ?_)
      refine ev_go 5 (fun _ => rfl) ?_
      refine ev_call (y' := 118) rfl rfl rfl rfl (hb5) ?_
      refine ev_go 1 (fun _ => rfl) ?_
      by_cases c1 : D (p + 5) = c
      · rw [decide_eq_true c1]
        refine ev_ic_ne rfl rfl (fun n => absurd n (fun w => w (by rw [c1]))) (fun _ => ?_)
        exact ev_end 3 rfl
      · rw [decide_eq_false c1]
        refine ev_ic_ne rfl rfl (fun _ => ?_) (fun n => absurd (nI_neq c1 (by omega) (by omega)) n)
        exact ev_end 2 rfl
  refine ev_go 5 (fun _ => rfl) ?_
  refine ev_call (y' := 118) rfl rfl rfl rfl (hb3) ?_
  refine ev_go 1 (fun _ => rfl) ?_
  by_cases c1 : D (p + 3) = a
  · rw [decide_eq_true c1, Bool.true_and]
    refine ev_ic_ne rfl rfl (fun n => absurd n (fun w => w (by rw [c1]))) (fun _ => ?_)
    refine ev_go 1 (fun _ => rfl) ?_
    by_cases c0 : b = 0
    · rw [decide_eq_true c0, Bool.true_or, Bool.true_and]
      refine ev_if_eq rfl rfl (fun _ => ?_) (fun n => absurd (by rw [c0]; rfl) n)
      exact tl
    · rw [decide_eq_false c0, Bool.false_or]
      rw [bA_eq D L (h4 c0)] at hb4
      have g4 := (hD.2 (p + 4) (h4 c0)).2
      refine ev_if_eq rfl rfl (fun n => absurd n (nI_ne0 (Nat.pos_of_ne_zero c0) (by omega))) (fun _ => ?_)
      refine ev_go 5 (fun _ => rfl) ?_
      refine ev_call (y' := 118) rfl rfl rfl rfl (hb4) ?_
      refine ev_go 1 (fun _ => rfl) ?_
      by_cases c2 : D (p + 4) = b
      · rw [decide_eq_true c2, Bool.true_and]
        refine ev_ic_ne rfl rfl (fun n => absurd n (fun w => w (by rw [c2]))) (fun _ => ?_)
        exact tl
      · rw [decide_eq_false c2, Bool.false_and]
        refine ev_ic_ne rfl rfl (fun _ => ?_) (fun n => absurd (nI_neq c2 (by omega) (by omega)) n)
        exact ev_end 2 rfl
  · rw [decide_eq_false c1, Bool.false_and]
    refine ev_ic_ne rfl rfl (fun _ => ?_) (fun n => absurd (nI_neq c1 (by omega) (by omega)) n)
    exact ev_end 2 rfl
def lnM (k : Nat) : Int32 := if k = 7 then -4 else nI k
/-- names of three signs, and of more -/
theorem isN3 (p e a b c : Nat) : isN D p e [a, b, c] = (decide (e - p = 3) && (decide (D p = a) && (decide (D (p + 1) = b) && decide (D (p + 2) = c)))) := by
  show (decide (e - p = 3) && (decide (D (p + 0) = a) && (decide (D (p + 1) = b) && (decide (D (p + 2) = c) && true)))) = _
  rw [Bool.and_true]
  rfl
theorem isN4 (p e a b c u : Nat) : isN D p e [a, b, c, u] = ((decide (e - p = 4) && (decide (D p = a) && (decide (D (p + 1) = b) && decide (D (p + 2) = c)))) && (decide (D (p + 3) = u) && true)) := by
  show (decide (e - p = 4) && (decide (D (p + 0) = a) && (decide (D (p + 1) = b) && (decide (D (p + 2) = c) && (decide (D (p + 3) = u) && true))))) = _
  simp only [Bool.and_assoc, Nat.add_zero]
theorem isN5 (p e a b c u v : Nat) : isN D p e [a, b, c, u, v] = ((decide (e - p = 5) && (decide (D p = a) && (decide (D (p + 1) = b) && decide (D (p + 2) = c)))) && (decide (D (p + 3) = u) && (decide (D (p + 4) = v) && true))) := by
  show (decide (e - p = 5) && (decide (D (p + 0) = a) && (decide (D (p + 1) = b) && (decide (D (p + 2) = c) && (decide (D (p + 3) = u) && (decide (D (p + 4) = v) && true)))))) = _
  simp only [Bool.and_assoc, Nat.add_zero]
theorem isN6 (p e a b c u v w : Nat) : isN D p e [a, b, c, u, v, w] = ((decide (e - p = 6) && (decide (D p = a) && (decide (D (p + 1) = b) && decide (D (p + 2) = c)))) && (decide (D (p + 3) = u) && (decide (D (p + 4) = v) && (decide (D (p + 5) = w) && true)))) := by
  show (decide (e - p = 6) && (decide (D (p + 0) = a) && (decide (D (p + 1) = b) && (decide (D (p + 2) = c) && (decide (D (p + 3) = u) && (decide (D (p + 4) = v) && (decide (D (p + 5) = w) && true))))))) = _
  simp only [Bool.and_assoc, Nat.add_zero]
/-- one word asked for, in two steps -/
theorem ask2 {pc : Nat} {ls : ML} {h h' : MH} {r : Option Value} {q1 q2 : Bool} {off : Int} {pT pF : Nat} (hf : fetT 121 pc = some (.ifCond .eq off)) (ht : mm_to pc off = some pF) (k0 : (q1 && q2) = false → Ev xs d 121 pF ls [] h r h') (k1 : q1 = true → Ev xs d 121 (pc + 3) ls [] h r h') : Ev xs d 121 pc ls [.int (bI q1)] h r h' := by
  cases q1 with
  | false => exact ev_if_eq hf ht (fun _ => k0 rfl) (fun n => absurd rfl n)
  | true => exact ev_if_eq hf ht (fun n => absurd n (by decide)) (fun _ => k1 rfl)
theorem sp_lnM (hD : byD D L z.2.2.2.2.2.2.2.1) (p e : Nat) (hpe : p ≤ e) (he : e ≤ L) (so va f wr : Int32) : Ev xs (d + 2) 121 0 [some (.ref 0)] [] (mH (zR z (hc, hm, hi, nI L, nI e, nI p, so, va, f, wr) dr) nw eb wa ms mt cc) (some (.int (lnM (lnO D p e)))) (mH (zR z (hc, hm, hi, nI L, nI e, nI p, so, va, f, wr) dr) nw eb wa ms mt cc) := by
  have hL := hD.1
  have sI := fun n a b c h1 h2 h3 h4 h5 => sp_is xs d z dr nw eb wa ms mt cc D L hc hm hi hD p e n a b c h1 h2 h3 h4 h5 hpe he so va f wr
  have sE := fun a b c h1 h2 h3 h4 h5 h6 => sp_ei xs d z dr nw eb wa ms mt cc D L hc hm hi hD p e a b c h1 h2 h3 h4 h5 h6 so va f wr
  have e0 := isN5 D p e 112 108 97 105 110
  have e1 := isN5 D p e 113 117 105 99 107
  have e2 := isN3 D p e 115 104 121
  have e3 := isN4 D p e 100 101 97 102
  have e4 := isN3 D p e 99 117 116
  have e5 := isN6 D p e 109 101 109 111 114 121
  have e6 := isN4 D p e 116 97 108 107
  have n0 : wds.getD 0 [] = [112, 108, 97, 105, 110] := rfl
  have n1 : wds.getD 1 [] = [113, 117, 105, 99, 107] := rfl
  have n2 : wds.getD 2 [] = [115, 104, 121] := rfl
  have n3 : wds.getD 3 [] = [100, 101, 97, 102] := rfl
  have n4 : wds.getD 4 [] = [99, 117, 116] := rfl
  have n5 : wds.getD 5 [] = [109, 101, 109, 111, 114, 121] := rfl
  have n6 : wds.getD 6 [] = [116, 97, 108, 107] := rfl
  have i0 := sI 5 112 108 97 (by decide) (by decide) (by decide) (by decide) (by decide)
  have i1 := sI 5 113 117 105 (by decide) (by decide) (by decide) (by decide) (by decide)
  have i2 := sI 3 115 104 121 (by decide) (by decide) (by decide) (by decide) (by decide)
  have i3 := sI 4 100 101 97 (by decide) (by decide) (by decide) (by decide) (by decide)
  have i4 := sI 3 99 117 116 (by decide) (by decide) (by decide) (by decide) (by decide)
  have i5 := sI 6 109 101 109 (by decide) (by decide) (by decide) (by decide) (by decide)
  have i6 := sI 4 116 97 108 (by decide) (by decide) (by decide) (by decide) (by decide)
  have len : ∀ {n : Nat} {q : Bool}, (decide (e - p = n) && q) = true → e - p = n := fun {n q} h => by
    rw [Bool.and_eq_true] at h
    exact of_decide_eq_true h.1
  unfold lnO
  rw [n0, n1, n2, n3, n4, n5, n6]
  rw [← e2] at i2
  rw [← e4] at i4
  -- 6: talk
  have p6 : isN D p e [116, 97, 108, 107] = isN D p e [116, 97, 108, 107] → Ev xs (d + 2) 121 147 [some (.ref 0)] [] (mH (zR z (hc, hm, hi, nI L, nI e, nI p, so, va, f, wr) dr) nw eb wa ms mt cc) (some (.int (lnM (if isN D p e [116, 97, 108, 107] = true then 6 else 7)))) (mH (zR z (hc, hm, hi, nI L, nI e, nI p, so, va, f, wr) dr) nw eb wa ms mt cc) := by
    intro _
    rw [e6]
    refine ev_go 5 (fun _ => rfl) ?_
    refine ev_call (y' := 119) rfl rfl rfl rfl (i6) ?_
    cases q1 : (decide (e - p = 4) && (decide (D p = 116) && (decide (D (p + 1) = 97) && decide (D (p + 2) = 108)))) with
    | false => exact ev_end 3 rfl
    | true =>
      have hl := len q1
      refine ev_go 5 (fun _ => rfl) ?_
      refine ev_call (y' := 120) rfl rfl rfl rfl (sE 107 0 0 (by decide) (by decide) (by decide) (by omega) (fun w => absurd rfl w) (fun w => absurd rfl w)) ?_
      cases decide (D (p + 3) = 107) with
      | false => exact ev_end 3 rfl
      | true => exact ev_end 4 rfl
  have p5 : Ev xs (d + 2) 121 115 [some (.ref 0)] [] (mH (zR z (hc, hm, hi, nI L, nI e, nI p, so, va, f, wr) dr) nw eb wa ms mt cc) (some (.int (lnM (if isN D p e [109, 101, 109, 111, 114, 121] = true then 5 else if isN D p e [116, 97, 108, 107] = true then 6 else 7)))) (mH (zR z (hc, hm, hi, nI L, nI e, nI p, so, va, f, wr) dr) nw eb wa ms mt cc) := by
    have p6 := p6 rfl
    rw [e5]
    refine ev_go 5 (fun _ => rfl) ?_
    refine ev_call (y' := 119) rfl rfl rfl rfl (i5) ?_
    cases q1 : (decide (e - p = 6) && (decide (D p = 109) && (decide (D (p + 1) = 101) && decide (D (p + 2) = 109)))) with
    | false => exact ev_go 1 (fun _ => rfl) p6
    | true =>
      have hl := len q1
      refine ev_go 5 (fun _ => rfl) ?_
      refine ev_call (y' := 120) rfl rfl rfl rfl (sE 111 114 121 (by decide) (by decide) (by decide) (by omega) (fun _ => by omega) (fun _ => by omega)) ?_
      rw [decide_eq_false (show ¬ (114 : Nat) = 0 by decide), decide_eq_false (show ¬ (121 : Nat) = 0 by decide), Bool.false_or, Bool.false_or, Bool.and_true]
      cases (decide (D (p + 3) = 111) && (decide (D (p + 4) = 114) && decide (D (p + 5) = 121))) with
      | false => exact ev_go 1 (fun _ => rfl) p6
      | true => exact ev_end 4 rfl
  have p4 : Ev xs (d + 2) 121 99 [some (.ref 0)] [] (mH (zR z (hc, hm, hi, nI L, nI e, nI p, so, va, f, wr) dr) nw eb wa ms mt cc) (some (.int (lnM (if isN D p e [99, 117, 116] = true then 4 else if isN D p e [109, 101, 109, 111, 114, 121] = true then 5 else if isN D p e [116, 97, 108, 107] = true then 6 else 7)))) (mH (zR z (hc, hm, hi, nI L, nI e, nI p, so, va, f, wr) dr) nw eb wa ms mt cc) := by
    refine ev_go 5 (fun _ => rfl) ?_
    refine ev_call (y' := 119) rfl rfl rfl rfl (i4) ?_
    cases isN D p e [99, 117, 116] with
    | false => exact ev_go 1 (fun _ => rfl) p5
    | true => exact ev_end 3 rfl
  have p3 : Ev xs (d + 2) 121 72 [some (.ref 0)] [] (mH (zR z (hc, hm, hi, nI L, nI e, nI p, so, va, f, wr) dr) nw eb wa ms mt cc) (some (.int (lnM (if isN D p e [100, 101, 97, 102] = true then 3 else if isN D p e [99, 117, 116] = true then 4 else if isN D p e [109, 101, 109, 111, 114, 121] = true then 5 else if isN D p e [116, 97, 108, 107] = true then 6 else 7)))) (mH (zR z (hc, hm, hi, nI L, nI e, nI p, so, va, f, wr) dr) nw eb wa ms mt cc) := by
    rw [e3]
    refine ev_go 5 (fun _ => rfl) ?_
    refine ev_call (y' := 119) rfl rfl rfl rfl (i3) ?_
    cases q1 : (decide (e - p = 4) && (decide (D p = 100) && (decide (D (p + 1) = 101) && decide (D (p + 2) = 97)))) with
    | false => exact ev_go 1 (fun _ => rfl) p4
    | true =>
      have hl := len q1
      refine ev_go 5 (fun _ => rfl) ?_
      refine ev_call (y' := 120) rfl rfl rfl rfl (sE 102 0 0 (by decide) (by decide) (by decide) (by omega) (fun w => absurd rfl w) (fun w => absurd rfl w)) ?_
      cases decide (D (p + 3) = 102) with
      | false => exact ev_go 1 (fun _ => rfl) p4
      | true => exact ev_end 3 rfl
  have p2 : Ev xs (d + 2) 121 56 [some (.ref 0)] [] (mH (zR z (hc, hm, hi, nI L, nI e, nI p, so, va, f, wr) dr) nw eb wa ms mt cc) (some (.int (lnM (if isN D p e [115, 104, 121] = true then 2 else if isN D p e [100, 101, 97, 102] = true then 3 else if isN D p e [99, 117, 116] = true then 4 else if isN D p e [109, 101, 109, 111, 114, 121] = true then 5 else if isN D p e [116, 97, 108, 107] = true then 6 else 7)))) (mH (zR z (hc, hm, hi, nI L, nI e, nI p, so, va, f, wr) dr) nw eb wa ms mt cc) := by
    refine ev_go 5 (fun _ => rfl) ?_
    refine ev_call (y' := 119) rfl rfl rfl rfl (i2) ?_
    cases isN D p e [115, 104, 121] with
    | false => exact ev_go 1 (fun _ => rfl) p3
    | true => exact ev_end 3 rfl
  have p1 : Ev xs (d + 2) 121 28 [some (.ref 0)] [] (mH (zR z (hc, hm, hi, nI L, nI e, nI p, so, va, f, wr) dr) nw eb wa ms mt cc) (some (.int (lnM (if isN D p e [113, 117, 105, 99, 107] = true then 1 else if isN D p e [115, 104, 121] = true then 2 else if isN D p e [100, 101, 97, 102] = true then 3 else if isN D p e [99, 117, 116] = true then 4 else if isN D p e [109, 101, 109, 111, 114, 121] = true then 5 else if isN D p e [116, 97, 108, 107] = true then 6 else 7)))) (mH (zR z (hc, hm, hi, nI L, nI e, nI p, so, va, f, wr) dr) nw eb wa ms mt cc) := by
    rw [e1]
    refine ev_go 5 (fun _ => rfl) ?_
    refine ev_call (y' := 119) rfl rfl rfl rfl (i1) ?_
    cases q1 : (decide (e - p = 5) && (decide (D p = 113) && (decide (D (p + 1) = 117) && decide (D (p + 2) = 105)))) with
    | false => exact ev_go 1 (fun _ => rfl) p2
    | true =>
      have hl := len q1
      refine ev_go 5 (fun _ => rfl) ?_
      refine ev_call (y' := 120) rfl rfl rfl rfl (sE 99 107 0 (by decide) (by decide) (by decide) (by omega) (fun _ => by omega) (fun w => absurd rfl w)) ?_
      rw [decide_eq_false (show ¬ (107 : Nat) = 0 by decide), Bool.false_or, decide_eq_true (show (0 : Nat) = 0 by decide), Bool.true_or]
      cases (decide (D (p + 3) = 99) && (decide (D (p + 4) = 107) && true)) with
      | false => exact ev_go 1 (fun _ => rfl) p2
      | true => exact ev_end 3 rfl
  rw [e0]
  refine ev_go 5 (fun _ => rfl) ?_
  refine ev_call (y' := 119) rfl rfl rfl rfl (i0) ?_
  cases q1 : (decide (e - p = 5) && (decide (D p = 112) && (decide (D (p + 1) = 108) && decide (D (p + 2) = 97)))) with
  | false => exact ev_go 1 (fun _ => rfl) p1
  | true =>
    have hl := len q1
    refine ev_go 5 (fun _ => rfl) ?_
    refine ev_call (y' := 120) rfl rfl rfl rfl (sE 105 110 0 (by decide) (by decide) (by decide) (by omega) (fun _ => by omega) (fun w => absurd rfl w)) ?_
    rw [decide_eq_false (show ¬ (110 : Nat) = 0 by decide), Bool.false_or, decide_eq_true (show (0 : Nat) = 0 by decide), Bool.true_or]
    cases (decide (D (p + 3) = 105) && (decide (D (p + 4) = 110) && true)) with
    | false => exact ev_go 1 (fun _ => rfl) p1
    | true => exact ev_end 3 rfl
end ML1

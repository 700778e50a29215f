/-! A Talk: first, second, needed, said, since, nod, ended, lost, endings, losses -/
abbrev TT : Type := Int32 × Int32 × Int32 × Int32 × Int32 × Bool × Int32 × Int32 × Int32 × Int32
def bI (b : Bool) : Int32 := match b with
  | true => 1
  | false => 0
def tkc (T : TT) : MC := .inr (2, [.int T.1, .int T.2.1, .int T.2.2.1, .int T.2.2.2.1, .int T.2.2.2.2.1, .int (bI T.2.2.2.2.2.1), .int T.2.2.2.2.2.2.1, .int T.2.2.2.2.2.2.2.1, .int T.2.2.2.2.2.2.2.2.1, .int T.2.2.2.2.2.2.2.2.2])
def T_off (T : TT) : TT := (T.1, T.2.1, T.2.2.1, 0, 0, false, T.2.2.2.2.2.2.1, T.2.2.2.2.2.2.2.1, T.2.2.2.2.2.2.2.2.1, T.2.2.2.2.2.2.2.2.2)
def T_turn (T : TT) : Int32 := if T.2.2.2.1 - T.2.2.2.1 / 2 * 2 = 0 then T.1 else T.2.1
def mnI (a b : Int32) : Int32 := if b < a then b else a
def mxI (a b : Int32) : Int32 := if a < b then b else a
def T_goOn (T : TT) (w : Int32) : TT := if mnI T.2.2.1 (T.2.2.2.1 + w) = T.2.2.1 then T_off (T.1, T.2.1, T.2.2.1, 0, 0, false, mnI 999 (T.2.2.2.2.2.2.1 + 1), T.2.2.2.2.2.2.2.1, T.2.2.2.2.2.2.2.2.1 + 1, T.2.2.2.2.2.2.2.2.2) else (T.1, T.2.1, T.2.2.1, mnI T.2.2.1 (T.2.2.2.1 + w), 0, T.2.2.2.2.2.1, T.2.2.2.2.2.2.1, T.2.2.2.2.2.2.2.1, T.2.2.2.2.2.2.2.2.1, T.2.2.2.2.2.2.2.2.2)
def T_silent (T : TT) (mem : Int32) : TT := if T.2.2.2.1 ≤ 0 then T else if mem < T.2.2.2.2.1 + 1 then T_off (T.1, T.2.1, T.2.2.1, T.2.2.2.1, T.2.2.2.2.1, T.2.2.2.2.2.1, T.2.2.2.2.2.2.1, mnI 999 (T.2.2.2.2.2.2.2.1 + 1), T.2.2.2.2.2.2.2.2.1, T.2.2.2.2.2.2.2.2.2 + 1) else (T.1, T.2.1, T.2.2.1, T.2.2.2.1, T.2.2.2.2.1 + 1, T.2.2.2.2.2.1, T.2.2.2.2.2.2.1, T.2.2.2.2.2.2.2.1, T.2.2.2.2.2.2.2.2.1, T.2.2.2.2.2.2.2.2.2)
def T_nod (T : TT) (b : Bool) : TT := (T.1, T.2.1, T.2.2.1, T.2.2.2.1, T.2.2.2.2.1, b, T.2.2.2.2.2.2.1, T.2.2.2.2.2.2.2.1, T.2.2.2.2.2.2.2.2.1, T.2.2.2.2.2.2.2.2.2)
/-- how many words, and the Talk behind it -/
def T_words (T : TT) (kind met : Int32) : Int32 × TT := if kind = 3 then (match T.2.2.2.2.2.1 with
    | false => (0, T_nod T true)
    | true => (if 1 < met then 0 else 1, T_nod T false))
  else if kind = 2 then (if 1 < met then 0 else 1, T) else if kind = 1 then (2, T) else (1, T)
set_option maxRecDepth 100000 in
theorem sp_off (xs : List Int32) (d : Nat) (T : TT) : Ev xs d 41 0 [some (.ref 0)] [] [tkc T] none [tkc (T_off T)] := ev_end 10 rfl
set_option maxRecDepth 100000 in
theorem sp_turn (xs : List Int32) (d : Nat) (T : TT) : Ev xs d 36 0 [some (.ref 0)] [] [tkc T] (some (.int (T_turn T))) [tkc T] := by
  unfold T_turn
  refine ev_go 4 (fun _ => rfl) ?_
  split
  · rename_i c; exact ev_if_ne rfl rfl (fun n => absurd c n) (fun _ => ev_end 4 rfl)
  · rename_i c; exact ev_if_ne rfl rfl (fun _ => ev_end 3 rfl) (fun n => absurd c n)
set_option maxRecDepth 100000 in
theorem sp_goOn (xs : List Int32) (d : Nat) (T : TT) (w : Int32) : Ev xs (d + 1) 39 0 [some (.ref 0), some (.int w)] [] [tkc T] none [tkc (T_goOn T w)] := by
  unfold T_goOn
  split
  · rename_i c
    refine ev_go 16 (fun _ => rfl) ?_
    refine ev_ic_ne rfl rfl (fun n => absurd c n) (fun _ => ?_)
    refine ev_go 15 (fun _ => rfl) ?_
    refine ev_call (y' := 41) rfl rfl rfl rfl (sp_off xs d (T.1, T.2.1, T.2.2.1, mnI T.2.2.1 (T.2.2.2.1 + w), 0, T.2.2.2.2.2.1, mnI 999 (T.2.2.2.2.2.2.1 + 1), T.2.2.2.2.2.2.2.1, T.2.2.2.2.2.2.2.2.1 + 1, T.2.2.2.2.2.2.2.2.2)) ?_
    exact ev_end 1 rfl
  · rename_i c
    refine ev_go 16 (fun _ => rfl) ?_
    exact ev_ic_ne rfl rfl (fun _ => ev_end 1 rfl) (fun n => absurd c n)
theorem i32_nlt {a b : Int32} (h : ¬ a < b) : b ≤ a := by
  rw [Int32.lt_iff_toInt_lt] at h
  rw [Int32.le_iff_toInt_le]
  omega
theorem i32_nle {a b : Int32} (h : ¬ a ≤ b) : b < a := by
  rw [Int32.le_iff_toInt_le] at h
  rw [Int32.lt_iff_toInt_lt]
  omega
theorem i32_lt_nle {a b : Int32} (h : a < b) : ¬ b ≤ a := by
  rw [Int32.lt_iff_toInt_lt] at h
  rw [Int32.le_iff_toInt_le]
  omega
theorem i32_le_nlt {a b : Int32} (h : a ≤ b) : ¬ b < a := by
  rw [Int32.le_iff_toInt_le] at h
  rw [Int32.lt_iff_toInt_lt]
  omega
set_option maxRecDepth 100000 in
theorem sp_silent (xs : List Int32) (d : Nat) (T : TT) (mem : Int32) : Ev xs (d + 1) 40 0 [some (.ref 0), some (.int mem)] [] [tkc T] none [tkc (T_silent T mem)] := by
  unfold T_silent
  split
  · rename_i c
    refine ev_go 2 (fun _ => rfl) ?_
    exact ev_if_gt rfl rfl (fun n => absurd n (i32_le_nlt c)) (fun _ => ev_end 1 rfl)
  · rename_i c
    split
    · rename_i c2
      refine ev_go 2 (fun _ => rfl) ?_
      refine ev_if_gt rfl rfl (fun _ => ?_) (fun n => absurd (i32_nle c) n)
      refine ev_go 9 (fun _ => rfl) ?_
      refine ev_ic_le rfl rfl (fun n => absurd n (i32_lt_nle c2)) (fun _ => ?_)
      refine ev_go 15 (fun _ => rfl) ?_
      refine ev_call (y' := 41) rfl rfl rfl rfl (sp_off xs d (T.1, T.2.1, T.2.2.1, T.2.2.2.1, T.2.2.2.2.1 + 1, T.2.2.2.2.2.1, T.2.2.2.2.2.2.1, mnI 999 (T.2.2.2.2.2.2.2.1 + 1), T.2.2.2.2.2.2.2.2.1, T.2.2.2.2.2.2.2.2.2 + 1)) ?_
      exact ev_end 1 rfl
    · rename_i c2
      refine ev_go 2 (fun _ => rfl) ?_
      refine ev_if_gt rfl rfl (fun _ => ?_) (fun n => absurd (i32_nle c) n)
      refine ev_go 9 (fun _ => rfl) ?_
      exact ev_ic_le rfl rfl (fun _ => ev_end 1 rfl) (fun n => absurd (i32_nlt c2) n)
set_option maxRecDepth 100000 in
theorem sp_words (xs : List Int32) (d : Nat) (T : TT) (kind met : Int32) : Ev xs d 37 0 [some (.ref 0), some (.int kind), some (.int met)] [] [tkc T] (some (.int (T_words T kind met).1)) [tkc (T_words T kind met).2] := by
  obtain ⟨a, b, nd, sa, si, no, en, lo, es, ls⟩ := T
  unfold T_words
  split
  · rename_i c
    subst c
    cases no with
    | false => exact ev_end 40 rfl
    | true =>
      refine ev_go 20 (fun _ => rfl) ?_
      by_cases c2 : 1 < met
      · refine ev_ic_le rfl rfl (fun n => absurd n (i32_lt_nle c2)) (fun _ => ?_)
        show Ev _ _ _ _ _ _ _ (some (.int (if 1 < met then 0 else 1))) _
        rw [if_pos c2]
        exact ev_end 2 rfl
      · refine ev_ic_le rfl rfl (fun _ => ?_) (fun n => absurd (i32_nlt c2) n)
        show Ev _ _ _ _ _ _ _ (some (.int (if 1 < met then 0 else 1))) _
        rw [if_neg c2]
        exact ev_end 5 rfl
  · rename_i c
    split
    · rename_i c1
      subst c1
      refine ev_go 2 (fun _ => rfl) ?_
      refine ev_ic_ne rfl rfl (fun _ => ?_) (fun n => absurd c n)
      refine ev_go 5 (fun _ => rfl) ?_
      by_cases c2 : 1 < met
      · refine ev_ic_le rfl rfl (fun n => absurd n (i32_lt_nle c2)) (fun _ => ?_)
        show Ev _ _ _ _ _ _ _ (some (.int (if 1 < met then 0 else 1))) _
        rw [if_pos c2]
        exact ev_end 2 rfl
      · refine ev_ic_le rfl rfl (fun _ => ?_) (fun n => absurd (i32_nlt c2) n)
        show Ev _ _ _ _ _ _ _ (some (.int (if 1 < met then 0 else 1))) _
        rw [if_neg c2]
        exact ev_end 5 rfl
    · rename_i c1
      refine ev_go 2 (fun _ => rfl) ?_
      refine ev_ic_ne rfl rfl (fun _ => ?_) (fun n => absurd c n)
      refine ev_go 2 (fun _ => rfl) ?_
      refine ev_ic_eq rfl rfl (fun n => absurd n c1) (fun _ => ?_)
      refine ev_go 2 (fun _ => rfl) ?_
      refine ev_ic_ne rfl rfl (fun _ => ?_) (fun n => absurd c n)
      refine ev_go 2 (fun _ => rfl) ?_
      split
      · rename_i c3
        exact ev_ic_ne rfl rfl (fun n => absurd c3 n) (fun _ => ev_end 3 rfl)
      · rename_i c3
        exact ev_ic_ne rfl rfl (fun _ => ev_end 2 rfl) (fun n => absurd c3 n)
/-- an hour: the words, and the Talk behind it -/
def T_pass (T : TT) (meet : Bool) (kind met mem : Int32) : Int32 × TT := match meet with
  | true => if 0 < (T_words T kind met).1 then ((T_words T kind met).1, T_goOn (T_words T kind met).2 (T_words T kind met).1) else ((T_words T kind met).1, T_silent (T_words T kind met).2 mem)
  | false => (0, T_silent T mem)
set_option maxRecDepth 100000 in
theorem sp_pass (xs : List Int32) (d : Nat) (T : TT) (meet : Bool) (kind met mem : Int32) : Ev xs (d + 2) 38 0 [some (.ref 0), some (.int (bI meet)), some (.int kind), some (.int met), some (.int mem), none] [] [tkc T] (some (.int (T_pass T meet kind met mem).1)) [tkc (T_pass T meet kind met mem).2] := by
  cases meet with
  | false =>
    refine ev_go 8 (fun _ => rfl) ?_
    refine ev_call (y' := 40) rfl rfl rfl rfl (sp_silent xs d T mem) ?_
    exact ev_end 2 rfl
  | true =>
    unfold T_pass
    refine ev_go 5 (fun _ => rfl) ?_
    refine ev_call (y' := 37) rfl rfl rfl rfl (sp_words xs _ T kind met) ?_
    refine ev_go 3 (fun _ => rfl) ?_
    generalize T_words T kind met = q
    dsimp only
    split
    · rename_i c
      refine ev_if_le rfl rfl (fun n => absurd n (i32_lt_nle c)) (fun _ => ?_)
      refine ev_go 2 (fun _ => rfl) ?_
      refine ev_call (y' := 39) rfl rfl rfl rfl (sp_goOn xs d q.2 q.1) ?_
      exact ev_end 3 rfl
    · rename_i c
      refine ev_if_le rfl rfl (fun _ => ?_) (fun n => absurd (i32_nlt c) n)
      refine ev_go 2 (fun _ => rfl) ?_
      refine ev_call (y' := 40) rfl rfl rfl rfl (sp_silent xs d q.2 mem) ?_
      exact ev_end 2 rfl
set_option maxRecDepth 100000 in
theorem sp_begin (xs : List Int32) (d : Nat) (T : TT) (a b nd : Int32) : Ev xs (d + 1) 33 0 [some (.ref 0), some (.int a), some (.int b), some (.int nd)] [] [tkc T] none [tkc (a, b, nd, 0, 0, false, 0, 0, 0, 0)] := by
  refine ev_go 22 (fun _ => rfl) ?_
  refine ev_call (y' := 41) rfl rfl rfl rfl (sp_off xs d (a, b, nd, T.2.2.2.1, T.2.2.2.2.1, T.2.2.2.2.2.1, 0, 0, 0, 0)) ?_
  exact ev_end 1 rfl
set_option maxRecDepth 100000 in
theorem sp_tcopy (xs : List Int32) (d : Nat) (T U : TT) : Ev xs d 34 0 [some (.ref 0), some (.ref 1)] [] [tkc T, tkc U] none [tkc U, tkc U] := by
  obtain ⟨a, b, nd, sa, si, no, en, lo, es, ls⟩ := U
  cases no with
  | false => exact ev_end 45 rfl
  | true => exact ev_end 45 rfl

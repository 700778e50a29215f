/-- do two meet, by how far apart they were and are -/
def mtB (ah th : Int32) : Bool := decide (th = 0) || ((decide (ah < 0) && decide (0 < th)) || (decide (0 < ah) && decide (th < 0)))
/-- what is noted of two: who meets whom, how many each meets, how many pairs -/
abbrev NW3 : Type := List Int32 × List Int32 × Int32
def nwS (i j : Nat) (M : Bool) (s : NW3) : NW3 := match M with
  | true => ((s.1.set (5 * i + j) 1).set (5 * j + i) 1, (s.2.1.set i (s.2.1.getD i 0 + 1)).set j (s.2.1.getD j 0 + 1), s.2.2 + 1)
  | false => ((s.1.set (5 * i + j) 0).set (5 * j + i) 0, s.2.1, s.2.2)
theorem nwS_len1 {i j : Nat} {M : Bool} {s : NW3} : (nwS i j M s).1.length = s.1.length := by cases M <;> simp [nwS]
theorem nwS_len2 {i j : Nat} {M : Bool} {s : NW3} : (nwS i j M s).2.1.length = s.2.1.length := by cases M <;> simp [nwS]
section CN3
variable (xs : List Int32) (d : Nat) (len mem hour bg tn sn wd : Int32) (kd ph pc sb st ss pa pt : List Int32) (rw : List TT)
theorem nw_tail (s : NW3) (i j : Nat) (hi : i < 5) (hj : j < 5) (hij : i ≠ j) (h1 : s.1.length = 25) (h2 : s.2.1.length = 5) (ah th : Int32) (M : Bool) : Ev xs d 20 57 [some (.ref 0), some (.int (nI i)), some (.int (nI j)), some (.int ah), some (.int th), none] [.int (bI M)] (cH (cO len mem hour bg tn sn wd s.2.2) kd ph pc sb st ss pa pt s.2.1 s.1 rw) none (cH (cO len mem hour bg tn sn wd (nwS i j M s).2.2) kd ph pc sb st ss pa pt (nwS i j M s).2.1 (nwS i j M s).1 rw) := by
  obtain ⟨ms, mt, mg⟩ := s
  dsimp only at h1 h2 ⊢
  refine ev_go 9 (fun _ => rfl) ?_
  refine ev_zast rfl rfl (by rw [nI_mul5]; exact mm_ix_nI (by omega)) (by omega) ?_
  refine ev_go 8 (fun _ => rfl) ?_
  refine ev_zast rfl rfl (by rw [nI_mul5]; exact mm_ix_nI (by omega)) (by rw [List.length_set]; omega) ?_
  refine ev_go 1 (fun _ => rfl) ?_
  cases M with
  | false => exact ev_end 2 rfl
  | true =>
    have e1 : mt[i]? = some mt[i] := List.getElem?_eq_getElem (by omega)
    have e2 : mt[j]? = some mt[j] := List.getElem?_eq_getElem (by omega)
    refine ev_go 5 (fun _ => rfl) ?_
    refine ev_iald rfl rfl (mm_ix_nI (by omega)) e1 ?_
    refine ev_go 2 (fun _ => rfl) ?_
    refine ev_iast rfl rfl (mm_ix_nI (by omega)) (by omega) ?_
    refine ev_go 4 (fun _ => rfl) ?_
    refine ev_iald rfl rfl (mm_ix_nI (by omega)) (by rw [List.getElem?_set_ne (by omega)]; exact e2) ?_
    refine ev_go 2 (fun _ => rfl) ?_
    refine ev_iast rfl rfl (mm_ix_nI (by omega)) (by rw [List.length_set]; omega) ?_
    have g1 : mt.getD i 0 = mt[i] := by rw [List.getD_eq_getElem?_getD, e1]; rfl
    have g2 : mt.getD j 0 = mt[j] := by rw [List.getD_eq_getElem?_getD, e2]; rfl
    unfold nwS
    dsimp only
    rw [g1, g2]
    exact ev_end 7 rfl
theorem sp_note (s : NW3) (i j : Nat) (hi : i < 5) (hj : j < 5) (hij : i ≠ j) (h1 : s.1.length = 25) (h2 : s.2.1.length = 5) (x1 x2 y1 y2 : Int32) (p1 : pa[i]? = some x1) (p2 : pa[j]? = some x2) (q1 : pt[i]? = some y1) (q2 : pt[j]? = some y2) : Ev xs d 20 0 [some (.ref 0), some (.int (nI i)), some (.int (nI j)), none, none, none] [] (cH (cO len mem hour bg tn sn wd s.2.2) kd ph pc sb st ss pa pt s.2.1 s.1 rw) none (cH (cO len mem hour bg tn sn wd (nwS i j (mtB (x1 - x2) (y1 - y2)) s).2.2) kd ph pc sb st ss pa pt (nwS i j (mtB (x1 - x2) (y1 - y2)) s).2.1 (nwS i j (mtB (x1 - x2) (y1 - y2)) s).1 rw) := by
  refine ev_go 3 (fun _ => rfl) ?_
  refine ev_iald rfl rfl (mm_ix_nI (by omega)) p1 ?_
  refine ev_go 3 (fun _ => rfl) ?_
  refine ev_iald rfl rfl (mm_ix_nI (by omega)) p2 ?_
  refine ev_go 5 (fun _ => rfl) ?_
  refine ev_iald rfl rfl (mm_ix_nI (by omega)) q1 ?_
  refine ev_go 3 (fun _ => rfl) ?_
  refine ev_iald rfl rfl (mm_ix_nI (by omega)) q2 ?_
  refine ev_go 3 (fun _ => rfl) ?_
  have tl := nw_tail xs d len mem hour bg tn sn wd kd ph pc sb st ss pa pt rw s i j hi hj hij h1 h2 (x1 - x2) (y1 - y2)
  generalize x1 - x2 = ah at tl ⊢
  generalize y1 - y2 = th at tl ⊢
  have go1 : mtB ah th = true → Ev xs d 20 52 [some (.ref 0), some (.int (nI i)), some (.int (nI j)), some (.int ah), some (.int th), none] [] (cH (cO len mem hour bg tn sn wd s.2.2) kd ph pc sb st ss pa pt s.2.1 s.1 rw) none (cH (cO len mem hour bg tn sn wd (nwS i j (mtB ah th) s).2.2) kd ph pc sb st ss pa pt (nwS i j (mtB ah th) s).2.1 (nwS i j (mtB ah th) s).1 rw) := fun e => by
    rw [e]
    exact ev_go 2 (fun _ => rfl) (tl true)
  have go0 : mtB ah th = false → Ev xs d 20 56 [some (.ref 0), some (.int (nI i)), some (.int (nI j)), some (.int ah), some (.int th), none] [] (cH (cO len mem hour bg tn sn wd s.2.2) kd ph pc sb st ss pa pt s.2.1 s.1 rw) none (cH (cO len mem hour bg tn sn wd (nwS i j (mtB ah th) s).2.2) kd ph pc sb st ss pa pt (nwS i j (mtB ah th) s).2.1 (nwS i j (mtB ah th) s).1 rw) := fun e => by
    rw [e]
    exact ev_go 1 (fun _ => rfl) (tl false)
  have hL : ∀ {a b : Int32}, (a < b) = (a.toInt < b.toInt) := fun {a b} => propext Int32.lt_iff_toInt_lt
  have hE : ∀ {a b : Int32}, (a ≤ b) = (a.toInt ≤ b.toInt) := fun {a b} => propext Int32.le_iff_toInt_le
  have hQ : ∀ {a : Int32}, (a = 0) = (a.toInt = 0) := fun {a} => propext ⟨fun h => by rw [h]; rfl, fun h => Int32.toInt_inj.mp h⟩
  have h0 : (0 : Int32).toInt = 0 := rfl
  by_cases c1 : th = 0
  · refine ev_if_eq rfl rfl (fun _ => ?_) (fun n => absurd c1 n)
    exact go1 (by unfold mtB; rw [decide_eq_true c1]; rfl)
  · refine ev_if_eq rfl rfl (fun n => absurd n c1) (fun _ => ?_)
    refine ev_go 1 (fun _ => rfl) ?_
    have d1 : decide (th = 0) = false := decide_eq_false c1
    by_cases c2 : ah < 0
    · refine ev_if_ge rfl rfl (fun n => absurd n (i32_lt_nle c2)) (fun _ => ?_)
      refine ev_go 1 (fun _ => rfl) ?_
      by_cases c3 : 0 < th
      · refine ev_if_gt rfl rfl (fun _ => ?_) (fun n => absurd c3 n)
        exact go1 (by unfold mtB; rw [decide_eq_true c2, decide_eq_true c3, d1]; rfl)
      · refine ev_if_gt rfl rfl (fun n => absurd n c3) (fun _ => ?_)
        refine ev_go 1 (fun _ => rfl) ?_
        have c4 : ah ≤ 0 := by rw [hL, h0] at c2; rw [hE, h0]; omega
        have c5 : ¬ 0 < ah := by rw [hL, h0] at c2 ⊢; omega
        refine ev_if_le rfl rfl (fun _ => ?_) (fun n => absurd c4 n)
        exact go0 (by unfold mtB; rw [d1, decide_eq_true c2, decide_eq_false c3, decide_eq_false c5]; rfl)
    · refine ev_if_ge rfl rfl (fun _ => ?_) (fun n => absurd (i32_nlt c2) n)
      refine ev_go 1 (fun _ => rfl) ?_
      by_cases c3 : ah ≤ 0
      · refine ev_if_le rfl rfl (fun _ => ?_) (fun n => absurd c3 n)
        have c5 : ¬ 0 < ah := i32_le_nlt c3
        exact go0 (by unfold mtB; rw [d1, decide_eq_false c2, decide_eq_false c5]; rfl)
      · refine ev_if_le rfl rfl (fun n => absurd n c3) (fun _ => ?_)
        refine ev_go 1 (fun _ => rfl) ?_
        have c5 : 0 < ah := i32_nle c3
        by_cases c6 : 0 ≤ th
        · refine ev_if_ge rfl rfl (fun _ => ?_) (fun n => absurd c6 n)
          exact go0 (by unfold mtB; rw [d1, decide_eq_false c2, decide_eq_false (i32_le_nlt c6), Bool.and_false]; rfl)
        · refine ev_if_ge rfl rfl (fun n => absurd n c6) (fun _ => ?_)
          exact go1 (by unfold mtB; rw [d1, decide_eq_false c2, decide_eq_true c5, decide_eq_true (i32_nle c6)]; rfl)
end CN3
/-- all pairs from (i, j) on -/
def nwI (pa pt : List Int32) (i : Nat) (m j : Nat) (s : NW3) : NW3 := match m with
  | 0 => s
  | m + 1 => nwI pa pt i m (j + 1) (nwS i j (mtB (pa.getD i 0 - pa.getD j 0) (pt.getD i 0 - pt.getD j 0)) s)
def nwO (pa pt : List Int32) (B m i : Nat) (s : NW3) : NW3 := match m with
  | 0 => s
  | m + 1 => nwO pa pt B m (i + 1) (nwI pa pt i (B - (i + 1)) (i + 1) s)
theorem nwI_len {pa pt : List Int32} {i : Nat} : ∀ (m j : Nat) (s : NW3), (nwI pa pt i m j s).1.length = s.1.length ∧ (nwI pa pt i m j s).2.1.length = s.2.1.length
  | 0, _, _ => ⟨rfl, rfl⟩
  | m + 1, j, s => by
    obtain ⟨a, b⟩ := nwI_len (pa := pa) (pt := pt) (i := i) m (j + 1) (nwS i j (mtB (pa.getD i 0 - pa.getD j 0) (pt.getD i 0 - pt.getD j 0)) s)
    exact ⟨a.trans nwS_len1, b.trans nwS_len2⟩
theorem getD_at {l : List Int32} {k : Nat} (h : k < l.length) : l[k]? = some (l.getD k 0) := by
  rw [List.getD_eq_getElem?_getD, List.getElem?_eq_getElem h]
  rfl
section CN4
variable (xs : List Int32) (d : Nat) (len mem hour tn sn wd : Int32) (kd ph pc sb st ss pa pt : List Int32) (rw : List TT)
/-- the inner loop of the notes: from (i, j) on to the outer loop's next turn -/
theorem lp_nwI (B i : Nat) (hB : B ≤ 5) (hi : i < B) (hpa : pa.length = 5) (hpt : pt.length = 5) (R : MH) : ∀ m j, j + m = B → i < j → ∀ s : NW3, s.1.length = 25 → s.2.1.length = 5 → (∀ s' : NW3, s' = nwI pa pt i m j s → Ev xs (d + 1) 19 80 [some (.ref 0), some (.int (nI (i + 1))), some (.int (nI B))] [] (cH (cO len mem hour (nI B) tn sn wd s'.2.2) kd ph pc sb st ss pa pt s'.2.1 s'.1 rw) none R) → Ev xs (d + 1) 19 92 [some (.ref 0), some (.int (nI i)), some (.int (nI j))] [] (cH (cO len mem hour (nI B) tn sn wd s.2.2) kd ph pc sb st ss pa pt s.2.1 s.1 rw) none R := by
  intro m
  induction m with
  | zero =>
    intro j hj hij s l1 l2 kk
    have e : j = B := by omega
    subst e
    refine ev_go 3 (fun _ => rfl) ?_
    refine ev_ic_ge rfl rfl (fun _ => ?_) (fun n => absurd (nI_le (Nat.le_refl _) (by omega)) n)
    refine ev_go 2 (ls' := [some (.ref 0), some (.int (nI i + Int32.ofInt 1)), some (.int (nI j))]) (fun _ => rfl) ?_
    rw [nI_inc]
    exact kk s rfl
  | succ m ih =>
    intro j hj hij s l1 l2 kk
    refine ev_go 3 (fun _ => rfl) ?_
    refine ev_ic_ge rfl rfl (fun n => absurd n (nI_ge (by omega) (by omega))) (fun _ => ?_)
    refine ev_go 3 (fun _ => rfl) ?_
    refine ev_call (y' := 20) rfl rfl rfl rfl (sp_note xs d len mem hour _ tn sn wd kd ph pc sb st ss pa pt rw s i j (by omega) (by omega) (by omega) l1 l2 _ _ _ _ (getD_at (by omega)) (getD_at (by omega)) (getD_at (by omega)) (getD_at (by omega))) ?_
    refine ev_go 2 (ls' := [some (.ref 0), some (.int (nI i)), some (.int (nI j + Int32.ofInt 1))]) (fun _ => rfl) ?_
    rw [nI_inc]
    exact ih (j + 1) (by omega) (by omega) _ (by rw [nwS_len1]; exact l1) (by rw [nwS_len2]; exact l2) kk
theorem lp_nwO (B : Nat) (hB : B ≤ 5) (hpa : pa.length = 5) (hpt : pt.length = 5) : ∀ m i, i + m = B → ∀ (z : Option Value) (s : NW3), s.1.length = 25 → s.2.1.length = 5 → Ev xs (d + 1) 19 80 [some (.ref 0), some (.int (nI i)), z] [] (cH (cO len mem hour (nI B) tn sn wd s.2.2) kd ph pc sb st ss pa pt s.2.1 s.1 rw) none (cH (cO len mem hour (nI B) tn sn wd (nwO pa pt B m i s).2.2) kd ph pc sb st ss pa pt (nwO pa pt B m i s).2.1 (nwO pa pt B m i s).1 rw) := by
  intro m
  induction m with
  | zero =>
    intro i hi z s l1 l2
    have e : i = B := by omega
    subst e
    refine ev_go 3 (fun _ => rfl) ?_
    refine ev_ic_ge rfl rfl (fun _ => ?_) (fun n => absurd (nI_le (Nat.le_refl _) (by omega)) n)
    exact ev_end 1 rfl
  | succ m ih =>
    intro i hi z s l1 l2
    refine ev_go 3 (fun _ => rfl) ?_
    refine ev_ic_ge rfl rfl (fun n => absurd n (nI_ge (by omega) (by omega))) (fun _ => ?_)
    refine ev_go 4 (ls' := [some (.ref 0), some (.int (nI i)), some (.int (nI i + Int32.ofInt 1))]) (fun _ => rfl) ?_
    rw [nI_inc]
    refine lp_nwI xs d len mem hour tn sn wd kd ph pc sb st ss pa pt rw B i hB (by omega) hpa hpt _ (B - (i + 1)) (i + 1) (by omega) (by omega) s l1 l2 (fun s' hs' => ?_)
    subst hs'
    obtain ⟨a, b⟩ := nwI_len (pa := pa) (pt := pt) (i := i) (B - (i + 1)) (i + 1) s
    exact ih (i + 1) (by omega) _ _ (a.trans l1) (b.trans l2)
end CN4

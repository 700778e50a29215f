/-! BargeTalks: sheet, lay, read -/
theorem upF_at {g : Nat → List Int32} {k : Nat} {l : List Int32} : upF g k l k = l := by
  unfold upF
  rw [show Nat.beq k k = true from Nat.beq_eq.mpr rfl]
theorem upF_upF {g : Nat → List Int32} {k : Nat} {l l2 : List Int32} : upF (upF g k l) k l2 = upF g k l2 := by
  funext j
  unfold upF
  cases Nat.beq j k <;> rfl
theorem upF_self {g : Nat → List Int32} {k : Nat} : upF g k (g k) = g := by
  funext j
  unfold upF
  cases h : Nat.beq j k with
  | false => rfl
  | true => rw [Nat.eq_of_beq_eq_true h]
theorem upF_ne {g : Nat → List Int32} {k j : Nat} {l : List Int32} (h : j ≠ k) : upF g k l j = g j := by
  unfold upF
  cases e : Nat.beq j k with
  | false => rfl
  | true => exact absurd (Nat.eq_of_beq_eq_true e) h
theorem setC_at {r : RS} {k : Nat} {l : List Int32} : (setC r k l).2.2.2.2.1 k = l := upF_at
theorem setC_C {r : RS} {k : Nat} {l l2 : List Int32} : setC (setC r k l) k l2 = setC r k l2 := by
  unfold setC
  dsimp only
  rw [upF_upF]
theorem setC_self {r : RS} {k : Nat} : setC r k (r.2.2.2.2.1 k) = r := by
  unfold setC
  rw [upF_self]
/-- lowest bits of a lane -/
def loB (lane v : Int32) : Int32 := if lane = 0 then v.toInt8.toInt32 else if lane = 1 then v.toInt16.toInt32 else v
/-- start: the answer, the Canal -/
def startA (K : CK) (a b nd : Int32) : Int32 := match startC K a b nd with
  | true => if K.1.2.2.2.2.1 = 6 then -3 else K.1.2.2.2.2.1 + 1
  | false => -1
def startK (K : CK) (a b nd : Int32) : CK := match startC K a b nd with
  | true => if K.1.2.2.2.2.1 = 6 then K else addTK K K.1.2.2.2.2.1.toNatClampNeg a b nd
  | false => K
/-- how a run of start()s goes: the answer, the Canal, the fault (none: refused) -/
def rdL (g : Nat → Int32) (s : Nat) (f : Int) (m i : Nat) (K : CK) : Int32 × CK × Option Int32 := match m with
  | 0 => (nI i, K, some 0)
  | m + 1 => if 0 ≤ f + 3 * (i : Int) ∧ f + 3 * (i : Int) + 2 < (s : Int) then
      (if startA K (g (f + 3 * (i : Int)).toNat) (g ((f + 3 * (i : Int)).toNat + 1)) (g ((f + 3 * (i : Int)).toNat + 2)) < 0 then ((Int8.ofInt (-20)).toInt32 - nI i, K, none) else rdL g s f m (i + 1) (startK K (g (f + 3 * (i : Int)).toNat) (g ((f + 3 * (i : Int)).toNat + 1)) (g ((f + 3 * (i : Int)).toNat + 2))))
    else (nI i, K, some 2)
theorem nI_6 {t : Nat} (h : t ≤ 6) : nI t = 6 ↔ t = 6 := nI_eq (b := 6) (by omega) (by decide)
theorem startK_CN {K : CK} {B TN S : Nat} (a b nd : Int32) (h : CN K B TN S) : ∃ TN', CN (startK K a b nd) B TN' S ∧ TN ≤ TN' := by
  obtain ⟨⟨g1, g2, g3, g4, g5, g6, g7, g8, g9, g10, g11⟩, e1, e2, e3, hB, hTN, hS⟩ := h
  unfold startK
  cases startC K a b nd with
  | false => exact ⟨TN, ⟨⟨g1, g2, g3, g4, g5, g6, g7, g8, g9, g10, g11⟩, e1, e2, e3, hB, hTN, hS⟩, Nat.le_refl _⟩
  | true =>
    dsimp only
    by_cases c : K.1.2.2.2.2.1 = 6
    · rw [if_pos c]
      exact ⟨TN, ⟨⟨g1, g2, g3, g4, g5, g6, g7, g8, g9, g10, g11⟩, e1, e2, e3, hB, hTN, hS⟩, Nat.le_refl _⟩
    · rw [if_neg c]
      have hlt : TN < 6 := by
        rw [e2, nI_6 hTN] at c
        omega
      rw [e2, nI_clamp (by omega)]
      refine ⟨TN + 1, ⟨⟨g1, g2, g3, g4, g5, g6, g7, g8, g9, g10, ?_⟩, e1, rfl, e3, hB, by omega, hS⟩, by omega⟩
      show (List.set _ _ _).length = 6
      rw [List.length_set]
      exact g11
theorem nI_ne1 {s : Nat} (h : s < 1000) : ¬ nI s = -1 := fun q => by
  have := congrArg Int32.toInt q
  rw [nI_toInt (by omega), show (-1 : Int32).toInt = -1 by decide] at this
  omega
theorem wi_3 {k : Nat} (h : k < 4) : wiI (nI k) 0 3 = true := wi_nI (M := 3) (by omega) (by decide)
theorem wi_13 {k : Nat} (h : k ≤ 13) : wiI (nI k) 0 13 = true := wi_nI (M := 13) h (by decide)
theorem nI_40 {N : Nat} (h : N ≤ 40) : nI N ≤ 40 := nI_le (b := 40) h (by decide)
section CLS12
variable (xs : List Int32) (d : Nat) (now trial told im0 im1 : CK) (p : TP) (f : FP) (r : RS) (tr : Int32)
theorem sp_startA (a b nd : Int32) (B TN S : Nat) (hn : CN now B TN S) : Ev xs (d + 3) 67 0 [some (.ref 0), some (.int a), some (.int b), some (.int nd)] [] (hCl now trial told im0 im1 p f r tr) (some (.int (startA now a b nd))) (hCl (startK now a b nd) trial told im0 im1 p f r tr) := by
  have hTN := hn.2.2.2.2.2.1
  have e2 := hn.2.2.1
  unfold startA startK
  cases c : startC now a b nd with
  | false => exact sp_start_bad xs _ now trial told im0 im1 p f r tr a b nd (CL6 hn.1) c
  | true =>
    dsimp only
    by_cases c6 : now.1.2.2.2.2.1 = 6
    · rw [if_pos c6, if_pos c6]
      exact sp_start_full xs _ now trial told im0 im1 p f r tr a b nd 6 (CL6 hn.1) c c6 (by omega) (by omega)
    · rw [if_neg c6, if_neg c6]
      have hlt : TN < 6 := by
        rw [e2, nI_6 hTN] at c6
        omega
      have h2 := sp_start_ok xs d now trial told im0 im1 p f r tr a b nd TN (CL6 hn.1) c e2 hlt
      rw [e2, nI_clamp (by omega)]
      rw [show nI TN + 1 = nI (TN + 1) from nI_1 TN]
      exact h2
theorem sp_low (h : MH) (l v : Int32) : Ev xs d 106 0 [some (.int l), some (.int v)] [] h (some (.int (loB l v))) h := by
  unfold loB
  refine ev_go 1 (fun _ => rfl) ?_
  by_cases c : l = 0
  · rw [if_pos c]
    refine ev_if_ne rfl rfl (fun n => absurd n (fun n => n c)) (fun _ => ?_)
    exact ev_end 3 rfl
  · rw [if_neg c]
    refine ev_if_ne rfl rfl (fun _ => ?_) (fun n => absurd (c) n)
    refine ev_go 2 (fun _ => rfl) ?_
    by_cases c2 : l = 1
    · rw [if_pos c2]
      refine ev_ic_ne rfl rfl (fun n => absurd n (fun n => n c2)) (fun _ => ?_)
      exact ev_end 4 rfl
    · rw [if_neg c2]
      refine ev_ic_ne rfl rfl (fun _ => ?_) (fun n => absurd (c2) n)
      exact ev_end 2 rfl
def shC (k l n : Int32) : Bool := wiI k 0 3 && (wiI l 0 2 && decide (n ≤ 40))
theorem sp_sheet_bad (k l n : Int32) (c : shC k l n = false) : Ev xs (d + 1) 90 0 [some (.ref 0), some (.int k), some (.int l), some (.int n), none] [] (hCl now trial told im0 im1 p f r tr) (some (.int (-1))) (hCl now trial told im0 im1 p f r tr) := by
  unfold shC at c
  refine ev_go 3 (fun _ => rfl) ?_
  refine ev_call (y' := 95) rfl rfl rfl rfl (sp_within xs d _ k 0 3) ?_
  cases c1 : wiI k 0 3 with
  | false => exact ev_end 3 rfl
  | true =>
    rw [c1] at c
    refine ev_go 4 (fun _ => rfl) ?_
    refine ev_call (y' := 95) rfl rfl rfl rfl (sp_within xs d _ l 0 2) ?_
    cases c2 : wiI l 0 2 with
    | false => exact ev_end 3 rfl
    | true =>
      rw [c2] at c
      have c3 : ¬ n ≤ 40 := fun q => by rw [decide_eq_true q] at c; cases c
      refine ev_go 3 (fun _ => rfl) ?_
      refine ev_ic_le rfl rfl (fun n => absurd n (c3)) (fun _ => ?_)
      exact ev_end 2 rfl
theorem st_sheet (k l n : Int32) (c : shC k l n = true) (rs : Option Value) (h' : MH) (kk : Ev xs (d + 1) 90 26 [some (.ref 0), some (.int k), some (.int l), some (.int n), none] [] (hCl now trial told im0 im1 p f r tr) rs h') : Ev xs (d + 1) 90 0 [some (.ref 0), some (.int k), some (.int l), some (.int n), none] [] (hCl now trial told im0 im1 p f r tr) rs h' := by
  unfold shC at c
  rw [Bool.and_eq_true, Bool.and_eq_true] at c
  refine ev_go 3 (fun _ => rfl) ?_
  refine ev_call (y' := 95) rfl rfl rfl rfl (sp_within xs d _ k 0 3) ?_
  rw [c.1]
  refine ev_go 4 (fun _ => rfl) ?_
  refine ev_call (y' := 95) rfl rfl rfl rfl (sp_within xs d _ l 0 2) ?_
  rw [c.2.1]
  refine ev_go 3 (fun _ => rfl) ?_
  refine ev_ic_le rfl rfl (fun _ => ?_) (fun n => absurd (of_decide_eq_true c.2.2) n)
  exact kk
theorem sp_sheet_neg (k l n : Int32) (c : shC k l n = true) (c2 : n < 0) : Ev xs (d + 1) 90 0 [some (.ref 0), some (.int k), some (.int l), some (.int n), none] [] (hCl now trial told im0 im1 p f r tr) (some (.int (-14))) (hCl now trial told im0 im1 p f r tr) := by
  refine st_sheet xs d now trial told im0 im1 p f r tr k l n c _ _ ?_
  refine ev_go 1 (fun _ => rfl) ?_
  refine ev_if_ge rfl rfl (fun n => absurd n (i32_lt_nle c2)) (fun _ => ?_)
  exact ev_end 2 rfl
theorem lp_sheet (k N : Nat) (l : Int32) (hk : k < 4) (hN : N ≤ 40) (L : List Int32) (hL : L.length = 40) (rs : Option Value) (h' : MH) (kk : ∀ zz, Ev xs (d + 1) 90 58 [some (.ref 0), some (.int (nI k)), some (.int l), some (.int (nI N)), zz] [] (hCl now trial told im0 im1 p f (setC r k (up (fun _ => (0 : Int32)) N L)) tr) rs h') : ∀ m t, t + m = N → Ev xs (d + 1) 90 36 [some (.ref 0), some (.int (nI k)), some (.int l), some (.int (nI N)), some (.int (nI t))] [] (hCl now trial told im0 im1 p f (setC r k (up (fun _ => (0 : Int32)) t L)) tr) rs h' := by
  intro m
  induction m with
  | zero =>
    intro t ht
    have e : t = N := by omega
    subst e
    refine ev_go 2 (fun _ => rfl) ?_
    refine ev_ic_ge rfl rfl (fun _ => ?_) (fun n => absurd (nI_le (Nat.le_refl _) (by omega)) n)
    exact kk _
  | succ m ih =>
    intro t ht
    have e1 : (hCl now trial told im0 im1 p f (setC r k (up (fun _ => (0 : Int32)) t L)) tr)[86 + k]? = some (.inl (0, up (fun _ => (0 : Int32)) t L)) := by
      rw [at_cell now trial told im0 im1 p f _ tr k hk, setC_at]
    have e2 : (hCl now trial told im0 im1 p f (setC r k (up (fun _ => (0 : Int32)) t L)) tr).set (86 + k) (.inl (0, (up (fun _ => (0 : Int32)) t L).set t 0)) = hCl now trial told im0 im1 p f (setC r k (up (fun _ => (0 : Int32)) (t + 1) L)) tr := by
      rw [set_cell now trial told im0 im1 p f _ tr k hk, setC_C, up_s (g := fun _ => (0 : Int32)) (by omega)]
    refine ev_go 2 (fun _ => rfl) ?_
    refine ev_ic_ge rfl rfl (fun n => absurd n (nI_ge (by omega) (by omega))) (fun _ => ?_)
    refine ev_go 3 (fun _ => rfl) ?_
    refine ev_aald rfl (t := 200) (q := 86 + k) rfl (by decide) (mm_ix_nI (n := k) (by omega)) (cells_at k hk) ?_
    refine ev_go 2 (fun _ => rfl) ?_
    refine ev_iastE rfl e1 (mm_ix_nI (n := t) (by omega)) (by rw [up_len (by omega)]; omega) e2 ?_
    refine ev_go 2 (ls' := [some (.ref 0), some (.int (nI k)), some (.int l), some (.int (nI N)), some (.int (nI t + Int32.ofInt 1))]) (fun _ => rfl) ?_
    rw [nI_inc]
    exact ih (t + 1) (by omega)
def shR (r : RS) (k N : Nat) (l : Int32) : RS := (r.1, r.2.1, r.2.2.1, r.2.2.2.1, upF r.2.2.2.2.1 k (up (fun _ => (0 : Int32)) N (r.2.2.2.2.1 k)), r.2.2.2.2.2.1.set k l, r.2.2.2.2.2.2.set k (nI N))
theorem sp_sheet (k N : Nat) (l : Int32) (hk : k < 4) (hN : N ≤ 40) (c2 : wiI l 0 2 = true) (hL : (r.2.2.2.2.1 k).length = 40) (h4 : r.2.2.2.2.2.1.length = 4) (h5 : r.2.2.2.2.2.2.length = 4) : Ev xs (d + 1) 90 0 [some (.ref 0), some (.int (nI k)), some (.int l), some (.int (nI N)), none] [] (hCl now trial told im0 im1 p f r tr) (some (.int 1)) (hCl now trial told im0 im1 p f (shR r k N l) tr) := by
  have c : shC (nI k) l (nI N) = true := by
    unfold shC
    rw [wi_3 hk, c2, decide_eq_true (nI_40 hN)]
    rfl
  have ik : mm_ix (nI k) = some k := mm_ix_nI (by omega)
  refine st_sheet xs d now trial told im0 im1 p f r tr (nI k) l (nI N) c _ _ ?_
  refine ev_go 1 (fun _ => rfl) ?_
  refine ev_if_ge rfl rfl (fun _ => ?_) (fun n => absurd (nI_pos' (by omega)) n)
  refine ev_go 2 (ls' := [some (.ref 0), some (.int (nI k)), some (.int l), some (.int (nI N)), some (.int (nI 0))]) (fun _ => rfl) ?_
  have kk : ∀ zz, Ev xs (d + 1) 90 58 [some (.ref 0), some (.int (nI k)), some (.int l), some (.int (nI N)), zz] [] (hCl now trial told im0 im1 p f (setC r k (up (fun _ => (0 : Int32)) N (r.2.2.2.2.1 k))) tr) (some (.int 1)) (hCl now trial told im0 im1 p f (shR r k N l) tr) := by
    intro zz
    refine ev_go 4 (fun _ => rfl) ?_
    refine ev_iastE rfl (at_lanes now trial told im0 im1 p f _ tr) ik (by show k < r.2.2.2.2.2.1.length; omega) (set_lanes now trial told im0 im1 p f _ tr _) ?_
    refine ev_go 4 (fun _ => rfl) ?_
    refine ev_iastE rfl (at_sizes now trial told im0 im1 p f _ tr) ik (by show k < r.2.2.2.2.2.2.length; omega) (set_sizes now trial told im0 im1 p f _ tr _) ?_
    exact ev_end 2 rfl
  have h0 := lp_sheet xs d now trial told im0 im1 p f r tr k N l hk hN (r.2.2.2.2.1 k) hL (some (.int 1)) (hCl now trial told im0 im1 p f (shR r k N l) tr) kk N 0 (by omega)
  rw [show up (fun _ => (0 : Int32)) 0 (r.2.2.2.2.1 k) = r.2.2.2.2.1 k from rfl, setC_self] at h0
  exact h0
/-- lay -/
theorem sp_lay_bad (k i v : Int32) (c : wiI k 0 3 = false) : Ev xs (d + 1) 91 0 [some (.ref 0), some (.int k), some (.int i), some (.int v)] [] (hCl now trial told im0 im1 p f r tr) (some (.int (-1))) (hCl now trial told im0 im1 p f r tr) := by
  refine ev_go 3 (fun _ => rfl) ?_
  refine ev_call (y' := 95) rfl rfl rfl rfl (sp_within xs d _ k 0 3) ?_
  rw [c]
  exact ev_end 3 rfl
theorem sp_lay_null (k : Nat) (i v : Int32) (hk : k < 4) (e : r.2.2.2.2.2.2[k]? = some (-1)) : Ev xs (d + 1) 91 0 [some (.ref 0), some (.int (nI k)), some (.int i), some (.int v)] [] (hCl now trial told im0 im1 p f r tr) (some (.int (-11))) (hCl now trial told im0 im1 p f r tr) := by
  refine ev_go 3 (fun _ => rfl) ?_
  refine ev_call (y' := 95) rfl rfl rfl rfl (sp_within xs d _ (nI k) 0 3) ?_
  rw [wi_3 hk]
  refine ev_go 4 (fun _ => rfl) ?_
  refine ev_iald rfl (at_sizes now trial told im0 im1 p f r tr) (mm_ix_nI (n := k) (by omega)) e ?_
  exact ev_end 4 rfl
theorem sp_lay_ix (k s : Nat) (i v : Int32) (hk : k < 4) (hs : s ≤ 40) (e : r.2.2.2.2.2.2[k]? = some (nI s)) (c : hasI i (nI s) = false) : Ev xs (d + 1) 91 0 [some (.ref 0), some (.int (nI k)), some (.int i), some (.int v)] [] (hCl now trial told im0 im1 p f r tr) (some (.int (-12))) (hCl now trial told im0 im1 p f r tr) := by
  refine ev_go 3 (fun _ => rfl) ?_
  refine ev_call (y' := 95) rfl rfl rfl rfl (sp_within xs d _ (nI k) 0 3) ?_
  rw [wi_3 hk]
  refine ev_go 4 (fun _ => rfl) ?_
  refine ev_iald rfl (at_sizes now trial told im0 im1 p f r tr) (mm_ix_nI (n := k) (by omega)) e ?_
  refine ev_go 1 (fun _ => rfl) ?_
  refine ev_ic_ne rfl rfl (fun _ => ?_) (fun n => absurd (nI_ne1 (by omega)) n)
  refine ev_go 5 (fun _ => rfl) ?_
  refine ev_iald rfl (at_sizes now trial told im0 im1 p f r tr) (mm_ix_nI (n := k) (by omega)) e ?_
  refine ev_go 2 (fun _ => rfl) ?_
  refine ev_call (y' := 95) rfl rfl rfl rfl (sp_within xs d _ i 0 (nI s - Int32.ofInt 1)) ?_
  rw [wi_has (by omega), c]
  exact ev_end 3 rfl
theorem sp_lay (k s i : Nat) (v : Int32) (hk : k < 4) (hs : s ≤ 40) (hi : i < s) (l : Int32) (el : r.2.2.2.2.2.1[k]? = some l) (e : r.2.2.2.2.2.2[k]? = some (nI s)) (hL : (r.2.2.2.2.1 k).length = 40) : Ev xs (d + 1) 91 0 [some (.ref 0), some (.int (nI k)), some (.int (nI i)), some (.int v)] [] (hCl now trial told im0 im1 p f r tr) (some (.int 1)) (hCl now trial told im0 im1 p f (setC r k ((r.2.2.2.2.1 k).set i (loB l v))) tr) := by
  refine ev_go 3 (fun _ => rfl) ?_
  refine ev_call (y' := 95) rfl rfl rfl rfl (sp_within xs d _ (nI k) 0 3) ?_
  rw [wi_3 hk]
  refine ev_go 4 (fun _ => rfl) ?_
  refine ev_iald rfl (at_sizes now trial told im0 im1 p f r tr) (mm_ix_nI (n := k) (by omega)) e ?_
  refine ev_go 1 (fun _ => rfl) ?_
  refine ev_ic_ne rfl rfl (fun _ => ?_) (fun n => absurd (nI_ne1 (by omega)) n)
  refine ev_go 5 (fun _ => rfl) ?_
  refine ev_iald rfl (at_sizes now trial told im0 im1 p f r tr) (mm_ix_nI (n := k) (by omega)) e ?_
  refine ev_go 2 (fun _ => rfl) ?_
  refine ev_call (y' := 95) rfl rfl rfl rfl (sp_within xs d _ (nI i) 0 (nI s - Int32.ofInt 1)) ?_
  rw [wi_has (by omega), has_nI (by omega) hi]
  refine ev_go 4 (fun _ => rfl) ?_
  refine ev_aald rfl (t := 200) (q := 86 + k) rfl (by decide) (mm_ix_nI (n := k) (by omega)) (cells_at k hk) ?_
  refine ev_go 4 (fun _ => rfl) ?_
  refine ev_iald rfl (at_lanes now trial told im0 im1 p f r tr) (mm_ix_nI (n := k) (by omega)) el ?_
  refine ev_go 1 (fun _ => rfl) ?_
  refine ev_call (y' := 106) rfl rfl rfl rfl (sp_low xs d _ l v) ?_
  refine ev_iastE rfl (at_cell now trial told im0 im1 p f r tr k hk) (mm_ix_nI (n := i) (by omega)) (by omega) (set_cell now trial told im0 im1 p f r tr k hk _) ?_
  exact ev_end 2 rfl
end CLS12

/-! BargeTalks: listen, isAsSeen, valuesAsSeen, kinds, paces -/
def setH (r : RS) (v : Nat) (l : List Int32) : RS := (r.1, r.2.1, upF r.2.2.1 v l, r.2.2.2)
theorem setH_at {r : RS} {k : Nat} {l : List Int32} : (setH r k l).2.2.1 k = l := upF_at
theorem setH_H {r : RS} {k : Nat} {l l2 : List Int32} : setH (setH r k l) k l2 = setH r k l2 := by
  unfold setH
  dsimp only
  rw [upF_upF]
theorem setH_self {r : RS} {k : Nat} : setH r k (r.2.2.1 k) = r := by
  unfold setH
  rw [upF_self]
theorem ix6 {h t : Nat} (q : 6 * h + t < 2 ^ 31) : mm_ix (nI h * (Int8.ofInt 6).toInt32 + nI t) = some (6 * h + t) := by
  rw [show (Int8.ofInt 6).toInt32 = nI 6 from rfl, nI_mulA, nI_add, Nat.mul_comm]
  exact mm_ix_nI q
theorem itC_c (B TN : Nat) : ∀ (n : Nat) (K : CK), itC K B TN (n + 1) = hrC (itC K B TN n) B TN
  | 0, K => rfl
  | n + 1, K => by
    rw [itC_s K B TN (n + 1), itC_c B TN n (hrC K B TN), ← itC_s K B TN n]
/-- how much is said of a Talk behind so many hours -/
def sdC (K : CK) (B TN h t : Nat) : Int32 := ((itC K B TN h).2.2.getD t dT).2.2.2.1
/-- a row that tells it, up to hour h -/
def tellR (f : Nat → Nat → Int32) (TN h : Nat) (l : List Int32) : Prop := l.length = 126 ∧ ∀ h' t, h' < h → t < TN → l[6 * h' + t]? = some (f h' t)
section CLS14
variable (xs : List Int32) (d : Nat) (now trial told im0 im1 : CK) (p : TP) (f : FP) (r : RS) (tr : Int32)
theorem at_heard (v : Nat) (hv : v < 10) : (hCl now trial told im0 im1 p f r tr)[74 + v]? = some (.inl (0, r.2.2.1 v)) := by
  match v, hv with
  | 0, _ => rfl
  | 1, _ => rfl
  | 2, _ => rfl
  | 3, _ => rfl
  | 4, _ => rfl
  | 5, _ => rfl
  | 6, _ => rfl
  | 7, _ => rfl
  | 8, _ => rfl
  | 9, _ => rfl
theorem heard_at (v : Nat) (hv : v < 10) : ([.ref 74, .ref 75, .ref 76, .ref 77, .ref 78, .ref 79, .ref 80, .ref 81, .ref 82, .ref 83] : List Value)[v]? = some (.ref (74 + v)) := by
  match v, hv with
  | 0, _ => rfl
  | 1, _ => rfl
  | 2, _ => rfl
  | 3, _ => rfl
  | 4, _ => rfl
  | 5, _ => rfl
  | 6, _ => rfl
  | 7, _ => rfl
  | 8, _ => rfl
  | 9, _ => rfl
theorem set_heard (v : Nat) (hv : v < 10) (l : List Int32) : (hCl now trial told im0 im1 p f r tr).set (74 + v) (.inl (0, l)) = hCl now trial told im0 im1 p f (setH r v l) tr := by
  have e : 74 + v = 73 + (1 + v) := by omega
  rw [e]
  refine set_B now trial told im0 im1 p f r tr (by omega) (setH r v l) ?_ rfl rfl
  match v, hv with
  | 0, _ => rfl
  | 1, _ => rfl
  | 2, _ => rfl
  | 3, _ => rfl
  | 4, _ => rfl
  | 5, _ => rfl
  | 6, _ => rfl
  | 7, _ => rfl
  | 8, _ => rfl
  | 9, _ => rfl
/-- an hour is noted -/
theorem lp_lisI (v h B TN S : Nat) (K0 : CK) (hv : v < 10) (hh : h ≤ 20) (hK : CG (itC K0 B TN h) B TN S) (rs : Option Value) (R : MH → Prop) : ∀ m t, t + m = TN → ∀ row : List Int32, tellR (sdC K0 B TN) TN h row → (∀ t', t' < t → row[6 * h + t']? = some (sdC K0 B TN h t')) → (∀ (row' : List Int32) (zz : Option Value), tellR (sdC K0 B TN) TN (h + 1) row' → ∃ h', R h' ∧ Ev xs (d + 4) 103 2 [some (.ref 0), some (.ref (74 + v)), some (.int (nI (h + 1))), zz] [] (hCl now (itC K0 B TN h) told im0 im1 p f (setH r v row') tr) rs h') → ∃ h', R h' ∧ Ev xs (d + 4) 103 21 [some (.ref 0), some (.ref (74 + v)), some (.int (nI h)), some (.int (nI t))] [] (hCl now (itC K0 B TN h) told im0 im1 p f (setH r v row) tr) rs h' := by
  have hT6 := hK.1.2.2.2.2.2.1
  have eT := hK.1.2.2.1
  intro m
  induction m with
  | zero =>
    intro t ht row h1 h2 kk
    have e : t = TN := by omega
    subst e
    obtain ⟨h', q1, q2⟩ := kk row (some (.int (nI t))) ⟨h1.1, fun a b c1 c2 => by
      by_cases c : a = h
      · subst c
        exact h2 b c2
      · exact h1.2 a b (by omega) c2⟩
    refine ⟨h', q1, ?_⟩
    refine ev_go 4 (fun _ => rfl) ?_
    refine ev_ic_ge rfl rfl (fun _ => ?_) (fun n => absurd (by show (itC K0 B t h).1.2.2.2.2.1 ≤ nI t; rw [eT]; exact nI_le (Nat.le_refl _) (by omega)) n)
    refine ev_go 2 (ls' := [some (.ref 0), some (.ref (74 + v)), some (.int (nI h + Int32.ofInt 1)), some (.int (nI t))]) (fun _ => rfl) ?_
    rw [nI_inc]
    exact q2
  | succ m ih =>
    intro t ht row h1 h2 kk
    have aT := getT_at (l := (itC K0 B TN h).2.2) (k := t) (by rw [CG6 hK]; omega)
    have g1 : tellR (sdC K0 B TN) TN h (row.set (6 * h + t) (sdC K0 B TN h t)) := ⟨by rw [List.length_set]; exact h1.1, fun a b c1 c2 => by
      rw [List.getElem?_set_ne (by omega)]
      exact h1.2 a b c1 c2⟩
    have g2 : ∀ t', t' < t + 1 → (row.set (6 * h + t) (sdC K0 B TN h t))[6 * h + t']? = some (sdC K0 B TN h t') := fun t' c => by
      by_cases c2 : t' = t
      · subst c2
        exact List.getElem?_set_self (by rw [h1.1]; omega)
      · rw [List.getElem?_set_ne (by omega)]
        exact h2 t' (by omega)
    obtain ⟨h', q1, q2⟩ := ih (t + 1) (by omega) _ g1 g2 kk
    refine ⟨h', q1, ?_⟩
    have e1 : (hCl now (itC K0 B TN h) told im0 im1 p f (setH r v row) tr)[74 + v]? = some (.inl (0, row)) := by
      rw [at_heard now _ told im0 im1 p f _ tr v hv, setH_at]
    have e2 : (hCl now (itC K0 B TN h) told im0 im1 p f (setH r v row) tr).set (74 + v) (.inl (0, row.set (6 * h + t) (sdC K0 B TN h t))) = hCl now (itC K0 B TN h) told im0 im1 p f (setH r v (row.set (6 * h + t) (sdC K0 B TN h t))) tr := by
      rw [set_heard now _ told im0 im1 p f _ tr v hv, setH_H]
    refine ev_go 4 (fun _ => rfl) ?_
    refine ev_ic_ge rfl rfl (fun n => absurd n (by show ¬ (itC K0 B TN h).1.2.2.2.2.1 ≤ nI t; rw [eT]; exact nI_ge (by omega) (by omega))) (fun _ => ?_)
    refine ev_go 10 (fun _ => rfl) ?_
    refine ev_aald rfl (at_trial now _ told im0 im1 p f _ tr 4 (by decide) (CG6 hK)) (by decide) (mm_ix_nI (n := t) (by omega)) (bR_at (by omega)) ?_
    refine ev_gfT rfl rfl (at_trialT now _ told im0 im1 p f _ tr (CG6 hK) aT) rfl ?_
    refine ev_iastE rfl e1 (ix6 (by omega)) (by rw [h1.1]; omega) e2 ?_
    refine ev_go 2 (ls' := [some (.ref 0), some (.ref (74 + v)), some (.int (nI h)), some (.int (nI t + Int32.ofInt 1))]) (fun _ => rfl) ?_
    rw [nI_inc]
    exact q2
/-- all hours are noted -/
theorem lp_lisO (v B TN S : Nat) (K0 : CK) (hv : v < 10) (hK : CG K0 B TN S) : ∀ m h, h + m = 21 → 0 < h → ∀ (row : List Int32) (zz : Option Value), tellR (sdC K0 B TN) TN h row → ∃ h', (∃ row', tellR (sdC K0 B TN) TN 21 row' ∧ h' = hCl now (itC K0 B TN 20) told im0 im1 p f (setH r v row') tr) ∧ Ev xs (d + 4) 103 2 [some (.ref 0), some (.ref (74 + v)), some (.int (nI h)), zz] [] (hCl now (itC K0 B TN (h - 1)) told im0 im1 p f (setH r v row) tr) none h' := by
  intro m
  induction m with
  | zero =>
    intro h hh h0 row zz h1
    have e : h = 21 := by omega
    subst e
    refine ⟨_, ⟨row, h1, rfl⟩, ?_⟩
    refine ev_go 2 (fun _ => rfl) ?_
    refine ev_ic_gt rfl rfl (fun _ => ?_) (fun n => absurd (nI_lt (a := 20) (b := 21) (by omega) (by omega)) n)
    exact ev_end 1 rfl
  | succ m ih =>
    intro h hh h0 row zz h1
    have hc := CG_it (h - 1) hK
    have ec : hrC (itC K0 B TN (h - 1)) B TN = itC K0 B TN h := by
      rw [← itC_c, show h - 1 + 1 = h by omega]
    obtain ⟨h', q1, q2⟩ := lp_lisI xs d now told im0 im1 p f r tr v h B TN S K0 hv (by omega) (CG_it h hK) none (fun h' => ∃ row', tellR (sdC K0 B TN) TN 21 row' ∧ h' = hCl now (itC K0 B TN 20) told im0 im1 p f (setH r v row') tr) TN 0 (by omega) row h1 (fun t' c => by omega) (fun row' zz h2 => ih (h + 1) (by omega) (by omega) row' zz h2)
    refine ⟨h', q1, ?_⟩
    refine ev_go 2 (fun _ => rfl) ?_
    refine ev_ic_gt rfl rfl (fun n => absurd n (nI_nlt (a := 20) (b := h) (by omega) (by omega))) (fun _ => ?_)
    refine ev_go 1 (fun _ => rfl) ?_
    refine ev_if_le rfl rfl (fun n => absurd n (nI_nle h0 (by omega))) (fun _ => ?_)
    refine ev_go 2 (fun _ => rfl) ?_
    refine ev_cTrial (y' := 17) (As := []) (K' := itC K0 B TN h) rfl rfl rfl rfl rfl nil_i (CG6 hc) (CG6 (CG_it h hK)) ((by have := sp_hourC xs (d := d) (itC K0 B TN (h - 1)) B TN S hc.1 hc.2.1 hc.2.2; rw [ec] at this; exact this)) (Or.inl rfl) ?_
    refine ev_go 2 (fun _ => rfl) ?_
    exact q2
theorem sp_listen (v B TN S : Nat) (hv : v < 10) (hK : CG trial B TN S) (hL : (r.2.2.1 v).length = 126) : ∃ row', tellR (sdC trial B TN) TN 21 row' ∧ Ev xs (d + 4) 103 0 [some (.ref 0), some (.ref (74 + v)), none, none] [] (hCl now trial told im0 im1 p f r tr) none (hCl now (itC trial B TN 20) told im0 im1 p f (setH r v row') tr) := by
  obtain ⟨h', ⟨row', q1, q2⟩, q3⟩ := lp_lisI xs d now told im0 im1 p f r tr v 0 B TN S trial hv (by omega) hK none (fun h' => ∃ row', tellR (sdC trial B TN) TN 21 row' ∧ h' = hCl now (itC trial B TN 20) told im0 im1 p f (setH r v row') tr) TN 0 (by omega) (r.2.2.1 v) ⟨hL, fun a b c _ => by omega⟩ (fun t' c => by omega) (fun row' zz h2 => lp_lisO xs d now told im0 im1 p f r tr v B TN S trial hv hK 20 1 (by omega) (by omega) row' zz h2)
  refine ⟨row', q1, ?_⟩
  rw [← q2]
  rw [setH_self] at q3
  refine ev_go 9 (fun _ => rfl) ?_
  exact q3
end CLS14

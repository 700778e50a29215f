/-! BargeTalks: leftAtWorst, ask -/
def rT (r : RS) (l : List Int32) : RS := (r.1, r.2.1, r.2.2.1, l, r.2.2.2.2)
/-- a tally of a list -/
def tlOK (T l : List Int32) : Prop := T.length = 21 ∧ ∀ x, x < 21 → T[x]? = some (nI (cnE l (nI x)))
theorem mx_nI {a b : Nat} (ha : a < 2 ^ 31) (hb : b < 2 ^ 31) : (if nI a < nI b then nI b else nI a) = nI (max a b) := by
  by_cases c : a < b
  · rw [if_pos (nI_lt c hb), Nat.max_eq_right (by omega)]
  · rw [if_neg (nI_nlt (by omega) ha), Nat.max_eq_left (by omega)]
theorem tl_0 {T : List Int32} (h : T.length = 21) : tlOK (up (fun _ => (0 : Int32)) 21 T) [] := ⟨by rw [up_len (by omega)]; exact h, fun x hx => up_lt hx⟩
theorem tl_s {T l : List Int32} {s : Nat} (hs : s < 21) (h : tlOK T l) : tlOK (T.set s (nI (cnE l (nI s)) + Int32.ofInt 1)) (l ++ [nI s]) := by
  refine ⟨by rw [List.length_set]; exact h.1, fun x hx => ?_⟩
  rw [cnE_s]
  by_cases c : x = s
  · subst c
    rw [List.getElem?_set_self (by rw [h.1]; omega), if_pos rfl, nI_inc]
  · rw [List.getElem?_set_ne (fun q => c q.symm), h.2 x hx, if_neg (nI_neq c (by omega) (by omega))]
    rfl
section CLS16
variable (xs : List Int32) (d : Nat) (now trial told im0 im1 : CK) (p : TP) (f : FP) (r : RS) (tr : Int32)
theorem at_tally : (hCl now trial told im0 im1 p f r tr)[84]? = some (.inl (0, r.2.2.2.1)) := rfl
theorem set_tally (l : List Int32) : (hCl now trial told im0 im1 p f r tr).set 84 (.inl (0, l)) = hCl now trial told im0 im1 p f (rT r l) tr := set_B now trial told im0 im1 p f r tr (j := 11) (by decide) _ rfl rfl rfl
theorem lp_tl0 (P pl : Int32) (T : List Int32) (hT : T.length = 21) (rs : Option Value) (R : MH) (kk : ∀ zz, Ev xs d 105 24 [some (.ref 0), some (.int P), some (.int pl), zz, none, none] [] (hCl now trial told im0 im1 p f (rT r (up (fun _ => (0 : Int32)) 21 T)) tr) rs R) : ∀ m v, v + m = 21 → Ev xs d 105 2 [some (.ref 0), some (.int P), some (.int pl), some (.int (nI v)), none, none] [] (hCl now trial told im0 im1 p f (rT r (up (fun _ => (0 : Int32)) v T)) tr) rs R := by
  intro m
  induction m with
  | zero =>
    intro v hv
    have e : v = 21 := by omega
    subst e
    refine ev_go 4 (fun _ => rfl) ?_
    refine ev_ic_ge rfl rfl (fun _ => ?_) (fun n => absurd (by show Int32.ofNat (up (fun _ => (0 : Int32)) 21 T).length ≤ nI 21; rw [up_len (by omega), hT]; exact nI_le (a := 21) (by omega) (by omega)) n)
    exact kk _
  | succ m ih =>
    intro v hv
    have e2 : (hCl now trial told im0 im1 p f (rT r (up (fun _ => (0 : Int32)) v T)) tr).set 84 (.inl (0, (up (fun _ => (0 : Int32)) v T).set v 0)) = hCl now trial told im0 im1 p f (rT r (up (fun _ => (0 : Int32)) (v + 1) T)) tr := by
      rw [set_tally, up_s (g := fun _ => (0 : Int32)) (by omega)]
      rfl
    refine ev_go 4 (fun _ => rfl) ?_
    refine ev_ic_ge rfl rfl (fun n => absurd n (by show ¬ Int32.ofNat (up (fun _ => (0 : Int32)) v T).length ≤ nI v; rw [up_len (by omega), hT]; exact nI_ge (b := 21) (by omega) (by omega))) (fun _ => ?_)
    refine ev_go 4 (fun _ => rfl) ?_
    refine ev_iastE rfl (at_tally now trial told im0 im1 p f _ tr) (mm_ix_nI (n := v) (by omega)) (by show v < (up (fun _ => (0 : Int32)) v T).length; rw [up_len (by omega)]; omega) e2 ?_
    refine ev_go 2 (ls' := [some (.ref 0), some (.int P), some (.int pl), some (.int (nI v + Int32.ofInt 1)), none, none]) (fun _ => rfl) ?_
    rw [nI_inc]
    exact ih (v + 1) (by omega)
theorem lp_tl (A : Nat → Bool) (F : Nat → Nat → Nat → Int32) (P : Int32) (TN h t : Nat) (hh : h ≤ 20) (ht : t < TN) (hTN : TN ≤ 6) (hP : ∀ q, 1 ≤ q → q < 10 → (P >>> (nI q &&& 31)) &&& Int32.ofInt 1 = bI (A q)) (hR : ∀ v, 1 ≤ v → v ≤ 9 → tellR (F v) TN 21 (r.2.2.1 v)) (hs : ∀ v, ∃ s, s ≤ 20 ∧ F v h t = nI s) : ∀ m q, q + m = 10 → 1 ≤ q → ∀ (l T : List Int32) (z5 : Option Value), tlOK T l → l.length + m ≤ 9 → ∃ T', T'.length = 21 ∧ Ev xs (d + 1) 105 29 [some (.ref 0), some (.int P), some (.int (nI (6 * h + t))), some (.int (nI (mxP l))), some (.int (nI q)), z5] [] (hCl now trial told im0 im1 p f (rT r T) tr) (some (.int (nI (mxP (l ++ (flt A m q).map (fun v => F v h t)))))) (hCl now trial told im0 im1 p f (rT r T') tr) := by
  intro m
  induction m with
  | zero =>
    intro q hq h1 l T z5 hT hl
    have e : q = 10 := by omega
    subst e
    refine ⟨T, hT.1, ?_⟩
    rw [show (flt A 0 10).map (fun v => F v h t) = [] from rfl, List.append_nil]
    refine ev_go 2 (fun _ => rfl) ?_
    refine ev_ic_gt rfl rfl (fun _ => ?_) (fun n => absurd (nI_lt (a := 9) (b := 10) (by omega) (by omega)) n)
    exact ev_end 2 rfl
  | succ m ih =>
    intro q hq h1 l T z5 hT hl
    obtain ⟨s, hs1, hs2⟩ := hs q
    have hb := hP q h1 (by omega)
    have e1 := (hR q h1 (by omega)).2 h t (by omega) ht
    rw [hs2] at e1
    unfold flt
    rw [List.map_append, ← List.append_assoc]
    cases ha : A q with
    | false =>
      rw [ha] at hb
      obtain ⟨T', q1, q2⟩ := ih (q + 1) (by omega) (by omega) l T (some (.int (nI s))) hT (by omega)
      refine ⟨T', q1, ?_⟩
      rw [show ([] : List Nat).map (fun v => F v h t) = [] from rfl, List.append_nil]
      refine ev_go 2 (fun _ => rfl) ?_
      refine ev_ic_gt rfl rfl (fun n => absurd n (nI_nlt (a := 9) (b := q) (by omega) (by omega))) (fun _ => ?_)
      refine ev_go 3 (fun _ => rfl) ?_
      refine ev_aald rfl (t := 200) (q := 74 + q) rfl (by decide) (mm_ix_nI (n := q) (by omega)) (heard_at q (by omega)) ?_
      refine ev_go 1 (fun _ => rfl) ?_
      refine ev_iald rfl (at_heard now trial told im0 im1 p f (rT r T) tr q (by omega)) (mm_ix_nI (n := 6 * h + t) (by omega)) e1 ?_
      refine ev_go 7 (fun _ => rfl) ?_
      rw [hb]
      refine ev_ic_ne rfl rfl (fun _ => ?_) (fun n => absurd (by decide) n)
      refine ev_go 2 (ls' := [some (.ref 0), some (.int P), some (.int (nI (6 * h + t))), some (.int (nI (mxP l))), some (.int (nI q + Int32.ofInt 1)), some (.int (nI s))]) (fun _ => rfl) ?_
      rw [nI_inc]
      exact q2
    | true =>
      rw [ha] at hb
      have hx := mxP_le l
      have hc := cnE_le l (nI s)
      obtain ⟨T', q1, q2⟩ := ih (q + 1) (by omega) (by omega) (l ++ [nI s]) _ (some (.int (nI s))) (tl_s (by omega) hT) (by rw [List.length_append]; show l.length + 1 + m ≤ 9; omega)
      refine ⟨T', q1, ?_⟩
      rw [show [q].map (fun v => F v h t) = [nI s] by rw [← hs2]; rfl]
      rw [mxP_s, ← mx_nI (by omega) (by omega), ← nI_inc] at q2
      refine ev_go 2 (fun _ => rfl) ?_
      refine ev_ic_gt rfl rfl (fun n => absurd n (nI_nlt (a := 9) (b := q) (by omega) (by omega))) (fun _ => ?_)
      refine ev_go 3 (fun _ => rfl) ?_
      refine ev_aald rfl (t := 200) (q := 74 + q) rfl (by decide) (mm_ix_nI (n := q) (by omega)) (heard_at q (by omega)) ?_
      refine ev_go 1 (fun _ => rfl) ?_
      refine ev_iald rfl (at_heard now trial told im0 im1 p f (rT r T) tr q (by omega)) (mm_ix_nI (n := 6 * h + t) (by omega)) e1 ?_
      refine ev_go 7 (fun _ => rfl) ?_
      rw [hb]
      refine ev_ic_ne rfl rfl (fun n => absurd n (fun n => n rfl)) (fun _ => ?_)
      refine ev_go 3 (fun _ => rfl) ?_
      refine ev_call (y' := 95) rfl rfl rfl rfl (sp_within xs _ _ (nI s) 0 20) ?_
      rw [show wiI (nI s) 0 20 = true from wi_nI (M := 20) hs1 (by decide)]
      refine ev_go 5 (fun _ => rfl) ?_
      refine ev_iald rfl (at_tally now trial told im0 im1 p f (rT r T) tr) (mm_ix_nI (n := s) (by omega)) (hT.2 s (by omega)) ?_
      refine ev_go 2 (fun _ => rfl) ?_
      refine ev_iastE rfl (at_tally now trial told im0 im1 p f (rT r T) tr) (mm_ix_nI (n := s) (by omega)) (by show s < T.length; rw [hT.1]; omega) (set_tally now trial told im0 im1 p f (rT r T) tr _) ?_
      refine ev_go 4 (fun _ => rfl) ?_
      refine ev_iald rfl (at_tally now trial told im0 im1 p f (rT r (T.set s (nI (cnE l (nI s)) + Int32.ofInt 1))) tr) (mm_ix_nI (n := s) (by omega)) (List.getElem?_set_self (by rw [hT.1]; omega)) ?_
      refine ev_go 4 (ls' := [some (.ref 0), some (.int P), some (.int (nI (6 * h + t))), some (.int (if nI (mxP l) < nI (cnE l (nI s)) + Int32.ofInt 1 then nI (cnE l (nI s)) + Int32.ofInt 1 else nI (mxP l))), some (.int (nI q + Int32.ofInt 1)), some (.int (nI s))]) (fun _ => rfl) ?_
      rw [nI_inc (t := q)]
      exact q2
theorem sp_left (A : Nat → Bool) (F : Nat → Nat → Nat → Int32) (P : Int32) (TN h t : Nat) (hh : h ≤ 20) (ht : t < TN) (hTN : TN ≤ 6) (hT : r.2.2.2.1.length = 21) (hP : ∀ q, 1 ≤ q → q < 10 → (P >>> (nI q &&& 31)) &&& Int32.ofInt 1 = bI (A q)) (hR : ∀ v, 1 ≤ v → v ≤ 9 → tellR (F v) TN 21 (r.2.2.1 v)) (hs : ∀ v, ∃ s, s ≤ 20 ∧ F v h t = nI s) : ∃ T', T'.length = 21 ∧ Ev xs (d + 1) 105 0 [some (.ref 0), some (.int P), some (.int (nI (6 * h + t))), none, none, none] [] (hCl now trial told im0 im1 p f r tr) (some (.int (nI (mxP ((flt A 9 1).map (fun v => F v h t)))))) (hCl now trial told im0 im1 p f (rT r T') tr) := by
  obtain ⟨T', q1, q2⟩ := lp_tl xs d now trial told im0 im1 p f r tr A F P TN h t hh ht hTN hP hR hs 9 1 (by omega) (by omega) [] _ none (tl_0 hT) (by decide)
  refine ⟨T', q1, ?_⟩
  rw [List.nil_append] at q2
  refine ev_go 2 (fun _ => rfl) ?_
  exact lp_tl0 xs (d + 1) now trial told im0 im1 p f r tr P (nI (6 * h + t)) r.2.2.2.1 hT _ _ (fun zz => by
    refine ev_go 4 (ls' := [some (.ref 0), some (.int P), some (.int (nI (6 * h + t))), some (.int (nI (mxP []))), some (.int (nI 1)), none]) (fun _ => rfl) ?_
    exact q2) 21 0 (by omega)
variable (A : Nat → Bool) (F : Nat → Nat → Nat → Int32) (P b w : Int32) (B TN S : Nat)
theorem nI_10 {h t : Nat} : (Int8.ofInt 10).toInt32 * nI h + nI t = nI (10 * h + t) := nI_mul10
theorem nI_6b {h t : Nat} : nI h * (Int8.ofInt 6).toInt32 + nI t = nI (6 * h + t) := by
  rw [show (Int8.ofInt 6).toInt32 = nI 6 from rfl, nI_mulA, nI_add, Nat.mul_comm]
theorem lp_akI (h : Nat) (hh : h ≤ 20) (hn : CN now B TN S) (hP : ∀ q, 1 ≤ q → q < 10 → (P >>> (nI q &&& 31)) &&& Int32.ofInt 1 = bI (A q)) (hR : ∀ v, 1 ≤ v → v ≤ 9 → tellR (F v) TN 21 (r.2.2.1 v)) (hs : ∀ v h t, h ≤ 20 → t < TN → ∃ s, s ≤ 20 ∧ F v h t = nI s) (rs : Option Value) (R : MH → Prop) : ∀ m t, t + m = TN → ∀ (q : Nat × Int32) (T : List Int32) (z8 : Option Value), q.1 ≤ 9 → T.length = 21 → (∀ (T' : List Int32) (z7 z8 : Option Value), T'.length = 21 → ∃ h', R h' ∧ Ev xs (d + 2) 86 42 [some (.ref 0), some (.int b), some (.int w), some (.int P), some (.int (nI (akI (fun h t => mxP ((flt A 9 1).map (fun v => F v h t))) h m t q).1)), some (.int (akI (fun h t => mxP ((flt A 9 1).map (fun v => F v h t))) h m t q).2), some (.int (nI (h + 1))), z7, z8] [] (hCl now trial told im0 im1 p f (rT r T') tr) rs h') → ∃ h', R h' ∧ Ev xs (d + 2) 86 52 [some (.ref 0), some (.int b), some (.int w), some (.int P), some (.int (nI q.1)), some (.int q.2), some (.int (nI h)), some (.int (nI t)), z8] [] (hCl now trial told im0 im1 p f (rT r T) tr) rs h' := by
  have hTN := hn.2.2.2.2.2.1
  have eT := hn.2.2.1
  intro m
  induction m with
  | zero =>
    intro t ht q T z8 hq hT kk
    have e : t = TN := by omega
    subst e
    obtain ⟨h', q1, q2⟩ := kk T (some (.int (nI t))) z8 hT
    refine ⟨h', q1, ?_⟩
    refine ev_go 4 (fun _ => rfl) ?_
    refine ev_ic_ge rfl rfl (fun _ => ?_) (fun n => absurd (by show now.1.2.2.2.2.1 ≤ nI t; rw [eT]; exact nI_le (Nat.le_refl _) (by omega)) n)
    refine ev_go 2 (ls' := [some (.ref 0), some (.int b), some (.int w), some (.int P), some (.int (nI q.1)), some (.int q.2), some (.int (nI h + Int32.ofInt 1)), some (.int (nI t)), z8]) (fun _ => rfl) ?_
    rw [nI_inc]
    exact q2
  | succ m ih =>
    intro t ht q T z8 hq hT kk
    obtain ⟨T', g1, g2⟩ := sp_left xs d now trial told im0 im1 p f (rT r T) tr A F P TN h t hh (by omega) hTN hT hP hR (fun v => hs v h t hh (by omega))
    have hE : mxP ((flt A 9 1).map (fun v => F v h t)) ≤ 9 := by
      have h1 := mxP_le ((flt A 9 1).map (fun v => F v h t))
      have h2 := flt_len A 9 1
      rw [List.length_map] at h1
      omega
    unfold akI at kk
    unfold akS at kk
    by_cases c : mxP ((flt A 9 1).map (fun v => F v h t)) < q.1
    · rw [if_pos c] at kk
      obtain ⟨h', q1, q2⟩ := ih (t + 1) (by omega) (mxP ((flt A 9 1).map (fun v => F v h t)), nI (10 * h + t)) T' (some (.int (nI (mxP ((flt A 9 1).map (fun v => F v h t)))))) hE g1 kk
      refine ⟨h', q1, ?_⟩
      refine ev_go 4 (fun _ => rfl) ?_
      refine ev_ic_ge rfl rfl (fun n => absurd n (by show ¬ now.1.2.2.2.2.1 ≤ nI t; rw [eT]; exact nI_ge (by omega) (by omega))) (fun _ => ?_)
      refine ev_go 7 (fun _ => rfl) ?_
      rw [nI_6b]
      refine ev_call (y' := 105) rfl rfl rfl rfl (g2) ?_
      refine ev_go 3 (fun _ => rfl) ?_
      refine ev_ic_ge rfl rfl (fun n => absurd n (nI_ge c (by omega))) (fun _ => ?_)
      refine ev_go 10 (ls' := [some (.ref 0), some (.int b), some (.int w), some (.int P), some (.int (nI (mxP ((flt A 9 1).map (fun v => F v h t))))), some (.int ((Int8.ofInt 10).toInt32 * nI h + nI t)), some (.int (nI h)), some (.int (nI t + Int32.ofInt 1)), some (.int (nI (mxP ((flt A 9 1).map (fun v => F v h t)))))]) (fun _ => rfl) ?_
      rw [nI_inc, nI_10]
      exact q2
    · rw [if_neg c] at kk
      obtain ⟨h', q1, q2⟩ := ih (t + 1) (by omega) q T' (some (.int (nI (mxP ((flt A 9 1).map (fun v => F v h t)))))) hq g1 kk
      refine ⟨h', q1, ?_⟩
      refine ev_go 4 (fun _ => rfl) ?_
      refine ev_ic_ge rfl rfl (fun n => absurd n (by show ¬ now.1.2.2.2.2.1 ≤ nI t; rw [eT]; exact nI_ge (by omega) (by omega))) (fun _ => ?_)
      refine ev_go 7 (fun _ => rfl) ?_
      rw [nI_6b]
      refine ev_call (y' := 105) rfl rfl rfl rfl (g2) ?_
      refine ev_go 3 (fun _ => rfl) ?_
      refine ev_ic_ge rfl rfl (fun _ => ?_) (fun n => absurd (nI_le (by omega) (by omega)) n)
      refine ev_go 2 (ls' := [some (.ref 0), some (.int b), some (.int w), some (.int P), some (.int (nI q.1)), some (.int q.2), some (.int (nI h)), some (.int (nI t + Int32.ofInt 1)), some (.int (nI (mxP ((flt A 9 1).map (fun v => F v h t)))))]) (fun _ => rfl) ?_
      rw [nI_inc]
      exact q2
theorem lp_akO (hn : CN now B TN S) (hP : ∀ q, 1 ≤ q → q < 10 → (P >>> (nI q &&& 31)) &&& Int32.ofInt 1 = bI (A q)) (hR : ∀ v, 1 ≤ v → v ≤ 9 → tellR (F v) TN 21 (r.2.2.1 v)) (hs : ∀ v h t, h ≤ 20 → t < TN → ∃ s, s ≤ 20 ∧ F v h t = nI s) : ∀ m h, h + m = 21 → ∀ (q : Nat × Int32) (T : List Int32) (z7 z8 : Option Value), q.1 ≤ 9 → T.length = 21 → ∃ h', (∃ T' : List Int32, T'.length = 21 ∧ h' = hCl now trial told im0 im1 p f (rT r T') tr) ∧ Ev xs (d + 2) 86 42 [some (.ref 0), some (.int b), some (.int w), some (.int P), some (.int (nI q.1)), some (.int q.2), some (.int (nI h)), z7, z8] [] (hCl now trial told im0 im1 p f (rT r T) tr) (some (.int (akA w (akO (fun h t => mxP ((flt A 9 1).map (fun v => F v h t))) TN m h q)))) h' := by
  intro m
  induction m with
  | zero =>
    intro h hh q T z7 z8 hq hT
    have e : h = 21 := by omega
    subst e
    refine ⟨_, ⟨T, hT, rfl⟩, ?_⟩
    unfold akO akA
    refine ev_go 2 (fun _ => rfl) ?_
    refine ev_ic_gt rfl rfl (fun _ => ?_) (fun n => absurd (nI_lt (a := 20) (b := 21) (by omega) (by omega)) n)
    refine ev_go 1 (fun _ => rfl) ?_
    by_cases c : w = 0
    · refine ev_if_eq rfl rfl (fun _ => ?_) (fun n => absurd (c) n)
      by_cases c2 : q.2 = -4
      · rw [if_pos c2, ← c2]
        exact ev_end 3 rfl
      · rw [if_neg c2, if_pos c]
        exact ev_end 3 rfl
    · refine ev_if_eq rfl rfl (fun n => absurd n (c)) (fun _ => ?_)
      refine ev_go 2 (fun _ => rfl) ?_
      by_cases c2 : q.2 = -4
      · rw [if_pos c2]
        refine ev_ic_ne rfl rfl (fun n => absurd n (fun n => n c2)) (fun _ => ?_)
        rw [c2]
        exact ev_end 3 rfl
      · rw [if_neg c2, if_neg c]
        refine ev_ic_ne rfl rfl (fun _ => ?_) (fun n => absurd (c2) n)
        exact ev_end 2 rfl
  | succ m ih =>
    intro h hh q T z7 z8 hq hT
    unfold akO
    obtain ⟨h', q1, q2⟩ := lp_akI xs d now trial told im0 im1 p f r tr A F P b w B TN S h (by omega) hn hP hR hs (some (.int (akA w (akO (fun h t => mxP ((flt A 9 1).map (fun v => F v h t))) TN m (h + 1) (akI (fun h t => mxP ((flt A 9 1).map (fun v => F v h t))) h TN 0 q))))) (fun h' => ∃ T' : List Int32, T'.length = 21 ∧ h' = hCl now trial told im0 im1 p f (rT r T') tr) TN 0 (by omega) q T z8 hq hT (fun T' z7 z8 hT' => ih (h + 1) (by omega) _ T' z7 z8 (Nat.le_trans (akI_le _ _ _) hq) hT')
    refine ⟨h', q1, ?_⟩
    refine ev_go 2 (fun _ => rfl) ?_
    refine ev_ic_gt rfl rfl (fun n => absurd n (nI_nlt (a := 20) (b := h) (by omega) (by omega))) (fun _ => ?_)
    refine ev_go 2 (ls' := [some (.ref 0), some (.int b), some (.int w), some (.int P), some (.int (nI q.1)), some (.int q.2), some (.int (nI h)), some (.int (nI 0)), z8]) (fun _ => rfl) ?_
    exact q2
end CLS16
section CLS17
variable (xs : List Int32) (d : Nat) (now trial told im0 im1 : CK) (p : TP) (f : FP) (r : RS) (tr : Int32)
theorem sp_ask_bad (b w : Int32) (hK : now.2.2.length = 6) (c : (hasI b now.1.2.2.2.1 && wiI w 0 1) = false) : Ev xs (d + 1) 86 0 [some (.ref 0), some (.int b), some (.int w), none, none, none, none, none, none] [] (hCl now trial told im0 im1 p f r tr) (some (.int (-1))) (hCl now trial told im0 im1 p f r tr) := by
  refine ev_go 3 (fun _ => rfl) ?_
  refine ev_cNow (y' := 3) (As := [.int b]) (K' := now) rfl rfl rfl rfl rfl one_i (hK) (hK) (sp_hasBC xs _ now b) (Or.inr ⟨_, rfl⟩) ?_
  cases c0 : hasI b now.1.2.2.2.1 with
  | false => exact ev_end 3 rfl
  | true =>
    rw [c0] at c
    refine ev_go 4 (fun _ => rfl) ?_
    refine ev_call (y' := 95) rfl rfl rfl rfl (sp_within xs _ _ w 0 1) ?_
    rw [show wiI w 0 1 = false from c]
    exact ev_end 3 rfl
theorem sp_ask (F : Nat → Nat → Nat → Int32) (b B TN S : Nat) (w : Int32) (cw : wiI w 0 1 = true) (hb : b < B) (hn : CG now B TN S) (hS : okS now S) (ht : GS trial) (hg : ∀ v, v < 10 → (r.2.2.1 v).length = 126) (hT : r.2.2.2.1.length = 21) (hF : ∀ (v : Nat), v < 10 → ∀ (trial : CK), GS trial → ∀ h t, h ≤ 20 → t < TN → sdC (putK (tryK now trial B TN S) 2 b (nI v)) B TN h t = F v h t) (hs : ∀ v h t, h ≤ 20 → t < TN → ∃ s, s ≤ 20 ∧ F v h t = nI s) : ∃ (g' : Nat → List Int32) (K' : CK) (T' : List Int32), GS K' ∧ (∀ v, v < 10 → (g' v).length = 126) ∧ T'.length = 21 ∧ Ev xs (d + 6) 86 0 [some (.ref 0), some (.int (nI b)), some (.int w), none, none, none, none, none, none] [] (hCl now trial told im0 im1 p f r tr) (some (.int (akA w (akO (fun h t => mxP ((flt (fun v => asQ (F v) TN now S 0) 9 1).map (fun v => F v h t))) TN 21 0 ((flt (fun v => asQ (F v) TN now S 0) 9 1).length, -4))))) (hCl now K' told im0 im1 p f (rT (rH r g') T') tr) := by
  have hK := CG6 hn
  have hB := hn.1.2.2.2.2.1
  obtain ⟨g', K', q1, q2, q3, q4⟩ := sp_vas xs d now trial told im0 im1 p f r tr F 2 b 1 9 B TN S (by omega) hb (by omega) (by omega) rfl rfl hn hS ht hg hF
  obtain ⟨h', ⟨T', e1, e2⟩, e3⟩ := lp_akO xs (d + 4) now K' told im0 im1 p f (rH r g') tr (fun v => asQ (F v) TN now S 0) F (vaS (fun v => asQ (F v) TN now S 0) 9 1 0) (nI b) w B TN S hn.1 (fun q h1 h2 => vaS_at _ q h1 h2) (fun v h1 h2 => q3 v h1 h2) hs 21 0 (by omega) ((flt (fun v => asQ (F v) TN now S 0) 9 1).length, -4) r.2.2.2.1 none none (flt_len _ _ _) hT
  refine ⟨g', K', T', q1, q2, e1, ?_⟩
  rw [← e2]
  refine ev_go 3 (fun _ => rfl) ?_
  refine ev_cNow (y' := 3) (As := [.int (nI b)]) (K' := now) rfl rfl rfl rfl rfl one_i (hK) (hK) (sp_hasBC xs _ now (nI b)) (Or.inr ⟨_, rfl⟩) ?_
  rw [show hasI (nI b) now.1.2.2.2.1 = true by rw [hn.1.2.1]; exact has_nI (by omega) hb]
  refine ev_go 4 (fun _ => rfl) ?_
  refine ev_call (y' := 95) rfl rfl rfl rfl (sp_within xs _ _ w 0 1) ?_
  rw [cw]
  refine ev_go 4 (fun _ => rfl) ?_
  refine ev_call (y' := 102) rfl rfl rfl rfl (q4) ?_
  have e4 := sp_bc xs (d + 5) (hCl now K' told im0 im1 p f (rH r g') tr) (vaS (fun v => asQ (F v) TN now S 0) 9 1 0)
  rw [vaS_bc] at e4
  generalize vaS (fun v => asQ (F v) TN now S 0) 9 1 0 = P at e3 e4 ⊢
  refine ev_go 2 (fun _ => rfl) ?_
  refine ev_call (y' := 199) rfl rfl rfl rfl (e4) ?_
  refine ev_go 5 (fun _ => rfl) ?_
  exact e3
end CLS17

/-! alter, runs, ahead, at, when, again -/
section CLS8
variable (xs : List Int32) (d : Nat) (now trial told im0 im1 : CK) (p : TP) (f : FP) (r : RS) (tr : Int32)
theorem sp_mayC (K : CK) (w v : Int32) : Ev xs (d + 2) 9 0 [some (.ref 0), some (.int w), some (.int v)] [] (bH 0 K) (some (.int (bI (mayI K.1.1 w v)))) (bH 0 K) := sp_mayBe xs d K.1.1 K.1.2.1 K.1.2.2.1 K.1.2.2.2.1 K.1.2.2.2.2.1 K.1.2.2.2.2.2.1 K.1.2.2.2.2.2.2.1 K.1.2.2.2.2.2.2.2 K.2.1.1 K.2.1.2.1 K.2.1.2.2.1 K.2.1.2.2.2.1 K.2.1.2.2.2.2.1 K.2.1.2.2.2.2.2.1 K.2.1.2.2.2.2.2.2.1 K.2.1.2.2.2.2.2.2.2.1 K.2.1.2.2.2.2.2.2.2.2.1 K.2.1.2.2.2.2.2.2.2.2.2 K.2.2 w v
theorem sp_leC (K : CK) (w : Int32) : Ev xs d 7 0 [some (.ref 0), some (.int w)] [] (bH 0 K) (some (.int (leI w))) (bH 0 K) := sp_least xs d K.1.1 K.1.2.1 K.1.2.2.1 K.1.2.2.2.1 K.1.2.2.2.2.1 K.1.2.2.2.2.2.1 K.1.2.2.2.2.2.2.1 K.1.2.2.2.2.2.2.2 K.2.1.1 K.2.1.2.1 K.2.1.2.2.1 K.2.1.2.2.2.1 K.2.1.2.2.2.2.1 K.2.1.2.2.2.2.2.1 K.2.1.2.2.2.2.2.2.1 K.2.1.2.2.2.2.2.2.2.1 K.2.1.2.2.2.2.2.2.2.2.1 K.2.1.2.2.2.2.2.2.2.2.2 K.2.2 w
theorem sp_moC (K : CK) (w : Int32) : Ev xs (d + 1) 8 0 [some (.ref 0), some (.int w)] [] (bH 0 K) (some (.int (moI K.1.1 w))) (bH 0 K) := sp_most xs d K.1.1 K.1.2.1 K.1.2.2.1 K.1.2.2.2.1 K.1.2.2.2.2.1 K.1.2.2.2.2.2.1 K.1.2.2.2.2.2.2.1 K.1.2.2.2.2.2.2.2 K.2.1.1 K.2.1.2.1 K.2.1.2.2.1 K.2.1.2.2.2.1 K.2.1.2.2.2.2.1 K.2.1.2.2.2.2.2.1 K.2.1.2.2.2.2.2.2.1 K.2.1.2.2.2.2.2.2.2.1 K.2.1.2.2.2.2.2.2.2.2.1 K.2.1.2.2.2.2.2.2.2.2.2 K.2.2 w
/-- a part of a barge, and one changed -/
def gtK (K : CK) (w b : Nat) : Int32 := match w with
  | 0 => K.2.1.1.getD b 0
  | 1 => K.2.1.2.1.getD b 0
  | _ => K.2.1.2.2.1.getD b 0
def putK (K : CK) (w b : Nat) (v : Int32) : CK := match w with
  | 0 => (K.1, (K.2.1.1.set b v, K.2.1.2), K.2.2)
  | 1 => (K.1, (K.2.1.1, K.2.1.2.1.set b v, K.2.1.2.2), K.2.2)
  | _ => (K.1, (K.2.1.1, K.2.1.2.1, K.2.1.2.2.1.set b v, K.2.1.2.2.2), K.2.2)
theorem sp_putC (K : CK) (w b : Nat) (v : Int32) (hK : CL K) (hw : w ≤ 2) (hb : b < 5) : Ev xs d 10 0 [some (.ref 0), some (.int (nI b)), some (.int (nI w)), some (.int v), none, none] [] (bH 0 K) (some (.int (gtK K w b))) (bH 0 (putK K w b v)) := by
  obtain ⟨l1, l2, l3, -⟩ := hK
  match w, hw with
  | 0, _ => exact sp_put0 xs d K.1.1 K.1.2.1 K.1.2.2.1 K.1.2.2.2.1 K.1.2.2.2.2.1 K.1.2.2.2.2.2.1 K.1.2.2.2.2.2.2.1 K.1.2.2.2.2.2.2.2 K.2.1.1 K.2.1.2.1 K.2.1.2.2.1 K.2.1.2.2.2.1 K.2.1.2.2.2.2.1 K.2.1.2.2.2.2.2.1 K.2.1.2.2.2.2.2.2.1 K.2.1.2.2.2.2.2.2.2.1 K.2.1.2.2.2.2.2.2.2.2.1 K.2.1.2.2.2.2.2.2.2.2.2 K.2.2 (nI b) v _ b (mm_ix_nI (by omega)) (getD_at (by omega))
  | 1, _ => exact sp_put1 xs d K.1.1 K.1.2.1 K.1.2.2.1 K.1.2.2.2.1 K.1.2.2.2.2.1 K.1.2.2.2.2.2.1 K.1.2.2.2.2.2.2.1 K.1.2.2.2.2.2.2.2 K.2.1.1 K.2.1.2.1 K.2.1.2.2.1 K.2.1.2.2.2.1 K.2.1.2.2.2.2.1 K.2.1.2.2.2.2.2.1 K.2.1.2.2.2.2.2.2.1 K.2.1.2.2.2.2.2.2.2.1 K.2.1.2.2.2.2.2.2.2.2.1 K.2.1.2.2.2.2.2.2.2.2.2 K.2.2 (nI b) v _ b (mm_ix_nI (by omega)) (getD_at (by omega))
  | 2, _ => exact sp_put2 xs d K.1.1 K.1.2.1 K.1.2.2.1 K.1.2.2.2.1 K.1.2.2.2.2.1 K.1.2.2.2.2.2.1 K.1.2.2.2.2.2.2.1 K.1.2.2.2.2.2.2.2 K.2.1.1 K.2.1.2.1 K.2.1.2.2.1 K.2.1.2.2.2.1 K.2.1.2.2.2.2.1 K.2.1.2.2.2.2.2.1 K.2.1.2.2.2.2.2.2.1 K.2.1.2.2.2.2.2.2.2.1 K.2.1.2.2.2.2.2.2.2.2.1 K.2.1.2.2.2.2.2.2.2.2.2 K.2.2 (nI b) v _ b (mm_ix_nI (by omega)) (getD_at (by omega))
  | n + 3, h => exact absurd h (by omega)
theorem CG_put {K : CK} {B TN S : Nat} (w b : Nat) (v : Int32) (h : CG K B TN S) : CG (putK K w b v) B TN S := by
  obtain ⟨⟨⟨h1, h2, h3, h4⟩, e⟩, ⟨g1, g2⟩, hw⟩ := h
  unfold putK
  split
  · exact ⟨⟨⟨by show (List.set _ _ _).length = 5; rw [List.length_set]; exact h1, h2, h3, h4⟩, e⟩, ⟨g1, g2⟩, hw⟩
  · exact ⟨⟨⟨h1, by show (List.set _ _ _).length = 5; rw [List.length_set]; exact h2, h3, h4⟩, e⟩, ⟨by show (List.set _ _ _).length = 5; rw [List.length_set]; exact g1, g2⟩, hw⟩
  · exact ⟨⟨⟨h1, h2, by show (List.set _ _ _).length = 5; rw [List.length_set]; exact h3, h4⟩, e⟩, ⟨g1, g2⟩, hw⟩
theorem may_w {len w v : Int32} (h : mayI len w v = true) : ∃ k, k ≤ 2 ∧ w = nI k := by
  unfold mayI at h
  rw [Bool.and_eq_true, Bool.and_eq_true] at h
  refine wi_of (M := 2) (by decide) ?_
  unfold wiI
  rw [h.1]
  exact h.2.1
theorem sp_alter_bad (b w v : Int32) (hK : now.2.2.length = 6) (c : (hasI b now.1.2.2.2.1 && mayI now.1.1 w v) = false) : Ev xs (d + 3) 65 0 [some (.ref 0), some (.int b), some (.int w), some (.int v)] [] (hCl now trial told im0 im1 p f r tr) (some (.int (-1))) (hCl now trial told im0 im1 p f r tr) := by
  refine ev_go 3 (fun _ => rfl) ?_
  refine ev_cNow (y' := 3) (As := [.int b]) (K' := now) rfl rfl rfl rfl rfl one_i (hK) (hK) (sp_hasBC xs _ now b) (Or.inr ⟨_, rfl⟩) ?_
  cases c1 : hasI b now.1.2.2.2.1 with
  | false => exact ev_end 3 rfl
  | true =>
    rw [c1] at c
    refine ev_go 5 (fun _ => rfl) ?_
    refine ev_cNow (y' := 9) (As := [.int w, .int v]) (K' := now) rfl rfl rfl rfl rfl two_i (hK) (hK) (sp_mayC xs _ now w v) (Or.inr ⟨_, rfl⟩) ?_
    rw [show mayI now.1.1 w v = false from c]
    exact ev_end 3 rfl
theorem sp_alter (B TN S b w : Nat) (v : Int32) (hn : CG now B TN S) (hb : b < B) (hw : w ≤ 2) (c : mayI now.1.1 (nI w) v = true) : Ev xs (d + 3) 65 0 [some (.ref 0), some (.int (nI b)), some (.int (nI w)), some (.int v)] [] (hCl now trial told im0 im1 p f r tr) (some (.int (gtK now w b))) (hCl (putK now w b v) trial told im0 im1 p f r tr) := by
  have hB := hn.1.2.2.2.2.1
  have hK := CG6 hn
  have cb : hasI (nI b) now.1.2.2.2.1 = true := by rw [hn.1.2.1]; exact has_nI (by omega) hb
  refine ev_go 3 (fun _ => rfl) ?_
  refine ev_cNow (y' := 3) (As := [.int (nI b)]) (K' := now) rfl rfl rfl rfl rfl one_i (hK) (hK) (sp_hasBC xs _ now (nI b)) (Or.inr ⟨_, rfl⟩) ?_
  rw [cb]
  refine ev_go 5 (fun _ => rfl) ?_
  refine ev_cNow (y' := 9) (As := [.int (nI w), .int v]) (K' := now) rfl rfl rfl rfl rfl two_i (hK) (hK) (sp_mayC xs _ now (nI w) v) (Or.inr ⟨_, rfl⟩) ?_
  rw [c]
  refine ev_go 6 (fun _ => rfl) ?_
  refine ev_cNow (y' := 10) (As := [.int (nI b), .int (nI w), .int v]) (K' := putK now w b v) rfl rfl rfl rfl rfl three_i (hK) (CG6 (CG_put w b v hn)) (sp_putC xs _ now w b v hn.1.1 hw (by omega)) (Or.inr ⟨_, rfl⟩) ?_
  exact ev_end 1 rfl
theorem sp_runs_bad (n w : Int32) (c : (wiI n 0 100 && wiI w 0 3) = false) : Ev xs (d + 1) 71 0 [some (.ref 0), some (.int n), some (.int w)] [] (hCl now trial told im0 im1 p f r tr) (some (.int (-1))) (hCl now trial told im0 im1 p f r tr) := by
  refine ev_go 3 (fun _ => rfl) ?_
  refine ev_call (y' := 95) rfl rfl rfl rfl (sp_within xs d _ n 0 100) ?_
  cases c1 : wiI n 0 100 with
  | false => exact ev_end 3 rfl
  | true =>
    rw [c1] at c
    refine ev_go 4 (fun _ => rfl) ?_
    refine ev_call (y' := 95) rfl rfl rfl rfl (sp_within xs d _ w 0 3) ?_
    rw [show wiI w 0 3 = false from c]
    exact ev_end 3 rfl
def runsA (K : CK) (TN k : Nat) : Int32 := match k with
  | 0 => smT 9 (K.2.2.take TN)
  | 1 => smT 10 (K.2.2.take TN)
  | 2 => K.1.2.2.2.2.2.2.1
  | _ => K.1.2.2.2.2.2.2.2
/-- the trial, gone on by so many hours -/
def aheadK (now trial : CK) (B TN S n : Nat) : CK := itC (tryK now trial B TN S) B TN n
theorem CG_ah {now trial : CK} {B TN S n : Nat} (hn : CG now B TN S) (ht : GS trial) : CG (aheadK now trial B TN S n) B TN S := CG_it n (CG_t hn ht)
theorem sp_runs (B TN S n k : Nat) (hn : CG now B TN S) (ht : GS trial) (h1 : n ≤ 100) (hk : k ≤ 3) : Ev xs (d + 5) 71 0 [some (.ref 0), some (.int (nI n)), some (.int (nI k))] [] (hCl now trial told im0 im1 p f r tr) (some (.int (runsA (aheadK now trial B TN S n) TN k))) (hCl now (aheadK now trial B TN S n) told im0 im1 p f r tr) := by
  have hg := CG_t hn ht
  have ha : CG (aheadK now trial B TN S n) B TN S := CG_ah hn ht
  refine ev_go 3 (fun _ => rfl) ?_
  refine ev_call (y' := 95) rfl rfl rfl rfl (sp_within xs _ _ (nI n) 0 100) ?_
  rw [show wiI (nI n) 0 100 = true from wi_nI (M := 100) h1 (by decide)]
  refine ev_go 4 (fun _ => rfl) ?_
  refine ev_call (y' := 95) rfl rfl rfl rfl (sp_within xs _ _ (nI k) 0 3) ?_
  rw [show wiI (nI k) 0 3 = true from wi_nI (M := 3) hk (by decide)]
  refine ev_go 2 (fun _ => rfl) ?_
  refine ev_call (y' := 96) rfl rfl rfl rfl (sp_try xs _ now trial told im0 im1 p f r tr B TN S hn.1 ht.1) ?_
  refine ev_go 3 (fun _ => rfl) ?_
  refine ev_cTrial (y' := 16) (As := [.int (nI n)]) (K' := aheadK now trial B TN S n) rfl rfl rfl rfl rfl one_i (CG6 hg) (CG6 ha) (sp_hoursC xs _ _ B TN S n hg.1 hg.2.1 hg.2.2 (by omega)) (Or.inl rfl) ?_
  match k, hk with
  | 0, _ =>
    refine ev_go 5 (fun _ => rfl) ?_
    refine ev_cTrial (y' := 23) (As := [.int (nI 9)]) (K' := aheadK now trial B TN S n) rfl rfl rfl rfl rfl one_i (CG6 ha) (CG6 ha) (sp_sumC xs _ _ B TN S 9 ha.1 (by decide)) (Or.inr ⟨_, rfl⟩) ?_
    exact ev_end 1 rfl
  | 1, _ =>
    refine ev_go 5 (fun _ => rfl) ?_
    refine ev_cTrial (y' := 23) (As := [.int (nI 10)]) (K' := aheadK now trial B TN S n) rfl rfl rfl rfl rfl one_i (CG6 ha) (CG6 ha) (sp_sumC xs _ _ B TN S 10 ha.1 (by decide)) (Or.inr ⟨_, rfl⟩) ?_
    exact ev_end 1 rfl
  | 2, _ => exact ev_end 6 rfl
  | 3, _ => exact ev_end 6 rfl
  | n + 4, h => exact absurd h (by omega)
theorem sp_ahead_bad (t n w : Int32) (hK : now.2.2.length = 6) (c : (hasI t now.1.2.2.2.2.1 && (wiI n 0 100 && wiI w 0 1)) = false) : Ev xs (d + 1) 72 0 [some (.ref 0), some (.int t), some (.int n), some (.int w)] [] (hCl now trial told im0 im1 p f r tr) (some (.int (-1))) (hCl now trial told im0 im1 p f r tr) := by
  refine ev_go 3 (fun _ => rfl) ?_
  refine ev_cNow (y' := 4) (As := [.int t]) (K' := now) rfl rfl rfl rfl rfl one_i (hK) (hK) (sp_hasTC xs _ now t) (Or.inr ⟨_, rfl⟩) ?_
  cases c0 : hasI t now.1.2.2.2.2.1 with
  | false => exact ev_end 3 rfl
  | true =>
    rw [c0] at c
    refine ev_go 4 (fun _ => rfl) ?_
    refine ev_call (y' := 95) rfl rfl rfl rfl (sp_within xs d _ n 0 100) ?_
    cases c1 : wiI n 0 100 with
    | false => exact ev_end 3 rfl
    | true =>
      rw [c1] at c
      refine ev_go 4 (fun _ => rfl) ?_
      refine ev_call (y' := 95) rfl rfl rfl rfl (sp_within xs d _ w 0 1) ?_
      rw [show wiI w 0 1 = false from c]
      exact ev_end 3 rfl
theorem at_trialT {t : Nat} {T : TT} (hK : trial.2.2.length = 6) (hT : trial.2.2[t]? = some T) : (hCl now trial told im0 im1 p f r tr)[19 + (12 + t)]? = some (tkc T) := by
  have ht := (List.getElem?_eq_some_iff.mp hT).1
  rw [(has_trial now trial told im0 im1 p f r tr).2 (12 + t) (by omega), exK_eq hK]
  exact bH_tk hT
theorem getT_at {l : List TT} {k : Nat} (h : k < l.length) : l[k]? = some (l.getD k dT) := by
  rw [List.getD_eq_getElem?_getD, List.getElem?_eq_getElem h]
  rfl
def aheadA (K : CK) (t k : Nat) : Int32 := match k with
  | 0 => (K.2.2.getD t dT).2.2.2.1
  | _ => (K.2.2.getD t dT).2.2.2.2.2.2.2.2.1
theorem sp_ahead (B TN S t n k : Nat) (hn : CG now B TN S) (ht : GS trial) (h0 : t < TN) (h1 : n ≤ 100) (hk : k ≤ 1) : Ev xs (d + 5) 72 0 [some (.ref 0), some (.int (nI t)), some (.int (nI n)), some (.int (nI k))] [] (hCl now trial told im0 im1 p f r tr) (some (.int (aheadA (aheadK now trial B TN S n) t k))) (hCl now (aheadK now trial B TN S n) told im0 im1 p f r tr) := by
  have hg := CG_t hn ht
  have ha : CG (aheadK now trial B TN S n) B TN S := CG_ah hn ht
  have hT6 := hn.1.2.2.2.2.2.1
  have hK := CG6 hn
  have it : mm_ix (nI t) = some t := mm_ix_nI (by omega)
  have aT := getT_at (l := (aheadK now trial B TN S n).2.2) (k := t) (by rw [CG6 ha]; omega)
  refine ev_go 3 (fun _ => rfl) ?_
  refine ev_cNow (y' := 4) (As := [.int (nI t)]) (K' := now) rfl rfl rfl rfl rfl one_i (hK) (hK) (sp_hasTC xs _ now (nI t)) (Or.inr ⟨_, rfl⟩) ?_
  rw [show hasI (nI t) now.1.2.2.2.2.1 = true by rw [hn.1.2.2.1]; exact has_nI (by omega) h0]
  refine ev_go 4 (fun _ => rfl) ?_
  refine ev_call (y' := 95) rfl rfl rfl rfl (sp_within xs _ _ (nI n) 0 100) ?_
  rw [show wiI (nI n) 0 100 = true from wi_nI (M := 100) h1 (by decide)]
  refine ev_go 4 (fun _ => rfl) ?_
  refine ev_call (y' := 95) rfl rfl rfl rfl (sp_within xs _ _ (nI k) 0 1) ?_
  rw [show wiI (nI k) 0 1 = true from wi_nI (M := 1) hk (by decide)]
  refine ev_go 2 (fun _ => rfl) ?_
  refine ev_call (y' := 96) rfl rfl rfl rfl (sp_try xs _ now trial told im0 im1 p f r tr B TN S hn.1 ht.1) ?_
  refine ev_go 3 (fun _ => rfl) ?_
  refine ev_cTrial (y' := 16) (As := [.int (nI n)]) (K' := aheadK now trial B TN S n) rfl rfl rfl rfl rfl one_i (CG6 hg) (CG6 ha) (sp_hoursC xs _ _ B TN S n hg.1 hg.2.1 hg.2.2 (by omega)) (Or.inl rfl) ?_
  match k, hk with
  | 0, _ =>
    refine ev_go 6 (fun _ => rfl) ?_
    refine ev_aald rfl (at_trial now _ told im0 im1 p f r tr 4 (by decide) (CG6 ha)) (by decide) it (bR_at (by omega)) ?_
    refine ev_gfT rfl rfl (at_trialT now _ told im0 im1 p f r tr (CG6 ha) aT) rfl ?_
    exact ev_end 2 rfl
  | 1, _ =>
    refine ev_go 6 (fun _ => rfl) ?_
    refine ev_aald rfl (at_trial now _ told im0 im1 p f r tr 4 (by decide) (CG6 ha)) (by decide) it (bR_at (by omega)) ?_
    refine ev_gfT rfl rfl (at_trialT now _ told im0 im1 p f r tr (CG6 ha) aT) rfl ?_
    exact ev_end 1 rfl
  | n + 2, h => exact absurd h (by omega)
theorem sp_at_bad (b n : Int32) (hK : now.2.2.length = 6) (c : (hasI b now.1.2.2.2.1 && wiI n 0 100) = false) : Ev xs (d + 1) 73 0 [some (.ref 0), some (.int b), some (.int n)] [] (hCl now trial told im0 im1 p f r tr) (some (.int (-1))) (hCl now trial told im0 im1 p f r tr) := by
  refine ev_go 3 (fun _ => rfl) ?_
  refine ev_cNow (y' := 3) (As := [.int b]) (K' := now) rfl rfl rfl rfl rfl one_i (hK) (hK) (sp_hasBC xs _ now b) (Or.inr ⟨_, rfl⟩) ?_
  cases c1 : hasI b now.1.2.2.2.1 with
  | false => exact ev_end 3 rfl
  | true =>
    rw [c1] at c
    refine ev_go 4 (fun _ => rfl) ?_
    refine ev_call (y' := 95) rfl rfl rfl rfl (sp_within xs d _ n 0 100) ?_
    rw [show wiI n 0 100 = false from c]
    exact ev_end 3 rfl
theorem sp_at (B TN S b n : Nat) (hn : CG now B TN S) (hb : b < B) (h1 : n ≤ 100) : Ev xs (d + 3) 73 0 [some (.ref 0), some (.int (nI b)), some (.int (nI n))] [] (hCl now trial told im0 im1 p f r tr) (some (.int (plI now.1.1 (rmI (now.2.1.2.1.getD b 0 + nI n * now.2.1.2.2.1.getD b 0) (2 * now.1.1))))) (hCl now trial told im0 im1 p f r tr) := by
  have hB := hn.1.2.2.2.2.1
  have hK := CG6 hn
  refine ev_go 3 (fun _ => rfl) ?_
  refine ev_cNow (y' := 3) (As := [.int (nI b)]) (K' := now) rfl rfl rfl rfl rfl one_i (hK) (hK) (sp_hasBC xs _ now (nI b)) (Or.inr ⟨_, rfl⟩) ?_
  rw [show hasI (nI b) now.1.2.2.2.1 = true by rw [hn.1.2.1]; exact has_nI (by omega) hb]
  refine ev_go 4 (fun _ => rfl) ?_
  refine ev_call (y' := 95) rfl rfl rfl rfl (sp_within xs _ _ (nI n) 0 100) ?_
  rw [show wiI (nI n) 0 100 = true from wi_nI (M := 100) h1 (by decide)]
  refine ev_go 7 (fun _ => rfl) ?_
  refine ev_cNow (y' := 201) (As := [.int (nI b), .int (nI n)]) (K' := now) rfl rfl rfl rfl rfl two_i (hK) (hK) (sp_phC xs _ now b (nI n) hn.1.1 (by omega) hn.2.2) (Or.inr ⟨_, rfl⟩) ?_
  refine ev_cNow (y' := 6) (As := [.int (rmI (now.2.1.2.1.getD b 0 + nI n * now.2.1.2.2.1.getD b 0) (2 * now.1.1))]) (K' := now) rfl rfl rfl rfl rfl one_i (hK) (hK) (sp_plC xs _ now _) (Or.inr ⟨_, rfl⟩) ?_
  exact ev_end 1 rfl
end CLS8

/-! rule, barge, alter, runs, ahead, at -/
theorem ev_ts_d {xs : List Int32} {d y pc t : Nat} {ls : ML} {st : List Value} {h h' : MH} {r : Option Value} {x : Int32} {df lo hi : Int} {offs : Array Int} (hf : fetT y pc = some (.tableswitch df lo hi offs)) (ht : mm_to pc df = some t) (hx : x.toInt < lo ∨ hi < x.toInt) (hv : Ev xs d y t ls st h r h') : Ev xs d y pc ls (.int x :: st) h r h' := by
  refine ev_s0 hf ?_ hv
  show (if x.toInt < lo then mm_go ls st (mm_to pc df) else if hi < x.toInt then mm_go ls st (mm_to pc df) else _) = _
  rw [ht]
  by_cases c : x.toInt < lo
  · rw [if_pos c]; rfl
  · rw [if_neg c, if_pos (hx.resolve_left c)]; rfl
theorem wi_no {v : Int32} {M : Nat} (hM : M < 2 ^ 31) (h : wiI v 0 (nI M) = false) : v.toInt < 0 ∨ (M : Int) < v.toInt := by
  by_cases c : v < 0
  · exact Or.inl (Int32.lt_iff_toInt_lt.mp c)
  · right
    obtain ⟨j, hj, rfl⟩ := nI_of c
    by_cases c2 : j ≤ M
    · rw [wi_nI c2 hM] at h; cases h
    · rw [nI_toInt hj]; omega
theorem nil_i : ∀ v ∈ ([] : List Value), ∃ x, v = Value.int x := by intro v hv; cases hv
theorem two_i {x y : Int32} : ∀ v ∈ ([.int x, .int y] : List Value), ∃ x, v = Value.int x := by
  intro v hv
  simp at hv
  rcases hv with rfl | rfl <;> exact ⟨_, rfl⟩
/-- what is tried upon is whole -/
def GS (K : CK) : Prop := CL K ∧ okM K.2.1.2.2.2.2.2.2.2.2.2
theorem CL6 {K : CK} (h : CL K) : K.2.2.length = 6 := h.2.2.2.2.2.2.2.2.2.2
theorem CG6 {K : CK} {B TN S : Nat} (h : CG K B TN S) : K.2.2.length = 6 := CL6 h.1.1
theorem GS_CG {K : CK} {B TN S : Nat} (h : CG K B TN S) : GS K := ⟨h.1.1, h.2.1.2.2.2.2.2.2.1⟩
theorem CG_t {now trial : CK} {B TN S : Nat} (hn : CG now B TN S) (ht : GS trial) : CG (tryK now trial B TN S) B TN S := CG_try hn ht.1 ht.2
section CLS7
variable (xs : List Int32) (d : Nat) (now trial told im0 im1 : CK) (p : TP) (f : FP) (r : RS) (tr : Int32)
def ruleA (now trial : CK) (B TN S k : Nat) : Int32 := match k with
  | 0 => now.1.2.2.2.1
  | 1 => now.1.2.2.2.2.1
  | 2 => now.1.2.2.1
  | 3 => now.1.1
  | 4 => now.1.2.1
  | 5 => smT 5 (now.2.2.take TN)
  | 6 => smT 6 (now.2.2.take TN)
  | _ => (mvC (tryK now trial B TN S) B).1.2.2.2.2.2.2.2
theorem sp_rule_bad (w : Int32) (c : wiI w 0 7 = false) : Ev xs d 62 0 [some (.ref 0), some (.int w)] [] (hCl now trial told im0 im1 p f r tr) (some (.int (-1))) (hCl now trial told im0 im1 p f r tr) := by
  refine ev_go 1 (fun _ => rfl) ?_
  refine ev_ts_d (t := 115) rfl rfl (wi_no (M := 7) (by decide) c) ?_
  exact ev_end 2 rfl
theorem sp_rule (B TN S k : Nat) (hn : CG now B TN S) (ht : GS trial) (hk : k ≤ 7) : ∃ trial', GS trial' ∧ Ev xs (d + 4) 62 0 [some (.ref 0), some (.int (nI k))] [] (hCl now trial told im0 im1 p f r tr) (some (.int (ruleA now trial B TN S k))) (hCl now trial' told im0 im1 p f r tr) := by
  match k, hk with
  | 0, _ => exact ⟨trial, ht, ev_end 6 rfl⟩
  | 1, _ => exact ⟨trial, ht, ev_end 6 rfl⟩
  | 2, _ => exact ⟨trial, ht, ev_end 6 rfl⟩
  | 3, _ => exact ⟨trial, ht, ev_end 6 rfl⟩
  | 4, _ => exact ⟨trial, ht, ev_end 6 rfl⟩
  | 5, _ =>
    refine ⟨trial, ht, ?_⟩
    refine ev_go 5 (fun _ => rfl) ?_
    refine ev_cNow (y' := 23) (As := [.int (nI 5)]) (K' := now) rfl rfl rfl rfl rfl one_i (CG6 hn) (CG6 hn) (sp_sumC xs _ now B TN S 5 hn.1 (by decide)) (Or.inr ⟨_, rfl⟩) ?_
    exact ev_end 1 rfl
  | 6, _ =>
    refine ⟨trial, ht, ?_⟩
    refine ev_go 5 (fun _ => rfl) ?_
    refine ev_cNow (y' := 23) (As := [.int (nI 6)]) (K' := now) rfl rfl rfl rfl rfl one_i (CG6 hn) (CG6 hn) (sp_sumC xs _ now B TN S 6 hn.1 (by decide)) (Or.inr ⟨_, rfl⟩) ?_
    exact ev_end 1 rfl
  | 7, _ =>
    refine ⟨_, GS_CG (CG_mv (CG_t hn ht)), ?_⟩
    refine ev_go 3 (fun _ => rfl) ?_
    refine ev_call (y' := 97) rfl rfl rfl rfl (sp_look xs _ now trial told im0 im1 p f r tr B TN S hn ht.1 ht.2) ?_
    exact ev_end 2 rfl
  | n + 8, h => exact absurd h (by omega)
theorem has_i {b : Int32} {B : Nat} (hB : B < 2 ^ 31) (h : hasI b (nI B) = true) : ∃ k, k < B ∧ b = nI k := by
  unfold hasI at h
  rw [Bool.and_eq_true] at h
  obtain ⟨j, hj, e⟩ := nI_of (of_decide_eq_true h.1)
  refine ⟨j, ?_, e⟩
  have h2 := of_decide_eq_true h.2
  rw [e] at h2
  exact Nat.not_le.mp fun q => h2 (nI_le q hj)
theorem has_nI {k B : Nat} (hB : B < 2 ^ 31) (h : k < B) : hasI (nI k) (nI B) = true := by
  unfold hasI
  rw [decide_eq_true (nI_pos (by omega)), decide_eq_true (nI_ge h hB)]
  rfl
/-- a number of a row of now's, of the trial's -/
theorem at_now (j : Nat) (hj : j < 18) (hK : now.2.2.length = 6) : (hCl now trial told im0 im1 p f r tr)[1 + j]? = (bH 1 now)[j]? := by
  rw [(has_now now trial told im0 im1 p f r tr).2 j hj, exK_eq hK]
theorem at_trial (j : Nat) (hj : j < 18) (hK : trial.2.2.length = 6) : (hCl now trial told im0 im1 p f r tr)[19 + j]? = (bH 19 trial)[j]? := by
  rw [(has_trial now trial told im0 im1 p f r tr).2 j hj, exK_eq hK]
theorem sp_plC (K : CK) (x : Int32) : Ev xs (d + 1) 6 0 [some (.ref 0), some (.int x)] [] (bH 0 K) (some (.int (plI K.1.1 x))) (bH 0 K) := sp_place xs d K.1.1 K.1.2.1 K.1.2.2.1 K.1.2.2.2.1 K.1.2.2.2.2.1 K.1.2.2.2.2.2.1 K.1.2.2.2.2.2.2.1 K.1.2.2.2.2.2.2.2 K.2.1.1 K.2.1.2.1 K.2.1.2.2.1 K.2.1.2.2.2.1 K.2.1.2.2.2.2.1 K.2.1.2.2.2.2.2.1 K.2.1.2.2.2.2.2.2.1 K.2.1.2.2.2.2.2.2.2.1 K.2.1.2.2.2.2.2.2.2.2.1 K.2.1.2.2.2.2.2.2.2.2.2 K.2.2 x
theorem sp_wayC (K : CK) : Ev xs d 5 0 [some (.ref 0)] [] (bH 0 K) (some (.int (2 * K.1.1))) (bH 0 K) := sp_way xs d K.1.1 K.1.2.1 K.1.2.2.1 K.1.2.2.2.1 K.1.2.2.2.2.1 K.1.2.2.2.2.2.1 K.1.2.2.2.2.2.2.1 K.1.2.2.2.2.2.2.2 K.2.1.1 K.2.1.2.1 K.2.1.2.2.1 K.2.1.2.2.2.1 K.2.1.2.2.2.2.1 K.2.1.2.2.2.2.2.1 K.2.1.2.2.2.2.2.2.1 K.2.1.2.2.2.2.2.2.2.1 K.2.1.2.2.2.2.2.2.2.2.1 K.2.1.2.2.2.2.2.2.2.2.2 K.2.2
theorem sp_phC (K : CK) (b : Nat) (n : Int32) (hl : CL K) (hb : b < 5) (hw : 0 < 2 * K.1.1) : Ev xs (d + 2) 201 0 [some (.ref 0), some (.int (nI b)), some (.int n)] [] (bH 0 K) (some (.int (rmI (K.2.1.2.1.getD b 0 + n * K.2.1.2.2.1.getD b 0) (2 * K.1.1)))) (bH 0 K) := by
  obtain ⟨⟨l1, l2, l3, l4, l5, l6, l7, l8⟩, ⟨r1, r2, r3, r4, r5, r6, r7, r8, r9, r10⟩, rw2⟩ := K
  exact sp_phB xs d l1 l2 l3 l4 l5 l6 l7 l8 r1 r2 r3 r4 r5 r6 r7 r8 r9 r10 rw2 b n hb hl.2.1 hl.2.2.1 hw
def bargeA (now trial : CK) (B TN S b k : Nat) : Int32 := match k with
  | 0 => now.2.1.1.getD b 0
  | 1 => now.2.1.2.1.getD b 0
  | 2 => now.2.1.2.2.1.getD b 0
  | 3 => plI now.1.1 (now.2.1.2.1.getD b 0)
  | _ => (mvC (tryK now trial B TN S) B).2.1.2.2.2.2.2.2.2.2.1.getD b 0
theorem sp_barge_bad1 (b w : Int32) (hK : now.2.2.length = 6) (c : hasI b now.1.2.2.2.1 = false) : Ev xs (d + 1) 63 0 [some (.ref 0), some (.int b), some (.int w)] [] (hCl now trial told im0 im1 p f r tr) (some (.int (-1))) (hCl now trial told im0 im1 p f r tr) := by
  refine ev_go 3 (fun _ => rfl) ?_
  refine ev_cNow (y' := 3) (As := [.int b]) (K' := now) rfl rfl rfl rfl rfl one_i (hK) (hK) (sp_hasBC xs _ now b) (Or.inr ⟨_, rfl⟩) ?_
  rw [c]
  exact ev_end 3 rfl
theorem sp_barge_bad2 (b w : Int32) (hK : now.2.2.length = 6) (c : hasI b now.1.2.2.2.1 = true) (c2 : wiI w 0 4 = false) : Ev xs (d + 1) 63 0 [some (.ref 0), some (.int b), some (.int w)] [] (hCl now trial told im0 im1 p f r tr) (some (.int (-1))) (hCl now trial told im0 im1 p f r tr) := by
  refine ev_go 3 (fun _ => rfl) ?_
  refine ev_cNow (y' := 3) (As := [.int b]) (K' := now) rfl rfl rfl rfl rfl one_i (hK) (hK) (sp_hasBC xs _ now b) (Or.inr ⟨_, rfl⟩) ?_
  rw [c]
  refine ev_go 2 (fun _ => rfl) ?_
  refine ev_ts_d (t := 105) rfl rfl (wi_no (M := 4) (by decide) c2) ?_
  exact ev_end 2 rfl
theorem sp_barge (B TN S b k : Nat) (hn : CG now B TN S) (ht : GS trial) (hb : b < B) (hk : k ≤ 4) : ∃ trial', GS trial' ∧ Ev xs (d + 4) 63 0 [some (.ref 0), some (.int (nI b)), some (.int (nI k))] [] (hCl now trial told im0 im1 p f r tr) (some (.int (bargeA now trial B TN S b k))) (hCl now trial' told im0 im1 p f r tr) := by
  have hB := hn.1.2.2.2.2.1
  have c : hasI (nI b) now.1.2.2.2.1 = true := by rw [hn.1.2.1]; exact has_nI (by omega) hb
  have hK := CG6 hn
  obtain ⟨l1, l2, l3, -⟩ := hn.1.1
  have ib : mm_ix (nI b) = some b := mm_ix_nI (by omega)
  match k, hk with
  | 0, _ =>
    refine ⟨trial, ht, ?_⟩
    refine ev_go 3 (fun _ => rfl) ?_
    refine ev_cNow (y' := 3) (As := [.int (nI b)]) (K' := now) rfl rfl rfl rfl rfl one_i (hK) (hK) (sp_hasBC xs _ now (nI b)) (Or.inr ⟨_, rfl⟩) ?_
    rw [c]
    refine ev_go 7 (fun _ => rfl) ?_
    refine ev_iald rfl (at_now now trial told im0 im1 p f r tr 1 (by decide) hK) ib (getD_at (by show b < now.2.1.1.length; omega)) ?_
    exact ev_end 1 rfl
  | 1, _ =>
    refine ⟨trial, ht, ?_⟩
    refine ev_go 3 (fun _ => rfl) ?_
    refine ev_cNow (y' := 3) (As := [.int (nI b)]) (K' := now) rfl rfl rfl rfl rfl one_i (hK) (hK) (sp_hasBC xs _ now (nI b)) (Or.inr ⟨_, rfl⟩) ?_
    rw [c]
    refine ev_go 7 (fun _ => rfl) ?_
    refine ev_iald rfl (at_now now trial told im0 im1 p f r tr 2 (by decide) hK) ib (getD_at (by show b < now.2.1.2.1.length; omega)) ?_
    exact ev_end 1 rfl
  | 2, _ =>
    refine ⟨trial, ht, ?_⟩
    refine ev_go 3 (fun _ => rfl) ?_
    refine ev_cNow (y' := 3) (As := [.int (nI b)]) (K' := now) rfl rfl rfl rfl rfl one_i (hK) (hK) (sp_hasBC xs _ now (nI b)) (Or.inr ⟨_, rfl⟩) ?_
    rw [c]
    refine ev_go 7 (fun _ => rfl) ?_
    refine ev_iald rfl (at_now now trial told im0 im1 p f r tr 3 (by decide) hK) ib (getD_at (by show b < now.2.1.2.2.1.length; omega)) ?_
    exact ev_end 1 rfl
  | 3, _ =>
    refine ⟨trial, ht, ?_⟩
    refine ev_go 3 (fun _ => rfl) ?_
    refine ev_cNow (y' := 3) (As := [.int (nI b)]) (K' := now) rfl rfl rfl rfl rfl one_i (hK) (hK) (sp_hasBC xs _ now (nI b)) (Or.inr ⟨_, rfl⟩) ?_
    rw [c]
    refine ev_go 9 (fun _ => rfl) ?_
    refine ev_iald rfl (at_now now trial told im0 im1 p f r tr 2 (by decide) hK) ib (getD_at (by show b < now.2.1.2.1.length; omega)) ?_
    refine ev_cNow (y' := 6) (As := [.int (now.2.1.2.1.getD b 0)]) (K' := now) rfl rfl rfl rfl rfl one_i (hK) (hK) (sp_plC xs _ now _) (Or.inr ⟨_, rfl⟩) ?_
    exact ev_end 1 rfl
  | 4, _ =>
    have hg := CG_mv (CG_t hn ht)
    refine ⟨_, GS_CG hg, ?_⟩
    refine ev_go 3 (fun _ => rfl) ?_
    refine ev_cNow (y' := 3) (As := [.int (nI b)]) (K' := now) rfl rfl rfl rfl rfl one_i (hK) (hK) (sp_hasBC xs _ now (nI b)) (Or.inr ⟨_, rfl⟩) ?_
    rw [c]
    refine ev_go 4 (fun _ => rfl) ?_
    refine ev_call (y' := 97) rfl rfl rfl rfl (sp_look xs _ now trial told im0 im1 p f r tr B TN S hn ht.1 ht.2) ?_
    refine ev_go 2 (fun _ => rfl) ?_
    refine ev_iald rfl (at_trial now _ told im0 im1 p f r tr 10 (by decide) (CG6 hg)) ib (getD_at (by rw [hg.1.1.2.2.2.2.2.2.2.2.1]; omega)) ?_
    exact ev_end 1 rfl
  | n + 5, h => exact absurd h (by omega)
end CLS7

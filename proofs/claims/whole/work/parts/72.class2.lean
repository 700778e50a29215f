section CLS2
variable {xs : List Int32} {d y pc y' idx : Nat} {ls : ML} {st As : List Value} {rs r1 : Option Value} {h' : MH} {now trial told im0 im1 K' : CK} {p : TP} {f : FP} {r : RS} {tr : Int32}
/-- a call of a method of the Canal now, of the trial -/
theorem ev_cNow (hf : fetT y pc = some (.invokevirtual idx)) (hs : mm_stp fldT (prmT xs) (d + 1) y (.invokevirtual idx) pc ls st (hCl now trial told im0 im1 p f r tr) = none) (hm : mthT y idx = some (y', true)) (hk : (decide ((infT y').1 ≤ st.length) && decide (mm_ct (st.drop (infT y').1) ≤ 8) && decide ((mm_sl ((st.take (infT y').1).reverse)).length ≤ (infT y').2.1) && !(infT y').2.2.2.2 && Nat.beq (infT y').2.2.2.1 0) = true) (hst : (st.take (infT y').1).reverse = .ref 1 :: As) (hA : ∀ v ∈ As, ∃ x, v = Value.int x) (hK : now.2.2.length = 6) (hK' : K'.2.2.length = 6)
    (hv : Ev xs d y' 0 (mm_en (infT y').2.1 (.ref 0 :: As)) [] (bH 0 now) r1 (bH 0 K')) (hr1 : r1 = none ∨ ∃ x, r1 = some (.int x)) (hr : Ev xs (d + 1) y (pc + 3) ls (r1.toList ++ st.drop (infT y').1) (hCl K' trial told im0 im1 p f r tr) rs h') : Ev xs (d + 1) y pc ls st (hCl now trial told im0 im1 p f r tr) rs h' := by
  refine ev_callC (K := exK now) (K' := exK K') hf hs hm hk hst hA (has_now now trial told im0 im1 p f r tr) rfl rfl (by rw [exK_eq hK, exK_eq hK']; exact hv) hr1 ?_
  rw [put_now]
  exact hr
theorem ev_cTrial (hf : fetT y pc = some (.invokevirtual idx)) (hs : mm_stp fldT (prmT xs) (d + 1) y (.invokevirtual idx) pc ls st (hCl now trial told im0 im1 p f r tr) = none) (hm : mthT y idx = some (y', true)) (hk : (decide ((infT y').1 ≤ st.length) && decide (mm_ct (st.drop (infT y').1) ≤ 8) && decide ((mm_sl ((st.take (infT y').1).reverse)).length ≤ (infT y').2.1) && !(infT y').2.2.2.2 && Nat.beq (infT y').2.2.2.1 0) = true) (hst : (st.take (infT y').1).reverse = .ref 19 :: As) (hA : ∀ v ∈ As, ∃ x, v = Value.int x) (hK : trial.2.2.length = 6) (hK' : K'.2.2.length = 6)
    (hv : Ev xs d y' 0 (mm_en (infT y').2.1 (.ref 0 :: As)) [] (bH 0 trial) r1 (bH 0 K')) (hr1 : r1 = none ∨ ∃ x, r1 = some (.int x)) (hr : Ev xs (d + 1) y (pc + 3) ls (r1.toList ++ st.drop (infT y').1) (hCl now K' told im0 im1 p f r tr) rs h') : Ev xs (d + 1) y pc ls st (hCl now trial told im0 im1 p f r tr) rs h' := by
  refine ev_callC (K := exK trial) (K' := exK K') hf hs hm hk hst hA (has_trial now trial told im0 im1 p f r tr) rfl rfl (by rw [exK_eq hK, exK_eq hK']; exact hv) hr1 ?_
  rw [put_trial]
  exact hr
end CLS2
/-- the numbers of barges, talks, seen in a Canal -/
def CN (K : CK) (B TN S : Nat) : Prop := CL K ∧ K.1.2.2.2.1 = nI B ∧ K.1.2.2.2.2.1 = nI TN ∧ K.1.2.2.2.2.2.1 = nI S ∧ B ≤ 5 ∧ TN ≤ 6 ∧ S ≤ 6
def clK (K : CK) (TN : Nat) : CK := ((K.1.1, K.1.2.1, K.1.2.2.1, K.1.2.2.2.1, K.1.2.2.2.2.1, K.1.2.2.2.2.2.1, 0, 0), K.2.1, mapUp T_clr TN K.2.2)
theorem sp_clearK (xs : List Int32) (d : Nat) (K : CK) (TN : Nat) (e : K.1.2.2.2.2.1 = nI TN) (hTN : TN ≤ 6) (hK : K.2.2.length = 6) : Ev xs d 15 0 [some (.ref 0), none] [] (bH 0 K) none (bH 0 (clK K TN)) := by
  obtain ⟨⟨l1, l2, l3, l4, l5, l6, l7, l8⟩, ⟨r1, r2, r3, r4, r5, r6, r7, r8, r9, r10⟩, rw2⟩ := K
  dsimp only at e
  subst e
  exact sp_clear xs d l1 l2 l3 l4 l6 l7 l8 r1 r2 r3 r4 r5 r6 r7 r8 r9 r10 rw2 TN hTN hK
/-- what is tried out: now, with counts of 0, over what the trial held -/
def tryK (now trial : CK) (B TN S : Nat) : CK := clK (cpK trial now B TN S) TN
theorem CL_cl {K : CK} {TN : Nat} (h : CL K) : CL (clK K TN) := by
  obtain ⟨h1, h2, h3, h4, h5, h6, h7, h8, h9, h10, h11⟩ := h
  exact ⟨h1, h2, h3, h4, h5, h6, h7, h8, h9, h10, mapUp_len.trans h11⟩
theorem CN_try {now trial : CK} {B TN S : Nat} (hn : CN now B TN S) (ht : CL trial) : CN (tryK now trial B TN S) B TN S := ⟨CL_cl (CL_cp hn.2.2.2.2.1 hn.2.2.2.2.2.1 hn.2.2.2.2.2.2 ht), rfl, rfl, rfl, hn.2.2.2.2.1, hn.2.2.2.2.2.1, hn.2.2.2.2.2.2⟩
section CLS3
variable (xs : List Int32) (d : Nat) (now trial told im0 im1 : CK) (p : TP) (f : FP) (r : RS) (tr : Int32)
theorem sp_try (B TN S : Nat) (hn : CN now B TN S) (ht : CL trial) : Ev xs (d + 2) 96 0 [some (.ref 0)] [] (hCl now trial told im0 im1 p f r tr) none (hCl now (tryK now trial B TN S) told im0 im1 p f r tr) := by
  obtain ⟨hcl, e1, e2, e3, hB, hTN, hS⟩ := hn
  have x1 : exK now = now := exK_eq hcl.2.2.2.2.2.2.2.2.2.2
  have x2 : exK trial = trial := exK_eq ht.2.2.2.2.2.2.2.2.2.2
  have hc := CL_cp (L := now) hB hTN hS ht
  refine ev_go 4 (fun _ => rfl) ?_
  refine ev_callCC (n := 19) (m := 1) (K := exK trial) (L := exK now) B TN S rfl rfl rfl rfl (has_trial now trial told im0 im1 p f r tr) (has_now now trial told im0 im1 p f r tr) rfl hB hTN hS (by rw [x2]; exact ht) (by rw [x1]; exact hcl) e1 e2 e3 ?_
  have x3 : cpK (exK trial) (exK now) B TN S = exK (cpK trial now B TN S) := by rw [x1, x2, exK_eq hc.2.2.2.2.2.2.2.2.2.2]
  rw [x3, put_trial_now]
  refine ev_go 2 (fun _ => rfl) ?_
  refine ev_cTrial (d := d + 1) (y' := 15) (As := []) (K' := tryK now trial B TN S) rfl rfl rfl rfl rfl (by intro v hv; cases hv) hc.2.2.2.2.2.2.2.2.2.2 (CL_cl hc).2.2.2.2.2.2.2.2.2.2 (sp_clearK xs _ (cpK trial now B TN S) TN rfl hTN hc.2.2.2.2.2.2.2.2.2.2) (Or.inl rfl) ?_
  exact ev_end 1 rfl
/-- a Canal as hours see it -/
def ksK (K : CK) : KS := ((K.1.2.2.1, K.1.2.2.2.2.2.2.1, K.1.2.2.2.2.2.2.2), (K.2.1.2.1, K.2.1.2.2.2.2.2.2.1, K.2.1.2.2.2.2.2.2.2.1, K.2.1.2.2.2.2.2.2.2.2.1, K.2.1.2.2.2.2.2.2.2.2.2), K.2.2)
def onK (K : CK) (s : KS) : CK := ((K.1.1, K.1.2.1, s.1.1, K.1.2.2.2.1, K.1.2.2.2.2.1, K.1.2.2.2.2.2.1, s.1.2.1, s.1.2.2), (K.2.1.1, s.2.1.1, K.2.1.2.2.1, K.2.1.2.2.2.1, K.2.1.2.2.2.2.1, K.2.1.2.2.2.2.2.1, s.2.1.2.1, s.2.1.2.2.1, s.2.1.2.2.2.1, s.2.1.2.2.2.2), s.2.2)
def mvC (K : CK) (B : Nat) : CK := onK K (mvK K.1.1 B K.2.1.2.2.1 (ksK K))
def hrC (K : CK) (B TN : Nat) : CK := onK K (hrK K.1.1 K.1.2.1 B TN K.2.1.1 K.2.1.2.2.1 (ksK K))
def itC (K : CK) (B TN n : Nat) : CK := onK K (itK K.1.1 K.1.2.1 B TN K.2.1.1 K.2.1.2.2.1 n (ksK K))
theorem sp_moveC (K : CK) (B TN S : Nat) (hn : CN K B TN S) (hk : KOK TN (ksK K)) (hw : 0 < 2 * K.1.1) : Ev xs (d + 2) 19 0 [some (.ref 0), none, none] [] (bH 0 K) none (bH 0 (mvC K B)) := by
  obtain ⟨⟨l1, l2, l3, l4, l5, l6, l7, l8⟩, ⟨r1, r2, r3, r4, r5, r6, r7, r8, r9, r10⟩, rw2⟩ := K
  obtain ⟨hcl, e1, e2, e3, hB, hTN, hS⟩ := hn
  dsimp only at e1 e2 e3
  subst e1
  subst e2
  exact sp_moveK xs d l1 l2 B TN l6 r1 r3 r4 r5 r6 _ hB hk hcl.2.2.1 hw
theorem sp_hourC (K : CK) (B TN S : Nat) (hn : CN K B TN S) (hk : KOK TN (ksK K)) (hw : 0 < 2 * K.1.1) : Ev xs (d + 3) 17 0 [some (.ref 0), none, none, none] [] (bH 0 K) none (bH 0 (hrC K B TN)) := by
  obtain ⟨⟨l1, l2, l3, l4, l5, l6, l7, l8⟩, ⟨r1, r2, r3, r4, r5, r6, r7, r8, r9, r10⟩, rw2⟩ := K
  obtain ⟨hcl, e1, e2, e3, hB, hTN, hS⟩ := hn
  dsimp only at e1 e2 e3
  subst e1
  subst e2
  exact sp_hour xs d l1 l2 B TN l6 r1 r3 r4 r5 r6 _ hB hTN hk hcl.1 hcl.2.2.1 hw
theorem sp_hoursC (K : CK) (B TN S n : Nat) (hn : CN K B TN S) (hk : KOK TN (ksK K)) (hw : 0 < 2 * K.1.1) (hN : n < 2 ^ 31) : Ev xs (d + 4) 16 0 [some (.ref 0), some (.int (nI n)), none] [] (bH 0 K) none (bH 0 (itC K B TN n)) := by
  obtain ⟨⟨l1, l2, l3, l4, l5, l6, l7, l8⟩, ⟨r1, r2, r3, r4, r5, r6, r7, r8, r9, r10⟩, rw2⟩ := K
  obtain ⟨hcl, e1, e2, e3, hB, hTN, hS⟩ := hn
  dsimp only at e1 e2 e3
  subst e1
  subst e2
  exact sp_hours xs d l1 l2 B TN l6 r1 r3 r4 r5 r6 n _ hN hB hTN hk hcl.1 hcl.2.2.1 hw
theorem sp_sumC (K : CK) (B TN S k : Nat) (hn : CN K B TN S) (hk : k ≤ 10) : Ev xs (d + 2) 23 0 [some (.ref 0), some (.int (nI k)), none, none] [] (bH 0 K) (some (.int (smT k (K.2.2.take TN)))) (bH 0 K) := by
  obtain ⟨⟨l1, l2, l3, l4, l5, l6, l7, l8⟩, ⟨r1, r2, r3, r4, r5, r6, r7, r8, r9, r10⟩, rw2⟩ := K
  obtain ⟨hcl, e1, e2, e3, hB, hTN, hS⟩ := hn
  dsimp only at e1 e2 e3
  subst e2
  exact sp_sum xs d l1 l2 l3 l4 l6 l7 l8 r1 r2 r3 r4 r5 r6 r7 r8 r9 r10 rw2 TN k hk hTN hcl.2.2.2.2.2.2.2.2.2.2
end CLS3

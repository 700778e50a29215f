/-! The reference reads its text: a line, all -/
theorem pBdy_tok {D : Nat → Nat} {L p e ln : Nat} {s : PS} {f : PF} (ht : pTok D L e = .inl f) (h4 : ln = 4 → s.2.1.1 = false) (h5 : ln = 5 → s.2.1.2 = false) (h6 : ln = 6 → s.2.2.2.length < 6) (h0 : ln < 4 → s.2.2.1.length < 5) (h7 : ln < 7) : pBdy D L p e ln s = .inl f := by
  have hn : ∀ lo hi nt, pNum D L e lo hi nt = .inl f := fun lo hi nt => by
    unfold pNum
    rw [ht]
  unfold pBdy
  by_cases k4 : ln = 4
  · rw [if_pos k4]
    unfold pCut
    rw [h4 k4, if_neg (fun w => Bool.false_ne_true w), hn]
  · rw [if_neg k4]
    by_cases k5 : ln = 5
    · rw [if_pos k5]
      unfold pMem
      rw [h5 k5, if_neg (fun w => Bool.false_ne_true w), hn]
    · rw [if_neg k5]
      by_cases k6 : ln = 6
      · rw [if_pos k6]
        unfold pTlk
        rw [if_pos (h6 k6), hn]
      · rw [if_neg k6]
        unfold pBar
        rw [if_pos (h0 (by omega)), hn]
theorem pBdy_fl {D : Nat → Nat} {L p e ln : Nat} {s s2 : PS} {e2 : Nat} (h : pBdy D L p e ln s = .inr (s2, e2)) : s2.2.1.1 = (s.2.1.1 || decide (ln = 4)) ∧ s2.2.1.2 = (s.2.1.2 || decide (ln = 5)) := by
  unfold pBdy at h
  split at h
  · rename_i k
    subst k
    unfold pCut at h
    split at h
    · cases h
    · split at h
      · cases h
      · cases h
        exact ⟨by rw [decide_eq_true rfl, Bool.or_true], by rw [decide_eq_false (by decide), Bool.or_false]⟩
  · rename_i k4
    rw [decide_eq_false k4, Bool.or_false]
    split at h
    · rename_i k
      subst k
      unfold pMem at h
      split at h
      · cases h
      · split at h
        · cases h
        · cases h
          exact ⟨rfl, by rw [decide_eq_true rfl, Bool.or_true]⟩
    · rename_i k5
      rw [decide_eq_false k5, Bool.or_false]
      split at h
      · unfold pTlk at h
        split at h
        · split at h
          · cases h
          · split at h
            · cases h
            · split at h
              · cases h
              · cases h
                exact ⟨rfl, rfl⟩
        · cases h
      · unfold pBar at h
        split at h
        · split at h
          · cases h
          · split at h
            · cases h
            · cases h
              exact ⟨rfl, rfl⟩
        · cases h
def linM (D : Nat → Nat) (L : Nat) (res : PF ⊕ (PS × Nat)) (q : PZ) (dr : List Int32) : Prop := match res with
  | .inl f => dr.length = 87 ∧ ∃ (hc hm : Bool) (hi : Int32), rdS D L hc hm hi (.inl f) q
  | .inr (s2, e3) => ∃ (K : CK) (hi : Int32), dr = flK K ∧ repM K s2 ∧ hiOK s2 hi ∧ rdS D L s2.2.1.1 s2.2.1.2 hi (.inr e3) q
section MLJ
variable (xs : List Int32) (d : Nat) (z : ZT) (nw eb wa ms mt : List Int32) (cc : C4) (D : Nat → Nat) (L : Nat)
/-- a line that is at fault by its name -/
theorem ml_bad (f : PF) (hf : fOK f) (hc hm : Bool) (hi po be so va k : Int32) (dr : List Int32) : Ev xs (d + 3) 127 174 [some (.ref 0), some (.int k)] [] (mH (zR z (hc, hm, hi, nI L, po, be, so, va, nI f.1, nI f.2) dr) nw eb wa ms mt cc) none (mH (zR z (hc, hm, hi, nI L, po, be, so, va, nI f.1, nI f.2) dr) nw eb wa ms mt cc) := by
  have h2 : 0 < nI f.1 := nI_lt (a := 0) (Nat.pos_of_ne_zero hf.1) (by have := hf.2.1; omega)
  refine ev_go 1 (fun _ => rfl) ?_
  refine ev_call (y' := 122) rfl rfl rfl rfl (sp_rds_f xs _ z dr nw eb wa ms mt cc hc hm hi (nI L) po be so va (nI f.1) (nI f.2) h2) ?_
  refine ev_go 2 (fun _ => rfl) ?_
  refine ev_if_le rfl rfl (fun n => absurd n (i32_lt_nle h2)) (fun _ => ?_)
  exact ev_end 1 rfl
theorem sp_mlin (hD : byD D L z.2.2.2.2.2.2.2.1) (k p e : Nat) (hpe : p ≤ e) (he : e ≤ L) (hk : k ≤ 4) (s : PS) (hi va wr : Int32) (Kd : CK) (hK : repM Kd s) (hh : hiOK s hi) : ∃ (q' : PZ) (dr' : List Int32), linM D L (pLin D L k p e s) q' dr' ∧ Ev xs (d + 6) 127 0 [some (.ref 0), none] [] (mH (zR z (s.2.1.1, s.2.1.2, hi, nI L, nI e, nI p, nI k, va, 0, wr) (flK Kd)) nw eb wa ms mt cc) none (mH (zR z q' dr') nw eb wa ms mt cc) := by
  have hL := hD.1
  have hp160 : p ≤ 160 := by omega
  have h7 := lnO_le D p e
  obtain ⟨ln, hln7, hlc, pre0⟩ : ∃ ln : Nat, ln ≤ 7 ∧ pLin D L k p e s = (if ln < 7 then (match pBdy D L p e ln s with
    | .inl f => .inl f
    | .inr (s2, e2) => match pStp D L e2 with
      | .inl f => .inl f
      | .inr e3 => .inr (s2, e3)) else .inl (2, p)) ∧ ∀ (R : MH), Ev xs (d + 6) 127 18 [some (.ref 0), some (.int (lnM ln))] [] (mH (zR z (s.2.1.1, s.2.1.2, hi, nI L, nI e, nI p, nI k, va, 0, wr) (flK Kd)) nw eb wa ms mt cc) none R → Ev xs (d + 6) 127 0 [some (.ref 0), none] [] (mH (zR z (s.2.1.1, s.2.1.2, hi, nI L, nI e, nI p, nI k, va, 0, wr) (flK Kd)) nw eb wa ms mt cc) none R := by
    by_cases c1 : k = 1
    · subst c1
      have hl := sp_lnM xs (d + 3) z (flK Kd) nw eb wa ms mt cc D L s.2.1.1 s.2.1.2 hi hD p e hpe he (nI 1) va 0 wr
      refine ⟨lnO D p e, h7, ?_, fun R hr => ?_⟩
      · unfold pLin
        by_cases c : lnO D p e < 7
        · rw [if_pos ⟨rfl, c⟩, if_pos c]
          rfl
        · rw [if_neg (fun w => c w.2), if_neg c]
      · generalize lnO D p e = ln at hl hr
        refine ev_go 5 (fun _ => rfl) ?_
        refine ev_call (y' := 121) rfl rfl rfl rfl (hl) ?_
        exact ev_go 2 (fun _ => rfl) hr
    · refine ⟨7, Nat.le_refl _, ?_, fun R hr => ?_⟩
      · unfold pLin
        rw [if_neg (fun w => c1 w.1), if_neg (by decide)]
      · skip
        refine ev_go 3 (fun _ => rfl) ?_
        refine ev_ic_ne rfl rfl (fun _ => ?_) (fun n => absurd (nI_neq (a := k) (b := 1) c1 (by omega) (by omega)) n)
        exact ev_go 2 (fun _ => rfl) hr
  rw [hlc]
  have eB := hK.1.2.2.2.2.1
  have eT := hK.1.2.2.2.2.2.1
  have hB5 := hK.1.2.2.2.2.2.2.2.1
  have hT6 := hK.1.2.2.2.2.2.2.2.2.1
  have hdr := fun (R : MH) kk => pre0 R (sp_hdr xs (d + 5) z nw eb wa ms mt cc (s.2.1.1, s.2.1.2, hi, nI L, nI e, nI p, nI k, va, 0, wr) ln s.2.2.1.length s.2.2.2.length hln7 Kd eB hB5 eT hT6 none R kk)
  clear pre0
  -- a fault found by the name
  have bad : ∀ fc : Nat, 0 < fc → fc ≤ 6 → hdZ (s.2.1.1, s.2.1.2, hi, nI L, nI e, nI p, nI k, va, 0, wr) ln s.2.2.1.length s.2.2.2.length s.2.1.1 s.2.1.2 = (s.2.1.1, s.2.1.2, hi, nI L, nI e, nI p, nI k, va, nI fc, nI p) → ∃ (q' : PZ) (dr' : List Int32), linM D L (.inl (fc, p)) q' dr' ∧ Ev xs (d + 6) 127 0 [some (.ref 0), none] [] (mH (zR z (s.2.1.1, s.2.1.2, hi, nI L, nI e, nI p, nI k, va, 0, wr) (flK Kd)) nw eb wa ms mt cc) none (mH (zR z q' dr') nw eb wa ms mt cc) := by
    intro fc h0 h6 he2
    have hf : fOK (fc, p) := ⟨by show fc ≠ 0; omega, h6, hp160⟩
    refine ⟨(s.2.1.1 || decide (ln = 4), s.2.1.2 || decide (ln = 5), hi, nI L, nI e, nI p, nI k, va, nI fc, nI p), flK Kd, ⟨flK_len _, (s.2.1.1 || decide (ln = 4)), (s.2.1.2 || decide (ln = 5)), hi, hf, nI e, nI p, nI k, va, rfl⟩, hdr _ ?_⟩
    dsimp only
    rw [he2]
    exact ml_bad xs _ z nw eb wa ms mt cc L (fc, p) hf _ _ hi (nI e) (nI p) (nI k) va _ _
  have ch : ∀ (q : PZ) (b2 b3 b4 b5 : Bool), ¬ q.2.2.2.2.2.2.2.2.1 = 0 → rqZ (rqZ (rqZ (rqZ q b2 5) b3 5) b4 4) b5 4 = q := by
    intro q b2 b3 b4 b5 hq
    rw [rqZ_k (q := q) hq, rqZ_k (q := q) hq, rqZ_k (q := q) hq, rqZ_k (q := q) hq]
  by_cases c7 : ln = 7
  · rw [if_neg (by omega)]
    refine bad 2 (by omega) (by omega) ?_
    unfold hdZ
    rw [decide_eq_true c7]
    exact ch _ _ _ _ _ (nI_ne0 (n := 2) (by omega) (by omega))
  · have hl7 : ln < 7 := by omega
    rw [if_pos hl7]
    by_cases b1 : ln < 4 ∧ 5 ≤ s.2.2.1.length
    · have ep : pBdy D L p e ln s = .inl (5, p) := by
        unfold pBdy
        rw [if_neg (by omega), if_neg (by omega), if_neg (by omega)]
        unfold pBar
        rw [if_neg (by omega)]
      rw [ep]
      refine bad 5 (by omega) (by omega) ?_
      unfold hdZ hB1
      rw [decide_eq_false c7, decide_eq_false (p := 4 ≤ ln ∧ ln < 7) (by omega), decide_eq_false (p := s.2.2.1.length < 5) (by omega)]
      show rqZ (rqZ (rqZ (s.2.1.1, s.2.1.2, hi, nI L, nI e, nI p, nI k, va, nI 5, nI p) _ 5) _ 4) _ 4 = _
      have hq : ¬ (nI 5 : Int32) = 0 := nI_ne0 (by omega) (by omega)
      rw [rqZ_k (q := (s.2.1.1, s.2.1.2, hi, nI L, nI e, nI p, nI k, va, nI 5, nI p)) hq, rqZ_k (q := (s.2.1.1, s.2.1.2, hi, nI L, nI e, nI p, nI k, va, nI 5, nI p)) hq, rqZ_k (q := (s.2.1.1, s.2.1.2, hi, nI L, nI e, nI p, nI k, va, nI 5, nI p)) hq]
    · have t1 : hB1 ln s.2.2.1.length = true := by
        unfold hB1
        by_cases c : 4 ≤ ln ∧ ln < 7
        · rw [decide_eq_true c]
          rfl
        · rw [decide_eq_true (p := s.2.2.1.length < 5) (by omega), Bool.or_true]
      by_cases b2 : ln = 6 ∧ 6 ≤ s.2.2.2.length
      · have ep : pBdy D L p e ln s = .inl (5, p) := by
          unfold pBdy
          rw [if_neg (by omega), if_neg (by omega), if_pos b2.1]
          unfold pTlk
          rw [if_neg (by omega)]
        rw [ep]
        refine bad 5 (by omega) (by omega) ?_
        unfold hdZ
        rw [t1]
        unfold hB2
        rw [decide_eq_false c7, decide_eq_true b2.1, decide_eq_false (p := s.2.2.2.length < 6) (by omega)]
        show rqZ (rqZ (s.2.1.1, s.2.1.2, hi, nI L, nI e, nI p, nI k, va, nI 5, nI p) _ 4) _ 4 = _
        have hq : ¬ (nI 5 : Int32) = 0 := nI_ne0 (by omega) (by omega)
        rw [rqZ_k (q := (s.2.1.1, s.2.1.2, hi, nI L, nI e, nI p, nI k, va, nI 5, nI p)) hq, rqZ_k (q := (s.2.1.1, s.2.1.2, hi, nI L, nI e, nI p, nI k, va, nI 5, nI p)) hq]
      · have t2 : hB2 ln s.2.2.2.length = true := by
          unfold hB2
          by_cases c : ln = 6
          · rw [decide_eq_true (p := s.2.2.2.length < 6) (by omega), Bool.or_true]
          · rw [decide_eq_false c]
            rfl
        by_cases b3 : ln = 4 ∧ s.2.1.1 = true
        · have ep : pBdy D L p e ln s = .inl (4, p) := by
            unfold pBdy
            rw [if_pos b3.1]
            unfold pCut
            rw [if_pos b3.2]
          rw [ep]
          refine bad 4 (by omega) (by omega) ?_
          unfold hdZ
          rw [t1, t2]
          unfold hB3
          rw [decide_eq_false c7, decide_eq_true b3.1, b3.2]
          show rqZ (true, s.2.1.2, hi, nI L, nI e, nI p, nI k, va, nI 4, nI p) _ 4 = _
          exact rqZ_k (nI_ne0 (n := 4) (by omega) (by omega))
        · have t3 : hB3 ln s.2.1.1 = true := by
            unfold hB3
            by_cases c : ln = 4
            · have : s.2.1.1 = false := by
                cases hs : s.2.1.1 with
                | true => exact absurd ⟨c, hs⟩ b3
                | false => rfl
              rw [this, Bool.not_false, Bool.or_true]
            · rw [decide_eq_false c]
              rfl
          by_cases b4 : ln = 5 ∧ s.2.1.2 = true
          · have ep : pBdy D L p e ln s = .inl (4, p) := by
              unfold pBdy
              rw [if_neg (by omega), if_pos b4.1]
              unfold pMem
              rw [if_pos b4.2]
            rw [ep]
            refine bad 4 (by omega) (by omega) ?_
            unfold hdZ
            rw [t1, t2, t3]
            unfold hB4
            rw [decide_eq_false c7, decide_eq_true b4.1, b4.2]
            rfl
          · have t4 : hB4 ln s.2.1.2 = true := by
              unfold hB4
              by_cases c : ln = 5
              · have : s.2.1.2 = false := by
                  cases hs : s.2.1.2 with
                  | true => exact absurd ⟨c, hs⟩ b4
                  | false => rfl
                rw [this, Bool.not_false, Bool.or_true]
              · rw [decide_eq_false c]
                rfl
            have eh : hdZ (s.2.1.1, s.2.1.2, hi, nI L, nI e, nI p, nI k, va, 0, wr) ln s.2.2.1.length s.2.2.2.length s.2.1.1 s.2.1.2 = (s.2.1.1, s.2.1.2, hi, nI L, nI e, nI p, nI k, va, 0, wr) := by
              unfold hdZ
              rw [t1, t2, t3, t4, decide_eq_false c7]
              rfl
            have hdr2 := fun (R : MH) kk => hdr R (by dsimp only; rw [eh]; exact kk)
            clear hdr bad
            have g4 : ln = 4 → s.2.1.1 = false := fun c => by
              cases hs : s.2.1.1 with
              | true => exact absurd ⟨c, hs⟩ b3
              | false => rfl
            have g5 : ln = 5 → s.2.1.2 = false := fun c => by
              cases hs : s.2.1.2 with
              | true => exact absurd ⟨c, hs⟩ b4
              | false => rfl
            have g6 : ln = 6 → s.2.2.2.length < 6 := fun c => by omega
            have g0 : ln < 4 → s.2.2.1.length < 5 := fun c => by omega
            have eM : lnM ln = nI ln := if_neg c7
            obtain ⟨q1, r1, r2⟩ := sp_rds xs (d + 3) z (flK Kd) nw eb wa ms mt cc D L (s.2.1.1 || decide (ln = 4)) (s.2.1.2 || decide (ln = 5)) hi hD e he (nI p) (nI k) va wr
            have pre1 : ∀ (R : MH), Ev xs (d + 6) 127 178 [some (.ref 0), some (.int (lnM ln))] [] (mH (zR z q1 (flK Kd)) nw eb wa ms mt cc) none R → Ev xs (d + 6) 127 0 [some (.ref 0), none] [] (mH (zR z (s.2.1.1, s.2.1.2, hi, nI L, nI e, nI p, nI k, va, 0, wr) (flK Kd)) nw eb wa ms mt cc) none R := by
              intro R hr
              refine hdr2 R ?_
              refine ev_go 1 (fun _ => rfl) ?_
              refine ev_call (y' := 122) rfl rfl rfl rfl (r2) ?_
              exact hr
            clear hdr2
            have r1S : rdS D L (s.2.1.1 || decide (ln = 4)) (s.2.1.2 || decide (ln = 5)) hi (.inr e) q1 := ⟨he, r1⟩
            cases htk : pTok D L e with
            | inl f =>
              have hf := tok_ft D L hL he htk
              have h2 : 0 < nI f.1 := nI_lt (a := 0) (Nat.pos_of_ne_zero hf.1) (by have := hf.2.1; omega)
              rw [pBdy_tok htk g4 g5 g6 g0 hl7]
              unfold tokS at r1
              rw [htk] at r1
              obtain ⟨po, be, so, va2, e2⟩ := r1
              subst e2
              refine ⟨_, flK Kd, ⟨flK_len _, (s.2.1.1 || decide (ln = 4)), (s.2.1.2 || decide (ln = 5)), hi, hf, po, be, so, va2, rfl⟩, pre1 _ ?_⟩
              refine ev_go 2 (fun _ => rfl) ?_
              refine ev_if_le rfl rfl (fun n => absurd n (i32_lt_nle h2)) (fun _ => ?_)
              exact ev_end 1 rfl
            | inr w =>
              obtain ⟨k2, p2, e2⟩ := w
              have q1f : ∃ (tl : Int32 × Int32 × Int32 × Int32 × Int32) (w : Int32), q1 = (s.2.1.1 || decide (ln = 4), s.2.1.2 || decide (ln = 5), hi, tl.1, tl.2.1, tl.2.2.1, tl.2.2.2.1, tl.2.2.2.2, 0, w) := by
                unfold tokS at r1
                rw [htk] at r1
                obtain ⟨va2, wr2, e3, -⟩ := r1
                exact ⟨(_, _, _, _, _), _, e3⟩
              obtain ⟨q2, dr2, m1, m2⟩ := sp_mlo xs d z nw eb wa ms mt cc D L (s.2.1.1 || decide (ln = 4)) (s.2.1.2 || decide (ln = 5)) hi hD p e ln hl7 s q1 r1S Kd hK hh g4 g5 g6 g0
              have pre2 : ∀ (R : MH), Ev xs (d + 6) 127 191 [some (.ref 0), some (.int (lnM ln))] [] (mH (zR z q2 dr2) nw eb wa ms mt cc) none R → Ev xs (d + 6) 127 0 [some (.ref 0), none] [] (mH (zR z (s.2.1.1, s.2.1.2, hi, nI L, nI e, nI p, nI k, va, 0, wr) (flK Kd)) nw eb wa ms mt cc) none R := by
                intro R hr
                refine pre1 R ?_
                obtain ⟨tl, w, eq1⟩ := q1f
                rw [eM] at hr ⊢
                subst eq1
                refine ev_go 5 (fun _ => rfl) ?_
                refine ev_call (y' := 126) rfl rfl rfl rfl (m2) ?_
                exact hr
              clear pre1
              cases hbd : pBdy D L p e ln s with
              | inl f =>
                rw [hbd] at m1
                obtain ⟨hl, hi2, hf, po, be, so, va2, e3⟩ := m1
                have h2 : 0 < nI f.1 := nI_lt (a := 0) (Nat.pos_of_ne_zero hf.1) (by have := hf.2.1; omega)
                have h20 : ¬ nI f.1 = 0 := nI_ne0 (Nat.pos_of_ne_zero hf.1) (by have := hf.2.1; omega)
                subst e3
                refine ⟨_, dr2, ⟨hl, (s.2.1.1 || decide (ln = 4)), (s.2.1.2 || decide (ln = 5)), hi2, hf, po, be, so, va2, rfl⟩, pre2 _ ?_⟩
                refine ev_go 2 (fun _ => rfl) ?_
                refine ev_if_ne rfl rfl (fun _ => ?_) (fun n => absurd (h20) n)
                refine ev_go 1 (fun _ => rfl) ?_
                refine ev_call (y' := 122) rfl rfl rfl rfl (sp_rds_f xs _ z dr2 nw eb wa ms mt cc _ _ hi2 (nI L) po be so va2 (nI f.1) (nI f.2) h2) ?_
                exact ev_end 1 rfl
              | inr w =>
                obtain ⟨s2, e3⟩ := w
                have hfl := pBdy_fl hbd
                rw [hbd] at m1
                obtain ⟨K2, hi2, ed, hK2, hh2, he3, hto⟩ := m1
                subst ed
                rw [← hfl.1, ← hfl.2] at hto
                dsimp only
                unfold pStp
                cases ht3 : pTok D L e3 with
                | inl f =>
                  have hf := tok_ft D L hL he3 ht3
                  have h2 : 0 < nI f.1 := nI_lt (a := 0) (Nat.pos_of_ne_zero hf.1) (by have := hf.2.1; omega)
                  have h20 : ¬ nI f.1 = 0 := nI_ne0 (Nat.pos_of_ne_zero hf.1) (by have := hf.2.1; omega)
                  unfold tokS at hto
                  rw [ht3] at hto
                  obtain ⟨po, be, so, va2, e4⟩ := hto
                  subst e4
                  refine ⟨_, flK K2, ⟨flK_len _, s2.2.1.1, s2.2.1.2, hi2, hf, po, be, so, va2, rfl⟩, pre2 _ ?_⟩
                  refine ev_go 2 (fun _ => rfl) ?_
                  refine ev_if_ne rfl rfl (fun _ => ?_) (fun n => absurd (h20) n)
                  refine ev_go 1 (fun _ => rfl) ?_
                  refine ev_call (y' := 122) rfl rfl rfl rfl (sp_rds_f xs _ z (flK K2) nw eb wa ms mt cc _ _ hi2 (nI L) po be so va2 (nI f.1) (nI f.2) h2) ?_
                  exact ev_end 1 rfl
                | inr w =>
                  obtain ⟨k3, p3, e4⟩ := w
                  have hpb := pTok_b he3 ht3
                  have hk3 : k3 ≤ 4 := by
                    rw [hpb.2.2.2.2.1]
                    exact tsK_4 D L p3
                  unfold tokS at hto
                  rw [ht3] at hto
                  obtain ⟨va2, wr2, e5, -⟩ := hto
                  subst e5
                  dsimp only
                  by_cases c3 : k3 = 3
                  · rw [if_pos c3]
                    subst c3
                    obtain ⟨q5, u1, u2⟩ := sp_rds xs (d + 3) z (flK K2) nw eb wa ms mt cc D L s2.2.1.1 s2.2.1.2 hi2 hD e4 hpb.2.2.1 (nI p3) (nI 3) va2 wr2
                    refine ⟨q5, flK K2, ⟨K2, hi2, rfl, hK2, hh2, hpb.2.2.1, u1⟩, pre2 _ ?_⟩
                    refine ev_go 7 (fun _ => rfl) ?_
                    refine ev_ic_ne rfl rfl (fun n => absurd n (fun w => w rfl)) (fun _ => ?_)
                    refine ev_go 3 (fun _ => rfl) ?_
                    refine ev_call (y' := 117) rfl rfl rfl rfl (sp_rq_t xs _ z (flK K2) nw eb wa ms mt cc _ 2) ?_
                    refine ev_go 1 (fun _ => rfl) ?_
                    refine ev_call (y' := 122) rfl rfl rfl rfl (u2) ?_
                    exact ev_end 1 rfl
                  · rw [if_neg c3]
                    have hf : fOK (2, p3) := ⟨fun w => (by cases w), by show 2 ≤ 6; omega, by show p3 ≤ 160; omega⟩
                    refine ⟨(s2.2.1.1, s2.2.1.2, hi2, nI L, nI e4, nI p3, nI k3, va2, nI 2, nI p3), flK K2, ⟨flK_len _, s2.2.1.1, s2.2.1.2, hi2, hf, nI e4, nI p3, nI k3, va2, rfl⟩, pre2 _ ?_⟩
                    refine ev_go 7 (fun _ => rfl) ?_
                    refine ev_ic_ne rfl rfl (fun _ => ?_) (fun n => absurd (nI_neq (a := k3) (b := 3) c3 (by omega) (by omega)) n)
                    refine ev_go 2 (fun _ => rfl) ?_
                    refine ev_call (y' := 117) rfl rfl rfl rfl (sp_rq_f xs _ z (flK K2) nw eb wa ms mt cc s2.2.1.1 s2.2.1.2 hi2 (nI L) (nI e4) (nI p3) (nI k3) va2 wr2 2) ?_
                    refine ev_go 1 (fun _ => rfl) ?_
                    refine ev_call (y' := 122) rfl rfl rfl rfl (sp_rds_f xs _ z (flK K2) nw eb wa ms mt cc s2.2.1.1 s2.2.1.2 hi2 (nI L) (nI e4) (nI p3) (nI k3) va2 (nI 2) (nI p3) (nI_lt (a := 0) (b := 2) (by omega) (by omega))) ?_
                    exact ev_end 1 rfl
end MLJ

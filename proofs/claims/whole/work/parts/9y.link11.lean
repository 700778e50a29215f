/-! swap, at, drift -/
theorem bit15 : ∀ i, i < 32 → 15 ≤ i → (32767#32).getLsbD i = false := by decide
theorem drG_mdG (x : Int32) : drG x = mdG x := by
  have e1 : ((Int8.ofInt 16).toInt32.toUInt32 &&& Int32.toUInt32 31).toBitVec % 32 = 16#32 := by decide
  have e2 : ((Int8.ofInt 16).toInt32 &&& 31).toBitVec.smod 32 = 16#32 := by decide
  have e3 : (Int16.ofInt 32767).toInt32.toBitVec = 32767#32 := by decide
  unfold drG mdG
  apply Int32.toBitVec_inj.mp
  rw [Int32.toBitVec_and, Int32.toBitVec_and, UInt32.toBitVec_toInt32, UInt32.toBitVec_shiftRight, Int32.toBitVec_shiftRight, e1, e2, e3]
  apply BitVec.eq_of_getLsbD_eq
  intro i hi
  rw [BitVec.getLsbD_and, BitVec.getLsbD_and]
  by_cases c : 15 ≤ i
  · rw [bit15 i hi c, Bool.and_false, Bool.and_false]
  · congr 1
    show (x.toBitVec >>> (16#32).toNat).getLsbD i = (x.toBitVec.sshiftRight (16#32).toNat).getLsbD i
    rw [BitVec.getLsbD_ushiftRight, BitVec.getLsbD_sshiftRight]
    have e4 : (16#32).toNat = 16 := rfl
    rw [e4, decide_eq_false (show ¬ 32 ≤ i by omega), if_pos (show 16 + i < 32 by omega)]
    rfl
section LK11
variable (xs : List Int32) (d : Nat) (now trial told im0 im1 : CK) (p : TP) (f : FP) (r : RS) (tr : Int32) (z : ZT) (Ks : CK) (I0 I1 nw eb wa ms mt : List Int32) (cc : C4) (B TN S : Nat)
variable {now trial told im0 im1 p f r tr z Ks I0 I1 nw eb wa ms mt cc B TN S}
theorem put_11 {w b : Nat} {v : Int32} {K : CK} : (putK K w b v).1 = K.1 := by
  unfold putK
  split <;> rfl
theorem run_sw {a b N : Nat} (ht : GS trial) (ho : mOK nw eb wa ms mt) (hC : caI B TN S now Ks) (ha : a < B) (hb : b < B) : smT 9 ((swK now trial B TN S N a b).2.2.take TN) = smT 9 (ghN (swP Ks (stA wa ms mt Ks) a b) B TN N).2.2 := by
  have hB := hC.1.1.2.2.2.2.1
  obtain ⟨L, L1, L2, eL, hbg⟩ := hC.1.2.2.1
  obtain ⟨-, -, c1, -, -, -, k1, -, -, e1⟩ := hbg a ha
  obtain ⟨-, -, c2, -, -, -, k2, -, -, e2⟩ := hbg b hb
  have g1 : gtK now 2 a = nI c1 := e1
  have g2 : gtK now 2 b = nI c2 := e2
  unfold swK swP
  rw [← gt_eq (by decide) ha hC, ← gt_eq (by decide) hb hC, g1, g2]
  have hv := HV_put (b := b) (v := c1) (w := 2) (by decide) (by rw [put_11]; exact eL) L2 (fun q => absurd q (by decide)) (fun _ => k1) (HV_put (b := a) (v := c2) (w := 2) (by decide) (K := tryK now trial B TN S) eL L2 (fun q => absurd q (by decide)) (fun _ => k2) (HV_try hC.1 ht))
  have hg0 := GM_put 2 a (nI c2) (GM_st (VS_ca hC) ho)
  have hg := GM_put 2 b (nI c1) hg0
  have hl0 := Lv_put (S := S) (v := nI c2) (w := 2) (by decide) (CG_t (wK_CG hC.1) ht).1.1 (GM_st (VS_ca hC) ho).1.1.1 (Lv_ca ht hC) (b := a) (by omega)
  have hl := Lv_put (S := S) (v := nI c1) (w := 2) (by decide) (CG_put 2 a _ (CG_t (wK_CG hC.1) ht)).1.1 hg0.1.1.1 hl0 (b := b) (by omega)
  refine sm_run (Or.inl rfl) (Lv_it N _ _ hl hv hg.1) (CG_it N hv.1).1 (GM_ghN N _ hg).1.1 (cl0_gh N _ ?_)
  intro t h1 h2
  rw [put_22, put_22]
  exact cl0_st (CL6 hC.2.1.1) t h1 h2
theorem jd_sw (q : Int32 × Int32) (e c : Int32) : ((jdS q e c).2, (jdS q e c).1) = jdM (q.2, q.1) c e := by
  unfold jdS jdM
  by_cases h : q.1 < e
  · rw [if_pos h, if_pos h]
  · rw [if_neg h, if_neg h]
theorem swI_j {N a : Nat} {E : Nat → Nat → Int32} (hn : CG now B TN S) (ha : a < B) (hE : ∀ a b, a < B → b < B → ∀ trial : CK, GS trial → smT 9 ((swK now trial B TN S N a b).2.2.take TN) = E a b) : ∀ (m b : Nat) (q : Int32 × Int32) (trial : CK), b + m ≤ B → GS trial → ((swI now B TN S N a m b q trial).1.2, (swI now B TN S N a m b q trial).1.1) = jsI E a m b (q.2, q.1)
  | 0, _, _, _, _, _ => rfl
  | m + 1, b, q, trial, hb, ht => by
    unfold swI jsI
    rw [hE a b ha (by omega) trial ht, swI_j hn ha hE m (b + 1) _ _ (by omega) (GS_sw hn ht), jd_sw]
theorem swO_j {N : Nat} {E : Nat → Nat → Int32} (hn : CG now B TN S) (hE : ∀ a b, a < B → b < B → ∀ trial : CK, GS trial → smT 9 ((swK now trial B TN S N a b).2.2.take TN) = E a b) : ∀ (m a : Nat) (q : Int32 × Int32) (trial : CK), a + m = B → GS trial → ((swO now B TN S N m a q trial).1.2, (swO now B TN S N m a q trial).1.1) = jsO E B m a (q.2, q.1)
  | 0, _, _, _, _, _ => rfl
  | m + 1, a, q, trial, hb, ht => by
    unfold swO jsO
    rw [swO_j hn hE m (a + 1) _ _ (by omega) (GS_swI hn _ _ _ _ ht), swI_j hn (by omega) hE (B - (a + 1)) (a + 1) q trial (by omega) ht]
theorem tl_j (w : Int32) (q : Int32 × Int32) : tlS w q = jA w (q.2, q.1) := by
  unfold tlS jA
  dsimp only
  by_cases c : q.2 = -4
  · rw [if_pos c, if_pos c, c]
    by_cases c2 : w = 0
    · rw [if_pos c2]
    · rw [if_neg c2]
  · rw [if_neg c, if_neg c]
theorem k_swap (n w : Int32) (hC : caI B TN S now Ks) (ht : GS trial) (hd : CL told) (ho : mOK nw eb wa ms mt) (hR : rsI im0 im1 p f r tr z I0 I1) : Alk xs d 79 175 [n, w] (hCl now trial told im0 im1 p f r tr) (mH (zS z Ks (I0 ++ I1)) nw eb wa ms mt cc) := by
  cases c : (wiI n 0 100 && wiI w 0 1) with
  | false => exact ⟨.int (-1), _, _, int_nr _, Inv_mk hC ht hd ho hR, sp_swap_bad xs (d + 19) now trial told im0 im1 p f r tr n w c, m_swap_bad (d := d + 18) (c := c) ..⟩
  | true =>
    rw [Bool.and_eq_true] at c
    obtain ⟨N, hN, rfl⟩ := wi_of (M := 100) (by decide) c.1
    have hn := wK_CG hC.1
    have h1 := sp_swap xs (d + 14) now trial told im0 im1 p f r tr B TN S N w hn ht hN c.2
    have r0 : ∀ nw eb wa ms mt : List Int32, mOK nw eb wa ms mt → smT 9 ((aheadK now trial B TN S N).2.2.take TN) = smT 9 (ghN (stA wa ms mt Ks) B TN N).2.2 := fun nw eb wa ms mt ho => sm_run (Or.inl rfl) (Lv_run N ht ho hC) (CG_ah hn ht).1 (GM_ghN N _ (GM_st (VS_ca hC) ho)).1.1 (cl0_gh N _ (cl0_st (CL6 hC.2.1.1)))
    obtain ⟨h', hp, h2⟩ := m_swap xs (d + 13) z Ks (I0 ++ I1) B TN S nw eb wa ms mt cc N hN w c.2 (smT 9 ((aheadK now trial B TN S N).2.2.take TN)) (fun a b => smT 9 (ghN (swP Ks (stA wa ms mt Ks) a b) B TN N).2.2) (VS_ca hC) ho (fun nw' eb' wa' ms' mt' ho' => (r0 nw' eb' wa' ms' mt' ho').symm) (fun a b ha hb nw' eb' wa' ms' mt' ho' => (run_sw ht ho' hC ha hb).symm.trans (run_sw ht ho hC ha hb))
    have ha := CG_ah (n := N) hn ht
    rw [tl_j] at h1
    unfold swQ at h1
    rw [swO_j hn (fun a b ha hb trial ht => run_sw ht ho hC ha hb) B 0 _ _ (by omega) (GS_CG ha)] at h1
    exact ⟨_, _, _, int_nr _, Inv_p hC (GS_swO hn B 0 _ _ (GS_CG ha)) hd hp hR, h1, h2⟩
/-- drift -/
theorem drV_b (x : Int32) : ∃ v, v ≤ 9 ∧ drV (drG x) = nI v := by
  obtain ⟨g, hg, e⟩ := drG_nI x
  rw [e]
  unfold drV
  rw [show (Int8.ofInt 8).toInt32 = nI 8 from rfl, show (Int8.ofInt 9).toInt32 = nI 9 from rfl, nI_div (by omega) (by decide) (by decide), rmI_nI (by omega) (by decide) (by decide), nI_inc]
  exact ⟨g / 8 % 9 + 1, by omega, rfl⟩
theorem drS_eq (L : Nat) (L2 : L ≤ 20) (h0 : 0 < B) : ∀ (m : Nat) (x : Int32) (K K' : CK), K.1.1 = nI L → Lv B TN K K' → HV K B TN S → GM K' B TN S → cl0 K' TN → Lv B TN (drS B TN m K x) (gdS B TN m K' x) ∧ CG (drS B TN m K x) B TN S ∧ GM (gdS B TN m K' x) B TN S ∧ cl0 (gdS B TN m K' x) TN
  | 0, _, _, _, _, h, hv, hg, hc => ⟨h, hv.1, hg, hc⟩
  | m + 1, x, K, K', eL, h, hv, hg, hc => by
    unfold drS gdS
    have hB := hv.1.1.2.2.2.2.1
    obtain ⟨v, v9, ev⟩ := drV_b (drN x)
    obtain ⟨g, g2, eg⟩ := drG_nI (drN x)
    have eb : (rmI (drG (drN x)) (nI B)).toNatClampNeg = g % B := by
      rw [eg, rmI_nI (by omega) (by omega) h0, nI_clamp (by have := Nat.mod_lt g h0; omega)]
    have hgb : g % B < B := Nat.mod_lt g h0
    have eK : drK B TN K (drN x) = hrC (putK K 2 (g % B) (nI v)) B TN := by
      unfold drK
      rw [eb, ev]
    have eK' : gdK B TN K' (drN x) = ghK false (putK K' 2 (g % B) (nI v)) B TN := by
      unfold gdK
      rw [← drG_mdG, eb, ev]
    have hv2 := HV_put (b := g % B) (v := v) (w := 2) (by decide) eL L2 (fun q => absurd q (by decide)) (fun _ => v9) hv
    have hg2 := GM_put 2 (g % B) (nI v) hg
    have hl := Lv_put (S := S) (v := nI v) (w := 2) (by decide) hv.1.1.1 hg.1.1.1 h (b := g % B) (by omega)
    rw [eK, eK']
    refine drS_eq L L2 h0 m (drN x) _ _ ?_ (Lv_hr hl hv2 hg2.1).1 (HV_hr hv2) (GM_gh false hg2) ?_
    · show (putK K 2 (g % B) (nI v)).1.1 = nI L
      rw [put_11]
      exact eL
    · refine cl0_gh 1 (putK K' 2 (g % B) (nI v)) ?_
      intro t h1 h2
      rw [put_22]
      exact hc t h1 h2
theorem k_drift (x n w : Int32) (hC : caI B TN S now Ks) (ht : GS trial) (hd : CL told) (ho : mOK nw eb wa ms mt) (hR : rsI im0 im1 p f r tr z I0 I1) : Alk xs d 87 189 [x, n, w] (hCl now trial told im0 im1 p f r tr) (mH (zS z Ks (I0 ++ I1)) nw eb wa ms mt cc) := by
  have hB := hC.1.1.2.2.2.2.1
  cases c : (wiI n 1 100 && wiI w 0 1) with
  | false => exact ⟨.int (-1), _, _, int_nr _, Inv_mk hC ht hd ho hR, sp_drift_bad xs (d + 19) now trial told im0 im1 p f r tr x n w c, m_drift_bad (d := d + 18) (c := c) ..⟩
  | true =>
    rw [Bool.and_eq_true] at c
    by_cases h0 : B = 0
    · have e0 : now.1.2.2.2.1 = 0 := by rw [hC.1.1.2.1, h0]; rfl
      exact ⟨.int (-2), _, _, int_nr _, Inv_mk hC ht hd ho hR, sp_drift_st xs (d + 19) now trial told im0 im1 p f r tr x n w c.1 c.2 e0, m_drift_st (d := d + 18) (c1 := c.1) (c2 := c.2) (e := by rw [← eq_BN hC]; exact e0) ..⟩
    · obtain ⟨N, N1, hN, rfl⟩ := wi_ab (a := 1) (b := 100) (by decide) (by decide) c.1
      obtain ⟨L, L1, L2, eL, -⟩ := hC.1.2.2.1
      have h1 := sp_drift xs (d + 16) now trial told im0 im1 p f r tr B TN S N x w (wK_CG hC.1) ht (by omega) hN c.1 c.2
      have h2 := m_drift xs (d + 15) z Ks (I0 ++ I1) B TN S nw eb wa ms mt cc N x w (VS_ca hC) ho (by omega) hN c.1 c.2
      obtain ⟨hl, g1, g2, g3⟩ := drS_eq (S := S) L L2 (by omega) N x (tryK now trial B TN S) (stA wa ms mt Ks) eL (Lv_ca ht hC) (HV_try hC.1 ht) (GM_st (VS_ca hC) ho) (cl0_st (CL6 hC.2.1.1))
      rw [sm_run (Or.inl rfl) hl g1.1 g2.1.1 g3, hl.2.2.2.1] at h1
      exact ⟨_, _, _, int_nr _, Inv_p hC (GS_CG g1) hd (MHp_T (GS_GM g2)) hR, h1, h2⟩
end LK11

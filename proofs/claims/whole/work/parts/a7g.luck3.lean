/-! luck, mean: both answer alike -/
section LK13
variable (xs : List Int32) (d : Nat) (now trial told im0 im1 : CK) (p : TP) (f : FP) (r : RS) (tr : Int32) (z : ZT) (Ks : CK) (I0 I1 nw eb wa ms mt : List Int32) (cc : C4) (B TN S : Nat)
variable {now trial told im0 im1 p f r tr z Ks I0 I1 nw eb wa ms mt cc B TN S}
theorem Rs_st (hC : caI B TN S now Ks) (ho : mOK nw eb wa ms mt) : Rs (stA wa ms mt Ks) B TN S := by
  refine ⟨(GM_st (VS_ca hC) ho).1, fun t htt => ?_⟩
  have hTN := hC.1.1.2.2.2.2.2.1
  rw [stA_gd (CL6 hC.2.1.1) (by omega), ← hC.2.2.2.2.2.2.1 t htt]
  exact bT_clr (hC.1.2.2.2.2.2.1 t htt).1
theorem Pr_st {nw' eb' wa' ms' mt' : List Int32} (hC : caI B TN S now Ks) (ht : GS trial) (ho : mOK nw eb wa ms mt) (ho' : mOK nw' eb' wa' ms' mt') : Pr (tryK now trial B TN S) B TN S 0 (stA wa' ms' mt' Ks) (stA wa ms mt Ks) := by
  unfold Pr
  rw [Cmv_0]
  exact ⟨Lv_Lb (Lv_ca ht hC), Rs_st hC ho', Lv_Lb (Lv_ca ht hC), Rs_st hC ho, fun t htt => rfl⟩
theorem rs_fog {f' : FP} {q : Int64 × Int64 × Int64} (hf : fgOK f') (hR : rsI im0 im1 p f r tr z I0 I1) : rsI im0 im1 p f' r tr (zO z q) I0 I1 := by
  obtain ⟨q1, q2, q3, q4, q5, q6, q7⟩ := hR
  exact ⟨q1, q2, q3, q4, q5, q6, hf, q7.2⟩
/-- one Talk of the class, beside the reference's -/
theorem lk_T (hC : caI B TN S now Ks) (ht : GS trial) (ho : mOK nw eb wa ms mt) {t : Nat} (htt : t < TN) : ∃ i j : Nat, i < B ∧ j < B ∧ i ≠ j ∧ ((stA wa ms mt Ks).2.2.getD t dT).1 = nI i ∧ ((stA wa ms mt Ks).2.2.getD t dT).2.1 = nI j ∧ (tryK now trial B TN S).2.2.getD t dT = (stA wa ms mt Ks).2.2.getD t dT ∧ ((stA wa ms mt Ks).2.2.getD t dT).2.2.2.2.2.2.2.2.1 = 0 := by
  obtain ⟨i, j, hi, hj, hij, e1, e2⟩ := (Rs_st hC ho).2 t htt
  have hL : Lv B TN (tryK now trial B TN S) (stA wa ms mt Ks) := Lv_ca ht hC
  have hTN := hC.1.1.2.2.2.2.2.1
  refine ⟨i, j, hi, hj, hij, e1, e2, hL.2.2.2.2.2.2 t htt, ?_⟩
  rw [stA_gd (CL6 hC.2.1.1) (by omega)]
  rfl
theorem lkE_N (hC : caI B TN S now Ks) (ht : GS trial) (ho : mOK nw eb wa ms mt) {t n v : Nat} (htt : t < TN) (hn : n ≤ 8) (hv : v ≤ 10) : lkE (tryK now trial B TN S) B n t (nI v) f = lN (sN B TN v t n (stA wa ms mt Ks)) := by
  obtain ⟨i, j, hi, hj, hij, e1, e2, e3, e9⟩ := lk_T hC ht ho htt
  have hB := hC.1.1.2.2.2.2.1
  have h := luck_eq (me := f.2.1.1) (m1 := f.2.1.2.1) (m2 := f.2.1.2.2) (SP := n) hv (CG_t (wK_CG hC.1) ht) (HV_try hC.1 ht).2.1 htt hi hj hij hn n 0 (stA wa ms mt Ks) (by omega) (Lv_Lb (Lv_ca ht hC)) (Rs_st hC ho) e1 e2 e9
  unfold lkE
  rw [e3, e1, e2, nI_clamp (by omega), nI_clamp (by omega)]
  exact h
theorem lkW_N (hC : caI B TN S now Ks) (ht : GS trial) (ho : mOK nw eb wa ms mt) {t n v : Nat} (htt : t < TN) (hn : n ≤ 8) (hv : v ≤ 10) : lkW (tryK now trial B TN S) B n t (nI v) f = lN (uN B TN v t n (stA wa ms mt Ks)) := by
  obtain ⟨i, j, hi, hj, hij, e1, e2, e3, e9⟩ := lk_T hC ht ho htt
  have hB := hC.1.1.2.2.2.2.1
  have h := mean_eq (me := f.2.1.1) (m1 := f.2.1.2.1) (m2 := f.2.1.2.2) (SP := n) hv (CG_t (wK_CG hC.1) ht) (HV_try hC.1 ht).2.1 htt hi hj hij hn n 0 (stA wa ms mt Ks) (by omega) (Lv_Lb (Lv_ca ht hC)) (Rs_st hC ho) e1 e2
  unfold lkW
  rw [e3, e1, e2, nI_clamp (by omega), nI_clamp (by omega)]
  exact h
theorem p10_lt {n : Nat} (h : n ≤ 8) : 10 ^ n < 2 ^ 62 ∧ 0 < 10 ^ n := by
  have h2 : 10 ^ n ≤ 10 ^ 8 := Nat.pow_le_pow_right (by decide) h
  exact ⟨by omega, Nat.pow_pos (by decide)⟩
theorem lkC_eq (hC : caI B TN S now Ks) (v t n w : Int32) : lkC now v t n w = lkC Ks v t n w := by
  unfold lkC
  rw [eq_TN hC]
theorem k_luck (v t n w : Int32) (hC : caI B TN S now Ks) (ht : GS trial) (hd : CL told) (ho : mOK nw eb wa ms mt) (hR : rsI im0 im1 p f r tr z I0 I1) : Alk xs d 80 179 [v, t, n, w] (hCl now trial told im0 im1 p f r tr) (mH (zS z Ks (I0 ++ I1)) nw eb wa ms mt cc) := by
  have h6 := CL6 hC.1.1.1
  have hTN := hC.1.1.2.2.2.2.2.1
  cases c : lkC now v t n w with
  | false => exact ⟨.long (-1), _, _, long_nr _, Inv_mk hC ht hd ho hR, sp_luck_bad xs (d + 19) now trial told im0 im1 p f r tr v t n w h6 c, m_luck_bad xs (d + 18) z Ks (I0 ++ I1) nw eb wa ms mt cc B TN S v t n w (VS_ca hC) ((lkC_eq hC v t n w).symm.trans c)⟩
  | true =>
    unfold lkC at c
    rw [Bool.and_eq_true, Bool.and_eq_true, Bool.and_eq_true, hC.1.1.2.2.1] at c
    obtain ⟨cv, ct, cn, cw⟩ := c
    obtain ⟨t, htt, rfl⟩ := has_i (by omega) ct
    obtain ⟨v, -, hv, rfl⟩ := wi_ab (a := 0) (b := 10) (by decide) (by decide) cv
    obtain ⟨n, -, hn, rfl⟩ := wi_ab (a := 0) (b := 8) (by decide) (by decide) cn
    obtain ⟨K1, f1, g1, g2, h1⟩ := sp_luck xs (d + 7) now trial told im0 im1 p f r tr B TN S t n (nI v) w (wK_CG hC.1) ht hR.2.2.2.2.2.2.1 htt hn cv cw
    have hle := sN_le (B := B) (TN := TN) (t := t) hv n (stA wa ms mt Ks)
    have hp := p10_lt hn
    have ha : sN B TN v t n (stA wa ms mt Ks) < 2 ^ 62 := by omega
    rw [lkE_N hC ht ho htt hn hv, p10_N, partA_ok w ha hp.1 hp.2] at h1
    have hO : ∀ s, s < 256 → ∀ nw' eb' wa' ms' mt' : List Int32, mOK nw' eb' wa' ms' mt' → lN (oN B TN v n t (stA wa ms mt Ks) s) = (if ((gfK B TN s n 0 (stA wa' ms' mt' Ks)).2.2.getD t dT).2.2.2.2.2.2.2.2.1 = 0 then wyM (nI v) s n 0 1 else 0) := by
      intro s _ nw' eb' wa' ms' mt' ho'
      rw [gf_2 (CG_t (wK_CG hC.1) ht) (HV_try hC.1 ht).2.1 n 0 0 _ _ (Pr_st hC ht ho ho') t htt]
      unfold oN
      by_cases q : ((gfK B TN s n 0 (stA wa ms mt Ks)).2.2.getD t dT).2.2.2.2.2.2.2.2.1 = 0
      · rw [if_pos q, if_pos q]
        exact (wyM_N hv n 0 1).symm
      · rw [if_neg q, if_neg q]
        rfl
    have hW : ∀ s, s < 256 → ∀ nw' eb' wa' ms' mt' : List Int32, mOK nw' eb' wa' ms' mt' → (gfK B TN s n 0 (stA wa' ms' mt' Ks)).1.2.2.2.2.2.2.1 = nI (pwN B TN s n 0 (stA wa ms mt Ks)) := by
      intro s _ nw' eb' wa' ms' mt' ho'
      rw [gf_w n 0 _ (Rs_st hC ho').1, pw_2 (CG_t (wK_CG hC.1) ht) (HV_try hC.1 ht).2.1 n 0 0 _ _ (Pr_st hC ht ho ho')]
      exact Int32.zero_add _
    obtain ⟨q, h', g3, h2⟩ := m_luck xs (d + 14) z Ks (I0 ++ I1) nw eb wa ms mt cc B TN S t n (nI v) w (VS_ca hC) ho htt hn cv cw (fun s => lN (oN B TN v n t (stA wa ms mt Ks) s)) (fun s => nI (pwN B TN s n 0 (stA wa ms mt Ks))) hO hW (sN B TN v t n (stA wa ms mt Ks)) (10 ^ n) ha hp.1 hp.2 (foS_N (fun s => rfl) (2 ^ n) 0 0) (p10_N n)
    exact ⟨_, _, _, long_nr _, Inv_p hC g1 hd g3 (rs_fog g2 hR), h1, h2⟩
theorem k_mean (v n w : Int32) (hC : caI B TN S now Ks) (ht : GS trial) (hd : CL told) (ho : mOK nw eb wa ms mt) (hR : rsI im0 im1 p f r tr z I0 I1) : Alk xs d 81 180 [v, n, w] (hCl now trial told im0 im1 p f r tr) (mH (zS z Ks (I0 ++ I1)) nw eb wa ms mt cc) := by
  have hTN := hC.1.1.2.2.2.2.2.1
  cases c : meC v n w with
  | false => exact ⟨.long (-1), _, _, long_nr _, Inv_mk hC ht hd ho hR, sp_mean_bad xs (d + 19) now trial told im0 im1 p f r tr v n w c, m_mean_bad xs (d + 18) v n w _ c⟩
  | true =>
    unfold meC at c
    rw [Bool.and_eq_true, Bool.and_eq_true] at c
    obtain ⟨cv, cn, cw⟩ := c
    obtain ⟨v, -, hv, rfl⟩ := wi_ab (a := 0) (b := 10) (by decide) (by decide) cv
    obtain ⟨n, -, hn, rfl⟩ := wi_ab (a := 0) (b := 8) (by decide) (by decide) cn
    obtain ⟨K1, f1, g1, g2, h1⟩ := sp_mean xs (d + 7) now trial told im0 im1 p f r tr B TN S n (nI v) w (fun t => lN (uN B TN v t n (stA wa ms mt Ks))) (wK_CG hC.1) ht hR.2.2.2.2.2.2.1 hn cv cw (fun t htt trial f ht hf => lkW_N hC ht ho htt hn hv)
    have hp := p10_lt hn
    have ha := wN_le (B := B) (TN := TN) hv hTN hn (stA wa ms mt Ks)
    have eS : mnS (fun t => lN (uN B TN v t n (stA wa ms mt Ks))) TN 0 0 = lN (wN B TN v n (stA wa ms mt Ks)) := by
      rw [wN_u hv]
      exact mnS_N (N := TN) (g := fun t => uN B TN v t n (stA wa ms mt Ks)) (fun t _ => rfl) TN 0 0 (by omega)
    rw [eS, p10_N, partA_ok w ha hp.1 hp.2] at h1
    have hW : ∀ s, s < 256 → ∀ nw' eb' wa' ms' mt' : List Int32, mOK nw' eb' wa' ms' mt' → (gfK B TN s n 0 (stA wa' ms' mt' Ks)).1.2.2.2.2.2.2.1 = nI (pwN B TN s n 0 (stA wa ms mt Ks)) := by
      intro s _ nw' eb' wa' ms' mt' ho'
      rw [gf_w n 0 _ (Rs_st hC ho').1, pw_2 (CG_t (wK_CG hC.1) ht) (HV_try hC.1 ht).2.1 n 0 0 _ _ (Pr_st hC ht ho ho')]
      exact Int32.zero_add _
    have ea : foS (fun s => wyM (nI v) s n 0 1 * (nI (pwN B TN s n 0 (stA wa ms mt Ks))).toInt64) (2 ^ n) 0 0 = lN (wN B TN v n (stA wa ms mt Ks)) := by
      refine foS_N (g := fun s => wyN v s n 0 1 * pwN B TN s n 0 (stA wa ms mt Ks)) (fun s => ?_) (2 ^ n) 0 0
      have e1 := wyM_N (s := s) hv n 0 1
      have h2 := pw_le (B := B) (s := s) hTN n 0 (stA wa ms mt Ks)
      rw [← lN_mul, ← e1, nI_l (by omega)]
      rfl
    obtain ⟨q, h', g3, h2⟩ := m_mean xs (d + 14) z Ks (I0 ++ I1) nw eb wa ms mt cc B TN S n (nI v) w (VS_ca hC) ho hn cv cw (fun s => nI (pwN B TN s n 0 (stA wa ms mt Ks))) hW (wN B TN v n (stA wa ms mt Ks)) (10 ^ n) ha hp.1 hp.2 ea (p10_N n)
    exact ⟨_, _, _, long_nr _, Inv_p hC g1 hd g3 (rs_fog g2 hR), h1, h2⟩
end LK13

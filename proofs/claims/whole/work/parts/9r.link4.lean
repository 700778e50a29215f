/-! start, see, say, sheet, lay, read -/
section LK4
variable (xs : List Int32) (d : Nat) (now trial told im0 im1 : CK) (p : TP) (f : FP) (r : RS) (tr : Int32) (z : ZT) (Ks : CK) (I0 I1 nw eb wa ms mt : List Int32) (cc : C4) (B TN S : Nat)
variable {now trial told im0 im1 p f r tr z Ks I0 I1 nw eb wa ms mt cc B TN S}
theorem CN_add {K : CK} {a b nd : Int32} (h6 : TN < 6) (h : CN K B TN S) : CN (addTK K TN a b nd) B (TN + 1) S := by
  obtain ⟨⟨g1, g2, g3, g4, g5, g6, g7, g8, g9, g10, g11⟩, e1, e2, e3, hB, hTN, hS⟩ := h
  refine ⟨⟨g1, g2, g3, g4, g5, g6, g7, g8, g9, g10, ?_⟩, e1, rfl, e3, hB, by omega, hS⟩
  show (List.set _ _ _).length = 6
  rw [List.length_set]
  exact g11
theorem add_gd {K : CK} {a b nd : Int32} {t : Nat} (h : t < TN) : (addTK K TN a b nd).2.2.getD t dT = K.2.2.getD t dT := gdT_ne (by omega)
theorem start_b {K : CK} {a b nd : Int32} (h : CN K B TN S) (c : startC K a b nd = true) : wTk B (a, b, nd, 0, 0, false, 0, 0, 0, 0) := by
  have hB := h.2.2.2.2.1
  unfold startC at c
  rw [Bool.and_eq_true, Bool.and_eq_true, Bool.and_eq_true, h.2.1, decide_eq_true_iff] at c
  obtain ⟨c1, c2, c3, c4⟩ := c
  obtain ⟨i, hi, rfl⟩ := has_i (by omega) c1
  obtain ⟨j, hj, rfl⟩ := has_i (by omega) c2
  obtain ⟨n, n1, n2, rfl⟩ := wi_ab (a := 1) (b := 20) (by decide) (by decide) c4
  exact ⟨⟨i, j, hi, hj, fun e => c3 (by rw [e]), rfl, rfl⟩, n, 0, 0, n1, n2, by omega, by omega, fun _ => rfl, rfl, rfl, rfl⟩
theorem wK_add {K : CK} {a b nd : Int32} (h6 : TN < 6) (h : wK K B TN S) (hb : wTk B (a, b, nd, 0, 0, false, 0, 0, 0, 0)) : wK (addTK K TN a b nd) B (TN + 1) S := by
  obtain ⟨h1, h2, h3, h4, h5, hT, h7⟩ := h
  have l6 := CL6 h1.1
  refine ⟨CN_add h6 h1, h2, h3, h4, h5, fun t ht => ?_, h7⟩
  by_cases c : TN = t
  · rw [← c]
    show wTk B ((K.2.2.set TN _).getD TN dT)
    rw [gdT_self (by omega)]
    exact hb
  · rw [add_gd (by omega)]
    exact hT t (by omega)
theorem eq_add {K L : CK} {a b nd : Int32} (h6 : TN < 6) (hK : CL K) (hL : CL L) (h : eqK B TN S K L) : eqK B (TN + 1) S (addTK K TN a b nd) (addTK L TN a b nd) := by
  have k6 := CL6 hK
  have l6 := CL6 hL
  refine ⟨h.1, h.2.1, h.2.2.1, h.2.2.2.1, fun t ht => ?_, h.2.2.2.2.2⟩
  by_cases c : TN = t
  · rw [← c]
    show T_clr ((K.2.2.set TN _).getD TN dT) = T_clr ((L.2.2.set TN _).getD TN dT)
    rw [gdT_self (by omega), gdT_self (by omega)]
  · rw [add_gd (by omega), add_gd (by omega)]
    exact h.2.2.2.2.1 t (by omega)
theorem ca_start {U : Nat} {M : CK} (a b nd : Int32) (hU : U ≤ TN) (hC : caI B TN S now Ks) (hM : eqK B U S now M) : startA now a b nd = startA Ks a b nd ∧ ∃ TN', U ≤ TN' ∧ caI B TN' S (startK now a b nd) (startK Ks a b nd) ∧ eqK B U S (startK now a b nd) M := by
  have e : startC now a b nd = startC Ks a b nd := by
    unfold startC
    rw [eq_BN hC]
  have hTN := hC.1.1.2.2.2.2.2.1
  unfold startA startK
  rw [← e]
  cases c : startC now a b nd with
  | false => exact ⟨rfl, TN, hU, hC, hM⟩
  | true =>
    dsimp only
    rw [hC.1.1.2.2.1, hC.2.1.2.2.1]
    by_cases c6 : nI TN = 6
    · rw [if_pos c6, if_pos c6, if_pos c6]
      exact ⟨rfl, TN, hU, hC, hM⟩
    · rw [if_neg c6, if_neg c6, if_neg c6, nI_clamp (by omega)]
      have h6 : TN < 6 := by
        rw [nI_6 hTN] at c6
        omega
      refine ⟨rfl, TN + 1, by omega, ⟨wK_add h6 hC.1 (start_b hC.1.1 c), CN_add h6 hC.2.1, eq_add h6 hC.1.1.1 hC.2.1.1 hC.2.2⟩, hM.1, hM.2.1, hM.2.2.1, hM.2.2.2.1, fun t ht => ?_, hM.2.2.2.2.2⟩
      rw [add_gd (by omega)]
      exact hM.2.2.2.2.1 t ht
theorem eqK_rf {K : CK} : eqK B TN S K K := ⟨rfl, rfl, rfl, fun _ _ => ⟨rfl, rfl, rfl⟩, fun _ _ => rfl, fun _ _ => ⟨rfl, rfl, rfl⟩⟩
theorem k_start (a b nd : Int32) (hC : caI B TN S now Ks) (ht : GS trial) (hd : CL told) (ho : mOK nw eb wa ms mt) (hR : rsI im0 im1 p f r tr z I0 I1) : Alk xs d 67 158 [a, b, nd] (hCl now trial told im0 im1 p f r tr) (mH (zS z Ks (I0 ++ I1)) nw eb wa ms mt cc) := by
  obtain ⟨e, TN', -, hC', -⟩ := ca_start a b nd (Nat.le_refl TN) hC eqK_rf
  have h1 := sp_startA xs (d + 17) now trial told im0 im1 p f r tr a b nd B TN S hC.1.1
  have h2 := m_startA (xs := xs) (d := d + 18) (z := z) (X := I0 ++ I1) (nw := nw) (eb := eb) (wa := wa) (ms := ms) (mt := mt) (cc := cc) (Ks := Ks) (a := a) (b := b) (nd := nd) (hn := hC.2.1)
  rw [← e] at h2
  exact ⟨_, _, _, int_nr _, Inv_mk hC' ht hd ho hR, h1, h2⟩
/-- see -/
theorem ca_see {k n t v : Nat} (hk : k < 6) (hn : n ≤ 20) (htt : t < 6) (hv : v ≤ 20) (hC : caI B TN k now Ks) : caI B TN (k + 1) (addSK now k (nI n) (nI t) (nI v)) (addSK Ks k (nI n) (nI t) (nI v)) := by
  obtain ⟨⟨h1, h2, h3, h4, h5, h6, h7⟩, hs, e1, e2, e3, e4, e5, e6⟩ := hC
  have cn : ∀ {K : CK}, CN K B TN k → CN (addSK K k (nI n) (nI t) (nI v)) B TN (k + 1) := fun h => ⟨CL_addS h.1, h.2.1, h.2.2.1, rfl, h.2.2.2.2.1, h.2.2.2.2.2.1, by omega⟩
  obtain ⟨-, -, -, l4, l5, l6, -⟩ := h1.1
  obtain ⟨-, -, -, m4, m5, m6, -⟩ := hs.1
  refine ⟨⟨cn h1, h2, h3, h4, h5, h6, fun i hi => ?_⟩, cn hs, e1, e2, e3, e4, e5, fun i hi => ?_⟩
  · by_cases c : k = i
    · exact ⟨n, t, v, hn, htt, hv, by rw [← c]; exact gd_self (by omega), by rw [← c]; exact gd_self (by omega), by rw [← c]; exact gd_self (by omega)⟩
    · obtain ⟨n, t, v, a1, a2, a3, a4, a5, a6⟩ := h7 i (by omega)
      exact ⟨n, t, v, a1, a2, a3, (gd_ne c).trans a4, (gd_ne c).trans a5, (gd_ne c).trans a6⟩
  · by_cases c : k = i
    · rw [← c]
      exact ⟨(gd_self (by omega)).trans (gd_self (by omega)).symm, (gd_self (by omega)).trans (gd_self (by omega)).symm, (gd_self (by omega)).trans (gd_self (by omega)).symm⟩
    · obtain ⟨a1, a2, a3⟩ := e6 i (by omega)
      exact ⟨(gd_ne c).trans (a1.trans (gd_ne c).symm), (gd_ne c).trans (a2.trans (gd_ne c).symm), (gd_ne c).trans (a3.trans (gd_ne c).symm)⟩
theorem k_see (n t v : Int32) (hC : caI B TN S now Ks) (ht : GS trial) (hd : CL told) (ho : mOK nw eb wa ms mt) (hR : rsI im0 im1 p f r tr z I0 I1) : Alk xs d 82 181 [n, t, v] (hCl now trial told im0 im1 p f r tr) (mH (zS z Ks (I0 ++ I1)) nw eb wa ms mt cc) := by
  have h6 := CL6 hC.1.1.1
  have hTN := hC.1.1.2.2.2.2.2.1
  have hS := hC.1.1.2.2.2.2.2.2
  have e : seeC now n t v = seeC Ks n t v := by
    unfold seeC
    rw [eq_TN hC]
  cases c : seeC now n t v with
  | false => exact ⟨.int (-1), _, _, int_nr _, Inv_mk hC ht hd ho hR, sp_see_bad xs (d + 19) now trial told im0 im1 p f r tr n t v h6 c, m_see_bad (d := d + 18) (hv := VS_ca hC) (c := e ▸ c) ..⟩
  | true =>
    have c' := c
    rw [e] at c'
    by_cases c6 : S = 6
    · exact ⟨.int (-3), _, _, int_nr _, Inv_mk hC ht hd ho hR, sp_see_full xs (d + 19) now trial told im0 im1 p f r tr n t v h6 c (by rw [hC.1.1.2.2.2.1, c6]), m_see_full (d := d + 18) (hv := VS_ca hC) (c := c') (e := by rw [hC.2.1.2.2.2.1, c6]) ..⟩
    · have h1 := sp_see xs (d + 19) now trial told im0 im1 p f r tr n t v S hC.1.1.1 c hC.1.1.2.2.2.1 (by omega)
      have h2 := m_see xs (d + 18) z Ks (I0 ++ I1) nw eb wa ms mt cc B TN S n t v S (VS_ca hC) c' hC.2.1.2.2.2.1 (by omega)
      unfold seeC at c
      rw [Bool.and_eq_true, Bool.and_eq_true, hC.1.1.2.2.1] at c
      obtain ⟨c1, c2, c3⟩ := c
      obtain ⟨n, hn, rfl⟩ := wi_of (M := 20) (by decide) c1
      obtain ⟨t, htt, rfl⟩ := has_i (by omega) c2
      obtain ⟨v, hv, rfl⟩ := wi_of (M := 20) (by decide) c3
      exact ⟨_, _, _, int_nr _, Inv_mk (ca_see (by omega) hn (by omega) hv hC) ht hd ho hR, h1, h2⟩
end LK4

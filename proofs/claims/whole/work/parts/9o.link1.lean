/-! Both answer alike -/
def Alk (xs : List Int32) (d y y' : Nat) (as : List Int32) (hc hm : MH) : Prop := ∃ (v : Value) (hc' hm' : MH), (∀ k, v ≠ .ref k) ∧ Inv hc' hm' ∧ Ev xs (d + 20) y 0 (mm_en (infT y).2.1 (.ref 0 :: as.map .int)) [] hc (some v) hc' ∧ Ev xs (d + 20) y' 0 (mm_en (infT y').2.1 (.ref 0 :: as.map .int)) [] hm (some v) hm'
theorem wi_ab {v : Int32} {a b : Nat} (ha : a < 2 ^ 31) (hb : b < 2 ^ 31) (h : wiI v (nI a) (nI b) = true) : ∃ k, a ≤ k ∧ k ≤ b ∧ v = nI k := by
  unfold wiI at h
  rw [Bool.and_eq_true, decide_eq_true_iff, decide_eq_true_iff, Int32.lt_iff_toInt_lt, Int32.lt_iff_toInt_lt, nI_toInt ha, nI_toInt hb] at h
  obtain ⟨h1, h2⟩ := h
  refine ⟨v.toInt.toNat, by omega, by omega, ?_⟩
  apply Int32.toInt_inj.mp
  rw [nI_toInt (by omega)]
  omega
section LK1
variable (xs : List Int32) (d : Nat) (now trial told im0 im1 : CK) (p : TP) (f : FP) (r : RS) (tr : Int32) (z : ZT) (Ks : CK) (I0 I1 nw eb wa ms mt : List Int32) (cc : C4) (B TN S : Nat)
variable {now trial told im0 im1 p f r tr z Ks I0 I1 nw eb wa ms mt cc B TN S}
theorem Inv_mk (hC : caI B TN S now Ks) (ht : GS trial) (hd : CL told) (ho : mOK nw eb wa ms mt) (hR : rsI im0 im1 p f r tr z I0 I1) : Inv (hCl now trial told im0 im1 p f r tr) (mH (zS z Ks (I0 ++ I1)) nw eb wa ms mt cc) := ⟨now, trial, told, im0, im1, p, f, r, tr, z, Ks, I0, I1, nw, eb, wa, ms, mt, cc, B, TN, S, rfl, rfl, hC, ht, hd, ho, hR⟩
theorem Inv_p {h : MH} (hC : caI B TN S now Ks) (ht : GS trial) (hd : CL told) (ho : MHp z Ks (I0 ++ I1) h) (hR : rsI im0 im1 p f r tr z I0 I1) : Inv (hCl now trial told im0 im1 p f r tr) h := by
  obtain ⟨nw, eb, wa, ms, mt, cc, ho, rfl⟩ := ho
  exact Inv_mk hC ht hd ho hR
theorem k_torn (hC : caI B TN S now Ks) (ht : GS trial) (hd : CL told) (ho : mOK nw eb wa ms mt) (hR : rsI im0 im1 p f r tr z I0 I1) : Alk xs d 93 197 [] (hCl now trial told im0 im1 p f r tr) (mH (zS z Ks (I0 ++ I1)) nw eb wa ms mt cc) := by
  have e : tr = z.2.2.1 := hR.2.2.2.2.2.1
  have h2 : Ev xs (d + 20) 197 0 [some (.ref 0)] [] (mH (zS z Ks (I0 ++ I1)) nw eb wa ms mt cc) (some (.int tr)) (mH (zS z Ks (I0 ++ I1)) nw eb wa ms mt cc) := by
    rw [e]
    exact m_torn ..
  exact ⟨.int tr, _, _, int_nr _, Inv_mk hC ht hd ho hR, sp_torn .., h2⟩
theorem k_fault (hC : caI B TN S now Ks) (ht : GS trial) (hd : CL told) (ho : mOK nw eb wa ms mt) (hR : rsI im0 im1 p f r tr z I0 I1) : Alk xs d 61 129 [] (hCl now trial told im0 im1 p f r tr) (mH (zS z Ks (I0 ++ I1)) nw eb wa ms mt cc) := by
  have e : p.2.2.2.2.2.2.2.1 = z.1.2.2.2.2.2.2.2.2.1 := hR.2.2.2.1.2.2.1
  have h2 : Ev xs (d + 20) 129 0 [some (.ref 0)] [] (mH (zS z Ks (I0 ++ I1)) nw eb wa ms mt cc) (some (.int p.2.2.2.2.2.2.2.1)) (mH (zS z Ks (I0 ++ I1)) nw eb wa ms mt cc) := by
    rw [e]
    exact m_fault ..
  exact ⟨.int p.2.2.2.2.2.2.2.1, _, _, int_nr _, Inv_mk hC ht hd ho hR, sp_fault .., h2⟩
/-- memory -/
theorem wK_mem {K : CK} (v : Int32) (c : wiI v 1 99 = true) (h : wK K B TN S) : wK ((K.1.1, v, K.1.2.2), K.2) B TN S := by
  obtain ⟨h1, h2, h3, -, h5⟩ := h
  obtain ⟨k, a1, a2, e⟩ := wi_ab (a := 1) (b := 99) (by decide) (by decide) c
  exact ⟨h1, h2, h3, ⟨k, a1, a2, e⟩, h5⟩
theorem k_memory (v : Int32) (hC : caI B TN S now Ks) (ht : GS trial) (hd : CL told) (ho : mOK nw eb wa ms mt) (hR : rsI im0 im1 p f r tr z I0 I1) : Alk xs d 66 157 [v] (hCl now trial told im0 im1 p f r tr) (mH (zS z Ks (I0 ++ I1)) nw eb wa ms mt cc) := by
  cases c : wiI v 1 99 with
  | false =>
    have h1 := sp_memory xs (d + 19) now trial told im0 im1 p f r tr v
    rw [c] at h1
    exact ⟨.int (-1), _, _, int_nr _, Inv_mk hC ht hd ho hR, h1, m_memory_bad (d := d + 19) (c := c) ..⟩
  | true =>
    have h1 := sp_memory xs (d + 19) now trial told im0 im1 p f r tr v
    rw [c] at h1
    have e : now.1.2.1 = Ks.1.2.1 := hC.2.2.2.1
    have h2 : Ev xs (d + 20) 157 0 [some (.ref 0), some (.int v)] [] (mH (zS z Ks (I0 ++ I1)) nw eb wa ms mt cc) (some (.int now.1.2.1)) (mH (zS z ((Ks.1.1, v, Ks.1.2.2), Ks.2) (I0 ++ I1)) nw eb wa ms mt cc) := by
      rw [e]
      exact m_memory (d := d + 19) (c := c) ..
    exact ⟨.int now.1.2.1, _, _, int_nr _, Inv_mk (Ks := ((Ks.1.1, v, Ks.1.2.2), Ks.2)) (now := ((now.1.1, v, now.1.2.2), now.2)) ⟨wK_mem v c hC.1, hC.2.1, hC.2.2.1, rfl, hC.2.2.2.2⟩ ht hd ho hR, h1, h2⟩
/-- cut -/
theorem eq_TN (hC : caI B TN S now Ks) : now.1.2.2.2.2.1 = Ks.1.2.2.2.2.1 := by rw [hC.1.1.2.2.1, hC.2.1.2.2.1]
theorem eq_BN (hC : caI B TN S now Ks) : now.1.2.2.2.1 = Ks.1.2.2.2.1 := by rw [hC.1.1.2.1, hC.2.1.2.1]
theorem eq_SN (hC : caI B TN S now Ks) : now.1.2.2.2.2.2.1 = Ks.1.2.2.2.2.2.1 := by rw [hC.1.1.2.2.2.1, hC.2.1.2.2.2.1]
theorem CN_cut {K : CK} {n : Nat} (hn : n ≤ TN) (h : CN K B TN S) : CN ((K.1.1, K.1.2.1, K.1.2.2.1, K.1.2.2.2.1, nI n, K.1.2.2.2.2.2), K.2) B n S := by
  obtain ⟨h1, h2, h3, h4, h5, h6, h7⟩ := h
  exact ⟨h1, h2, rfl, h4, h5, by omega, h7⟩
theorem ca_cut {n : Nat} (hn : n ≤ TN) (hC : caI B TN S now Ks) : caI B n S ((now.1.1, now.1.2.1, now.1.2.2.1, now.1.2.2.2.1, nI n, now.1.2.2.2.2.2), now.2) ((Ks.1.1, Ks.1.2.1, Ks.1.2.2.1, Ks.1.2.2.2.1, nI n, Ks.1.2.2.2.2.2), Ks.2) := by
  obtain ⟨⟨h1, h2, h3, h4, h5, h6, h7⟩, hs, e1, e2, e3, e4, e5, e6⟩ := hC
  exact ⟨⟨CN_cut hn h1, h2, h3, h4, h5, fun t ht => h6 t (by omega), h7⟩, CN_cut hn hs, e1, e2, e3, e4, fun t ht => e5 t (by omega), e6⟩
theorem k_cut (v : Int32) (hC : caI B TN S now Ks) (ht : GS trial) (hd : CL told) (ho : mOK nw eb wa ms mt) (hR : rsI im0 im1 p f r tr z I0 I1) : Alk xs d 68 159 [v] (hCl now trial told im0 im1 p f r tr) (mH (zS z Ks (I0 ++ I1)) nw eb wa ms mt cc) := by
  have h1 := sp_cut xs (d + 19) now trial told im0 im1 p f r tr v
  cases c : wiI v 0 now.1.2.2.2.2.1 with
  | false =>
    rw [c] at h1
    rw [eq_TN hC] at c
    exact ⟨.int (-1), _, _, int_nr _, Inv_mk hC ht hd ho hR, h1, m_cut_bad (d := d + 19) (c := c) ..⟩
  | true =>
    rw [c] at h1
    have c2 := c
    rw [eq_TN hC] at c2
    have h2 := m_cut (xs := xs) (d := d + 19) (z := z) (X := I0 ++ I1) (nw := nw) (eb := eb) (wa := wa) (ms := ms) (mt := mt) (cc := cc) (v := v) (c := c2)
    rw [← eq_TN hC] at h2
    rw [hC.1.1.2.2.1] at c
    obtain ⟨n, hn, rfl⟩ := wi_of (by have := hC.1.1.2.2.2.2.2.1; omega) c
    exact ⟨.int now.1.2.2.2.2.1, _, _, int_nr _, Inv_mk (ca_cut hn hC) ht hd ho hR, h1, h2⟩
theorem CN_fgt {K : CK} {n : Nat} (hn : n ≤ S) (h : CN K B TN S) : CN ((K.1.1, K.1.2.1, K.1.2.2.1, K.1.2.2.2.1, K.1.2.2.2.2.1, nI n, K.1.2.2.2.2.2.2), K.2) B TN n := by
  obtain ⟨h1, h2, h3, h4, h5, h6, h7⟩ := h
  exact ⟨h1, h2, h3, rfl, h5, h6, by omega⟩
theorem ca_fgt {n : Nat} (hn : n ≤ S) (hC : caI B TN S now Ks) : caI B TN n ((now.1.1, now.1.2.1, now.1.2.2.1, now.1.2.2.2.1, now.1.2.2.2.2.1, nI n, now.1.2.2.2.2.2.2), now.2) ((Ks.1.1, Ks.1.2.1, Ks.1.2.2.1, Ks.1.2.2.2.1, Ks.1.2.2.2.2.1, nI n, Ks.1.2.2.2.2.2.2), Ks.2) := by
  obtain ⟨⟨h1, h2, h3, h4, h5, h6, h7⟩, hs, e1, e2, e3, e4, e5, e6⟩ := hC
  exact ⟨⟨CN_fgt hn h1, h2, h3, h4, h5, h6, fun i hi => h7 i (by omega)⟩, CN_fgt hn hs, e1, e2, e3, e4, e5, fun i hi => e6 i (by omega)⟩
theorem k_forget (v : Int32) (hC : caI B TN S now Ks) (ht : GS trial) (hd : CL told) (ho : mOK nw eb wa ms mt) (hR : rsI im0 im1 p f r tr z I0 I1) : Alk xs d 83 182 [v] (hCl now trial told im0 im1 p f r tr) (mH (zS z Ks (I0 ++ I1)) nw eb wa ms mt cc) := by
  have h1 := sp_forget xs (d + 19) now trial told im0 im1 p f r tr v
  cases c : wiI v 0 now.1.2.2.2.2.2.1 with
  | false =>
    rw [c] at h1
    rw [eq_SN hC] at c
    exact ⟨.int (-1), _, _, int_nr _, Inv_mk hC ht hd ho hR, h1, m_forget_bad (d := d + 19) (c := c) ..⟩
  | true =>
    rw [c] at h1
    have c2 := c
    rw [eq_SN hC] at c2
    have h2 := m_forget (xs := xs) (d := d + 19) (z := z) (X := I0 ++ I1) (nw := nw) (eb := eb) (wa := wa) (ms := ms) (mt := mt) (cc := cc) (v := v) (c := c2)
    rw [← eq_SN hC] at h2
    rw [hC.1.1.2.2.2.1] at c
    obtain ⟨n, hn, rfl⟩ := wi_of (by have := hC.1.1.2.2.2.2.2.2; omega) c
    exact ⟨.int now.1.2.2.2.2.2.1, _, _, int_nr _, Inv_mk (ca_fgt hn hC) ht hd ho hR, h1, h2⟩
/-- feed, end -/
theorem k_end (v : Int32) (hC : caI B TN S now Ks) (ht : GS trial) (hd : CL told) (ho : mOK nw eb wa ms mt) (hR : rsI im0 im1 p f r tr z I0 I1) : Alk xs d 59 116 [v] (hCl now trial told im0 im1 p f r tr) (mH (zS z Ks (I0 ++ I1)) nw eb wa ms mt cc) := by
  have h1 := sp_end xs (d + 19) now trial told im0 im1 p f r tr v
  obtain ⟨q1, q2, q3, q4, q5⟩ := hR
  obtain ⟨t1, t2, t3, L, D, t4, t5, t6, t7⟩ := q4
  cases c : wiI v 0 p.1 with
  | false =>
    rw [c] at h1
    rw [t6, ← t7] at c
    exact ⟨.int (-1), _, _, int_nr _, Inv_mk hC ht hd ho ⟨q1, q2, q3, ⟨t1, t2, t3, L, D, t4, t5, t6, t7⟩, q5⟩, h1, m_end_bad (d := d + 19) (z := zS z Ks (I0 ++ I1)) (c := c) ..⟩
  | true =>
    rw [c] at h1
    have c2 := c
    rw [t6, ← t7] at c2
    have h2 := m_end (xs := xs) (d := d + 19) (z := zS z Ks (I0 ++ I1)) (nw := nw) (eb := eb) (wa := wa) (ms := ms) (mt := mt) (cc := cc) (n := v) (c := c2)
    have e : (zS z Ks (I0 ++ I1)).1.2.2.2.1 = p.1 := t7.trans t6.symm
    rw [e] at h2
    rw [t6] at c
    obtain ⟨n, hn, rfl⟩ := wi_of (by have := t4.1; omega) c
    refine ⟨.int p.1, _, _, int_nr _, ?_, h1, h2⟩
    refine Inv_mk (p := (nI n, p.2)) (z := zP z (nI n) z.2.2.2.2.2.2.2.1) hC ht hd ho ⟨q1, q2, q3, ⟨t1, t2, t3, n, D, ⟨by have := t4.1; omega, fun q hq => t4.2 q (by omega)⟩, ⟨by have := t4.1; omega, fun q hq => t5.2 q (by omega)⟩, rfl, rfl⟩, q5⟩
end LK1

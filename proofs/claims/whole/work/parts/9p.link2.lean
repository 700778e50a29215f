/-! feed, count, rule, barge, talk -/
theorem b8_nI : ∀ m, m < 128 → (nI m).toInt8.toInt32 = nI m := by decide +kernel
theorem takeI_eq {B : Nat} {l l' : List Int32} (h : ∀ b, b < B → l.getD b 0 = l'.getD b 0) (h1 : B ≤ l.length) (h2 : B ≤ l'.length) : l.take B = l'.take B := by
  apply List.ext_getElem?
  intro j
  rw [List.getElem?_take, List.getElem?_take]
  by_cases c : j < B
  · rw [if_pos c, if_pos c, getD_at (by omega), getD_at (by omega), h j c]
  · rw [if_neg c, if_neg c]
section LK2
variable (xs : List Int32) (d : Nat) (now trial told im0 im1 : CK) (p : TP) (f : FP) (r : RS) (tr : Int32) (z : ZT) (Ks : CK) (I0 I1 nw eb wa ms mt : List Int32) (cc : C4) (B TN S : Nat)
variable {now trial told im0 im1 p f r tr z Ks I0 I1 nw eb wa ms mt cc B TN S}
theorem byD_set {D : Nat → Nat} {L m : Nat} {l : List Int32} (hL : L < 160) (hl : l.length = 160) (hm : m < 128) (h : byD D L l) : byD (fun q => if q = L then m else D q) (L + 1) (l.set L (nI m)) := by
  refine ⟨by omega, fun q hq => ?_⟩
  dsimp only
  by_cases c : q = L
  · rw [if_pos c, c, List.getElem?_set_self (by omega)]
    exact ⟨rfl, hm⟩
  · rw [if_neg c, List.getElem?_set_ne (fun e => c e.symm)]
    exact h.2 q (by omega)
theorem k_feed (v : Int32) (hC : caI B TN S now Ks) (ht : GS trial) (hd : CL told) (ho : mOK nw eb wa ms mt) (hR : rsI im0 im1 p f r tr z I0 I1) : Alk xs d 58 115 [v] (hCl now trial told im0 im1 p f r tr) (mH (zS z Ks (I0 ++ I1)) nw eb wa ms mt cc) := by
  obtain ⟨q1, q2, q3, q4, q5⟩ := hR
  obtain ⟨t1, t2, t3, L, D, t4, t5, t6, t7⟩ := q4
  have h1 := sp_feed xs (d + 19) now trial told im0 im1 p f r tr v L t6 t4.1 t1
  unfold feedA feedL feedB at h1
  have ep : (nI L, p.2) = p := by rw [← t6]
  cases c : wiI v 0 127 with
  | false =>
    rw [c] at h1
    dsimp only at h1
    rw [ep] at h1
    exact ⟨.int (-1), _, _, int_nr _, Inv_mk hC ht hd ho ⟨q1, q2, q3, ⟨t1, t2, t3, L, D, t4, t5, t6, t7⟩, q5⟩, h1, m_feed_bad (d := d + 19) (e := c) ..⟩
  | true =>
    rw [c] at h1
    dsimp only at h1
    by_cases c1 : L < 160
    · rw [if_pos c1, if_pos c1, if_pos c1] at h1
      have h2 := m_feed (xs := xs) (d := d + 19) (z := zS z Ks (I0 ++ I1)) (nw := nw) (eb := eb) (wa := wa) (ms := ms) (mt := mt) (cc := cc) (c := v) (L := L) (e := c) (e2 := t7) (hL := c1) (hl := t2)
      obtain ⟨m, hm, rfl⟩ := wi_of (M := 127) (by decide) c
      rw [b8_nI m (by omega)] at h1
      refine ⟨.int (nI (L + 1)), _, _, int_nr _, ?_, h1, h2⟩
      refine Inv_mk (p := (nI (L + 1), p.2)) (r := (r.1, r.2.1.set L (nI m), r.2.2)) (z := zP z (nI (L + 1)) (z.2.2.2.2.2.2.2.1.set L (nI m))) hC ht hd ho ⟨q1, q2, q3, ⟨?_, ?_, t3, L + 1, _, byD_set c1 t1 (by omega) t4, byD_set c1 t2 (by omega) t5, rfl, rfl⟩, q5⟩
      · show (List.set _ _ _).length = 160
        rw [List.length_set]
        exact t1
      · show (List.set _ _ _).length = 160
        rw [List.length_set]
        exact t2
    · have eL : L = 160 := by have := t4.1; omega
      rw [if_neg c1, if_neg c1, if_neg c1, ep] at h1
      have h2 := m_feed_full (xs := xs) (d := d + 19) (z := zS z Ks (I0 ++ I1)) (nw := nw) (eb := eb) (wa := wa) (ms := ms) (mt := mt) (cc := cc) (c := v) (e := c) (e2 := t7.trans (by rw [eL]))
      exact ⟨.int (-3), _, _, int_nr _, Inv_mk hC ht hd ho ⟨q1, q2, q3, ⟨t1, t2, t3, L, D, t4, t5, t6, t7⟩, q5⟩, h1, h2⟩
theorem TNk (h : CN now B TN S) : TN ≤ now.2.2.length := by
  have := CL6 h.1
  have := h.2.2.2.2.2.1
  omega
theorem sm_ca {k : Nat} (hk : k ≤ 8) (hC : caI B TN S now Ks) : smT k (now.2.2.take TN) = smT k (Ks.2.2.take TN) := smT_take (fun t htt => clr_tell hk (hC.2.2.2.2.2.2.1 t htt)) (TNk hC.1.1) (TNk hC.2.1)
theorem count_eq (k : Nat) (hk : k ≤ 5) (hC : caI B TN S now Ks) (hR : rsI im0 im1 p f r tr z I0 I1) : countA now p r B TN k = mcountA z Ks B TN k := by
  match k, hk with
  | 0, _ => exact eq_SN hC
  | 1, _ =>
    show _ = z.2.2.2.2.2.1.getD 0 0 + z.2.2.2.2.2.1.getD 1 0
    rw [hR.2.2.1]
    rfl
  | 2, _ =>
    obtain ⟨t1, t2, t3, L, D, t4, t5, t6, t7⟩ := hR.2.2.2.1
    exact t6.trans t7.symm
  | 3, _ =>
    obtain ⟨-, q | q⟩ := hR.2.2.2.2.1 0 (by decide)
    · show (if _ then _ else _) = if _ then _ else _
      rw [List.getD_eq_getElem?_getD, List.getD_eq_getElem?_getD, List.getD_eq_getElem?_getD, q.1, q.2]
      rfl
    · obtain ⟨s, l, a1, a2, a3, a4, a5, a6, -⟩ := q
      show (if _ then _ else _) = if _ then _ else _
      rw [List.getD_eq_getElem?_getD, List.getD_eq_getElem?_getD, List.getD_eq_getElem?_getD, a3, a4, a6]
      rw [if_neg (show ¬ (some (nI s)).getD 0 = -1 from nI_ne1 (by omega)), if_neg (show ¬ (some l).getD 0 = -4 from fun e => by
        have e' : l = -4 := e
        rw [e'] at a2
        exact absurd a2 (by decide))]
  | 4, _ =>
    show smI _ = smI _
    rw [takeI_eq (fun b hb => (hC.2.2.2.2.2.1 b hb).2.2) (by have := hC.1.1.2.2.2.2.1; have := hC.1.1.1.2.2.1; omega) (by have := hC.1.1.2.2.2.2.1; have := hC.2.1.1.2.2.1; omega)]
  | 5, _ => exact sm_ca (by decide) hC
theorem k_count (v : Int32) (hC : caI B TN S now Ks) (ht : GS trial) (hd : CL told) (ho : mOK nw eb wa ms mt) (hR : rsI im0 im1 p f r tr z I0 I1) : Alk xs d 94 198 [v] (hCl now trial told im0 im1 p f r tr) (mH (zS z Ks (I0 ++ I1)) nw eb wa ms mt cc) := by
  cases c : wiI v 0 5 with
  | false => exact ⟨.int (-1), _, _, int_nr _, Inv_mk hC ht hd ho hR, sp_count_bad (c := c) .., m_count_bad (hn := hC.2.1) (c := c) ..⟩
  | true =>
    obtain ⟨k, hk, rfl⟩ := wi_of (M := 5) (by decide) c
    have h1 := sp_count xs (d + 17) now trial told im0 im1 p f r tr B TN S k hC.1.1 hk hR.2.2.2.2.2.2.2.2.2.2.1
    rw [count_eq k hk hC hR] at h1
    exact ⟨.int (mcountA z Ks B TN k), _, _, int_nr _, Inv_mk hC ht hd ho hR, h1, m_count (d := d + 19) (k := k) (hn := hC.2.1) (hk := hk) (eK := hR.2.2.1) (h4 := hR.2.2.2.2.2.2.2.2.2.2.2.2.2.2.1) (h5 := hR.2.2.2.2.2.2.2.2.2.2.2.2.2.2.2.1) ..⟩
/-- what is tried -/
theorem Lv_ca (ht : GS trial) (hC : caI B TN S now Ks) : Lv B TN (tryK now trial B TN S) (stA wa ms mt Ks) := Lv_try hC.1.1 ht.1 hC.2.1 hC.2.2
theorem VS_ca (hC : caI B TN S now Ks) : VS Ks B TN S := wK_VS hC.1 hC.2.1 hC.2.2
theorem Lv_ca_mv (ht : GS trial) (ho : mOK nw eb wa ms mt) (hC : caI B TN S now Ks) : Lv B TN (mvC (tryK now trial B TN S) B) (gmK false (stA wa ms mt Ks) B) ∧ Lm B (mvC (tryK now trial B TN S) B) (gmK false (stA wa ms mt Ks) B) := Lv_mv (Lv_ca ht hC) (CG_t (wK_CG hC.1) ht) (GM_st (VS_ca hC) ho).1 (HV_try hC.1 ht).2.1
theorem k_rule (v : Int32) (hC : caI B TN S now Ks) (ht : GS trial) (hd : CL told) (ho : mOK nw eb wa ms mt) (hR : rsI im0 im1 p f r tr z I0 I1) : Alk xs d 62 152 [v] (hCl now trial told im0 im1 p f r tr) (mH (zS z Ks (I0 ++ I1)) nw eb wa ms mt cc) := by
  cases c : wiI v 0 7 with
  | false => exact ⟨.int (-1), _, _, int_nr _, Inv_mk hC ht hd ho hR, sp_rule_bad (c := c) .., m_rule_bad (c := c) ..⟩
  | true =>
    obtain ⟨k, hk, rfl⟩ := wi_of (M := 7) (by decide) c
    obtain ⟨trial', ht', h1⟩ := sp_rule xs (d + 16) now trial told im0 im1 p f r tr B TN S k (wK_CG hC.1) ht hk
    obtain ⟨h', hp, h2⟩ := m_rule xs (d + 15) z Ks (I0 ++ I1) nw eb wa ms mt cc B TN S k hk (VS_ca hC) ho
    have e : ruleA now trial B TN S k = mruleA wa ms mt Ks B TN k := by
      match k, hk with
      | 0, _ => exact eq_BN hC
      | 1, _ => exact eq_TN hC
      | 2, _ => exact hC.2.2.2.2.1
      | 3, _ => exact hC.2.2.1
      | 4, _ => exact hC.2.2.2.1
      | 5, _ => exact sm_ca (by decide) hC
      | 6, _ => exact sm_ca (by decide) hC
      | 7, _ => exact (Lv_ca_mv ht ho hC).1.2.2.2.2.1
    rw [e] at h1
    exact ⟨_, _, _, int_nr _, Inv_p hC ht' hd hp hR, h1, h2⟩
theorem k_barge (b v : Int32) (hC : caI B TN S now Ks) (ht : GS trial) (hd : CL told) (ho : mOK nw eb wa ms mt) (hR : rsI im0 im1 p f r tr z I0 I1) : Alk xs d 63 153 [b, v] (hCl now trial told im0 im1 p f r tr) (mH (zS z Ks (I0 ++ I1)) nw eb wa ms mt cc) := by
  have h6 := CL6 hC.1.1.1
  cases c : hasI b now.1.2.2.2.1 with
  | false => exact ⟨.int (-1), _, _, int_nr _, Inv_mk hC ht hd ho hR, sp_barge_bad1 xs (d + 19) now trial told im0 im1 p f r tr b v h6 c, m_barge_bad1 (d := d + 18) (hv := VS_ca hC) (c := by rw [← eq_BN hC]; exact c) ..⟩
  | true =>
    cases c2 : wiI v 0 4 with
    | false => exact ⟨.int (-1), _, _, int_nr _, Inv_mk hC ht hd ho hR, sp_barge_bad2 xs (d + 19) now trial told im0 im1 p f r tr b v h6 c c2, m_barge_bad2 (d := d + 18) (hv := VS_ca hC) (c := by rw [← eq_BN hC]; exact c) (c2 := c2) ..⟩
    | true =>
      obtain ⟨k, hk, rfl⟩ := wi_of (M := 4) (by decide) c2
      rw [hC.1.1.2.1] at c
      obtain ⟨b, hb, rfl⟩ := has_i (by have := hC.1.1.2.2.2.2.1; omega) c
      obtain ⟨trial', ht', h1⟩ := sp_barge xs (d + 16) now trial told im0 im1 p f r tr B TN S b k (wK_CG hC.1) ht hb hk
      obtain ⟨h', hp, h2⟩ := m_barge xs (d + 16) z Ks (I0 ++ I1) nw eb wa ms mt cc B TN S b k hb hk (VS_ca hC) ho
      have e : bargeA now trial B TN S b k = mbargeA wa ms mt Ks B b k := by
        match k, hk with
        | 0, _ => exact (hC.2.2.2.2.2.1 b hb).1
        | 1, _ => exact (hC.2.2.2.2.2.1 b hb).2.1
        | 2, _ => exact (hC.2.2.2.2.2.1 b hb).2.2
        | 3, _ =>
          show plI _ _ = plI _ _
          rw [(hC.2.2.2.2.2.1 b hb).2.1, hC.2.2.1]
        | 4, _ => exact (Lv_ca_mv ht ho hC).2.2 b hb
      rw [e] at h1
      exact ⟨_, _, _, int_nr _, Inv_p hC ht' hd hp hR, h1, h2⟩
theorem k_talk (t v : Int32) (hC : caI B TN S now Ks) (ht : GS trial) (hd : CL told) (ho : mOK nw eb wa ms mt) (hR : rsI im0 im1 p f r tr z I0 I1) : Alk xs d 64 154 [t, v] (hCl now trial told im0 im1 p f r tr) (mH (zS z Ks (I0 ++ I1)) nw eb wa ms mt cc) := by
  have h6 := CL6 hC.1.1.1
  have g6 := CL6 hC.2.1.1
  cases c : hasI t now.1.2.2.2.2.1 with
  | false => exact ⟨.int (-1), _, _, int_nr _, Inv_mk hC ht hd ho hR, sp_talk_bad xs (d + 19) now trial told im0 im1 p f r tr t v h6 (by rw [c]; rfl), m_talk_bad1 (d := d + 18) (hv := VS_ca hC) (c := by rw [← eq_TN hC]; exact c) ..⟩
  | true =>
    cases c2 : wiI v 0 8 with
    | false =>
      obtain ⟨h', hp, h2⟩ := m_talk_bad2 xs (d + 18) z Ks (I0 ++ I1) nw eb wa ms mt cc B TN S t v (VS_ca hC) ho (by rw [← eq_TN hC]; exact c) c2
      exact ⟨.int (-1), _, _, int_nr _, Inv_p hC ht hd hp hR, sp_talk_bad xs (d + 19) now trial told im0 im1 p f r tr t v h6 (by rw [c, c2]; rfl), h2⟩
    | true =>
      obtain ⟨k, hk, rfl⟩ := wi_of (M := 8) (by decide) c2
      have c3 := c
      rw [hC.1.1.2.2.1] at c
      obtain ⟨t, htt, rfl⟩ := has_i (by have := hC.1.1.2.2.2.2.2.1; omega) c
      have hTN := hC.1.1.2.2.2.2.2.1
      have h1 := sp_talk_ok xs (d + 18) now trial told im0 im1 p f r tr t k (now.2.2.getD t dT) h6 c3 (by omega) hk (getT_at (by omega))
      obtain ⟨h', hp, h2⟩ := m_talk xs (d + 18) z Ks (I0 ++ I1) nw eb wa ms mt cc B TN S t k (Ks.2.2.getD t dT) htt hk (getT_at (by omega)) (VS_ca hC) ho
      rw [clr_tell hk (hC.2.2.2.2.2.2.1 t htt)] at h1
      exact ⟨_, _, _, int_nr _, Inv_p hC ht hd hp hR, h1, h2⟩
end LK2

/-! alter, start, see, keep, back -/
theorem eqK_sy {B TN S : Nat} {K L : CK} (h : eqK B TN S K L) : eqK B TN S L K := ⟨h.1.symm, h.2.1.symm, h.2.2.1.symm, fun b hb => ⟨(h.2.2.2.1 b hb).1.symm, (h.2.2.2.1 b hb).2.1.symm, (h.2.2.2.1 b hb).2.2.symm⟩, fun t ht => (h.2.2.2.2.1 t ht).symm, fun i hi => ⟨(h.2.2.2.2.2 i hi).1.symm, (h.2.2.2.2.2 i hi).2.1.symm, (h.2.2.2.2.2 i hi).2.2.symm⟩⟩
theorem eqK_tr {B TN S : Nat} {K L M : CK} (h : eqK B TN S K L) (g : eqK B TN S L M) : eqK B TN S K M := ⟨h.1.trans g.1, h.2.1.trans g.2.1, h.2.2.1.trans g.2.2.1, fun b hb => ⟨(h.2.2.2.1 b hb).1.trans (g.2.2.2.1 b hb).1, (h.2.2.2.1 b hb).2.1.trans (g.2.2.2.1 b hb).2.1, (h.2.2.2.1 b hb).2.2.trans (g.2.2.2.1 b hb).2.2⟩, fun t ht => (h.2.2.2.2.1 t ht).trans (g.2.2.2.2.1 t ht), fun i hi => ⟨(h.2.2.2.2.2 i hi).1.trans (g.2.2.2.2.2 i hi).1, (h.2.2.2.2.2 i hi).2.1.trans (g.2.2.2.2.2 i hi).2.1, (h.2.2.2.2.2 i hi).2.2.trans (g.2.2.2.2.2 i hi).2.2⟩⟩
/-- what tells the same is as sound -/
theorem wK_eq {K L : CK} {B TN S : Nat} (h : wK L B TN S) (hn : CN K B TN S) (hm : okM K.2.1.2.2.2.2.2.2.2.2.2) (e : eqK B TN S L K) : wK K B TN S := by
  obtain ⟨h1, h2, ⟨Ln, a1, a2, a3, a4⟩, ⟨m, b1, b2, b3⟩, ⟨u, c1, c2⟩, h6, h7⟩ := h
  refine ⟨hn, hm, ⟨Ln, a1, a2, e.1 ▸ a3, fun b hb => ?_⟩, ⟨m, b1, b2, e.2.1 ▸ b3⟩, ⟨u, c1, e.2.2.1 ▸ c2⟩, fun t ht => wTk_clr (e.2.2.2.2.1 t ht) (h6 t ht), fun i hi => ?_⟩
  · obtain ⟨k, p, c, d1, d2, d3, d4, d5, d6, d7⟩ := a4 b hb
    obtain ⟨f1, f2, f3⟩ := e.2.2.2.1 b hb
    exact ⟨k, p, c, d1, d2, d3, d4, f1 ▸ d5, f2 ▸ d6, f3 ▸ d7⟩
  · obtain ⟨n, t, v, d1, d2, d3, d4, d5, d6⟩ := h7 i hi
    obtain ⟨f1, f2, f3⟩ := e.2.2.2.2.2 i hi
    exact ⟨n, t, v, d1, d2, d3, f1 ▸ d4, f2 ▸ d5, f3 ▸ d6⟩
theorem eq_cp {K L : CK} {B TN S : Nat} : eqK B TN S L (cpK K L B TN S) := by
  refine ⟨rfl, rfl, rfl, fun b hb => ⟨?_, ?_, ?_⟩, fun t ht => ?_, fun i hi => ⟨?_, ?_, ?_⟩⟩
  · exact (cpI_take b hb).symm
  · exact (cpI_take b hb).symm
  · exact (cpI_take b hb).symm
  · congr 1
    show _ = (cpT L.2.2 TN K.2.2).getD t dT
    unfold cpT
    rw [List.getD_eq_getElem?_getD (l := up _ _ _), up_lt ht]
    rfl
  · exact (cpI_take i hi).symm
  · exact (cpI_take i hi).symm
  · exact (cpI_take i hi).symm
theorem CN_cp {K L : CK} {B TN S : Nat} (h : CN L B TN S) (hK : CL K) : CN (cpK K L B TN S) B TN S := ⟨CL_cp h.2.2.2.2.1 h.2.2.2.2.2.1 h.2.2.2.2.2.2 hK, rfl, rfl, rfl, h.2.2.2.2.1, h.2.2.2.2.2.1, h.2.2.2.2.2.2⟩
theorem wK_cp {K L : CK} {B TN S : Nat} (h : wK L B TN S) (hK : GS K) : wK (cpK K L B TN S) B TN S := wK_eq h (CN_cp h.1 hK.1) hK.2 eq_cp
theorem gdT_self {l : List TT} {k : Nat} {v : TT} (h : k < l.length) : (l.set k v).getD k dT = v := by
  rw [List.getD_eq_getElem?_getD, List.getElem?_set_self h]
  rfl
theorem gdT_ne {l : List TT} {k j : Nat} {v : TT} (h : k ≠ j) : (l.set k v).getD j dT = l.getD j dT := by
  rw [List.getD_eq_getElem?_getD, List.getElem?_set_ne h, ← List.getD_eq_getElem?_getD]
section LK3
variable (xs : List Int32) (d : Nat) (now trial told im0 im1 : CK) (p : TP) (f : FP) (r : RS) (tr : Int32) (z : ZT) (Ks : CK) (I0 I1 nw eb wa ms mt : List Int32) (cc : C4) (B TN S : Nat)
variable {now trial told im0 im1 p f r tr z Ks I0 I1 nw eb wa ms mt cc B TN S}
theorem k_keep (v : Int32) (hC : caI B TN S now Ks) (ht : GS trial) (hd : CL told) (ho : mOK nw eb wa ms mt) (hR : rsI im0 im1 p f r tr z I0 I1) : Alk xs d 88 191 [v] (hCl now trial told im0 im1 p f r tr) (mH (zS z Ks (I0 ++ I1)) nw eb wa ms mt cc) := by
  cases c : wiI v 0 1 with
  | false => exact ⟨.int (-1), _, _, int_nr _, Inv_mk hC ht hd ho hR, sp_keep_bad xs (d + 19) now trial told im0 im1 p f r tr v c, m_keep_bad (d := d + 19) (c := c) ..⟩
  | true =>
    obtain ⟨k, hk, rfl⟩ := wi_of (M := 1) (by decide) c
    obtain ⟨⟨q1, q1l, q1r⟩, ⟨q2, q2l, q2r⟩, q3, q4⟩ := hR
    have ez : zK z [bI r.1.1, bI r.1.2] = z := by rw [← q3]; rfl
    match k, hk with
    | 0, _ =>
      have h1 := sp_keep0 xs (d + 18) now trial told im0 im1 p f r tr B TN S hC.1.1 q1.1
      have h2 := m_keep0 (xs := xs) (d := d + 19) (z := z) (Ks := Ks) (nw := nw) (eb := eb) (wa := wa) (ms := ms) (mt := mt) (cc := cc) (k0 := r.1.1) (k1 := r.1.2) (h0 := q1l) (h1 := q2l)
      rw [ez] at h2
      refine ⟨_, _, _, int_nr _, ?_, h1, h2⟩
      exact Inv_mk (im0 := cpK im0 now B TN S) (r := ((true, r.1.2), r.2)) (z := zK z [1, bI r.1.2]) (I0 := flK Ks) hC ht hd ho ⟨⟨⟨(CN_cp hC.1.1 q1.1).1, q1.2⟩, flK_len _, fun _ => ⟨B, TN, S, Ks, rfl, wK_cp hC.1 q1, hC.2.1, eqK_tr (eqK_sy eq_cp) hC.2.2⟩⟩, ⟨q2, q2l, q2r⟩, rfl, q4⟩
    | 1, _ =>
      have h1 := sp_keep1 xs (d + 18) now trial told im0 im1 p f r tr B TN S hC.1.1 q2.1
      have h2 := m_keep1 (xs := xs) (d := d + 19) (z := z) (Ks := Ks) (nw := nw) (eb := eb) (wa := wa) (ms := ms) (mt := mt) (cc := cc) (k0 := r.1.1) (k1 := r.1.2) (h0 := q1l) (h1 := q2l)
      rw [ez] at h2
      refine ⟨_, _, _, int_nr _, ?_, h1, h2⟩
      exact Inv_mk (im1 := cpK im1 now B TN S) (r := ((r.1.1, true), r.2)) (z := zK z [bI r.1.1, 1]) (I1 := flK Ks) hC ht hd ho ⟨⟨q1, q1l, q1r⟩, ⟨⟨(CN_cp hC.1.1 q2.1).1, q2.2⟩, flK_len _, fun _ => ⟨B, TN, S, Ks, rfl, wK_cp hC.1 q2, hC.2.1, eqK_tr (eqK_sy eq_cp) hC.2.2⟩⟩, rfl, q4⟩
theorem k_back (v : Int32) (hC : caI B TN S now Ks) (ht : GS trial) (hd : CL told) (ho : mOK nw eb wa ms mt) (hR : rsI im0 im1 p f r tr z I0 I1) : Alk xs d 89 192 [v] (hCl now trial told im0 im1 p f r tr) (mH (zS z Ks (I0 ++ I1)) nw eb wa ms mt cc) := by
  cases c : wiI v 0 1 with
  | false => exact ⟨.int (-1), _, _, int_nr _, Inv_mk hC ht hd ho hR, sp_back_bad xs (d + 19) now trial told im0 im1 p f r tr v c, m_back_bad (d := d + 19) (c := c) ..⟩
  | true =>
    have gn : GS now := ⟨hC.1.1.1, hC.1.2.1⟩
    obtain ⟨k, hk, rfl⟩ := wi_of (M := 1) (by decide) c
    obtain ⟨⟨q1, q1l, q1r⟩, ⟨q2, q2l, q2r⟩, q3, q4⟩ := id hR
    have ez : zK z [bI r.1.1, bI r.1.2] = z := by rw [← q3]; rfl
    match k, hk with
    | 0, _ =>
      cases e : r.1.1 with
      | false =>
        have h2 := m_back0_no (xs := xs) (d := d + 19) (z := z) (Ks := Ks) (I0 := I0) (I1 := I1) (nw := nw) (eb := eb) (wa := wa) (ms := ms) (mt := mt) (cc := cc) (k1 := r.1.2)
        rw [e] at ez
        have ez' : zK z [0, bI r.1.2] = z := ez
        rw [ez'] at h2
        exact ⟨.int (-2), _, _, int_nr _, Inv_mk hC ht hd ho hR, sp_back0_no xs (d + 19) now trial told im0 im1 p f r tr e, h2⟩
      | true =>
        obtain ⟨B', TN', S', K0, rfl, w1, w2, w3⟩ := q1r e
        have h2 := m_back0 (xs := xs) (d := d + 19) (z := z) (Ks := Ks) (I1 := I1) (nw := nw) (eb := eb) (wa := wa) (ms := ms) (mt := mt) (cc := cc) (k1 := r.1.2) (K0 := K0) (h1 := q2l)
        rw [e] at ez
        have ez' : zK z [1, bI r.1.2] = z := ez
        rw [ez', ← w3.2.2.1] at h2
        exact ⟨_, _, _, int_nr _, Inv_mk (now := cpK now im0 B' TN' S') ⟨wK_cp w1 gn, w2, eqK_tr (eqK_sy eq_cp) w3⟩ ht hd ho hR, sp_back0 xs (d + 18) now trial told im0 im1 p f r tr B' TN' S' e w1.1 gn.1, h2⟩
    | 1, _ =>
      cases e : r.1.2 with
      | false =>
        have h2 := m_back1_no (xs := xs) (d := d + 19) (z := z) (Ks := Ks) (I0 := I0) (I1 := I1) (nw := nw) (eb := eb) (wa := wa) (ms := ms) (mt := mt) (cc := cc) (k0 := r.1.1)
        rw [e] at ez
        have ez' : zK z [bI r.1.1, 0] = z := ez
        rw [ez'] at h2
        exact ⟨.int (-2), _, _, int_nr _, Inv_mk hC ht hd ho hR, sp_back1_no xs (d + 19) now trial told im0 im1 p f r tr e, h2⟩
      | true =>
        obtain ⟨B', TN', S', K0, rfl, w1, w2, w3⟩ := q2r e
        have h2 := m_back1 (xs := xs) (d := d + 19) (z := z) (Ks := Ks) (I0 := I0) (nw := nw) (eb := eb) (wa := wa) (ms := ms) (mt := mt) (cc := cc) (k0 := r.1.1) (K1 := K0) (h0 := q1l)
        rw [e] at ez
        have ez' : zK z [bI r.1.1, 1] = z := ez
        rw [ez', ← w3.2.2.1] at h2
        exact ⟨_, _, _, int_nr _, Inv_mk (now := cpK now im1 B' TN' S') ⟨wK_cp w1 gn, w2, eqK_tr (eqK_sy eq_cp) w3⟩ ht hd ho hR, sp_back1 xs (d + 18) now trial told im0 im1 p f r tr B' TN' S' e w1.1 gn.1, h2⟩
/-- alter -/
theorem putK_gd {K L : CK} {w b : Nat} {v : Int32} (hw : w ≤ 2) (hb : b < 5) (h1 : CL K) (h2 : CL L) (h : eqK B TN S K L) : eqK B TN S (putK K w b v) (putK L w b v) := by
  obtain ⟨a1, a2, a3, -⟩ := h1
  obtain ⟨b1, b2, b3, -⟩ := h2
  have key : ∀ {l l' : List Int32} {j : Nat}, l.length = 5 → l'.length = 5 → l.getD j 0 = l'.getD j 0 → (l.set b v).getD j 0 = (l'.set b v).getD j 0 := by
    intro l l' j h1 h2 h3
    by_cases c : b = j
    · rw [← c, gd_self (by omega), gd_self (by omega)]
    · rw [gd_ne c, gd_ne c, h3]
  match w, hw with
  | 0, _ => exact ⟨h.1, h.2.1, h.2.2.1, fun j hj => ⟨key a1 b1 (h.2.2.2.1 j hj).1, (h.2.2.2.1 j hj).2⟩, h.2.2.2.2⟩
  | 1, _ => exact ⟨h.1, h.2.1, h.2.2.1, fun j hj => ⟨(h.2.2.2.1 j hj).1, key a2 b2 (h.2.2.2.1 j hj).2.1, (h.2.2.2.1 j hj).2.2⟩, h.2.2.2.2⟩
  | 2, _ => exact ⟨h.1, h.2.1, h.2.2.1, fun j hj => ⟨(h.2.2.2.1 j hj).1, (h.2.2.2.1 j hj).2.1, key a3 b3 (h.2.2.2.1 j hj).2.2⟩, h.2.2.2.2⟩
theorem CN_put {K : CK} {w b : Nat} {v : Int32} (hw : w ≤ 2) (h : CN K B TN S) : CN (putK K w b v) B TN S := by
  obtain ⟨h1, h2, h3, h4, h5⟩ := h
  have hl : CL (putK K w b v) := CL_put h1
  match w, hw with
  | 0, _ => exact ⟨hl, h2, h3, h4, h5⟩
  | 1, _ => exact ⟨hl, h2, h3, h4, h5⟩
  | 2, _ => exact ⟨hl, h2, h3, h4, h5⟩
theorem may_b {L w : Nat} {v : Int32} (hL : 1 ≤ L) (hL2 : L ≤ 20) (hw : w ≤ 2) (c : mayI (nI L) (nI w) v = true) : ∃ n, v = nI n ∧ (w = 0 → n ≤ 3) ∧ (w = 1 → n < 2 * L) ∧ (w = 2 → 1 ≤ n ∧ n ≤ 9) := by
  unfold mayI at c
  rw [Bool.and_eq_true, Bool.and_eq_true] at c
  have c2 : wiI v (leI (nI w)) (moI (nI L) (nI w)) = true := c.2.2
  match w, hw with
  | 0, _ =>
    obtain ⟨n, a, b, e⟩ := wi_ab (a := 0) (b := 3) (by decide) (by decide) c2
    exact ⟨n, e, fun _ => b, fun q => absurd q (by decide), fun q => absurd q (by decide)⟩
  | 1, _ =>
    have e1 : moI (nI L) (nI 1) = nI (2 * L - 1) := by
      show 2 * nI L - nI 1 = _
      rw [two_nI, nI_subN (by omega)]
    rw [e1] at c2
    obtain ⟨n, a, b, e⟩ := wi_ab (a := 0) (b := 2 * L - 1) (by decide) (by omega) c2
    exact ⟨n, e, fun q => absurd q (by decide), fun _ => by omega, fun q => absurd q (by decide)⟩
  | 2, _ =>
    obtain ⟨n, a, b, e⟩ := wi_ab (a := 1) (b := 9) (by decide) (by decide) c2
    exact ⟨n, e, fun q => absurd q (by decide), fun q => absurd q (by decide), fun _ => ⟨a, b⟩⟩
theorem wK_put {K : CK} {w b : Nat} {v : Int32} (hw : w ≤ 2) (hb : b < B) (h : wK K B TN S) (c : mayI K.1.1 (nI w) v = true) : wK (putK K w b v) B TN S := by
  obtain ⟨h1, h2, ⟨Ln, a1, a2, a3, a4⟩, h4⟩ := h
  rw [a3] at c
  obtain ⟨n, rfl, n1, n2, n3⟩ := may_b (by omega) a2 hw c
  have hB := h1.2.2.2.2.1
  obtain ⟨l1, l2, l3, -⟩ := h1.1
  have hn : CN (putK K w b (nI n)) B TN S := CN_put hw h1
  match w, hw with
  | 0, _ =>
    refine ⟨hn, h2, ⟨Ln, a1, a2, a3, fun j hj => ?_⟩, h4⟩
    obtain ⟨k, p, c, d1, d2, d3, d4, d5, d6, d7⟩ := a4 j hj
    by_cases e : b = j
    · exact ⟨n, p, c, n1 rfl, d2, d3, d4, by rw [← e]; exact gd_self (by omega), d6, d7⟩
    · exact ⟨k, p, c, d1, d2, d3, d4, (gd_ne e).trans d5, d6, d7⟩
  | 1, _ =>
    refine ⟨hn, h2, ⟨Ln, a1, a2, a3, fun j hj => ?_⟩, h4⟩
    obtain ⟨k, p, c, d1, d2, d3, d4, d5, d6, d7⟩ := a4 j hj
    by_cases e : b = j
    · exact ⟨k, n, c, d1, n2 rfl, d3, d4, d5, by rw [← e]; exact gd_self (by omega), d7⟩
    · exact ⟨k, p, c, d1, d2, d3, d4, d5, (gd_ne e).trans d6, d7⟩
  | 2, _ =>
    refine ⟨hn, h2, ⟨Ln, a1, a2, a3, fun j hj => ?_⟩, h4⟩
    obtain ⟨k, p, c, d1, d2, d3, d4, d5, d6, d7⟩ := a4 j hj
    by_cases e : b = j
    · exact ⟨k, p, n, d1, d2, (n3 rfl).1, (n3 rfl).2, d5, d6, by rw [← e]; exact gd_self (by omega)⟩
    · exact ⟨k, p, c, d1, d2, d3, d4, d5, d6, (gd_ne e).trans d7⟩
theorem gt_eq {w b : Nat} (hw : w ≤ 2) (hb : b < B) (hC : caI B TN S now Ks) : gtK now w b = gtK Ks w b := by
  match w, hw with
  | 0, _ => exact (hC.2.2.2.2.2.1 b hb).1
  | 1, _ => exact (hC.2.2.2.2.2.1 b hb).2.1
  | 2, _ => exact (hC.2.2.2.2.2.1 b hb).2.2
theorem k_alter (b w v : Int32) (hC : caI B TN S now Ks) (ht : GS trial) (hd : CL told) (ho : mOK nw eb wa ms mt) (hR : rsI im0 im1 p f r tr z I0 I1) : Alk xs d 65 156 [b, w, v] (hCl now trial told im0 im1 p f r tr) (mH (zS z Ks (I0 ++ I1)) nw eb wa ms mt cc) := by
  have h6 := CL6 hC.1.1.1
  have hB := hC.1.1.2.2.2.2.1
  cases c : (hasI b now.1.2.2.2.1 && mayI now.1.1 w v) with
  | false => exact ⟨.int (-1), _, _, int_nr _, Inv_mk hC ht hd ho hR, sp_alter_bad xs (d + 17) now trial told im0 im1 p f r tr b w v h6 c, m_alter_bad (d := d + 18) (B := B) (eB := hC.2.1.2.1) (hB := hB) (c := by rw [← eq_BN hC, ← hC.2.2.1]; exact c) ..⟩
  | true =>
    rw [Bool.and_eq_true] at c
    obtain ⟨c1, c2⟩ := c
    rw [hC.1.1.2.1] at c1
    obtain ⟨b, hb, rfl⟩ := has_i (by omega) c1
    obtain ⟨w, hw, rfl⟩ := may_w c2
    have h1 := sp_alter xs (d + 17) now trial told im0 im1 p f r tr B TN S b w v (wK_CG hC.1) hb hw c2
    have h2 := m_alter xs (d + 18) z Ks (I0 ++ I1) nw eb wa ms mt cc b w v B hC.2.1.1 hC.2.1.2.1 hB hb hw (by rw [← hC.2.2.1]; exact c2)
    rw [gt_eq hw hb hC] at h1
    exact ⟨_, _, _, int_nr _, Inv_mk ⟨wK_put hw hb hC.1 c2, CN_put hw hC.2.1, putK_gd hw (by omega) hC.1.1.1 hC.2.1.1 hC.2.2⟩ ht hd ho hR, h1, h2⟩
end LK3

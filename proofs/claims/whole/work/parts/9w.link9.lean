/-! when, best, kind, swap -/
/-- the barges of one, the Talks of the other -/
def swT (K K' : CK) : CK := ((K.1.1, K.1.2.1, K'.1.2.2.1, K.1.2.2.2.1, K.1.2.2.2.2.1, K.1.2.2.2.2.2.1, K'.1.2.2.2.2.2.2.1, K.1.2.2.2.2.2.2.2), K.2.1, K'.2.2)
theorem CG_swT {K K' : CK} {B TN S : Nat} (h : CG K B TN S) (h' : CG K' B TN S) : CG (swT K K') B TN S := by
  obtain ⟨⟨⟨g1, g2, g3, g4, g5, g6, g7, g8, g9, g10, g11⟩, e1, e2, e3, hB, hTN, hS⟩, ⟨k1, k2, k3, k4, k5, k6, k7, k8⟩, hw⟩ := h
  have l6 : K'.2.2.length = 6 := CG6 h'
  exact ⟨⟨⟨g1, g2, g3, g4, g5, g6, g7, g8, g9, g10, l6⟩, e1, e2, e3, hB, hTN, hS⟩, ⟨k1, k2, k3, k4, k5, l6, k7, h'.2.1.2.2.2.2.2.2.2⟩, hw⟩
theorem when_eq {B TN S a b : Nat} (ha : a < B) (hb : b < B) (hab : a ≠ b) : ∀ (m h : Nat) (K K' : CK), Lv B TN (swT K K') K' → CG K B TN S → CG K' B TN S → rng K B → whA B a b m h K = gwA B TN a b m h K'
  | 0, _, _, _, _, _, _, _ => rfl
  | m + 1, h, K, K', hL, hn, hn', hr => by
    obtain ⟨v, l⟩ := Lv_mv hL (CG_swT hn hn') hn' hr
    have e1 : (mvC K B).2.1.2.2.2.2.2.2.2.2.2.getD (5 * a + b) 0 = (ghK false K' B TN).2.1.2.2.2.2.2.2.2.2.2.getD (5 * a + b) 0 := l.1 a b ha hb hab
    have ih := when_eq (S := S) ha hb hab m (h + 1) (mvC K B) (ghK false K' B TN) ⟨v.1, v.2.1, rfl, rfl, v.2.2.2.2.1, v.2.2.2.2.2.1, fun _ _ => rfl⟩ (CG_mv hn) (CG_gh false hn') (rng_mv hr)
    unfold whA gwA mtK
    rw [e1]
    by_cases c : (ghK false K' B TN).2.1.2.2.2.2.2.2.2.2.2.getD (5 * a + b) 0 = 1
    · rw [if_pos c, decide_eq_true c]
    · rw [if_neg c, decide_eq_false c]
      exact ih
/-- a part of a barge changed in both -/
theorem Lv_put {B TN S w b : Nat} {v : Int32} {K K' : CK} (hw : w ≤ 2) (h1 : CL K) (h2 : CL K') (h : Lv B TN K K') (hb : b < 5) : Lv B TN (putK K w b v) (putK K' w b v) := by
  obtain ⟨a1, a2, a3, -⟩ := h1
  obtain ⟨b1, b2, b3, -⟩ := h2
  have key : ∀ {l l' : List Int32} {j : Nat}, l.length = 5 → l'.length = 5 → l.getD j 0 = l'.getD j 0 → (l.set b v).getD j 0 = (l'.set b v).getD j 0 := by
    intro l l' j h1 h2 h3
    by_cases c : b = j
    · rw [← c, gd_self (by omega), gd_self (by omega)]
    · rw [gd_ne c, gd_ne c, h3]
  obtain ⟨e1, e2, e3, e4, e5, e6, e7⟩ := h
  match w, hw with
  | 0, _ => exact ⟨e1, e2, e3, e4, e5, fun j hj => ⟨key a1 b1 (e6 j hj).1, (e6 j hj).2⟩, e7⟩
  | 1, _ => exact ⟨e1, e2, e3, e4, e5, fun j hj => ⟨(e6 j hj).1, key a2 b2 (e6 j hj).2.1, (e6 j hj).2.2⟩, e7⟩
  | 2, _ => exact ⟨e1, e2, e3, e4, e5, fun j hj => ⟨(e6 j hj).1, (e6 j hj).2.1, key a3 b3 (e6 j hj).2.2⟩, e7⟩
theorem put_22 {w b : Nat} {v : Int32} {K : CK} : (putK K w b v).2.2 = K.2.2 := by
  unfold putK
  split <;> rfl
theorem HV_put {B TN S w b v L : Nat} {K : CK} (hw : w ≤ 2) (eL : K.1.1 = nI L) (hL : L ≤ 20) (hv1 : w = 1 → v < 2 * L) (hv2 : w = 2 → v ≤ 9) (h : HV K B TN S) : HV (putK K w b (nI v)) B TN S := by
  obtain ⟨g, ⟨L', r1, r2, r3, r4⟩, hT⟩ := h
  have q : L' = L := (nI_eq (by omega) (by omega)).mp (r3.symm.trans eL)
  refine ⟨CG_put w b _ g, ?_, fun t ht => by rw [put_22]; exact hT t ht⟩
  obtain ⟨l1, l2, l3, -⟩ := g.1.1
  match w, hw with
  | 0, _ => exact ⟨L', r1, r2, r3, r4⟩
  | 1, _ =>
    refine ⟨L', r1, r2, r3, fun j hj => ?_⟩
    obtain ⟨p, c, d1, d2, d3, d4⟩ := r4 j hj
    by_cases e : b = j
    · have hB := g.1.2.2.2.2.1
      exact ⟨v, c, by have := hv1 rfl; omega, d2, by rw [← e]; exact gd_self (by omega), d4⟩
    · exact ⟨p, c, d1, d2, (gd_ne e).trans d3, d4⟩
  | 2, _ =>
    refine ⟨L', r1, r2, r3, fun j hj => ?_⟩
    obtain ⟨p, c, d1, d2, d3, d4⟩ := r4 j hj
    by_cases e : b = j
    · have hB := g.1.2.2.2.2.1
      exact ⟨p, v, d1, hv2 rfl, d3, by rw [← e]; exact gd_self (by omega)⟩
    · exact ⟨p, c, d1, d2, d3, (gd_ne e).trans d4⟩
section LK9
variable (xs : List Int32) (d : Nat) (now trial told im0 im1 : CK) (p : TP) (f : FP) (r : RS) (tr : Int32) (z : ZT) (Ks : CK) (I0 I1 nw eb wa ms mt : List Int32) (cc : C4) (B TN S : Nat)
variable {now trial told im0 im1 p f r tr z Ks I0 I1 nw eb wa ms mt cc B TN S}
theorem k_when (a b : Int32) (hC : caI B TN S now Ks) (ht : GS trial) (hd : CL told) (ho : mOK nw eb wa ms mt) (hR : rsI im0 im1 p f r tr z I0 I1) : Alk xs d 74 166 [a, b] (hCl now trial told im0 im1 p f r tr) (mH (zS z Ks (I0 ++ I1)) nw eb wa ms mt cc) := by
  have h6 := CL6 hC.1.1.1
  have hB := hC.1.1.2.2.2.2.1
  have ew : whC now a b = whC Ks a b := by
    unfold whC
    rw [eq_BN hC]
  cases c : whC now a b with
  | false => exact ⟨.int (-1), _, _, int_nr _, Inv_mk hC ht hd ho hR, sp_when_bad xs (d + 19) now trial told im0 im1 p f r tr a b h6 c, m_when_bad (d := d + 18) (hv := VS_ca hC) (c := ew.symm.trans c) ..⟩
  | true =>
    unfold whC at c
    rw [Bool.and_eq_true, Bool.and_eq_true, hC.1.1.2.1, decide_eq_true_iff] at c
    obtain ⟨a, ha, rfl⟩ := has_i (by omega) c.1
    obtain ⟨b, hb, rfl⟩ := has_i (by omega) c.2.1
    have hab : a ≠ b := fun e => c.2.2 (by rw [e])
    obtain ⟨K1, g1, h1⟩ := sp_when xs (d + 17) now trial told im0 im1 p f r tr B TN S a b (wK_CG hC.1) ht ha hb hab
    obtain ⟨K2, g2, h2⟩ := m_when xs (d + 15) z Ks (I0 ++ I1) nw eb wa ms mt cc B TN S a b ha hb hab (VS_ca hC) ho
    have hL := Lv_ca (wa := wa) (ms := ms) (mt := mt) ht hC
    rw [when_eq (S := S) ha hb hab 101 0 (tryK now trial B TN S) (stA wa ms mt Ks) ⟨hL.1, hL.2.1, rfl, rfl, hL.2.2.2.2.1, hL.2.2.2.2.2.1, fun _ _ => rfl⟩ (CG_t (wK_CG hC.1) ht) (GM_st (VS_ca hC) ho).1 (HV_try hC.1 ht).2.1] at h1
    exact ⟨_, _, _, int_nr _, Inv_p hC g1 hd (MHp_T g2) hR, h1, h2⟩
end LK9

/-! text -/
/-- what is told is within its bounds -/
def gQ (s : PS) : Prop := (2 ≤ s.1.1 ∧ s.1.1 ≤ 20) ∧ (1 ≤ s.1.2 ∧ s.1.2 ≤ 99) ∧ (∀ (b : Nat) (q : Nat × Nat × Nat), s.2.2.1[b]? = some q → q.1 ≤ 3 ∧ q.2.1 ≤ 39 ∧ 1 ≤ q.2.2 ∧ q.2.2 ≤ 9) ∧ ∀ (t : Nat) (q : Nat × Nat × Nat), s.2.2.2[t]? = some q → q.1 ≠ q.2.1 ∧ 1 ≤ q.2.2 ∧ q.2.2 ≤ 20
def fQ (s : PS) : Prop := ∀ (t : Nat) (q : Nat × Nat × Nat), s.2.2.2[t]? = some q → q.1 < s.2.2.1.length ∧ q.2.1 < s.2.2.1.length
section GQ
variable {D : Nat → Nat} {L : Nat}
theorem gQ_cut {s : PS} {p e : Nat} {w : PS × Nat} (he : e ≤ L) (h : gQ s) (q : pCut D L p e s = .inr w) : gQ w.1 ∧ w.2 ≤ L := by
  unfold pCut at q
  split at q
  · cases q
  · split at q
    · cases q
    · rename_i v e2 hp
      cases q
      have hb := pNum_b he hp
      exact ⟨⟨⟨hb.2.2.1, hb.2.2.2.1⟩, h.2⟩, hb.2.1⟩
theorem gQ_mem {s : PS} {p e : Nat} {w : PS × Nat} (he : e ≤ L) (h : gQ s) (q : pMem D L p e s = .inr w) : gQ w.1 ∧ w.2 ≤ L := by
  unfold pMem at q
  split at q
  · cases q
  · split at q
    · cases q
    · rename_i v e2 hp
      cases q
      have hb := pNum_b he hp
      exact ⟨⟨h.1, ⟨hb.2.2.1, hb.2.2.2.1⟩, h.2.2⟩, hb.2.1⟩
theorem gQ_bar {s : PS} {p e k : Nat} {w : PS × Nat} (hk : k ≤ 3) (he : e ≤ L) (h : gQ s) (q : pBar D L p e k s = .inr w) : gQ w.1 ∧ w.2 ≤ L := by
  unfold pBar at q
  split at q
  · split at q
    · cases q
    · rename_i a e2 hp
      have hb := pNum_b he hp
      split at q
      · cases q
      · rename_i b e3 hp2
        have hb2 := pNum_b hb.2.1 hp2
        cases q
        refine ⟨⟨h.1, h.2.1, fun j u hu => ?_, h.2.2.2⟩, hb2.2.1⟩
        rcases snoc_at hu with ⟨-, c2⟩ | ⟨-, c2⟩
        · exact h.2.2.1 j u c2
        · rw [c2]
          exact ⟨hk, hb.2.2.2.1, hb2.2.2.1, hb2.2.2.2.1⟩
  · cases q
theorem gQ_tlk {s : PS} {p e : Nat} {w : PS × Nat} (he : e ≤ L) (h : gQ s) (q : pTlk D L p e s = .inr w) : gQ w.1 ∧ w.2 ≤ L := by
  unfold pTlk at q
  split at q
  · split at q
    · cases q
    · rename_i a e2 hp
      have hb := pNum_b he hp
      split at q
      · cases q
      · rename_i b e3 hp2
        have hb2 := pNum_b hb.2.1 hp2
        split at q
        · cases q
        · rename_i c e4 hp3
          have hb3 := pNum_b hb2.2.1 hp3
          cases q
          refine ⟨⟨h.1, h.2.1, h.2.2.1, fun j u hu => ?_⟩, hb3.2.1⟩
          rcases snoc_at hu with ⟨-, c2⟩ | ⟨-, c2⟩
          · exact h.2.2.2 j u c2
          · rw [c2]
            exact ⟨fun e => hb2.2.2.2.2 (by have e' : a = b := e; rw [e']), hb3.2.2.1, hb3.2.2.2.1⟩
  · cases q
theorem gQ_lin {s : PS} {k p e : Nat} {w : PS × Nat} (he : e ≤ L) (h : gQ s) (q : pLin D L k p e s = .inr w) : gQ w.1 ∧ w.2 ≤ L := by
  unfold pLin at q
  split at q
  · rename_i hc
    split at q
    · cases q
    · rename_i s2 e2 hp
      have hb : gQ s2 ∧ e2 ≤ L := by
        unfold pBdy at hp
        split at hp
        · exact gQ_cut he h hp
        · rename_i n4
          split at hp
          · exact gQ_mem he h hp
          · rename_i n5
            split at hp
            · exact gQ_tlk he h hp
            · rename_i n6
              exact gQ_bar (by have := hc.2; omega) he h hp
      split at q
      · cases q
      · rename_i e3 hp2
        have hb2 := pStp_b hb.2 hp2
        cases q
        exact ⟨hb.1, hb2.2⟩
  · cases q
theorem gQ_all : ∀ (m e n : Nat) (s : PS) (n' : Nat) (s' : PS), e ≤ L → gQ s → pAll D L m e n s = .inr (n', s') → gQ s' ∧ fQ s'
  | 0, _, _, _, _, _, _, _, q => by
    unfold pAll at q
    cases q
  | m + 1, e, n, s, n', s', he, h, q => by
    unfold pAll at q
    split at q
    · cases q
    · rename_i k p e2 hp
      have hb := pTok_b he hp
      split at q
      · unfold pFin at q
        split at q
        · rename_i ha
          cases q
          refine ⟨h, fun t u hu => ?_⟩
          have h2 := List.all_eq_true.mp ha u (List.mem_iff_getElem?.mpr ⟨t, hu⟩)
          rw [Bool.and_eq_true, decide_eq_true_iff, decide_eq_true_iff] at h2
          exact h2
        · cases q
      · split at q
        · cases q
        · rename_i s2 e3 hl
          have hg := gQ_lin hb.2.2.1 h hl
          exact gQ_all m e3 (n + 1) s2 n' s' hg.2 hg.1 q
end GQ
theorem gQ_0 : gQ p0 := ⟨⟨by decide, by decide⟩, ⟨by decide, by decide⟩, fun _ _ q => (by cases q), fun _ _ q => (by cases q)⟩
/-- two Canals of the same text -/
theorem rep_CN0 {K : CK} {s : PS} (h : rep K s) : CN K s.2.2.1.length s.2.2.2.length 0 := ⟨h.1, h.2.2.2.2.1, h.2.2.2.2.2.1, h.2.2.2.2.2.2.1, h.2.2.2.2.2.2.2.1, h.2.2.2.2.2.2.2.2.1, by omega⟩
theorem lt_at {s : List (Nat × Nat × Nat)} {b : Nat} (h : b < s.length) : ∃ q, s[b]? = some q := ⟨s[b], List.getElem?_eq_getElem h⟩
theorem at_gd {l : List Int32} {b : Nat} {x : Int32} (h : l[b]? = some x) : l.getD b 0 = x := by
  rw [List.getD_eq_getElem?_getD, h]
  rfl
theorem at_gT {l : List TT} {b : Nat} {x : TT} (h : l[b]? = some x) : l.getD b dT = x := by
  rw [List.getD_eq_getElem?_getD, h]
  rfl
theorem rep_eq {K K2 : CK} {s : PS} (h : rep K s) (h2 : rep K2 s) : eqK s.2.2.1.length s.2.2.2.length 0 K K2 := by
  obtain ⟨-, a1, a2, a3, -, -, -, -, -, aB, aT⟩ := h
  obtain ⟨-, b1, b2, b3, -, -, -, -, -, bB, bT2⟩ := h2
  refine ⟨a1.trans b1.symm, a2.trans b2.symm, a3.trans b3.symm, fun b hb => ?_, fun t ht => ?_, fun i hi => absurd hi (by omega)⟩
  · obtain ⟨q, hq⟩ := lt_at hb
    obtain ⟨u1, u2, u3⟩ := aB b q hq
    obtain ⟨v1, v2, v3⟩ := bB b q hq
    exact ⟨(at_gd u1).trans (at_gd v1).symm, (at_gd u2).trans (at_gd v2).symm, (at_gd u3).trans (at_gd v3).symm⟩
  · obtain ⟨q, hq⟩ := lt_at ht
    rw [at_gT (aT t q hq), at_gT (bT2 t q hq)]
theorem rep_w {K Kx : CK} {s : PS} (h : rep K (hmS s)) (hg : gQ s) (hf : fQ s) (hn : CN Kx s.2.2.1.length s.2.2.2.length 0) (hm : okM Kx.2.1.2.2.2.2.2.2.2.2.2) (e : eqK s.2.2.1.length s.2.2.2.length 0 K Kx) : wK Kx s.2.2.1.length s.2.2.2.length 0 := by
  obtain ⟨-, a1, a2, a3, -, -, -, -, -, aB, aT⟩ := h
  obtain ⟨⟨g1, g2⟩, ⟨g3, g4⟩, g5, g6⟩ := hg
  refine ⟨hn, hm, ⟨s.1.1, g1, g2, e.1.symm.trans a1, fun b hb => ?_⟩, ⟨s.1.2, g3, g4, e.2.1.symm.trans a2⟩, ⟨0, by omega, e.2.2.1.symm.trans a3⟩, fun t ht => ?_, fun i hi => absurd hi (by omega)⟩
  · obtain ⟨q, hq⟩ := lt_at hb
    have hq2 : (hmS s).2.2.1[b]? = some (q.1, q.2.1 % (2 * s.1.1), q.2.2) := by
      show (s.2.2.1.map _)[b]? = _
      rw [List.getElem?_map, hq]
      rfl
    obtain ⟨u1, u2, u3⟩ := aB b _ hq2
    obtain ⟨f1, f2, f3⟩ := e.2.2.2.1 b hb
    obtain ⟨k1, k2, k3, k4⟩ := g5 b q hq
    exact ⟨q.1, q.2.1 % (2 * s.1.1), q.2.2, k1, Nat.mod_lt _ (by omega), k3, k4, f1.symm.trans (at_gd u1), f2.symm.trans (at_gd u2), f3.symm.trans (at_gd u3)⟩
  · obtain ⟨q, hq⟩ := lt_at ht
    have hT := at_gT (aT t q hq)
    refine wTk_clr (e.2.2.2.2.1 t ht) ?_
    rw [hT]
    obtain ⟨k1, k2, k3⟩ := g6 t q hq
    obtain ⟨k4, k5⟩ := hf t q hq
    exact ⟨⟨q.1, q.2.1, k4, k5, k1, rfl, rfl⟩, q.2.2, 0, 0, k2, k3, by omega, by omega, fun _ => rfl, rfl, rfl, rfl⟩
section LKT
variable (xs : List Int32) (d : Nat) (now trial told im0 im1 : CK) (p : TP) (f : FP) (r : RS) (tr : Int32) (z : ZT) (Ks : CK) (I0 I1 nw eb wa ms mt : List Int32) (cc : C4) (B TN S : Nat)
variable {now trial told im0 im1 p f r tr z Ks I0 I1 nw eb wa ms mt cc B TN S}
theorem byD_0 {D : Nat → Nat} {l : List Int32} : byD D 0 l := ⟨by omega, fun q hq => absurd hq (by omega)⟩
theorem k_text (hC : caI B TN S now Ks) (ht : GS trial) (hd : CL told) (ho : mOK nw eb wa ms mt) (hR : rsI im0 im1 p f r tr z I0 I1) : Alk xs d 60 128 [] (hCl now trial told im0 im1 p f r tr) (mH (zS z Ks (I0 ++ I1)) nw eb wa ms mt cc) := by
  obtain ⟨q1, q2, q3, ⟨t1, t2, t3, L, D, t4, t5, t6, t7⟩, q5, q6, q7⟩ := id hR
  obtain ⟨x1, x2, x3, x4, x5, x6, x7, x8, x9, x10, x11, x12⟩ := id q7
  obtain ⟨r1, h1', P1, h1⟩ := sp_text xs (d + 10) now trial told im0 im1 p f r tr D L t4 t6 hC.1.1.1 hd
  obtain ⟨r2, h2', P2, h2⟩ := m_text (xs := xs) (d := d + 13) (D := D) (L := L) (z := zS z Ks (I0 ++ I1)) (nw := nw) (eb := eb) (wa := wa) (ms := ms) (mt := mt) (cc := cc) (hD := t5) (Ks := Ks) (X := I0 ++ I1) (k0 := r.1.1) (k1 := r.1.2) (hz := rfl) (hk := q3) (hl := x6) (et := t7)
  cases hp : pText D L with
  | inl ft =>
    rw [hp] at P1 P2
    obtain ⟨e1, p', K', c1, c2, c3, rfl⟩ := P1
    obtain ⟨e2, q, dr, c4, c5, c6, rfl⟩ := P2
    subst e1
    subst e2
    refine ⟨_, _, _, int_nr _, ?_, h1, h2⟩
    exact Inv_mk (p := p') (z := zR z q dr) hC ht c1 ho ⟨q1, q2, q3, ⟨t1, t2, c3.trans c6.symm, 0, D, byD_0, byD_0, c2, c5⟩, q5, q6, x1, x2, x3, x4, x5, c4, x7, x8, x9, x10, x11, x12⟩
  | inr w =>
    obtain ⟨n, s⟩ := w
    rw [hp] at P1 P2
    obtain ⟨e1, p', K', c1, c2, c3, rfl⟩ := P1
    obtain ⟨e2, q, dr, K2, c4, c5, c6, c7, c8, rfl⟩ := P2
    subst e1
    subst e2
    obtain ⟨hg, hf⟩ := gQ_all (L + 1) 0 0 p0 n s (by omega) gQ_0 hp
    have el : (hmS s).2.2.1.length = s.2.2.1.length := List.length_map _
    have hn1 := rep_CN0 c1
    have hn2 := rep_CN0 c7
    have he := rep_eq c1 c7
    rw [el] at hn1 hn2 he
    rw [el] at h1
    have hcp : CN (cpK now K' s.2.2.1.length s.2.2.2.length 0) s.2.2.1.length s.2.2.2.length 0 := CN_cp hn1 hC.1.1.1
    refine ⟨_, _, _, int_nr _, ?_, h1, h2⟩
    refine Inv_mk (now := cpK now K' s.2.2.1.length s.2.2.2.length 0) (Ks := K2) (p := p') (r := ((false, false), r.2)) (z := zK (zR z q dr) [0, 0]) (B := s.2.2.1.length) (TN := s.2.2.2.length) (S := 0) ⟨rep_w c1 hg hf hcp hC.1.2.1 eq_cp, hn2, eqK_tr (eqK_sy eq_cp) he⟩ ht c1.1 ho ⟨⟨q1.1, q1.2.1, fun q => (by cases q)⟩, ⟨q2.1, q2.2.1, fun q => (by cases q)⟩, rfl, ⟨t1, t2, c3.trans c6.symm, 0, D, byD_0, byD_0, c2, c5⟩, q5, q6, x1, x2, x3, x4, x5, c4, x7, x8, x9, x10, x11, x12⟩
end LKT

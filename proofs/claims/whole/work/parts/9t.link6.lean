/-! sheet, lay, read -/
theorem setsN_in {L : List Int32} {c : Nat} : ∀ k i, i < k → c + k ≤ L.length → (setsN L c k)[c + i]? = some 0
  | 0, i, h, _ => absurd h (by omega)
  | k + 1, i, h, hl => by
    unfold setsN
    by_cases e : i = k
    · rw [e, List.getElem?_set_self (by rw [setsN_len]; omega)]
    · rw [List.getElem?_set_ne (by omega)]
      exact setsN_in k i (by omega) (by omega)
theorem setsN_out {L : List Int32} {c j : Nat} : ∀ k, (j < c ∨ c + k ≤ j) → (setsN L c k)[j]? = L[j]?
  | 0, _ => rfl
  | k + 1, h => by
    unfold setsN
    rw [List.getElem?_set_ne (by omega)]
    exact setsN_out k (by omega)
section LK6
variable (xs : List Int32) (d : Nat) (now trial told im0 im1 : CK) (p : TP) (f : FP) (r : RS) (tr : Int32) (z : ZT) (Ks : CK) (I0 I1 nw eb wa ms mt : List Int32) (cc : C4) (B TN S : Nat)
variable {now trial told im0 im1 p f r tr z Ks I0 I1 nw eb wa ms mt cc B TN S}
theorem xI_C {la si ce : List Int32} {cs : Nat → List Int32} {l4 l5 : List Int32} (h : xI f r z) (h1 : l4.length = 4) (h2 : l5.length = 4) (h3 : la.length = 4) (h4 : si.length = 4) (h5 : ce.length = 160) : xI f (r.1, r.2.1, r.2.2.1, r.2.2.2.1, cs, l4, l5) (zC z la si ce) := ⟨h.1, h.2.1, h.2.2.1, h1, h2, h.2.2.2.2.2.1, h.2.2.2.2.2.2.1, h.2.2.2.2.2.2.2.1, h3, h4, h5, h.2.2.2.2.2.2.2.2.2.2.2⟩
theorem n40 {n : Int32} (c : ¬ n < 0) (h : n ≤ 40) : ∃ N, N ≤ 40 ∧ n = nI N := by
  refine wi_of (M := 40) (by decide) ?_
  unfold wiI
  rw [decide_eq_true c, decide_eq_true (show ¬ nI 40 < n from Int32.not_lt.mpr h)]
  rfl
theorem k_sheet (k l n : Int32) (hC : caI B TN S now Ks) (ht : GS trial) (hd : CL told) (ho : mOK nw eb wa ms mt) (hR : rsI im0 im1 p f r tr z I0 I1) : Alk xs d 90 194 [k, l, n] (hCl now trial told im0 im1 p f r tr) (mH (zS z Ks (I0 ++ I1)) nw eb wa ms mt cc) := by
  cases c : shC k l n with
  | false => exact ⟨.int (-1), _, _, int_nr _, Inv_mk hC ht hd ho hR, sp_sheet_bad xs (d + 19) now trial told im0 im1 p f r tr k l n c, m_sheet_bad (d := d + 18) (c := c) ..⟩
  | true =>
    by_cases c0 : n < 0
    · exact ⟨.int (-14), _, _, int_nr _, Inv_mk hC ht hd ho hR, sp_sheet_neg xs (d + 19) now trial told im0 im1 p f r tr k l n c c0, m_sheet_neg (d := d + 18) (c := c) (c2 := c0) ..⟩
    · unfold shC at c
      rw [Bool.and_eq_true, Bool.and_eq_true, decide_eq_true_iff] at c
      obtain ⟨c1, c2, c3⟩ := c
      obtain ⟨k, hk, rfl⟩ := wi_of (M := 3) (by decide) c1
      obtain ⟨N, hN, rfl⟩ := n40 c0 c3
      obtain ⟨q1, q2, q3, q4, q5, q6, q7⟩ := hR
      obtain ⟨x1, x2, x3, x4, x5, x6, x7, x8, x9, x10, x11, x12⟩ := id q7
      have h1 := sp_sheet xs (d + 19) now trial told im0 im1 p f r tr k N l (by omega) hN c2 (q5 k (by omega)).1 x4 x5
      have h2 := m_sheet xs (d + 18) (zS z Ks (I0 ++ I1)) nw eb wa ms mt cc k N l z.2.2.2.2.2.2.2.2.2.2.1 z.2.2.2.2.2.2.2.2.2.2.2.1 z.2.2.2.2.2.2.2.2.2.2.2.2.1 (by omega) hN c2 x9 x10 x11
      refine ⟨.int 1, _, _, int_nr _, ?_, h1, h2⟩
      refine Inv_mk (r := shR r k N l) (z := zC z (z.2.2.2.2.2.2.2.2.2.2.1.set k l) (z.2.2.2.2.2.2.2.2.2.2.2.1.set k (nI N)) (setsN z.2.2.2.2.2.2.2.2.2.2.2.2.1 (40 * k) 40)) hC ht hd ho ⟨q1, q2, q3, q4, fun j hj => ?_, q6, xI_C q7 (by rw [List.length_set]; exact x4) (by rw [List.length_set]; exact x5) (by rw [List.length_set]; exact x9) (by rw [List.length_set]; exact x10) (by rw [setsN_len]; exact x11)⟩
      obtain ⟨w1, w2⟩ := q5 j hj
      unfold shI
      dsimp only [shR, zC]
      by_cases e : j = k
      · subst e
        refine ⟨?_, Or.inr ⟨N, l, hN, c2, List.getElem?_set_self (by omega), List.getElem?_set_self (by omega), List.getElem?_set_self (by omega), List.getElem?_set_self (by omega), fun i hi => ?_⟩⟩
        · rw [upF_at, up_len (by omega)]
          exact w1
        · rw [upF_at, up_lt hi, setsN_in 40 i (by omega) (by omega)]
      · have e' : k ≠ j := fun q => e q.symm
        refine ⟨?_, ?_⟩
        · rw [upF_ne e]
          exact w1
        · rcases w2 with ⟨a1, a2⟩ | ⟨s, l', a1, a2, a3, a4, a5, a6, a7⟩
          · exact Or.inl ⟨(List.getElem?_set_ne e').trans a1, (List.getElem?_set_ne e').trans a2⟩
          · refine Or.inr ⟨s, l', a1, a2, (List.getElem?_set_ne e').trans a3, (List.getElem?_set_ne e').trans a4, (List.getElem?_set_ne e').trans a5, (List.getElem?_set_ne e').trans a6, fun i hi => ?_⟩
            rw [upF_ne e, setsN_out 40 (by omega)]
            exact a7 i hi
theorem lane_4 {l : Int32} (a : wiI l 0 2 = true) : ¬ l = -4 := fun e => by
  rw [e] at a
  exact absurd a (by decide)
theorem k_lay (k i v : Int32) (hC : caI B TN S now Ks) (ht : GS trial) (hd : CL told) (ho : mOK nw eb wa ms mt) (hR : rsI im0 im1 p f r tr z I0 I1) : Alk xs d 91 195 [k, i, v] (hCl now trial told im0 im1 p f r tr) (mH (zS z Ks (I0 ++ I1)) nw eb wa ms mt cc) := by
  cases c : wiI k 0 3 with
  | false => exact ⟨.int (-1), _, _, int_nr _, Inv_mk hC ht hd ho hR, sp_lay_bad xs (d + 19) now trial told im0 im1 p f r tr k i v c, m_lay_bad (d := d + 18) (c := c) ..⟩
  | true =>
    obtain ⟨k, hk, rfl⟩ := wi_of (M := 3) (by decide) c
    obtain ⟨q1, q2, q3, q4, q5, q6, q7⟩ := id hR
    obtain ⟨x1, x2, x3, x4, x5, x6, x7, x8, x9, x10, x11, x12⟩ := id q7
    obtain ⟨w1, w2⟩ := q5 k (by omega)
    rcases w2 with ⟨a1, a2⟩ | ⟨s, l, a1, a2, a3, a4, a5, a6, a7⟩
    · have h2 := m_lay_null xs (d + 18) (zS z Ks (I0 ++ I1)) nw eb wa ms mt cc k i v z.2.2.2.2.2.2.2.2.2.2.1 z.2.2.2.2.2.2.2.2.2.2.2.1 z.2.2.2.2.2.2.2.2.2.2.2.2.1 (by omega) a2
      exact ⟨.int (-11), _, _, int_nr _, Inv_mk hC ht hd ho hR, sp_lay_null xs (d + 19) now trial told im0 im1 p f r tr k i v (by omega) a1, h2⟩
    · cases c2 : hasI i (nI s) with
      | false =>
        have h2 := m_lay_ix xs (d + 18) (zS z Ks (I0 ++ I1)) nw eb wa ms mt cc k s i v l z.2.2.2.2.2.2.2.2.2.2.1 z.2.2.2.2.2.2.2.2.2.2.2.1 z.2.2.2.2.2.2.2.2.2.2.2.2.1 (by omega) a1 a6 (lane_4 a2) a4 c2
        exact ⟨.int (-12), _, _, int_nr _, Inv_mk hC ht hd ho hR, sp_lay_ix xs (d + 19) now trial told im0 im1 p f r tr k s i v (by omega) a1 a3 c2, h2⟩
      | true =>
        obtain ⟨i, hi, rfl⟩ := has_i (by omega) c2
        have h1 := sp_lay xs (d + 19) now trial told im0 im1 p f r tr k s i v (by omega) a1 hi l a5 a3 w1
        have h2 := m_lay xs (d + 18) (zS z Ks (I0 ++ I1)) nw eb wa ms mt cc k s i v l z.2.2.2.2.2.2.2.2.2.2.1 z.2.2.2.2.2.2.2.2.2.2.2.1 z.2.2.2.2.2.2.2.2.2.2.2.2.1 (by omega) a1 hi a6 (lane_4 a2) a4 x11
        refine ⟨.int 1, _, _, int_nr _, ?_, h1, h2⟩
        refine Inv_mk (r := setC r k ((r.2.2.2.2.1 k).set i (loB l v))) (z := zC z z.2.2.2.2.2.2.2.2.2.2.1 z.2.2.2.2.2.2.2.2.2.2.2.1 (z.2.2.2.2.2.2.2.2.2.2.2.2.1.set (40 * k + i) (loB l v))) hC ht hd ho ⟨q1, q2, q3, q4, fun j hj => ?_, q6, xI_C q7 x4 x5 x9 x10 (by rw [List.length_set]; exact x11)⟩
        obtain ⟨u1, u2⟩ := q5 j hj
        by_cases e : j = k
        · subst e
          refine ⟨?_, Or.inr ⟨s, l, a1, a2, a3, a4, a5, a6, fun i' hi' => ?_⟩⟩
          · show (upF _ j _ j).length = 40
            rw [upF_at, List.length_set]
            exact w1
          · show (upF _ j _ j)[i']? = (List.set _ _ _)[40 * j + i']?
            rw [upF_at]
            by_cases e2 : i = i'
            · rw [e2, List.getElem?_set_self (by omega), List.getElem?_set_self (by omega)]
            · rw [List.getElem?_set_ne e2, List.getElem?_set_ne (by omega)]
              exact a7 i' hi'
        · refine ⟨?_, ?_⟩
          · show (upF _ k _ j).length = 40
            rw [upF_ne e]
            exact u1
          · rcases u2 with b | ⟨s', l', b1, b2, b3, b4, b5, b6, b7⟩
            · exact Or.inl b
            · refine Or.inr ⟨s', l', b1, b2, b3, b4, b5, b6, fun i' hi' => ?_⟩
              show (upF _ k _ j)[i']? = (List.set _ _ _)[40 * j + i']?
              rw [upF_ne e, List.getElem?_set_ne (by omega)]
              exact b7 i' hi'
end LK6

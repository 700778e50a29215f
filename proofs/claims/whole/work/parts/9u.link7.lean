/-! read -/
section LK7
variable (xs : List Int32) (d : Nat) (now trial told im0 im1 : CK) (p : TP) (f : FP) (r : RS) (tr : Int32) (z : ZT) (Ks : CK) (I0 I1 nw eb wa ms mt : List Int32) (cc : C4) (B TN S : Nat)
variable {now trial told im0 im1 p f r tr z Ks I0 I1 nw eb wa ms mt cc B TN S}
theorem rd_ca {U : Nat} {M : CK} {g g' : Nat → Int32} {s : Nat} {x : Int} (hg : ∀ j, j < s → g j = g' j) : ∀ (m i TN : Nat) (K K' : CK), U ≤ TN → caI B TN S K K' → eqK B U S K M → (rdL g s x m i K).1 = (rdL g' s x m i K').1 ∧ (rdL g s x m i K).2.2 = (rdL g' s x m i K').2.2 ∧ ∃ TN', U ≤ TN' ∧ caI B TN' S (rdL g s x m i K).2.1 (rdL g' s x m i K').2.1 ∧ eqK B U S (rdL g s x m i K).2.1 M
  | 0, i, TN, K, K', hU, hC, hM => ⟨rfl, rfl, TN, hU, hC, hM⟩
  | m + 1, i, TN, K, K', hU, hC, hM => by
    unfold rdL
    by_cases c : 0 ≤ x + 3 * (i : Int) ∧ x + 3 * (i : Int) + 2 < (s : Int)
    · rw [if_pos c, if_pos c]
      rw [hg (x + 3 * (i : Int)).toNat (by omega), hg ((x + 3 * (i : Int)).toNat + 1) (by omega), hg ((x + 3 * (i : Int)).toNat + 2) (by omega)]
      obtain ⟨e, TN', hU', hC', hM'⟩ := ca_start (g' (x + 3 * (i : Int)).toNat) (g' ((x + 3 * (i : Int)).toNat + 1)) (g' ((x + 3 * (i : Int)).toNat + 2)) hU hC hM
      rw [e]
      by_cases c2 : startA K' (g' (x + 3 * (i : Int)).toNat) (g' ((x + 3 * (i : Int)).toNat + 1)) (g' ((x + 3 * (i : Int)).toNat + 2)) < 0
      · rw [if_pos c2, if_pos c2]
        exact ⟨rfl, rfl, TN, hU, hC, hM⟩
      · rw [if_neg c2, if_neg c2]
        exact rd_ca hg m (i + 1) TN' _ _ hU' hC' hM'
    · rw [if_neg c, if_neg c]
      exact ⟨rfl, rfl, TN, hU, hC, hM⟩
theorem xI_B {l : List Int32} {x : Int32} (h : xI f r z) (h1 : l.length = 87) : xI f r (zTo (zB z l) x) := ⟨h.1, h.2.1, h.2.2.1, h.2.2.2.1, h.2.2.2.2.1, h.2.2.2.2.2.1, h.2.2.2.2.2.2.1, h.2.2.2.2.2.2.2.1, h.2.2.2.2.2.2.2.2.1, h.2.2.2.2.2.2.2.2.2.1, h.2.2.2.2.2.2.2.2.2.2.1, h1⟩
theorem rs_B {l : List Int32} {x : Int32} (hR : rsI im0 im1 p f r tr z I0 I1) (h1 : l.length = 87) : rsI im0 im1 p f r x (zTo (zB z l) x) I0 I1 := by
  obtain ⟨q1, q2, q3, q4, q5, q6, q7⟩ := hR
  exact ⟨q1, q2, q3, q4, q5, rfl, xI_B q7 h1⟩
theorem k_read (k l x n : Int32) (hC : caI B TN S now Ks) (ht : GS trial) (hd : CL told) (ho : mOK nw eb wa ms mt) (hR : rsI im0 im1 p f r tr z I0 I1) : Alk xs d 92 196 [k, l, x, n] (hCl now trial told im0 im1 p f r tr) (mH (zS z Ks (I0 ++ I1)) nw eb wa ms mt cc) := by
  cases c : rdC k l n with
  | false => exact ⟨.int (-1), _, _, int_nr _, Inv_mk hC ht hd ho hR, sp_read_bad xs (d + 19) now trial told im0 im1 p f r tr k l x n c, m_read_bad (d := d + 18) (c := c) ..⟩
  | true =>
    have c' := c
    unfold rdC at c
    rw [Bool.and_eq_true, Bool.and_eq_true] at c
    obtain ⟨c1, c2, c3⟩ := c
    obtain ⟨k, hk, rfl⟩ := wi_of (M := 3) (by decide) c1
    obtain ⟨N, hN, rfl⟩ := wi_of (M := 13) (by decide) c3
    obtain ⟨q1, q2, q3, q4, q5, q6, q7⟩ := id hR
    obtain ⟨x1, x2, x3, x4, x5, x6, x7, x8, x9, x10, x11, x12⟩ := id q7
    obtain ⟨w1, w2⟩ := q5 k (by omega)
    by_cases h0 : N = 0
    · subst h0
      have h1 := sp_read_0 xs (d + 19) now trial told im0 im1 p f r tr k l x (r.2.2.2.2.2.2.getD k 0) (r.2.2.2.2.2.1.getD k 0) (by omega) c2 (getD_at (by omega)) (getD_at (by omega))
      have h2 := m_read_0 xs (d + 18) z (I0 ++ I1) nw eb wa ms mt cc Ks k l x (by omega) c2 x12
      exact ⟨.int 0, _, _, int_nr _, Inv_mk (tr := 0) (z := zTo (zB z (flK Ks)) 0) hC ht hd ho (rs_B hR (flK_len _)), h1, h2⟩
    · have hp : 0 < nI N := nI_lt (a := 0) (by omega) (by omega)
      rcases w2 with ⟨a1, a2⟩ | ⟨s, la, a1, a2, a3, a4, a5, a6, a7⟩
      · have h1 := sp_read_ft xs (d + 19) now trial told im0 im1 p f r tr k l x (nI N) (-1) (r.2.2.2.2.2.1.getD k 0) (by omega) c' a1 (getD_at (by omega)) 1 (by rw [if_pos hp, if_pos rfl]) (by decide)
        have h2 := m_read_ft xs (d + 18) z (I0 ++ I1) nw eb wa ms mt cc Ks k N l x (-4) (z.2.2.2.2.2.2.2.2.2.2.2.1.getD k 0) (by omega) (by omega) hN c2 a2 (getD_at (by omega)) x12 1 (fun q => lane_4 c2 q.symm) (by rw [if_pos rfl])
        exact ⟨.int 0, _, _, int_nr _, Inv_mk (tr := 1) (z := zTo (zB z (flK Ks)) 1) hC ht hd ho (rs_B hR (flK_len _)), h1, h2⟩
      · by_cases e : la = l
        · subst e
          have h1 := sp_read xs (d + 15) now trial told im0 im1 p f r tr k s N la x la B TN S hC.1.1 (by omega) a1 hN c2 a3 a5 (Or.inr rfl) w1
          have h2 := m_read xs (d + 17) z (I0 ++ I1) nw eb wa ms mt cc Ks k s N la x B TN S hC.2.1 (by omega) a1 hN c2 a6 a4 x11 x12
          have hg : ∀ j, j < s → (fun j => (r.2.2.2.2.1 k).getD j 0) j = (fun j => z.2.2.2.2.2.2.2.2.2.2.2.2.1.getD (40 * k + j) 0) j := by
            intro j hj
            dsimp only
            rw [List.getD_eq_getElem?_getD, List.getD_eq_getElem?_getD, a7 j hj]
          obtain ⟨e1, e2, TN', hU, hC', hM⟩ := rd_ca (x := x.toInt) hg N 0 TN now Ks (Nat.le_refl _) hC eqK_rf
          rw [e1] at h1
          refine ⟨_, _, _, int_nr _, ?_, h1, h2⟩
          revert e2 hC' hM
          generalize rdL (fun j => (r.2.2.2.2.1 k).getD j 0) s x.toInt N 0 now = A
          generalize rdL (fun j => z.2.2.2.2.2.2.2.2.2.2.2.2.1.getD (40 * k + j) 0) s x.toInt N 0 Ks = A'
          obtain ⟨u1, u2, u3⟩ := A
          obtain ⟨v1, v2, v3⟩ := A'
          dsimp only
          intro e2 hC' hM
          subst e2
          unfold rdH rdM
          cases u3 with
          | some y => exact Inv_mk (now := u2) (Ks := v2) (tr := y) (z := zTo (zB z (flK Ks)) y) hC' ht hd ho (rs_B hR (flK_len _))
          | none =>
            have hC2 := ca_cut hU hC'
            refine Inv_mk (now := tnK u2 now.1.2.2.2.2.1) (Ks := Ks) (tr := tr) (z := zB z (flK Ks)) (B := B) (TN := TN) (S := S) ⟨?_, hC.2.1, ?_⟩ ht hd ho ⟨q1, q2, q3, q4, q5, q6, xI_B (x := z.2.2.1) q7 (flK_len _)⟩
            · rw [hC.1.1.2.2.1]
              exact hC2.1
            · exact eqK_tr hM hC.2.2
        · have hs : ¬ nI s = -1 := nI_ne1 (by omega)
          have h1 := sp_read_ft xs (d + 19) now trial told im0 im1 p f r tr k l x (nI N) (nI s) la (by omega) c' a3 a5 3 (by rw [if_pos hp, if_neg hs, if_neg e]) (by decide)
          have h2 := m_read_ft xs (d + 18) z (I0 ++ I1) nw eb wa ms mt cc Ks k N l x la (nI s) (by omega) (by omega) hN c2 a6 a4 x12 3 e (by rw [if_neg (lane_4 a2)])
          exact ⟨.int 0, _, _, int_nr _, Inv_mk (tr := 3) (z := zTo (zB z (flK Ks)) 3) hC ht hd ho (rs_B hR (flK_len _)), h1, h2⟩
end LK7

/-! what the fog changes of an hour -/
theorem nqI_g (q : Nat → Nat → Bool) (i : Nat) : ∀ (m j : Nat) (a b : List Int32) (g g' : Int32), (nqI q i m j (a, b, g)).1 = (nqI q i m j (a, b, g')).1 ∧ (nqI q i m j (a, b, g)).2.1 = (nqI q i m j (a, b, g')).2.1
  | 0, _, _, _, _, _ => ⟨rfl, rfl⟩
  | m + 1, j, a, b, g, g' => nqI_g q i m (j + 1) _ _ _ _
theorem nqO_g (q : Nat → Nat → Bool) (B : Nat) : ∀ (m i : Nat) (a b : List Int32) (g g' : Int32), (nqO q B m i (a, b, g)).1 = (nqO q B m i (a, b, g')).1 ∧ (nqO q B m i (a, b, g)).2.1 = (nqO q B m i (a, b, g')).2.1
  | 0, _, _, _, _, _ => ⟨rfl, rfl⟩
  | m + 1, i, a, b, g, g' => by
    obtain ⟨e1, e2⟩ := nqI_g q i (B - (i + 1)) (i + 1) a b g g'
    have h := nqO_g q B m (i + 1) (nqI q i (B - (i + 1)) (i + 1) (a, b, g)).1 (nqI q i (B - (i + 1)) (i + 1) (a, b, g)).2.1 (nqI q i (B - (i + 1)) (i + 1) (a, b, g)).2.2 (nqI q i (B - (i + 1)) (i + 1) (a, b, g')).2.2
    have e3 : ((nqI q i (B - (i + 1)) (i + 1) (a, b, g)).1, (nqI q i (B - (i + 1)) (i + 1) (a, b, g)).2.1, (nqI q i (B - (i + 1)) (i + 1) (a, b, g')).2.2) = nqI q i (B - (i + 1)) (i + 1) (a, b, g') := by
      rw [e1, e2]
    rw [e3] at h
    exact h
/-- the barges of one, all else of the other -/
def swG (K K' : CK) : CK := ((K.1.1, K.1.2.1, K'.1.2.2.1, K.1.2.2.2.1, K.1.2.2.2.2.1, K.1.2.2.2.2.2.1, K'.1.2.2.2.2.2.2.1, K'.1.2.2.2.2.2.2.2), K.2.1, K'.2.2)
theorem CG_swG {K K' : CK} {B TN S : Nat} (h : CG K B TN S) (h' : CG K' B TN S) : CG (swG K K') B TN S := CG_swT h h'
theorem mv3_q {K : CK} {B TN S : Nat} (h : CG K B TN S) : mvK3 K.1.1 B K.2.1.2.2.1 (ksK K) = nqO (fun i j => mtB ((paU K.1.1 K.2.1.2.1 B K.2.1.2.2.2.2.2.2.1).getD i 0 - (paU K.1.1 K.2.1.2.1 B K.2.1.2.2.2.2.2.2.1).getD j 0) ((ptU K.1.1 K.2.1.2.1 K.2.1.2.2.1 B K.2.1.2.2.2.2.2.2.2.1).getD i 0 - (ptU K.1.1 K.2.1.2.1 K.2.1.2.2.1 B K.2.1.2.2.2.2.2.2.2.1).getD j 0)) B B 0 (K.2.1.2.2.2.2.2.2.2.2.2, mtU B K.2.1.2.2.2.2.2.2.2.2.1, K.1.2.2.2.2.2.2.2) := by
  have hB := h.1.2.2.2.2.1
  have l9 : K.2.1.2.2.2.2.2.2.2.2.1.length = 5 := h.1.1.2.2.2.2.2.2.2.2.1
  exact nwO_q hB B 0 (K.2.1.2.2.2.2.2.2.2.2.2, mtU B K.2.1.2.2.2.2.2.2.2.2.1, K.1.2.2.2.2.2.2.2) (by omega) ((up_len (by rw [l9]; omega)).trans l9)
theorem mv_swG {K K' : CK} {B TN S : Nat} (h : CG K B TN S) (h' : CG K' B TN S) : (mvC (swG K K') B).2.1.2.2.2.2.2.2.2.2.2 = (mvC K B).2.1.2.2.2.2.2.2.2.2.2 ∧ (mvC (swG K K') B).2.1.2.2.2.2.2.2.2.2.1 = (mvC K B).2.1.2.2.2.2.2.2.2.2.1 ∧ (mvC (swG K K') B).2.1.2.1 = (mvC K B).2.1.2.1 := by
  have e1 := mv3_q h
  have e2 := mv3_q (CG_swG h h')
  have e3 := nqO_g (fun i j => mtB ((paU K.1.1 K.2.1.2.1 B K.2.1.2.2.2.2.2.2.1).getD i 0 - (paU K.1.1 K.2.1.2.1 B K.2.1.2.2.2.2.2.2.1).getD j 0) ((ptU K.1.1 K.2.1.2.1 K.2.1.2.2.1 B K.2.1.2.2.2.2.2.2.2.1).getD i 0 - (ptU K.1.1 K.2.1.2.1 K.2.1.2.2.1 B K.2.1.2.2.2.2.2.2.2.1).getD j 0)) B B 0 K.2.1.2.2.2.2.2.2.2.2.2 (mtU B K.2.1.2.2.2.2.2.2.2.2.1) K'.1.2.2.2.2.2.2.2 K.1.2.2.2.2.2.2.2
  refine ⟨?_, ?_, rfl⟩
  · show (mvK3 (swG K K').1.1 B (swG K K').2.1.2.2.1 (ksK (swG K K'))).1 = (mvK3 K.1.1 B K.2.1.2.2.1 (ksK K)).1
    rw [e1, e2]
    exact e3.1
  · show (mvK3 (swG K K').1.1 B (swG K K').2.1.2.2.1 (ksK (swG K K'))).2.1 = (mvK3 K.1.1 B K.2.1.2.2.1 (ksK K)).2.1
    rw [e1, e2]
    exact e3.2

/-! luck: both sum alike -/
theorem okM_01 {ms : List Int32} (h : okM ms) {x : Nat} (hx : x < 25) : ms.getD x 0 = 0 ∨ ms.getD x 0 = 1 := by
  obtain ⟨b, e⟩ := h x hx
  rw [List.getD_eq_getElem?_getD, e]
  cases b with
  | false => exact Or.inl rfl
  | true => exact Or.inr rfl
theorem wtM_01 {K : CK} {B TN S : Nat} (hg : CG K B TN S) {x : Nat} (hx : x < 25) (k : Nat) : wtM K.1.1 B K.2.1.2.2.1 (ksK K) x k = 0 ∨ wtM K.1.1 B K.2.1.2.2.1 (ksK K) x k = 1 := by
  rw [wtM_C]
  exact okM_01 (CG_mv (CG_Cmv hg k)).2.1.2.2.2.2.2.2.1 hx
theorem l64_10 : (10 : Int32).toInt64 = lN 10 := by decide
theorem v_l64' : ∀ v, v ≤ 10 → (nI v).toInt64 = lN v ∧ ((10 : Int32) - nI v).toInt64 = lN (10 - v) := by
  intro v hv
  have h : ∀ v : Fin 11, (nI v.val).toInt64 = lN v.val ∧ ((10 : Int32) - nI v.val).toInt64 = lN (10 - v.val) := by decide
  exact h ⟨v, by omega⟩
theorem l64_0a (x : Int64) : 0 + x = x := Int64.zero_add x
theorem lk_same {v a b : Nat} {w : Int64} (hv : v ≤ 10) (h1 : w = lN a) (h2 : w = lN b) : lN 10 * w = lN ((10 - v) * a + v * b) := by
  have e : lN 10 = lN (10 - v) + lN v := by
    rw [lN_add]
    congr 1
    omega
  rw [← lN_add, ← lN_mul, ← lN_mul, ← h1, ← h2, e, Int64.add_mul]
theorem odd_le {v : Nat} (hv : v ≤ 10) : ((10 : Int32) ≤ nI v ↔ v = 10) ∧ (nI v ≤ 0 ↔ v = 0) := by
  have h : ∀ v : Fin 11, ((10 : Int32) ≤ nI v.val ↔ v.val = 10) ∧ (nI v.val ≤ 0 ↔ v.val = 0) := by decide
  exact h ⟨v, by omega⟩
theorem luck_eq {K : CK} {B TN S SP t i j v : Nat} {me m1 m2 : List Int32} (hv : v ≤ 10) (hg : CG K B TN S) (hr : rng K B) (htt : t < TN) (hi : i < B) (hj : j < B) (hij : i ≠ j) (hSP : SP ≤ 8) : ∀ (m k : Nat) (K' : CK), k + m = SP → Lb B (Cmv K B k) K' → Rs K' B TN S → (K'.2.2.getD t dT).1 = nI i → (K'.2.2.getD t dT).2.1 = nI j → (K'.2.2.getD t dT).2.2.2.2.2.2.2.2.1 = 0 → wE (nI v) (K.2.1.1.getD i 0) (K.2.1.1.getD j 0) K.1.2.1 (up (wtM K.1.1 B K.2.1.2.2.1 (ksK K) (5 * i + j)) SP me) (up (wtN K.1.1 B K.2.1.2.2.1 (ksK K) i) SP m1) (up (wtN K.1.1 B K.2.1.2.2.1 (ksK K) j) SP m2) m k (K'.2.2.getD t dT) = lN (sN B TN v t m K')
  | 0, k, K', hkm, hL, hs, e1, e2, e9 => by
    unfold wE
    rw [sN_0, if_pos e9]
    rfl
  | m + 1, k, K', hkm, hL, hs, e1, e2, e9 => by
    have hB := hg.1.2.2.2.2.1
    have hk : k < SP := by omega
    have hf := fog_T (K := K) (k := k) hL hs htt
    have hc := clr_T (me := me) (m1 := m1) (m2 := m2) hg hr hL hs hi hj hij e1 e2 hk
    have hTf := gh_Tt true hs.1 htt
    have hTc := gh_Tt false hs.1 htt
    rw [hf] at hTf
    rw [hc] at hTc
    dsimp only at hTf
    have hLs : ∀ fog, Lb B (Cmv K B (k + 1)) (ghK fog K' B TN) := fun fog => by
      rw [Cmv_s]
      exact Lb_s fog hL
    have ihf := luck_eq (me := me) (m1 := m1) (m2 := m2) hv hg hr htt hi hj hij hSP m (k + 1) (ghK true K' B TN) (by omega) (hLs true) (Rs_s true hs) (by rw [hTf]; exact T_sil2.1.trans e1) (by rw [hTf]; exact T_sil2.2.trans e2) (by rw [hTf]; exact T_sil9.trans e9)
    rw [hTf] at ihf
    unfold wE
    rw [F_false]
    dsimp only
    rw [ihf]
    unfold F_ap
    rw [up_gd hk, sN_s]
    rcases wtM_01 hg (x := 5 * i + j) (by omega) k with c | c
    · rw [c, decide_eq_false (by decide), F_false] at hTc
      dsimp only at hTc
      have ihc := luck_eq (me := me) (m1 := m1) (m2 := m2) hv hg hr htt hi hj hij hSP m (k + 1) (ghK false K' B TN) (by omega) (hLs false) (Rs_s false hs) (by rw [hTc]; exact T_sil2.1.trans e1) (by rw [hTc]; exact T_sil2.2.trans e2) (by rw [hTc]; exact T_sil9.trans e9)
      rw [hTc, ihf] at ihc
      rw [if_pos c, if_pos (by decide), if_neg (by decide), l64_0a, l64_10]
      exact lk_same hv ihc rfl
    · rw [c, decide_eq_true rfl] at hTc
      have hne : ¬ wtM K.1.1 B K.2.1.2.2.1 (ksK K) (5 * i + j) k = 0 := by
        rw [c]
        decide
      rw [if_neg hne]
      by_cases c10 : v = 10
      · rw [if_pos ((odd_le hv).1.mpr c10), if_neg (fun q => by have := (odd_le hv).2.mp q; omega), l64_0a, (v_l64' v hv).1, lN_mul, c10, show 10 - 10 = 0 from rfl, Nat.zero_mul, Nat.zero_add]
      · rw [if_neg (fun q => c10 ((odd_le hv).1.mp q))]
        have hL1 : (if nI v ≤ 0 then (0 : Int64) else 0 + (nI v).toInt64 * lN (sN B TN v t m (ghK true K' B TN))) = lN (v * sN B TN v t m (ghK true K' B TN)) := by
          by_cases c0 : v = 0
          · rw [if_pos ((odd_le hv).2.mpr c0), c0, Nat.zero_mul]
            rfl
          · rw [if_neg (fun q => c0 ((odd_le hv).2.mp q)), l64_0a, (v_l64' v hv).1, lN_mul]
        rw [hL1, (v_l64' v hv).2]
        have p2 := T_pass_2 (K'.2.2.getD t dT) true (if T_turn (K'.2.2.getD t dT) = (K'.2.2.getD t dT).1 then K.2.1.1.getD i 0 else K.2.1.1.getD j 0) (if T_turn (K'.2.2.getD t dT) = (K'.2.2.getD t dT).1 then (up (wtN K.1.1 B K.2.1.2.2.1 (ksK K) i) SP m1).getD k 0 else (up (wtN K.1.1 B K.2.1.2.2.1 (ksK K) j) SP m2).getD k 0) K.1.2.1
        obtain ⟨c', a1, a2, a3⟩ := pass_9 (lo := 0) (hi := 0) true (if T_turn (K'.2.2.getD t dT) = (K'.2.2.getD t dT).1 then K.2.1.1.getD i 0 else K.2.1.1.getD j 0) (if T_turn (K'.2.2.getD t dT) = (K'.2.2.getD t dT).1 then (up (wtN K.1.1 B K.2.1.2.2.1 (ksK K) i) SP m1).getD k 0 else (up (wtN K.1.1 B K.2.1.2.2.1 (ksK K) j) SP m2).getD k 0) K.1.2.1 ⟨0, Nat.le_refl 0, Nat.le_refl 0, e9⟩
        rw [← F_true] at p2 a3
        by_cases c9 : (F_q (K.2.1.1.getD i 0) (K.2.1.1.getD j 0) K.1.2.1 (up (wtN K.1.1 B K.2.1.2.2.1 (ksK K) i) SP m1) (up (wtN K.1.1 B K.2.1.2.2.1 (ksK K) j) SP m2) true (K'.2.2.getD t dT) k).2.2.2.2.2.2.2.2.2.1 = (K'.2.2.getD t dT).2.2.2.2.2.2.2.2.1
        · rw [if_pos c9]
          have ihc := luck_eq (me := me) (m1 := m1) (m2 := m2) hv hg hr htt hi hj hij hSP m (k + 1) (ghK false K' B TN) (by omega) (hLs false) (Rs_s false hs) (by rw [hTc]; exact p2.1.trans e1) (by rw [hTc]; exact p2.2.trans e2) (by rw [hTc]; exact c9.trans e9)
          rw [hTc] at ihc
          rw [ihc, lN_mul, lN_add, Nat.add_comm]
        · rw [if_neg c9]
          have q : sN B TN v t m (ghK false K' B TN) = 0 := by
            have hc1 : 1 ≤ c' := by
              rcases Nat.eq_zero_or_pos c' with z | z
              · rw [z] at a3
                exact absurd (a3.trans e9.symm) c9
              · exact z
            refine sN_end htt m c' (ghK false K' B TN) (CG_gh false hs.1) hc1 (by omega) ?_
            rw [hTc]
            exact a3
          rw [q, Nat.mul_zero, Nat.zero_add]

/-! an hour of a Talk: what the Fog notes of it -/
theorem F_true {k1 k2 mm : Int32} {m1 m2 : List Int32} {b : Bool} {T : TT} {k : Nat} : F_q k1 k2 mm m1 m2 b T k = T_pass T b (if T_turn T = T.1 then k1 else k2) (if T_turn T = T.1 then m1.getD k 0 else m2.getD k 0) mm := rfl
theorem F_false {k1 k2 mm : Int32} {m1 m2 : List Int32} {T : TT} {k : Nat} : F_q k1 k2 mm m1 m2 false T k = (0, T_silent T mm) := rfl
theorem Cmv_k (K : CK) (B : Nat) : ∀ k, (Cmv K B k).2.1.1 = K.2.1.1
  | 0 => rfl
  | k + 1 => by rw [Cmv_s, mv_k, Cmv_k K B k]
theorem Cmv_m (K : CK) (B : Nat) : ∀ k, (Cmv K B k).1.2.1 = K.1.2.1
  | 0 => rfl
  | k + 1 => by rw [Cmv_s, mv_12, Cmv_m K B k]
/-- without fog -/
theorem clr_T {K K' : CK} {B TN S SP k t i j : Nat} {me m1 m2 : List Int32} (hg : CG K B TN S) (hr : rng K B) (h : Lb B (Cmv K B k) K') (hs : Rs K' B TN S) (hi : i < B) (hj : j < B) (hij : i ≠ j) (e1 : (K'.2.2.getD t dT).1 = nI i) (e2 : (K'.2.2.getD t dT).2.1 = nI j) (hk : k < SP) : T_hr K'.2.1.1 (gmN false K' B).2.1 (gmN false K' B).1 K'.1.2.1 (K'.2.2.getD t dT) = F_q (K.2.1.1.getD i 0) (K.2.1.1.getD j 0) K.1.2.1 (up (wtN K.1.1 B K.2.1.2.2.1 (ksK K) i) SP m1) (up (wtN K.1.1 B K.2.1.2.2.1 (ksK K) j) SP m2) (decide (wtM K.1.1 B K.2.1.2.2.1 (ksK K) (5 * i + j) k = 1)) (K'.2.2.getD t dT) k := by
  have hB := hg.1.2.2.2.2.1
  have hc := CG_Cmv hg k
  have hrc := rng_Cmv hr k
  have m0 := clr_ms hc hrc h hs hi hj hij
  have mi := clr_mt hc hrc h hs hi
  have mj := clr_mt hc hrc h hs hj
  rw [← wtM_C] at m0
  rw [← wtN_C] at mi mj
  have k0 := (h.2.2 i hi).1
  have k1 := (h.2.2 j hj).1
  have km := h.2.1
  rw [Cmv_k] at k0 k1
  rw [Cmv_m] at km
  rw [F_true, up_gd hk, up_gd hk]
  unfold T_hr
  rw [e1, e2, nI_clamp (by omega), nI_clamp (by omega), m0, km]
  by_cases c : T_turn (K'.2.2.getD t dT) = nI i
  · rw [if_pos c, if_pos c, c, nI_clamp (by omega), ← k0, mi]
  · have c2 : T_turn (K'.2.2.getD t dT) = nI j := by
      unfold T_turn at c ⊢
      split at c
      · exact absurd e1 c
      · rename_i q
        rw [if_neg q]
        exact e2
    rw [if_neg c, if_neg c, c2, nI_clamp (by omega), ← k1, mj]
/-- in the fog -/
theorem fog_T {K K' : CK} {B TN S k t : Nat} (h : Lb B (Cmv K B k) K') (hs : Rs K' B TN S) (htt : t < TN) : T_hr K'.2.1.1 (gmN true K' B).2.1 (gmN true K' B).1 K'.1.2.1 (K'.2.2.getD t dT) = (0, T_silent (K'.2.2.getD t dT) K.1.2.1) := by
  have hg := hs.1
  have hB := hg.1.2.2.2.2.1
  have l10 : K'.2.1.2.2.2.2.2.2.2.2.2.length = 25 := hg.1.1.2.2.2.2.2.2.2.2.2.1
  obtain ⟨i, j, hi, hj, hij, e1, e2⟩ := hs.2 t htt
  have km := h.2.1
  rw [Cmv_m] at km
  have e3 : (gmN true K' B).1.getD (5 * i + j) 0 = 0 := by
    unfold gmN
    rw [nmO_in hB hj B 0 _ (by omega) (by omega) (by omega) l10]
    unfold nmQ
    rw [show (!true) = false from rfl, Bool.false_and, Bool.and_false]
    rfl
  unfold T_hr
  rw [e1, e2, nI_clamp (by omega), nI_clamp (by omega), e3, decide_eq_false (by decide), km]
  rfl
/-- what has ended gives no way without an end -/
theorem sN_end {B TN S v t : Nat} (htt : t < TN) : ∀ (n c : Nat) (K : CK), CG K B TN S → 1 ≤ c → c + n < 2 ^ 31 → (K.2.2.getD t dT).2.2.2.2.2.2.2.2.1 = nI c → sN B TN v t n K = 0
  | 0, c, K, hg, h1, h2, h3 => by
    rw [sN_0, h3, if_neg (nI_ne0 h1 (by omega))]
  | n + 1, c, K, hg, h1, h2, h3 => by
    have key : ∀ fog, sN B TN v t n (ghK fog K B TN) = 0 := by
      intro fog
      obtain ⟨c', a1, a2, a3⟩ := pass_9 (lo := c) (hi := c) (decide ((gmN fog K B).1.getD (5 * (K.2.2.getD t dT).1.toNatClampNeg + (K.2.2.getD t dT).2.1.toNatClampNeg) 0 = 1)) (K.2.1.1.getD (T_turn (K.2.2.getD t dT)).toNatClampNeg 0) ((gmN fog K B).2.1.getD (T_turn (K.2.2.getD t dT)).toNatClampNeg 0) K.1.2.1 ⟨c, Nat.le_refl c, Nat.le_refl c, h3⟩
      refine sN_end htt n c' (ghK fog K B TN) (CG_gh fog hg) (by omega) (by omega) ?_
      rw [gh_Tt fog hg htt]
      exact a3
    rw [sN_s, key, key]
    rfl
theorem T_sil9 {T : TT} {m : Int32} : (T_silent T m).2.2.2.2.2.2.2.2.1 = T.2.2.2.2.2.2.2.2.1 := by
  unfold T_silent
  by_cases c1 : T.2.2.2.1 ≤ 0
  · rw [if_pos c1]
  · rw [if_neg c1]
    by_cases c2 : m < T.2.2.2.2.1 + 1
    · rw [if_pos c2]
      rfl
    · rw [if_neg c2]
theorem T_sil2 {T : TT} {m : Int32} : (T_silent T m).1 = T.1 ∧ (T_silent T m).2.1 = T.2.1 := T_pass_2 T false 0 0 m

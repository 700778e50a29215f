/-! the reference's ways, hour by hour -/
def oN (B TN v n t : Nat) (K : CK) (s : Nat) : Nat := if ((gfK B TN s n 0 K).2.2.getD t dT).2.2.2.2.2.2.2.2.1 = 0 then wyN v s n 0 1 else 0
def sN (B TN v t n : Nat) (K : CK) : Nat := foN (oN B TN v n t K) (2 ^ n) 0 0
theorem oN_0 {B TN v n t s : Nat} {K : CK} : oN B TN v (n + 1) t K (2 * s) = (10 - v) * oN B TN v n t (ghK false K B TN) s := by
  have e1 : gfK B TN (2 * s) (n + 1) 0 K = gfK B TN s n 0 (ghK false K B TN) := by
    show gfK B TN (2 * s) n 1 (ghK ((2 * s).testBit 0) K B TN) = _
    rw [bit_20]
    exact gfK_2 (b := 0) (by decide) n 0 _
  have e2 : wyN v (2 * s) (n + 1) 0 1 = (10 - v) * wyN v s n 0 1 := by
    show wyN v (2 * s) n 1 (1 * (if (2 * s).testBit 0 = true then v else 10 - v)) = _
    rw [bit_20, if_neg (by decide), Nat.one_mul]
    exact (wyN_2 (b := 0) (by decide) n 0 _).trans (wyN_a v s n 0 (10 - v))
  unfold oN
  rw [e1, e2]
  by_cases c : ((gfK B TN s n 0 (ghK false K B TN)).2.2.getD t dT).2.2.2.2.2.2.2.2.1 = 0
  · rw [if_pos c, if_pos c]
  · rw [if_neg c, if_neg c, Nat.mul_zero]
theorem oN_1 {B TN v n t s : Nat} {K : CK} : oN B TN v (n + 1) t K (2 * s + 1) = v * oN B TN v n t (ghK true K B TN) s := by
  have e1 : gfK B TN (2 * s + 1) (n + 1) 0 K = gfK B TN s n 0 (ghK true K B TN) := by
    show gfK B TN (2 * s + 1) n 1 (ghK ((2 * s + 1).testBit 0) K B TN) = _
    rw [bit_21]
    exact gfK_2 (b := 1) (by decide) n 0 _
  have e2 : wyN v (2 * s + 1) (n + 1) 0 1 = v * wyN v s n 0 1 := by
    show wyN v (2 * s + 1) n 1 (1 * (if (2 * s + 1).testBit 0 = true then v else 10 - v)) = _
    rw [bit_21, if_pos rfl, Nat.one_mul]
    exact (wyN_2 (b := 1) (by decide) n 0 _).trans (wyN_a v s n 0 v)
  unfold oN
  rw [e1, e2]
  by_cases c : ((gfK B TN s n 0 (ghK true K B TN)).2.2.getD t dT).2.2.2.2.2.2.2.2.1 = 0
  · rw [if_pos c, if_pos c]
  · rw [if_neg c, if_neg c, Nat.mul_zero]
theorem sN_s {B TN v t n : Nat} {K : CK} : sN B TN v t (n + 1) K = (10 - v) * sN B TN v t n (ghK false K B TN) + v * sN B TN v t n (ghK true K B TN) := by
  unfold sN
  rw [Nat.pow_succ, Nat.mul_comm (2 ^ n) 2]
  have e := foN_2 (oN B TN v (n + 1) t K) (2 ^ n) 0 0
  rw [Nat.mul_zero] at e
  rw [e, foN_eq (h := fun s => (10 - v) * oN B TN v n t (ghK false K B TN) s + v * oN B TN v n t (ghK true K B TN) s) (fun s => by rw [oN_0, oN_1])]
  rw [foN_add (fun s => (10 - v) * oN B TN v n t (ghK false K B TN) s) (fun s => v * oN B TN v n t (ghK true K B TN) s), foN_mul, foN_mul]
theorem sN_0 {B TN v t : Nat} {K : CK} : sN B TN v t 0 K = if (K.2.2.getD t dT).2.2.2.2.2.2.2.2.1 = 0 then 1 else 0 := by
  unfold sN oN
  show 0 + _ = _
  rw [Nat.zero_add]
  rfl
theorem sN_le {B TN v t : Nat} (hv : v ≤ 10) : ∀ (n : Nat) (K : CK), sN B TN v t n K ≤ 10 ^ n
  | 0, K => by
    rw [sN_0]
    split
    · exact Nat.le_refl 1
    · exact Nat.zero_le _
  | n + 1, K => by
    rw [sN_s, Nat.pow_succ]
    have h1 := Nat.mul_le_mul_left (10 - v) (sN_le (B := B) (TN := TN) (t := t) hv n (ghK false K B TN))
    have h2 := Nat.mul_le_mul_left v (sN_le (B := B) (TN := TN) (t := t) hv n (ghK true K B TN))
    have h3 : (10 - v) * 10 ^ n + v * 10 ^ n = 10 ^ n * 10 := by
      rw [← Nat.add_mul, show 10 - v + v = 10 by omega, Nat.mul_comm]
    omega
theorem p10_N : ∀ n, p10 n = lN (10 ^ n)
  | 0 => rfl
  | n + 1 => by
    unfold p10
    rw [p10_N n, Nat.pow_succ]
    exact lN_mul (10 ^ n) 10
/-- what has ended stays so -/
theorem pass_9 {T : TT} {lo hi : Nat} (b : Bool) (k e m : Int32) (h : ∃ c, lo ≤ c ∧ c ≤ hi ∧ T.2.2.2.2.2.2.2.2.1 = nI c) : ∃ c, lo ≤ c ∧ c ≤ hi + 1 ∧ (T_pass T b k e m).2.2.2.2.2.2.2.2.2.1 = nI c := by
  obtain ⟨c, h1, h2, h3⟩ := h
  have hs : ∀ U : TT, U.2.2.2.2.2.2.2.2.1 = nI c → (T_silent U m).2.2.2.2.2.2.2.2.1 = nI c := by
    intro U hU
    unfold T_silent
    by_cases c1 : U.2.2.2.1 ≤ 0
    · rw [if_pos c1]
      exact hU
    · rw [if_neg c1]
      by_cases c2 : m < U.2.2.2.2.1 + 1
      · rw [if_pos c2]
        exact hU
      · rw [if_neg c2]
        exact hU
  have hw : (T_words T k e).2.2.2.2.2.2.2.2.2.1 = nI c := by
    unfold T_words
    by_cases c1 : k = 3
    · rw [if_pos c1]
      cases T.2.2.2.2.2.1 with
      | false => exact h3
      | true => exact h3
    · rw [if_neg c1]
      by_cases c2 : k = 2
      · rw [if_pos c2]
        exact h3
      · rw [if_neg c2]
        by_cases c3 : k = 1
        · rw [if_pos c3]
          exact h3
        · rw [if_neg c3]
          exact h3
  unfold T_pass
  cases b with
  | false => exact ⟨c, h1, by omega, hs T h3⟩
  | true =>
    dsimp only
    by_cases cc : 0 < (T_words T k e).1
    · rw [if_pos cc]
      unfold T_goOn
      by_cases c4 : mnI (T_words T k e).2.2.2.1 ((T_words T k e).2.2.2.2.1 + (T_words T k e).1) = (T_words T k e).2.2.2.1
      · rw [if_pos c4]
        refine ⟨c + 1, by omega, by omega, ?_⟩
        show (T_words T k e).2.2.2.2.2.2.2.2.2.1 + 1 = _
        rw [hw]
        exact nI_1 c
      · rw [if_neg c4]
        exact ⟨c, h1, by omega, hw⟩
    · rw [if_neg cc]
      exact ⟨c, h1, by omega, hs _ hw⟩

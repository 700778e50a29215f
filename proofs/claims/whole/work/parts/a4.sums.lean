/-! sums over all ways through the fog -/
def foN (g : Nat → Nat) (m s a : Nat) : Nat := match m with
  | 0 => a
  | m + 1 => foN g m (s + 1) (a + g s)
theorem foN_a (g : Nat → Nat) : ∀ m s a, foN g m s a = a + foN g m s 0
  | 0, _, _ => rfl
  | m + 1, s, a => by
    unfold foN
    rw [foN_a g m (s + 1) (a + g s), foN_a g m (s + 1) (0 + g s)]
    omega
theorem foN_2 (g : Nat → Nat) : ∀ j s a, foN g (2 * j) (2 * s) a = foN (fun s => g (2 * s) + g (2 * s + 1)) j s a
  | 0, _, _ => rfl
  | j + 1, s, a => by
    show foN g (2 * j) (2 * (s + 1)) (a + g (2 * s) + g (2 * s + 1)) = foN (fun s => g (2 * s) + g (2 * s + 1)) j (s + 1) (a + (g (2 * s) + g (2 * s + 1)))
    rw [foN_2 g j (s + 1), Nat.add_assoc]
theorem foN_add (g h : Nat → Nat) : ∀ m s, foN (fun s => g s + h s) m s 0 = foN g m s 0 + foN h m s 0
  | 0, _ => rfl
  | m + 1, s => by
    unfold foN
    rw [foN_a _ m (s + 1) (0 + (g s + h s)), foN_a g m (s + 1) (0 + g s), foN_a h m (s + 1) (0 + h s), foN_add g h m (s + 1)]
    omega
theorem foN_mul (c : Nat) (g : Nat → Nat) : ∀ m s, foN (fun s => c * g s) m s 0 = c * foN g m s 0
  | 0, _ => rfl
  | m + 1, s => by
    unfold foN
    rw [foN_a _ m (s + 1) (0 + c * g s), foN_a g m (s + 1) (0 + g s), foN_mul c g m (s + 1), Nat.mul_add, Nat.zero_add, Nat.zero_add]
theorem foN_eq {g h : Nat → Nat} (e : ∀ s, g s = h s) (m s a : Nat) : foN g m s a = foN h m s a := by rw [funext e]
theorem foS_N {oE : Nat → Int64} {g : Nat → Nat} (e : ∀ s, oE s = lN (g s)) : ∀ m s a, foS oE m s (lN a) = lN (foN g m s a)
  | 0, _, _ => rfl
  | m + 1, s, a => by
    unfold foS foN
    rw [e s, lN_add]
    exact foS_N e m (s + 1) (a + g s)
/-- the weight of a way -/
def wyN (v s m k a : Nat) : Nat := match m with
  | 0 => a
  | m + 1 => wyN v s m (k + 1) (a * (if s.testBit k = true then v else 10 - v))
theorem wyN_a (v s : Nat) : ∀ m k a, wyN v s m k a = a * wyN v s m k 1
  | 0, _, a => (Nat.mul_one a).symm
  | m + 1, k, a => by
    unfold wyN
    rw [wyN_a v s m (k + 1) (a * _), wyN_a v s m (k + 1) (1 * _), Nat.one_mul, Nat.mul_assoc]
theorem bit_2 {s b k : Nat} (hb : b < 2) : (2 * s + b).testBit (k + 1) = s.testBit k := by
  rw [Nat.testBit_succ, show (2 * s + b) / 2 = s by omega]
theorem bit_20 {s : Nat} : (2 * s).testBit 0 = false := by
  rw [Nat.testBit_zero, decide_eq_false (by omega)]
theorem bit_21 {s : Nat} : (2 * s + 1).testBit 0 = true := by
  rw [Nat.testBit_zero, decide_eq_true (by omega)]
theorem wyN_2 {v s b : Nat} (hb : b < 2) : ∀ m k a, wyN v (2 * s + b) m (k + 1) a = wyN v s m k a
  | 0, _, _ => rfl
  | m + 1, k, a => by
    unfold wyN
    rw [bit_2 hb, wyN_2 hb m (k + 1)]
theorem gfK_2 {B TN s b : Nat} (hb : b < 2) : ∀ m k K, gfK B TN (2 * s + b) m (k + 1) K = gfK B TN s m k K
  | 0, _, _ => rfl
  | m + 1, k, K => by
    unfold gfK
    rw [bit_2 hb, gfK_2 hb m (k + 1)]
theorem v_l64 : ∀ v, v ≤ 10 → (nI v).toInt64 = lN v ∧ ((Int8.ofInt 10).toInt32 - nI v).toInt64 = lN (10 - v) := by
  intro v hv
  have h : ∀ v : Fin 11, (nI v.val).toInt64 = lN v.val ∧ ((Int8.ofInt 10).toInt32 - nI v.val).toInt64 = lN (10 - v.val) := by decide
  exact h ⟨v, by omega⟩
theorem wyM_N {v s : Nat} (hv : v ≤ 10) : ∀ m k a, wyM (nI v) s m k (lN a) = lN (wyN v s m k a)
  | 0, _, _ => rfl
  | m + 1, k, a => by
    unfold wyM wyN
    cases s.testBit k with
    | true =>
      dsimp only
      rw [(v_l64 v hv).1, lN_mul, if_pos rfl]
      exact wyM_N hv m (k + 1) _
    | false =>
      dsimp only
      rw [(v_l64 v hv).2, lN_mul, if_neg (by decide)]
      exact wyM_N hv m (k + 1) _

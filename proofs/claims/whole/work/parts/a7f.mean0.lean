/-! words in all ways, hour by hour -/
theorem wy_0 {v s n : Nat} : wyN v (2 * s) (n + 1) 0 1 = (10 - v) * wyN v s n 0 1 := by
  show wyN v (2 * s) n 1 (1 * (if (2 * s).testBit 0 = true then v else 10 - v)) = _
  rw [bit_20, if_neg (by decide), Nat.one_mul]
  exact (wyN_2 (b := 0) (by decide) n 0 _).trans (wyN_a v s n 0 (10 - v))
theorem wy_1 {v s n : Nat} : wyN v (2 * s + 1) (n + 1) 0 1 = v * wyN v s n 0 1 := by
  show wyN v (2 * s + 1) n 1 (1 * (if (2 * s + 1).testBit 0 = true then v else 10 - v)) = _
  rw [bit_21, if_pos rfl, Nat.one_mul]
  exact (wyN_2 (b := 1) (by decide) n 0 _).trans (wyN_a v s n 0 v)
theorem pwN_2 {B TN s b : Nat} (hb : b < 2) : ∀ m k K, pwN B TN (2 * s + b) m (k + 1) K = pwN B TN s m k K
  | 0, _, _ => rfl
  | m + 1, k, K => by
    unfold pwN
    rw [bit_2 hb, pwN_2 hb m (k + 1)]
theorem pw_0 {B TN s n : Nat} {K : CK} : pwN B TN (2 * s) (n + 1) 0 K = hwN false K B TN + pwN B TN s n 0 (ghK false K B TN) := by
  show hwN ((2 * s).testBit 0) K B TN + pwN B TN (2 * s) n 1 (ghK ((2 * s).testBit 0) K B TN) = _
  rw [bit_20]
  exact congrArg _ (pwN_2 (b := 0) (by decide) n 0 _)
theorem pw_1 {B TN s n : Nat} {K : CK} : pwN B TN (2 * s + 1) (n + 1) 0 K = hwN true K B TN + pwN B TN s n 0 (ghK true K B TN) := by
  show hwN ((2 * s + 1).testBit 0) K B TN + pwN B TN (2 * s + 1) n 1 (ghK ((2 * s + 1).testBit 0) K B TN) = _
  rw [bit_21]
  exact congrArg _ (pwN_2 (b := 1) (by decide) n 0 _)
/-- all ways together weigh 10 to the n -/
theorem wy_all {v : Nat} (hv : v ≤ 10) : ∀ n, foN (fun s => wyN v s n 0 1) (2 ^ n) 0 0 = 10 ^ n
  | 0 => rfl
  | n + 1 => by
    rw [Nat.pow_succ, Nat.mul_comm (2 ^ n) 2]
    have e := foN_2 (fun s => wyN v s (n + 1) 0 1) (2 ^ n) 0 0
    rw [Nat.mul_zero] at e
    rw [e, foN_eq (h := fun s => (10 - v) * wyN v s n 0 1 + v * wyN v s n 0 1) (fun s => by rw [wy_0, wy_1])]
    rw [foN_add (fun s => (10 - v) * wyN v s n 0 1) (fun s => v * wyN v s n 0 1), foN_mul, foN_mul, wy_all hv n, ← Nat.add_mul, show 10 - v + v = 10 by omega, Nat.pow_succ, Nat.mul_comm]
def wN (B TN v m : Nat) (K : CK) : Nat := foN (fun s => wyN v s m 0 1 * pwN B TN s m 0 K) (2 ^ m) 0 0
theorem wN_s {B TN v n : Nat} {K : CK} (hv : v ≤ 10) : wN B TN v (n + 1) K = (10 - v) * (10 ^ n * hwN false K B TN + wN B TN v n (ghK false K B TN)) + v * (10 ^ n * hwN true K B TN + wN B TN v n (ghK true K B TN)) := by
  have half : ∀ fog, foN (fun s => hwN fog K B TN * wyN v s n 0 1 + wyN v s n 0 1 * pwN B TN s n 0 (ghK fog K B TN)) (2 ^ n) 0 0 = 10 ^ n * hwN fog K B TN + wN B TN v n (ghK fog K B TN) := by
    intro fog
    rw [foN_add (fun s => hwN fog K B TN * wyN v s n 0 1) (fun s => wyN v s n 0 1 * pwN B TN s n 0 (ghK fog K B TN)), foN_mul, wy_all hv n, Nat.mul_comm]
    rfl
  have q3 : ∀ w a b : Nat, w * (a + b) = a * w + w * b := fun w a b => by rw [Nat.mul_add, Nat.mul_comm w a]
  rw [← half false, ← half true]
  unfold wN
  rw [Nat.pow_succ, Nat.mul_comm (2 ^ n) 2]
  have e := foN_2 (fun s => wyN v s (n + 1) 0 1 * pwN B TN s (n + 1) 0 K) (2 ^ n) 0 0
  rw [Nat.mul_zero] at e
  rw [e, foN_eq (h := fun s => (10 - v) * (hwN false K B TN * wyN v s n 0 1 + wyN v s n 0 1 * pwN B TN s n 0 (ghK false K B TN)) + v * (hwN true K B TN * wyN v s n 0 1 + wyN v s n 0 1 * pwN B TN s n 0 (ghK true K B TN))) (fun s => by rw [wy_0, wy_1, pw_0, pw_1, Nat.mul_assoc, Nat.mul_assoc, q3 (wyN v s n 0 1) (hwN false K B TN), q3 (wyN v s n 0 1) (hwN true K B TN)])]
  rw [foN_add (fun s => (10 - v) * (hwN false K B TN * wyN v s n 0 1 + wyN v s n 0 1 * pwN B TN s n 0 (ghK false K B TN))) (fun s => v * (hwN true K B TN * wyN v s n 0 1 + wyN v s n 0 1 * pwN B TN s n 0 (ghK true K B TN))), foN_mul, foN_mul]
/-- of one Talk -/
def uN (B TN v t m : Nat) (K : CK) : Nat := match m with
  | 0 => 0
  | m + 1 => (10 - v) * (10 ^ m * qN false K B t + uN B TN v t m (ghK false K B TN)) + v * (10 ^ m * qN true K B t + uN B TN v t m (ghK true K B TN))
theorem foN_0 : ∀ (m s : Nat), foN (fun _ => 0) m s 0 = 0
  | 0, _ => rfl
  | m + 1, s => foN_0 m (s + 1)
theorem wN_0 {B TN v : Nat} {K : CK} : wN B TN v 0 K = 0 := rfl
theorem wN_u {B TN v : Nat} (hv : v ≤ 10) : ∀ (m : Nat) (K : CK), wN B TN v m K = foN (fun t => uN B TN v t m K) TN 0 0
  | 0, K => by
    rw [wN_0]
    exact (foN_0 TN 0).symm
  | m + 1, K => by
    have half : ∀ fog, 10 ^ m * hwN fog K B TN + wN B TN v m (ghK fog K B TN) = foN (fun t => 10 ^ m * qN fog K B t + uN B TN v t m (ghK fog K B TN)) TN 0 0 := by
      intro fog
      rw [foN_add (fun t => 10 ^ m * qN fog K B t) (fun t => uN B TN v t m (ghK fog K B TN)), foN_mul, wN_u hv m (ghK fog K B TN)]
      rfl
    rw [wN_s hv, half false, half true, ← foN_mul, ← foN_mul, ← foN_add]
    rfl
theorem uN_le {B TN v t : Nat} (hv : v ≤ 10) : ∀ (m : Nat) (K : CK), uN B TN v t m K ≤ 2 * m * 10 ^ m
  | 0, K => Nat.le_refl 0
  | m + 1, K => by
    have half : ∀ fog, 10 ^ m * qN fog K B t + uN B TN v t m (ghK fog K B TN) ≤ 2 * (m + 1) * 10 ^ m := by
      intro fog
      have h1 := uN_le (B := B) (TN := TN) (t := t) hv m (ghK fog K B TN)
      have h2 := Nat.mul_le_mul_left (10 ^ m) (qN_ok fog K B t).1
      have e : 2 * (m + 1) * 10 ^ m = 10 ^ m * 2 + 2 * m * 10 ^ m := by
        rw [show 2 * (m + 1) = 2 + 2 * m by omega, Nat.add_mul, Nat.mul_comm 2 (10 ^ m)]
      omega
    have h1 := Nat.mul_le_mul_left (10 - v) (half false)
    have h2 := Nat.mul_le_mul_left v (half true)
    have e : (10 - v) * (2 * (m + 1) * 10 ^ m) + v * (2 * (m + 1) * 10 ^ m) = 2 * (m + 1) * 10 ^ (m + 1) := by
      rw [← Nat.add_mul, show 10 - v + v = 10 by omega, Nat.pow_succ, ← Nat.mul_assoc (2 * (m + 1)) (10 ^ m) 10, Nat.mul_comm 10]
    unfold uN
    omega
theorem wN_le {B TN v m : Nat} (hv : v ≤ 10) (hTN : TN ≤ 6) (hm : m ≤ 8) (K : CK) : wN B TN v m K < 2 ^ 62 := by
  rw [wN_u hv m K]
  have h1 := foN_le (g := fun t => uN B TN v t m K) (c := 2 * m * 10 ^ m) TN 0 (fun t _ _ => uN_le hv m K)
  have h2 : 10 ^ m ≤ 10 ^ 8 := Nat.pow_le_pow_right (by decide) hm
  have h3 : 2 * m * 10 ^ m ≤ 16 * 10 ^ 8 := Nat.mul_le_mul (by omega) h2
  have h4 : TN * (2 * m * 10 ^ m) ≤ 6 * (16 * 10 ^ 8) := Nat.mul_le_mul hTN h3
  omega
/-- the class's sum over the Talks -/
theorem mnS_N {E : Nat → Int64} {g : Nat → Nat} {N : Nat} (e : ∀ t, t < N → E t = lN (g t)) : ∀ m t a, t + m ≤ N → mnS E m t (lN a) = lN (foN g m t a)
  | 0, _, _, _ => rfl
  | m + 1, t, a, h => by
    unfold mnS foN
    rw [e t (by omega), lN_add]
    exact mnS_N e m (t + 1) (a + g t) (by omega)
theorem mean_eq {K : CK} {B TN S SP t i j v : Nat} {me m1 m2 : List Int32} (hv : v ≤ 10) (hg : CG K B TN S) (hr : rng K B) (htt : t < TN) (hi : i < B) (hj : j < B) (hij : i ≠ j) (hSP : SP ≤ 8) : ∀ (m k : Nat) (K' : CK), k + m = SP → Lb B (Cmv K B k) K' → Rs K' B TN S → (K'.2.2.getD t dT).1 = nI i → (K'.2.2.getD t dT).2.1 = nI j → wW (nI v) (K.2.1.1.getD i 0) (K.2.1.1.getD j 0) K.1.2.1 (up (wtM K.1.1 B K.2.1.2.2.1 (ksK K) (5 * i + j)) SP me) (up (wtN K.1.1 B K.2.1.2.2.1 (ksK K) i) SP m1) (up (wtN K.1.1 B K.2.1.2.2.1 (ksK K) j) SP m2) m k (K'.2.2.getD t dT) = lN (uN B TN v t m K')
  | 0, k, K', hkm, hL, hs, e1, e2 => rfl
  | m + 1, k, K', hkm, hL, hs, e1, e2 => by
    have hB := hg.1.2.2.2.2.1
    have hk : k < SP := by omega
    have hf := fog_T (K := K) (k := k) hL hs htt
    have hc := clr_T (me := me) (m1 := m1) (m2 := m2) hg hr hL hs hi hj hij e1 e2 hk
    have hTf := gh_Tt true hs.1 htt
    have hTc := gh_Tt false hs.1 htt
    have qf : qN true K' B t = 0 := by
      unfold qN
      rw [hf]
      rfl
    have qc := (qN_ok false K' B t).2
    have qc2 := (qN_ok false K' B t).1
    rw [hf] at hTf
    rw [hc] at hTc qc
    dsimp only at hTf
    have hLs : ∀ fog, Lb B (Cmv K B (k + 1)) (ghK fog K' B TN) := fun fog => by
      rw [Cmv_s]
      exact Lb_s fog hL
    have ihf := mean_eq (me := me) (m1 := m1) (m2 := m2) hv hg hr htt hi hj hij hSP m (k + 1) (ghK true K' B TN) (by omega) (hLs true) (Rs_s true hs) (by rw [hTf]; exact T_sil2.1.trans e1) (by rw [hTf]; exact T_sil2.2.trans e2)
    rw [hTf] at ihf
    unfold wW uN
    rw [F_false]
    dsimp only
    rw [ihf]
    unfold F_ap
    rw [up_gd hk, qf, Nat.mul_zero, Nat.zero_add]
    rcases wtM_01 hg (x := 5 * i + j) (by omega) k with c | c
    · rw [c, decide_eq_false (by decide), F_false] at hTc qc
      dsimp only at hTc qc
      have qz : qN false K' B t = 0 := ((nI_eq (a := 0) (by omega) (by omega)).mp qc).symm
      have ihc := mean_eq (me := me) (m1 := m1) (m2 := m2) hv hg hr htt hi hj hij hSP m (k + 1) (ghK false K' B TN) (by omega) (hLs false) (Rs_s false hs) (by rw [hTc]; exact T_sil2.1.trans e1) (by rw [hTc]; exact T_sil2.2.trans e2)
      rw [hTc, ihf] at ihc
      rw [if_pos c, if_pos (by decide), if_neg (by decide), l64_0a, l64_10, qz, Nat.mul_zero, Nat.zero_add]
      exact lk_same hv ihc rfl
    · rw [c, decide_eq_true rfl] at hTc qc
      have hne : ¬ wtM K.1.1 B K.2.1.2.2.1 (ksK K) (5 * i + j) k = 0 := by
        rw [c]
        decide
      rw [if_neg hne]
      by_cases c10 : v = 10
      · rw [if_pos ((odd_le hv).1.mpr c10), if_neg (fun q => by have := (odd_le hv).2.mp q; omega), l64_0a, (v_l64' v hv).1, lN_mul, c10, show 10 - 10 = 0 from rfl, Nat.zero_mul, Nat.zero_add]
      · rw [if_neg (fun q => c10 ((odd_le hv).1.mp q))]
        have hL1 : (if nI v ≤ 0 then (0 : Int64) else 0 + (nI v).toInt64 * lN (uN B TN v t m (ghK true K' B TN))) = lN (v * uN B TN v t m (ghK true K' B TN)) := by
          by_cases c0 : v = 0
          · rw [if_pos ((odd_le hv).2.mpr c0), c0, Nat.zero_mul]
            rfl
          · rw [if_neg (fun q => c0 ((odd_le hv).2.mp q)), l64_0a, (v_l64' v hv).1, lN_mul]
        rw [hL1, (v_l64' v hv).2]
        have p2 := T_pass_2 (K'.2.2.getD t dT) true (if T_turn (K'.2.2.getD t dT) = (K'.2.2.getD t dT).1 then K.2.1.1.getD i 0 else K.2.1.1.getD j 0) (if T_turn (K'.2.2.getD t dT) = (K'.2.2.getD t dT).1 then (up (wtN K.1.1 B K.2.1.2.2.1 (ksK K) i) SP m1).getD k 0 else (up (wtN K.1.1 B K.2.1.2.2.1 (ksK K) j) SP m2).getD k 0) K.1.2.1
        rw [← F_true] at p2
        have ihc := mean_eq (me := me) (m1 := m1) (m2 := m2) hv hg hr htt hi hj hij hSP m (k + 1) (ghK false K' B TN) (by omega) (hLs false) (Rs_s false hs) (by rw [hTc]; exact p2.1.trans e1) (by rw [hTc]; exact p2.2.trans e2)
        rw [hTc] at ihc
        rw [ihc, qc, nI_l (by omega), p10_N, lN_mul, lN_add, lN_mul, lN_add, Nat.add_comm, Nat.mul_comm (10 ^ m) (qN false K' B t)]

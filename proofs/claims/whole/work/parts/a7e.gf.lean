/-! what is left of earlier runs does not tell -/
def Pr (K : CK) (B TN S k : Nat) (K1 K2 : CK) : Prop := Lb B (Cmv K B k) K1 ∧ Rs K1 B TN S ∧ Lb B (Cmv K B k) K2 ∧ Rs K2 B TN S ∧ ∀ t, t < TN → K1.2.2.getD t dT = K2.2.2.getD t dT
theorem hr_2 {K K1 K2 : CK} {B TN S k : Nat} (hg : CG K B TN S) (hr : rng K B) (h : Pr K B TN S k K1 K2) (fog : Bool) {t : Nat} (htt : t < TN) : T_hr K1.2.1.1 (gmN fog K1 B).2.1 (gmN fog K1 B).1 K1.1.2.1 (K1.2.2.getD t dT) = T_hr K2.2.1.1 (gmN fog K2 B).2.1 (gmN fog K2 B).1 K2.1.2.1 (K2.2.2.getD t dT) := by
  obtain ⟨h1, r1, h2, r2, hT⟩ := h
  have e := hT t htt
  cases fog with
  | true => rw [fog_T h1 r1 htt, fog_T h2 r2 htt, e]
  | false =>
    obtain ⟨i, j, hi, hj, hij, e1, e2⟩ := r1.2 t htt
    rw [clr_T (SP := k + 1) (me := []) (m1 := []) (m2 := []) hg hr h1 r1 hi hj hij e1 e2 (by omega), clr_T (SP := k + 1) (me := []) (m1 := []) (m2 := []) hg hr h2 r2 hi hj hij (by rw [← e]; exact e1) (by rw [← e]; exact e2) (by omega), e]
theorem Pr_s {K K1 K2 : CK} {B TN S k : Nat} (hg : CG K B TN S) (hr : rng K B) (h : Pr K B TN S k K1 K2) (fog : Bool) : Pr K B TN S (k + 1) (ghK fog K1 B TN) (ghK fog K2 B TN) := by
  have q := h
  obtain ⟨h1, r1, h2, r2, hT⟩ := h
  unfold Pr
  rw [Cmv_s]
  refine ⟨Lb_s fog h1, Rs_s fog r1, Lb_s fog h2, Rs_s fog r2, fun t htt => ?_⟩
  rw [gh_Tt fog r1.1 htt, gh_Tt fog r2.1 htt, hr_2 hg hr q fog htt]
/-- words -/
theorem pass_w (T : TT) (b : Bool) (k e m : Int32) : ∃ c, c ≤ 2 ∧ (T_pass T b k e m).1 = nI c := by
  have hw : ∃ c, c ≤ 2 ∧ (T_words T k e).1 = nI c := by
    unfold T_words
    by_cases c1 : k = 3
    · rw [if_pos c1]
      cases T.2.2.2.2.2.1 with
      | false => exact ⟨0, by omega, rfl⟩
      | true =>
        dsimp only
        by_cases c4 : 1 < e
        · rw [if_pos c4]
          exact ⟨0, by omega, rfl⟩
        · rw [if_neg c4]
          exact ⟨1, by omega, rfl⟩
    · rw [if_neg c1]
      by_cases c2 : k = 2
      · rw [if_pos c2]
        dsimp only
        by_cases c4 : 1 < e
        · rw [if_pos c4]
          exact ⟨0, by omega, rfl⟩
        · rw [if_neg c4]
          exact ⟨1, by omega, rfl⟩
      · rw [if_neg c2]
        by_cases c3 : k = 1
        · rw [if_pos c3]
          exact ⟨2, by omega, rfl⟩
        · rw [if_neg c3]
          exact ⟨1, by omega, rfl⟩
  unfold T_pass
  cases b with
  | false => exact ⟨0, by omega, rfl⟩
  | true =>
    dsimp only
    by_cases cc : 0 < (T_words T k e).1
    · rw [if_pos cc]
      exact hw
    · rw [if_neg cc]
      exact hw
def qN (fog : Bool) (K : CK) (B t : Nat) : Nat := (T_hr K.2.1.1 (gmN fog K B).2.1 (gmN fog K B).1 K.1.2.1 (K.2.2.getD t dT)).1.toNatClampNeg
theorem qN_ok (fog : Bool) (K : CK) (B t : Nat) : qN fog K B t ≤ 2 ∧ (T_hr K.2.1.1 (gmN fog K B).2.1 (gmN fog K B).1 K.1.2.1 (K.2.2.getD t dT)).1 = nI (qN fog K B t) := by
  obtain ⟨c, h1, h2⟩ := pass_w (K.2.2.getD t dT) (decide ((gmN fog K B).1.getD (5 * (K.2.2.getD t dT).1.toNatClampNeg + (K.2.2.getD t dT).2.1.toNatClampNeg) 0 = 1)) (K.2.1.1.getD (T_turn (K.2.2.getD t dT)).toNatClampNeg 0) ((gmN fog K B).2.1.getD (T_turn (K.2.2.getD t dT)).toNatClampNeg 0) K.1.2.1
  have e : (T_hr K.2.1.1 (gmN fog K B).2.1 (gmN fog K B).1 K.1.2.1 (K.2.2.getD t dT)).1 = nI c := h2
  unfold qN
  rw [e, nI_clamp (by omega)]
  exact ⟨h1, rfl⟩
theorem foN_last (g : Nat → Nat) : ∀ m s, foN g (m + 1) s 0 = foN g m s 0 + g (s + m)
  | 0, s => by
    show 0 + g s = 0 + g (s + 0)
    rfl
  | m + 1, s => by
    have e1 : foN g (m + 1 + 1) s 0 = foN g (m + 1) (s + 1) (0 + g s) := rfl
    have e2 : foN g (m + 1) s 0 = foN g m (s + 1) (0 + g s) := rfl
    rw [e1, e2, foN_a g (m + 1) (s + 1), foN_a g m (s + 1), foN_last g m (s + 1), show s + 1 + m = s + (m + 1) by omega]
    omega
theorem foN_lt {g h : Nat → Nat} : ∀ (m s : Nat), (∀ t, s ≤ t → t < s + m → g t = h t) → foN g m s 0 = foN h m s 0
  | 0, _, _ => rfl
  | m + 1, s, e => by
    rw [foN_last, foN_last, foN_lt m s (fun t a b => e t a (by omega)), e (s + m) (by omega) (by omega)]
theorem foN_le {g : Nat → Nat} {c : Nat} : ∀ (m s : Nat), (∀ t, s ≤ t → t < s + m → g t ≤ c) → foN g m s 0 ≤ m * c
  | 0, _, _ => Nat.zero_le _
  | m + 1, s, e => by
    have h1 := foN_le (g := g) (c := c) m s (fun t a b => e t a (by omega))
    have h2 := e (s + m) (by omega) (by omega)
    rw [foN_last, Nat.succ_mul]
    omega
def hwN (fog : Bool) (K : CK) (B TN : Nat) : Nat := foN (qN fog K B) TN 0 0
theorem wd_N {K : CK} {B : Nat} {fog : Bool} : ∀ (n : Nat), n ≤ K.2.2.length → T_wd K.2.1.1 (gmN fog K B).2.1 (gmN fog K B).1 K.1.2.1 K.1.2.2.2.2.2.2.1 (K.2.2.take n) = K.1.2.2.2.2.2.2.1 + nI (foN (qN fog K B) n 0 0)
  | 0, _ => by
    show K.1.2.2.2.2.2.2.1 = K.1.2.2.2.2.2.2.1 + 0
    rw [Int32.add_zero]
  | n + 1, h => by
    rw [T_wd_s (getT_at (l := K.2.2) (k := n) (by omega)), wd_N n (by omega), foN_last, (qN_ok fog K B n).2, Int32.add_assoc, nI_add, Nat.zero_add]
theorem gh_w0 (fog : Bool) (K : CK) (B TN : Nat) : (ghK fog K B TN).1.2.2.2.2.2.2.1 = T_wd K.2.1.1 (gmN fog K B).2.1 (gmN fog K B).1 K.1.2.1 K.1.2.2.2.2.2.2.1 (K.2.2.take TN) := rfl
theorem gh_w {fog : Bool} {K : CK} {B TN S : Nat} (hg : CG K B TN S) : (ghK fog K B TN).1.2.2.2.2.2.2.1 = K.1.2.2.2.2.2.2.1 + nI (hwN fog K B TN) := by
  rw [gh_w0, wd_N TN (by rw [CG6 hg]; exact hg.1.2.2.2.2.2.1)]
  rfl
theorem hw_2 {K K1 K2 : CK} {B TN S k : Nat} (hg : CG K B TN S) (hr : rng K B) (h : Pr K B TN S k K1 K2) (fog : Bool) : hwN fog K1 B TN = hwN fog K2 B TN := by
  unfold hwN
  refine foN_lt TN 0 (fun t _ ht => ?_)
  unfold qN
  rw [hr_2 hg hr h fog (by omega)]
def pwN (B TN s m k : Nat) (K : CK) : Nat := match m with
  | 0 => 0
  | m + 1 => hwN (s.testBit k) K B TN + pwN B TN s m (k + 1) (ghK (s.testBit k) K B TN)
theorem gf_w {B TN S s : Nat} : ∀ (m k : Nat) (K : CK), CG K B TN S → (gfK B TN s m k K).1.2.2.2.2.2.2.1 = K.1.2.2.2.2.2.2.1 + nI (pwN B TN s m k K)
  | 0, _, K, _ => by
    show K.1.2.2.2.2.2.2.1 = K.1.2.2.2.2.2.2.1 + 0
    rw [Int32.add_zero]
  | m + 1, k, K, h => by
    unfold gfK pwN
    rw [gf_w m (k + 1) _ (CG_gh _ h), gh_w h, Int32.add_assoc, nI_add]
theorem pw_2 {K : CK} {B TN S s : Nat} (hg : CG K B TN S) (hr : rng K B) : ∀ (m k k' : Nat) (K1 K2 : CK), Pr K B TN S k' K1 K2 → pwN B TN s m k K1 = pwN B TN s m k K2
  | 0, _, _, _, _, _ => rfl
  | m + 1, k, k', K1, K2, h => by
    unfold pwN
    rw [hw_2 hg hr h, pw_2 hg hr m (k + 1) (k' + 1) _ _ (Pr_s hg hr h _)]
theorem gf_2 {K : CK} {B TN S s : Nat} (hg : CG K B TN S) (hr : rng K B) : ∀ (m k k' : Nat) (K1 K2 : CK), Pr K B TN S k' K1 K2 → ∀ t, t < TN → (gfK B TN s m k K1).2.2.getD t dT = (gfK B TN s m k K2).2.2.getD t dT
  | 0, _, _, _, _, h, t, ht => h.2.2.2.2 t ht
  | m + 1, k, k', K1, K2, h, t, ht => by
    unfold gfK
    exact gf_2 hg hr m (k + 1) (k' + 1) _ _ (Pr_s hg hr h _) t ht
theorem pw_le {B TN s : Nat} (hTN : TN ≤ 6) : ∀ (m k : Nat) (K : CK), pwN B TN s m k K ≤ 12 * m
  | 0, _, _ => Nat.zero_le _
  | m + 1, k, K => by
    unfold pwN
    have h1 := pw_le (B := B) (s := s) hTN m (k + 1) (ghK (s.testBit k) K B TN)
    have h2 := foN_le (g := qN (s.testBit k) K B) (c := 2) TN 0 (fun t _ _ => (qN_ok _ K B t).1)
    unfold hwN
    omega

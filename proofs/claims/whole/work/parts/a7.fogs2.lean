/-! in the fog nobody meets -/
theorem nmI_out {f : Nat → Nat → Bool} {i x : Nat} : ∀ (m j : Nat) (s : NW3), (∀ j', j ≤ j' → j' < j + m → 5 * i + j' ≠ x) → (nmI f i m j s).1.getD x 0 = s.1.getD x 0
  | 0, _, _, _ => rfl
  | m + 1, j, s, h => by
    unfold nmI
    rw [nmI_out m (j + 1) _ (fun j' a b => h j' (by omega) (by omega))]
    show (s.1.set (5 * i + j) (bI (f i j))).getD x 0 = _
    exact gd_ne (h j (by omega) (by omega))
theorem nmI_in {f : Nat → Nat → Bool} {i j' : Nat} : ∀ (m j : Nat) (s : NW3), j ≤ j' → j' < j + m → 5 * i + j' < s.1.length → (nmI f i m j s).1.getD (5 * i + j') 0 = bI (f i j')
  | 0, _, _, h1, h2, _ => absurd h2 (by omega)
  | m + 1, j, s, h1, h2, h3 => by
    unfold nmI
    by_cases e : j = j'
    · rw [nmI_out m (j + 1) _ (fun j2 a b => by omega), e]
      show (s.1.set (5 * i + j') (bI (f i j'))).getD (5 * i + j') 0 = _
      exact gd_self h3
    · exact nmI_in m (j + 1) _ (by omega) (by omega) (by show _ < (s.1.set _ _).length; rw [List.length_set]; exact h3)
theorem nmO_out {f : Nat → Nat → Bool} {B x : Nat} : ∀ (m i : Nat) (s : NW3), (∀ i' j', i ≤ i' → i' < i + m → j' < B → 5 * i' + j' ≠ x) → (nmO f B m i s).1.getD x 0 = s.1.getD x 0
  | 0, _, _, _ => rfl
  | m + 1, i, s, h => by
    unfold nmO
    rw [nmO_out m (i + 1) _ (fun i' j' a b c => h i' j' (by omega) (by omega) c)]
    exact nmI_out B 0 s (fun j' a b => h i j' (by omega) (by omega) (by omega))
theorem nmO_in {f : Nat → Nat → Bool} {B i' j' : Nat} (hB : B ≤ 5) (hj : j' < B) : ∀ (m i : Nat) (s : NW3), i ≤ i' → i' < i + m → i + m ≤ 5 → s.1.length = 25 → (nmO f B m i s).1.getD (5 * i' + j') 0 = bI (f i' j')
  | 0, _, _, h1, h2, _, _ => absurd h2 (by omega)
  | m + 1, i, s, h1, h2, h3, h4 => by
    unfold nmO
    by_cases e : i = i'
    · rw [nmO_out m (i + 1) _ (fun i2 j2 a b c => by omega), e]
      exact nmI_in B 0 s (by omega) (by omega) (by omega)
    · refine nmO_in hB hj m (i + 1) _ (by omega) (by omega) (by omega) ?_
      have hl : ∀ (m j : Nat) (s : NW3), (nmI f i m j s).1.length = s.1.length := by
        intro m
        induction m with
        | zero => intro j s; rfl
        | succ m ih =>
          intro j s
          unfold nmI
          rw [ih]
          exact List.length_set
      rw [hl]
      exact h4
/-- an hour of a Talk of the reference's, in the fog -/
theorem fog_hr {K : CK} {B TN S t : Nat} (hg : CG K B TN S) (htt : t < TN) (hb : bT B (K.2.2.getD t dT)) : (ghK true K B TN).2.2.getD t dT = T_silent (K.2.2.getD t dT) K.1.2.1 := by
  have l6 := CG6 hg
  have hTN := hg.1.2.2.2.2.2.1
  have hB := hg.1.2.2.2.2.1
  have l10 : K.2.1.2.2.2.2.2.2.2.2.2.length = 25 := hg.1.1.2.2.2.2.2.2.2.2.2.1
  obtain ⟨i, j, hi, hj, hij, e1, e2⟩ := hb
  show (mapUp (fun T => (T_hr K.2.1.1 (gmK true K B).2.1.2.2.2.2.2.2.2.2.1 (gmK true K B).2.1.2.2.2.2.2.2.2.2.2 K.1.2.1 T).2) TN K.2.2).getD t dT = _
  rw [mapUp_gd htt (by omega)]
  have e3 : (gmK true K B).2.1.2.2.2.2.2.2.2.2.2.getD (5 * i + j) 0 = 0 := by
    show (gmN true K B).1.getD (5 * i + j) 0 = 0
    unfold gmN
    rw [nmO_in hB hj B 0 _ (by omega) (by omega) (by omega) l10]
    unfold nmQ
    rw [show (!true) = false from rfl, Bool.false_and, Bool.and_false]
    rfl
  unfold T_hr
  rw [e1, e2, nI_clamp (by omega), nI_clamp (by omega), e3, decide_eq_false (by decide)]
  rfl

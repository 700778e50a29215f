/-! need -/
/-- a Talk whose silence is at most s -/
def wTs (B s : Nat) (T : TT) : Prop := bT B T ∧ ∃ nd sa si : Nat, 1 ≤ nd ∧ nd ≤ 20 ∧ sa < nd ∧ si ≤ s ∧ (sa = 0 → si = 0) ∧ T.2.2.1 = nI nd ∧ T.2.2.2.1 = nI sa ∧ T.2.2.2.2.1 = nI si
theorem wTs_k {B : Nat} {T : TT} (h : wTk B T) : wTs B 99 T := h
/-- what memory does in an hour: nothing, or one more lost -/
def mmP (B s v : Nat) (T R V : TT) : Prop := wTs B (s + 1) R ∧ R.2.2.2.2.2.2.2.2.2 = T.2.2.2.2.2.2.2.2.2 ∧ ((R.2.2.2.2.1 ≤ nI v ∧ V = R) ∨ (¬ R.2.2.2.2.1 ≤ nI v ∧ V.2.2.2.2.2.2.2.2.2 = T.2.2.2.2.2.2.2.2.2 + 1))
theorem z_le {v : Nat} (hv : v < 2 ^ 31) : (0 : Int32) ≤ nI v := nI_le (a := 0) (by omega) hv
theorem mm_silent {B s v : Nat} {T : TT} (hs : s < 999999) (hv : v < 2 ^ 31) (h : wTs B s T) : mmP B s v T (T_silent T 1000000) (T_silent T (nI v)) := by
  obtain ⟨h1, nd, sa, si, a1, a2, a3, a4, a5, e1, e2, e3⟩ := h
  have e4 : T.2.2.2.2.1 + 1 = nI (si + 1) := by rw [e3]; exact nI_1 si
  unfold T_silent
  by_cases c1 : T.2.2.2.1 ≤ 0
  · rw [if_pos c1, if_pos c1]
    have hsa : sa = 0 := by
      rw [e2] at c1
      by_cases c : sa = 0
      · exact c
      · exact absurd c1 (nI_ge (a := 0) (by omega) (by omega))
    refine ⟨⟨h1, nd, sa, si, a1, a2, a3, by omega, a5, e1, e2, e3⟩, rfl, Or.inl ⟨?_, rfl⟩⟩
    rw [e3, a5 hsa]
    exact z_le hv
  · rw [if_neg c1, if_neg c1]
    have c3 : ¬ (1000000 : Int32) < T.2.2.2.2.1 + 1 := by
      rw [e4]
      exact nI_nlt (a := 1000000) (by omega) (by decide)
    have hsa : sa ≠ 0 := fun q => c1 (by rw [e2, q]; exact Int32.le_refl 0)
    rw [if_neg c3]
    by_cases c2 : nI v < T.2.2.2.2.1 + 1
    · rw [if_pos c2]
      refine ⟨⟨bT_of h1 ⟨rfl, rfl⟩, nd, sa, si + 1, a1, a2, a3, by omega, fun q => absurd q hsa, e1, e2, e4⟩, rfl, Or.inr ⟨Int32.not_le.mpr c2, rfl⟩⟩
    · rw [if_neg c2]
      exact ⟨⟨bT_of h1 ⟨rfl, rfl⟩, nd, sa, si + 1, a1, a2, a3, by omega, fun q => absurd q hsa, e1, e2, e4⟩, rfl, Or.inl ⟨Int32.not_lt.mp c2, rfl⟩⟩
theorem ws_goOn {B s : Nat} {T : TT} {k : Nat} (hk : k ≤ 2) (h : wTs B s T) : wTs B (s + 1) (T_goOn T (nI k)) ∧ (T_goOn T (nI k)).2.2.2.2.1 = 0 ∧ (T_goOn T (nI k)).2.2.2.2.2.2.2.2.2 = T.2.2.2.2.2.2.2.2.2 := by
  obtain ⟨h1, nd, sa, si, a1, a2, a3, a4, a5, e1, e2, e3⟩ := h
  unfold T_goOn
  rw [e1, e2, nI_add, mn_nI (by omega) (by omega)]
  by_cases c : nI (min nd (sa + k)) = nI nd
  · rw [if_pos c]
    exact ⟨⟨bT_of h1 ⟨rfl, rfl⟩, nd, 0, 0, a1, a2, by omega, by omega, fun _ => rfl, rfl, rfl, rfl⟩, rfl, rfl⟩
  · rw [if_neg c]
    refine ⟨⟨bT_of h1 ⟨rfl, rfl⟩, nd, min nd (sa + k), 0, a1, a2, ?_, by omega, fun _ => rfl, rfl, rfl, rfl⟩, rfl, rfl⟩
    rw [nI_eq (by omega) (by omega)] at c
    omega
theorem ws_words {B s : Nat} {T : TT} (k m : Int32) (h : wTs B s T) : wTs B s (T_words T k m).2 ∧ (T_words T k m).2.2.2.2.2.2.2.2.2.2 = T.2.2.2.2.2.2.2.2.2 ∧ ((T_words T k m).1 = nI 0 ∨ (T_words T k m).1 = nI 1 ∨ (T_words T k m).1 = nI 2) := by
  have hn : ∀ b, wTs B s (T_nod T b) := by
    intro b
    obtain ⟨h1, hh⟩ := h
    exact ⟨bT_of h1 ⟨rfl, rfl⟩, hh⟩
  unfold T_words
  by_cases c1 : k = 3
  · rw [if_pos c1]
    cases T.2.2.2.2.2.1 with
    | false => exact ⟨hn true, rfl, Or.inl rfl⟩
    | true =>
      refine ⟨hn false, rfl, ?_⟩
      dsimp only
      by_cases c : 1 < m
      · rw [if_pos c]
        exact Or.inl rfl
      · rw [if_neg c]
        exact Or.inr (Or.inl rfl)
  · rw [if_neg c1]
    by_cases c2 : k = 2
    · rw [if_pos c2]
      refine ⟨h, rfl, ?_⟩
      dsimp only
      by_cases c : 1 < m
      · rw [if_pos c]
        exact Or.inl rfl
      · rw [if_neg c]
        exact Or.inr (Or.inl rfl)
    · rw [if_neg c2]
      by_cases c3 : k = 1
      · rw [if_pos c3]
        exact ⟨h, rfl, Or.inr (Or.inr rfl)⟩
      · rw [if_neg c3]
        exact ⟨h, rfl, Or.inr (Or.inl rfl)⟩
theorem mm_pass {B s v : Nat} {T : TT} (b : Bool) (k e : Int32) (hs : s < 999999) (hv : v < 2 ^ 31) (h : wTs B s T) : (T_pass T b k e (nI v)).1 = (T_pass T b k e 1000000).1 ∧ mmP B s v T (T_pass T b k e 1000000).2 (T_pass T b k e (nI v)).2 := by
  unfold T_pass
  cases b with
  | false => exact ⟨rfl, mm_silent hs hv h⟩
  | true =>
    obtain ⟨w1, w2, w3⟩ := ws_words k e h
    dsimp only
    by_cases c : 0 < (T_words T k e).1
    · rw [if_pos c, if_pos c]
      refine ⟨rfl, ?_⟩
      have key : ∀ j : Nat, j ≤ 2 → mmP B s v T (T_goOn (T_words T k e).2 (nI j)) (T_goOn (T_words T k e).2 (nI j)) := by
        intro j hj
        obtain ⟨g1, g2, g3⟩ := ws_goOn hj w1
        refine ⟨g1, g3.trans w2, Or.inl ⟨?_, rfl⟩⟩
        rw [g2]
        exact z_le hv
      rcases w3 with q | q | q
      · rw [q]
        exact key 0 (by decide)
      · rw [q]
        exact key 1 (by decide)
      · rw [q]
        exact key 2 (by decide)
    · rw [if_neg c, if_neg c]
      refine ⟨rfl, ?_⟩
      obtain ⟨m1, m2, m3⟩ := mm_silent hs hv w1
      refine ⟨m1, m2.trans w2, ?_⟩
      rcases m3 with ⟨q1, q2⟩ | ⟨q1, q2⟩
      · exact Or.inl ⟨q1, q2⟩
      · refine Or.inr ⟨q1, ?_⟩
        show (T_silent (T_words T k e).2 (nI v)).2.2.2.2.2.2.2.2.2 = _
        rw [q2, w2]
/-- how many were lost -/
def r10 (lo hi : Nat) (T : TT) : Prop := ∃ c, lo ≤ c ∧ c ≤ hi ∧ T.2.2.2.2.2.2.2.2.2 = nI c
theorem r10_silent {lo hi : Nat} {T : TT} (m : Int32) (h : r10 lo hi T) : r10 lo (hi + 1) (T_silent T m) := by
  obtain ⟨c, h1, h2, h3⟩ := h
  unfold T_silent
  by_cases c1 : T.2.2.2.1 ≤ 0
  · rw [if_pos c1]
    exact ⟨c, h1, by omega, h3⟩
  · rw [if_neg c1]
    by_cases c2 : m < T.2.2.2.2.1 + 1
    · rw [if_pos c2]
      refine ⟨c + 1, by omega, by omega, ?_⟩
      show T.2.2.2.2.2.2.2.2.2 + 1 = _
      rw [h3]
      exact nI_1 c
    · rw [if_neg c2]
      exact ⟨c, h1, by omega, h3⟩
theorem t10_goOn (T : TT) (w : Int32) : (T_goOn T w).2.2.2.2.2.2.2.2.2 = T.2.2.2.2.2.2.2.2.2 := by
  unfold T_goOn
  by_cases c : mnI T.2.2.1 (T.2.2.2.1 + w) = T.2.2.1
  · rw [if_pos c]
    rfl
  · rw [if_neg c]
theorem t10_words (T : TT) (k m : Int32) : (T_words T k m).2.2.2.2.2.2.2.2.2.2 = T.2.2.2.2.2.2.2.2.2 := by
  unfold T_words
  by_cases c1 : k = 3
  · rw [if_pos c1]
    cases T.2.2.2.2.2.1 with
    | false => rfl
    | true => rfl
  · rw [if_neg c1]
    by_cases c2 : k = 2
    · rw [if_pos c2]
    · rw [if_neg c2]
      by_cases c3 : k = 1
      · rw [if_pos c3]
      · rw [if_neg c3]
theorem r10_eq {lo hi : Nat} {T U : TT} (e : U.2.2.2.2.2.2.2.2.2 = T.2.2.2.2.2.2.2.2.2) (h : r10 lo hi T) : r10 lo hi U := by
  obtain ⟨c, h1, h2, h3⟩ := h
  exact ⟨c, h1, h2, e.trans h3⟩
theorem r10_le {lo hi hi2 : Nat} {T : TT} (hh : hi ≤ hi2) (h : r10 lo hi T) : r10 lo hi2 T := by
  obtain ⟨c, h1, h2, h3⟩ := h
  exact ⟨c, h1, by omega, h3⟩
theorem r10_pass {lo hi : Nat} {T : TT} (b : Bool) (k e m : Int32) (h : r10 lo hi T) : r10 lo (hi + 1) (T_pass T b k e m).2 := by
  unfold T_pass
  cases b with
  | false => exact r10_silent m h
  | true =>
    dsimp only
    by_cases c : 0 < (T_words T k e).1
    · rw [if_pos c]
      exact r10_le (by omega) (r10_eq ((t10_goOn _ _).trans (t10_words T k e)) h)
    · rw [if_neg c]
      exact r10_silent m (r10_eq (t10_words T k e) h)
theorem r10_it {B TN S lo t : Nat} (htt : t < TN) : ∀ (m hi : Nat) (K : CK), CG K B TN S → r10 lo hi (K.2.2.getD t dT) → r10 lo (hi + m) ((itC K B TN m).2.2.getD t dT)
  | 0, _, _, _, h => h
  | m + 1, hi, K, hg, h => by
    have l6 := CG6 hg
    have hTN := hg.1.2.2.2.2.2.1
    have ih := r10_it (S := S) htt m (hi + 1) (hrC K B TN) (CG_hr hg) (by
      show r10 lo (hi + 1) ((mapUp (fun T => (T_hr K.2.1.1 (mvC K B).2.1.2.2.2.2.2.2.2.2.1 (mvC K B).2.1.2.2.2.2.2.2.2.2.2 K.1.2.1 T).2) TN K.2.2).getD t dT)
      rw [mapUp_gd htt (by omega)]
      exact r10_pass _ _ _ _ h)
    rw [show hi + (m + 1) = hi + 1 + m by omega]
    exact ih
theorem r10_sum {n : Nat} (hn : n < 1000) : ∀ (l : List TT) (a : Nat), (∀ T ∈ l, r10 0 n T) → ∃ s, a ≤ s ∧ s ≤ a + l.length * n ∧ l.foldl (fun a T => a + T_tell T 10) (nI a) = nI s ∧ ((∃ T ∈ l, r10 1 n T) → a + 1 ≤ s)
  | [], a, _ => ⟨a, by omega, by omega, rfl, fun ⟨T, hT, _⟩ => by cases hT⟩
  | T :: l, a, h => by
    obtain ⟨c, h0, h1, h2⟩ := h T List.mem_cons_self
    obtain ⟨s, h3, h4, h5, h6⟩ := r10_sum hn l (a + c) (fun U hU => h U (List.mem_cons_of_mem _ hU))
    refine ⟨s, by omega, ?_, ?_, ?_⟩
    · rw [List.length_cons, Nat.succ_mul]
      omega
    · rw [List.foldl_cons, show T_tell T 10 = nI c from h2, nI_add]
      exact h5
    · intro ⟨U, hU, c', u1, u2, u3⟩
      rcases List.mem_cons.mp hU with q | q
      · subst q
        have e : c = c' := (nI_eq (by omega) (by omega)).mp (h2.symm.trans u3)
        omega
      · have := h6 ⟨U, q, c', u1, u2, u3⟩
        omega

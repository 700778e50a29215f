/-! say -/
section LK5
variable (xs : List Int32) (d : Nat) (now trial told im0 im1 : CK) (p : TP) (f : FP) (r : RS) (tr : Int32) (z : ZT) (Ks : CK) (I0 I1 nw eb wa ms mt : List Int32) (cc : C4) (B TN S : Nat)
variable {now trial told im0 im1 p f r tr z Ks I0 I1 nw eb wa ms mt cc B TN S}
/-- say -/
theorem words_clr (T : TT) (k m : Int32) : T_words (T_clr T) k m = ((T_words T k m).1, T_clr (T_words T k m).2) := by
  obtain ⟨t1, t2, t3, t4, t5, t6, t7, t8, t9, t10⟩ := T
  unfold T_words
  dsimp only [T_clr]
  by_cases c1 : k = 3
  · rw [if_pos c1, if_pos c1]
    cases t6 with
    | false => rfl
    | true => rfl
  · rw [if_neg c1, if_neg c1]
    by_cases c2 : k = 2
    · rw [if_pos c2, if_pos c2]
    · rw [if_neg c2, if_neg c2]
      by_cases c3 : k = 1
      · rw [if_pos c3, if_pos c3]
      · rw [if_neg c3, if_neg c3]
theorem goOn_clr (T : TT) (w : Int32) : T_clr (T_goOn (T_clr T) w) = T_clr (T_goOn T w) := by
  unfold T_goOn
  by_cases c : mnI T.2.2.1 (T.2.2.2.1 + w) = T.2.2.1
  · rw [if_pos c, if_pos (show mnI (T_clr T).2.2.1 ((T_clr T).2.2.2.1 + w) = (T_clr T).2.2.1 from c)]
    simp only [T_off, T_clr]
  · rw [if_neg c, if_neg (show ¬ mnI (T_clr T).2.2.1 ((T_clr T).2.2.2.1 + w) = (T_clr T).2.2.1 from c)]
    simp only [T_clr]
theorem say_clr (kd : List Int32) (T : TT) : (sayT kd (T_clr T)).1 = (sayT kd T).1 ∧ T_clr (sayT kd (T_clr T)).2 = T_clr (sayT kd T).2 := by
  have e : T_turn (T_clr T) = T_turn T := rfl
  unfold sayT
  rw [e, words_clr]
  dsimp only
  by_cases c : 0 < (T_words T (kd.getD (T_turn T).toNatClampNeg 0) 1).1
  · rw [if_pos c, if_pos c]
    exact ⟨rfl, goOn_clr _ _⟩
  · rw [if_neg c, if_neg c]
    exact ⟨rfl, rfl⟩
theorem turn_b {T : TT} (h : bT B T) : ∃ w, w < B ∧ T_turn T = nI w := by
  obtain ⟨i, j, h1, h2, -, h4, h5⟩ := h
  unfold T_turn
  by_cases c : T.2.2.2.1 - T.2.2.2.1 / 2 * 2 = 0
  · rw [if_pos c]
    exact ⟨i, h1, h4⟩
  · rw [if_neg c]
    exact ⟨j, h2, h5⟩
theorem wTk_nod {T : TT} (b : Bool) (h : wTk B T) : wTk B (T_nod T b) := by
  obtain ⟨h1, nd, sa, si, hh⟩ := h
  exact ⟨bT_of h1 ⟨rfl, rfl⟩, nd, sa, si, hh⟩
theorem wTk_words {T : TT} (k m : Int32) (h : wTk B T) : wTk B (T_words T k m).2 ∧ ((T_words T k m).1 = nI 0 ∨ (T_words T k m).1 = nI 1 ∨ (T_words T k m).1 = nI 2) := by
  unfold T_words
  by_cases c1 : k = 3
  · rw [if_pos c1]
    cases T.2.2.2.2.2.1 with
    | false => exact ⟨wTk_nod true h, Or.inl rfl⟩
    | true =>
      refine ⟨wTk_nod false h, ?_⟩
      dsimp only
      by_cases c : 1 < m
      · rw [if_pos c]
        exact Or.inl rfl
      · rw [if_neg c]
        exact Or.inr (Or.inl rfl)
  · rw [if_neg c1]
    by_cases c2 : k = 2
    · rw [if_pos c2]
      refine ⟨h, ?_⟩
      dsimp only
      by_cases c : 1 < m
      · rw [if_pos c]
        exact Or.inl rfl
      · rw [if_neg c]
        exact Or.inr (Or.inl rfl)
    · rw [if_neg c2]
      by_cases c3 : k = 1
      · rw [if_pos c3]
        exact ⟨h, Or.inr (Or.inr rfl)⟩
      · rw [if_neg c3]
        exact ⟨h, Or.inr (Or.inl rfl)⟩
theorem mn_nI {a b : Nat} (ha : a < 2 ^ 31) (hb : b < 2 ^ 31) : mnI (nI a) (nI b) = nI (min a b) := by
  unfold mnI
  by_cases c : b < a
  · rw [if_pos (nI_lt c ha), Nat.min_eq_right (by omega)]
  · rw [if_neg (nI_nlt (by omega) hb), Nat.min_eq_left (by omega)]
theorem wTk_goOn {T : TT} {k : Nat} (hk : k ≤ 2) (h : wTk B T) : wTk B (T_goOn T (nI k)) := by
  obtain ⟨h1, nd, sa, si, a1, a2, a3, a4, a5, e1, e2, e3⟩ := h
  unfold T_goOn
  rw [e1, e2, nI_add, mn_nI (by omega) (by omega)]
  by_cases c : nI (min nd (sa + k)) = nI nd
  · rw [if_pos c]
    exact ⟨bT_of h1 ⟨rfl, rfl⟩, nd, 0, 0, a1, a2, by omega, by omega, fun _ => rfl, rfl, rfl, rfl⟩
  · rw [if_neg c]
    refine ⟨bT_of h1 ⟨rfl, rfl⟩, nd, min nd (sa + k), 0, a1, a2, ?_, by omega, fun _ => rfl, rfl, rfl, rfl⟩
    rw [nI_eq (by omega) (by omega)] at c
    omega
theorem wTk_say {kd : List Int32} {T : TT} (h : wTk B T) : wTk B (sayT kd T).2 := by
  obtain ⟨w1, w2⟩ := wTk_words (kd.getD (T_turn T).toNatClampNeg 0) 1 h
  unfold sayT
  by_cases c : 0 < (T_words T (kd.getD (T_turn T).toNatClampNeg 0) 1).1
  · rw [if_pos c]
    rcases w2 with e | e | e
    · rw [e]
      exact wTk_goOn (k := 0) (by decide) w1
    · rw [e]
      exact wTk_goOn (k := 1) (by decide) w1
    · rw [e]
      exact wTk_goOn (k := 2) (by decide) w1
  · rw [if_neg c]
    exact w1
theorem CN_setR {K : CK} {t : Nat} {T : TT} (h : CN K B TN S) : CN (setR K t T) B TN S := by
  obtain ⟨⟨g1, g2, g3, g4, g5, g6, g7, g8, g9, g10, g11⟩, e⟩ := h
  refine ⟨⟨g1, g2, g3, g4, g5, g6, g7, g8, g9, g10, ?_⟩, e⟩
  show (List.set _ _ _).length = 6
  rw [List.length_set]
  exact g11
theorem ca_setR {t : Nat} {T U : TT} (htt : t < TN) (hw : wTk B T) (he : T_clr T = T_clr U) (hC : caI B TN S now Ks) : caI B TN S (setR now t T) (setR Ks t U) := by
  have l6 := CL6 hC.1.1.1
  have k6 := CL6 hC.2.1.1
  have hTN := hC.1.1.2.2.2.2.2.1
  obtain ⟨⟨h1, h2, h3, h4, h5, h6, h7⟩, hs, e1, e2, e3, e4, e5, e6⟩ := hC
  refine ⟨⟨CN_setR h1, h2, h3, h4, h5, fun u hu => ?_, h7⟩, CN_setR hs, e1, e2, e3, e4, fun u hu => ?_, e6⟩
  · show wTk B ((now.2.2.set t T).getD u dT)
    by_cases c : t = u
    · rw [← c, gdT_self (by omega)]
      exact hw
    · rw [gdT_ne c]
      exact h6 u hu
  · show T_clr ((now.2.2.set t T).getD u dT) = T_clr ((Ks.2.2.set t U).getD u dT)
    by_cases c : t = u
    · rw [← c, gdT_self (by omega), gdT_self (by omega)]
      exact he
    · rw [gdT_ne c, gdT_ne c]
      exact e5 u hu
theorem stA_eq {wa ms mt : List Int32} (h : CN Ks B TN S) : eqK B TN S Ks (stA wa ms mt Ks) := by
  have l6 := CL6 h.1
  have hTN := h.2.2.2.2.2.1
  refine ⟨rfl, rfl, rfl, fun b hb => ⟨rfl, rfl, rfl⟩, fun t ht => ?_, fun i hi => ⟨rfl, rfl, rfl⟩⟩
  rw [stA_gd l6 (by omega)]
  rfl
theorem CN_st (ho : mOK nw eb wa ms mt) (h : VS Ks B TN S) : CN (stA wa ms mt Ks) B TN S := (GM_st h ho).1.1
theorem ca_st (ho : mOK nw eb wa ms mt) (hC : caI B TN S now Ks) : caI B TN S now (stA wa ms mt Ks) := ⟨hC.1, CN_st ho (VS_ca hC), eqK_tr hC.2.2 (stA_eq hC.2.1)⟩
theorem k_say (t : Int32) (hC : caI B TN S now Ks) (ht : GS trial) (hd : CL told) (ho : mOK nw eb wa ms mt) (hR : rsI im0 im1 p f r tr z I0 I1) : Alk xs d 69 160 [t] (hCl now trial told im0 im1 p f r tr) (mH (zS z Ks (I0 ++ I1)) nw eb wa ms mt cc) := by
  have h6 := CL6 hC.1.1.1
  have g6 := CL6 hC.2.1.1
  have hTN := hC.1.1.2.2.2.2.2.1
  cases c : hasI t now.1.2.2.2.2.1 with
  | false => exact ⟨.int (-1), _, _, int_nr _, Inv_mk hC ht hd ho hR, sp_say_bad xs (d + 19) now trial told im0 im1 p f r tr t h6 c, m_say_bad (d := d + 18) (hv := VS_ca hC) (c := by rw [← eq_TN hC]; exact c) ..⟩
  | true =>
    have c3 := c
    rw [hC.1.1.2.2.1] at c
    obtain ⟨t, htt, rfl⟩ := has_i (by omega) c
    have hw := hC.1.2.2.2.2.2.1 t htt
    have h1 := sp_say_ok xs (d + 18) now trial told im0 im1 p f r tr t (now.2.2.getD t dT) hC.1.1.1 c3 (by omega) (getT_at (by omega)) (bT_ok hC.1.1.2.2.2.2.1 hw.1)
    obtain ⟨h', hp, h2⟩ := m_say xs (d + 17) z Ks (I0 ++ I1) nw eb wa ms mt cc B TN S t (Ks.2.2.getD t dT) htt (getT_at (by omega)) (VS_ca hC) ho
    have eT : T_clr (Ks.2.2.getD t dT) = T_clr (now.2.2.getD t dT) := (hC.2.2.2.2.2.2.1 t htt).symm
    rw [eT] at h2 hp
    obtain ⟨w, hwB, ew⟩ := turn_b hw.1
    have ek : sayT Ks.2.1.1 (T_clr (now.2.2.getD t dT)) = sayT now.2.1.1 (T_clr (now.2.2.getD t dT)) := by
      have e2 : T_turn (T_clr (now.2.2.getD t dT)) = nI w := ew
      have hB := hC.1.1.2.2.2.2.1
      unfold sayT
      rw [e2, nI_clamp (by omega), (hC.2.2.2.2.2.1 w hwB).1]
    rw [ek] at h2 hp
    obtain ⟨s1, s2⟩ := say_clr now.2.1.1 (now.2.2.getD t dT)
    rw [s1] at h2
    exact ⟨_, _, _, int_nr _, Inv_p (ca_setR htt (wTk_say hw) s2.symm (ca_st ho hC)) ht hd hp hR, h1, h2⟩
end LK5

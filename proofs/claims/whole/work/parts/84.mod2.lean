/-! The reference's hour of a Talk -/
def dE (T U : TT) : Int32 := U.2.2.2.2.2.2.2.2.1 - T.2.2.2.2.2.2.2.2.1
def dL (T U : TT) : Int32 := U.2.2.2.2.2.2.2.2.2 - T.2.2.2.2.2.2.2.2.2
theorem i32_d1 (x : Int32) : x + 1 - x = 1 := by
  apply Int32.toBitVec_inj.mp
  simp only [Int32.toBitVec_sub, Int32.toBitVec_add]
  bv_omega
theorem i32_ad (x y : Int32) : x + (y - x) = y := by
  apply Int32.toBitVec_inj.mp
  simp only [Int32.toBitVec_sub, Int32.toBitVec_add]
  bv_omega
theorem T_words_0 {T : TT} {k m : Int32} (h : ¬ 0 < (T_words T k m).1) : (T_words T k m).1 = 0 := by
  unfold T_words at h ⊢
  split
  · rename_i c
    rw [if_pos c] at h
    split
    · rfl
    · rename_i e
      rw [e] at h
      dsimp only at h ⊢
      split
      · rfl
      · rename_i c2
        rw [if_neg c2] at h
        exact absurd (by decide) h
  · rename_i c
    rw [if_neg c] at h
    split
    · rename_i c1
      rw [if_pos c1] at h
      dsimp only at h ⊢
      split
      · rfl
      · rename_i c2
        rw [if_neg c2] at h
        exact absurd (by decide) h
    · rename_i c1
      rw [if_neg c1] at h
      split
      · rename_i c2
        rw [if_pos c2] at h
        exact absurd (show (0 : Int32) < 2 by decide) h
      · rename_i c2
        rw [if_neg c2] at h
        exact absurd (show (0 : Int32) < 1 by decide) h
theorem T_words_4 (T : TT) (k m : Int32) : (T_words T k m).2.2.2.1 = T.2.2.1 ∧ (T_words T k m).2.2.2.2.1 = T.2.2.2.1 ∧ (T_words T k m).2.2.2.2.2.2.2.2.2.1 = T.2.2.2.2.2.2.2.2.1 ∧ (T_words T k m).2.2.2.2.2.2.2.2.2.2 = T.2.2.2.2.2.2.2.2.2 := by
  unfold T_words
  split
  · split <;> exact ⟨rfl, rfl, rfl, rfl⟩
  · split
    · exact ⟨rfl, rfl, rfl, rfl⟩
    · split <;> exact ⟨rfl, rfl, rfl, rfl⟩
section TG
variable (xs : List Int32) (d : Nat) (z : ZT) (eb wa ms mt : List Int32) (a b c g : Int32) (K : CK) {t : Nat} {T : TT}
theorem sp_sil (ht : t < 6) (hT : K.2.2[t]? = some T) (hn : ¬ T.2.2.2.1 = T.2.2.1) (h0 : ¬ 0 = T.2.2.1) : Ev xs (d + 2) 146 54 [some (.ref 0), some (.int (nI t)), some (.int 0)] [] (mH z (flK K) eb wa ms mt (a, b, c, g)) none (mH z (flK (setR K t (T_silent T K.1.2.1))) eb wa ms mt (a, b + dL T (T_silent T K.1.2.1), c, g)) := by
  have hl : t < K.2.2.length := (List.getElem?_eq_some_iff.mp hT).1
  unfold T_silent
  refine ev_go 3 (fun _ => rfl) ?_
  refine ev_call (y' := 136) rfl rfl rfl rfl (sp_ofT xs _ z eb wa ms mt (a, b, c, g) K ht hT (k := 3) (by decide) rfl) ?_
  by_cases c1 : T.2.2.2.1 ≤ 0
  · rw [if_pos c1]
    refine ev_if_le rfl rfl (fun _ => ?_) (fun n => absurd (c1) n)
    have e : b + dL T T = b := by unfold dL; rw [Int32.sub_self, Int32.add_zero]
    rw [setR_self hT, e]
    refine ev_go 2 (fun _ => rfl) ?_
    refine ev_call (y' := 145) rfl rfl rfl rfl (sp_mayE0 xs _ z eb wa ms mt a b c g K ht hT hn) ?_
    exact ev_end 1 rfl
  · rw [if_neg c1]
    refine ev_if_le rfl rfl (fun n => absurd n (c1)) (fun _ => ?_)
    refine ev_go 6 (fun _ => rfl) ?_
    refine ev_call (y' := 136) rfl rfl rfl rfl (sp_ofT xs _ z eb wa ms mt (a, b, c, g) K ht hT (k := 4) (by decide) rfl) ?_
    refine ev_go 2 (fun _ => rfl) ?_
    refine ev_call (y' := 137) rfl rfl rfl rfl (sp_tb xs _ z eb wa ms mt (a, b, c, g) K (T.1, T.2.1, T.2.2.1, T.2.2.2.1, T.2.2.2.2.1 + 1, T.2.2.2.2.2) ht hT (k := 4) (by decide) rfl) ?_
    refine ev_go 3 (fun _ => rfl) ?_
    refine ev_call (y' := 136) rfl rfl rfl rfl (sp_ofT xs _ z eb wa ms mt (a, b, c, g) _ ht (setR_at hl) (k := 4) (by decide) rfl) ?_
    refine ev_go 3 (fun _ => rfl) ?_
    refine ev_iald rfl rfl (k := 1) rfl fq_1 ?_
    by_cases c2 : K.1.2.1 < T.2.2.2.2.1 + 1
    · rw [if_pos c2]
      refine ev_ic_le rfl rfl (fun n => absurd n (i32_lt_nle c2)) (fun _ => ?_)
      refine ev_go 12 (h1 := mH z (flK (setR K t (T.1, T.2.1, T.2.2.1, T.2.2.2.1, T.2.2.2.2.1 + 1, T.2.2.2.2.2))) eb wa ms mt (a, b + 1, c, g)) (fun _ => rfl) ?_
      refine ev_call (y' := 136) rfl rfl rfl rfl (sp_ofT xs _ z eb wa ms mt (a, b + 1, c, g) _ ht (setR_at hl) (k := 7) (by decide) rfl) ?_
      refine ev_go 3 (fun _ => rfl) ?_
      refine ev_call (y' := 112) rfl rfl rfl rfl (sp_upTo xs _ _ (T.2.2.2.2.2.2.2.1 + 1) 999) ?_
      refine ev_call (y' := 137) rfl rfl rfl rfl (sp_tb xs _ z eb wa ms mt (a, b + 1, c, g) _ (T.1, T.2.1, T.2.2.1, T.2.2.2.1, T.2.2.2.2.1 + 1, T.2.2.2.2.2.1, T.2.2.2.2.2.2.1, mnI 999 (T.2.2.2.2.2.2.2.1 + 1), T.2.2.2.2.2.2.2.2.1, T.2.2.2.2.2.2.2.2.2 + 1) ht (setR_at hl) (k := 7) (by decide) rfl) ?_
      rw [setR_R]
      refine ev_go 2 (fun _ => rfl) ?_
      refine ev_call (y' := 143) rfl rfl rfl rfl (sp_begins xs _ z eb wa ms mt (a, b + 1, c, g) _ ht (setR_at hl)) ?_
      rw [setR_R]
      refine ev_go 2 (fun _ => rfl) ?_
      refine ev_call (y' := 145) rfl rfl rfl rfl (sp_mayE0 xs _ z eb wa ms mt a (b + 1) c g _ ht (setR_at hl) h0) ?_
      simp only [dL, T_off, i32_d1]
      exact ev_end 1 rfl
    · rw [if_neg c2]
      refine ev_ic_le rfl rfl (fun _ => ?_) (fun n => absurd (i32_nlt c2) n)
      refine ev_go 2 (fun _ => rfl) ?_
      refine ev_call (y' := 145) rfl rfl rfl rfl (sp_mayE0 xs _ z eb wa ms mt a b c g _ ht (setR_at hl) hn) ?_
      simp only [dL, Int32.sub_self, Int32.add_zero]
      exact ev_end 1 rfl
theorem T_silent_e (T : TT) (m : Int32) : (T_silent T m).2.2.2.2.2.2.2.2.1 = T.2.2.2.2.2.2.2.2.1 := by
  unfold T_silent
  split
  · rfl
  · split <;> rfl
theorem sp_tg (ht : t < 6) (hT : K.2.2[t]? = some T) (hn : ¬ T.2.2.2.1 = T.2.2.1) (h0 : ¬ 0 = T.2.2.1) (i j w : Nat) (mb : Bool) (met : Int32) (hi : i < 5) (hj : j < 5) (hw : w < 5) (e1 : T.1 = nI i) (e2 : T.2.1 = nI j) (e3 : T_turn T = nI w) (h8 : ms[5 * i + j]? = some (bI mb)) (h9 : mt[w]? = some met) (hl6 : eb.length = 6) : Ev xs (d + 3) 146 0 [some (.ref 0), some (.int (nI t)), none] [] (mH z (flK K) eb wa ms mt (a, b, c, g)) none (mH z (flK (setR K t (T_pass T mb (K.2.1.1.getD w 0) met K.1.2.1).2)) (eb.set t (eb.getD t 0 + dE T (T_pass T mb (K.2.1.1.getD w 0) met K.1.2.1).2)) wa ms mt (a + dE T (T_pass T mb (K.2.1.1.getD w 0) met K.1.2.1).2, b + dL T (T_pass T mb (K.2.1.1.getD w 0) met K.1.2.1).2, c + (T_pass T mb (K.2.1.1.getD w 0) met K.1.2.1).1, g)) := by
  have hl : t < K.2.2.length := (List.getElem?_eq_some_iff.mp hT).1
  have hls : eb.set t (eb.getD t 0 + 0) = eb := by rw [Int32.add_zero]; exact set_self (getD_at (by omega))
  have ix5 : mm_ix (Int32.ofInt 5 * nI i + nI j) = some (5 * i + j) := by
    have e : Int32.ofInt 5 = nI 5 := rfl
    rw [e, nI_mulA, nI_add]
    exact mm_ix_nI (by omega)
  refine ev_go 6 (fun _ => rfl) ?_
  refine ev_call (y' := 136) rfl rfl rfl rfl (sp_ofT xs _ z eb wa ms mt (a, b, c, g) K ht hT (k := 0) (by decide) rfl) ?_
  rw [e1]
  refine ev_go 4 (fun _ => rfl) ?_
  refine ev_call (y' := 136) rfl rfl rfl rfl (sp_ofT xs _ z eb wa ms mt (a, b, c, g) K ht hT (k := 1) (by decide) rfl) ?_
  rw [e2]
  refine ev_go 1 (fun _ => rfl) ?_
  refine ev_iald rfl rfl ix5 h8 ?_
  unfold T_pass
  cases mb with
  | false =>
    dsimp only
    refine ev_go 7 (fun _ => rfl) ?_
    refine ev_call (y' := 144) rfl rfl rfl rfl (sp_says0 xs _ z eb wa ms mt a b c g K (nI t) 0 (by decide)) ?_
    refine ev_go 2 (fun _ => rfl) ?_
    have e : dE T (T_silent T K.1.2.1) = 0 := by unfold dE; rw [T_silent_e, Int32.sub_self]
    rw [e, hls, Int32.add_zero a]
    exact sp_sil xs _ z eb wa ms mt a b (c + 0) g K ht hT hn h0
  | true =>
    dsimp only
    refine ev_go 8 (fun _ => rfl) ?_
    refine ev_call (y' := 141) rfl rfl rfl rfl (sp_spk xs _ z eb wa ms mt (a, b, c, g) K ht hT) ?_
    rw [e3]
    refine ev_iald rfl rfl (mm_ix_nI (n := w) (by omega)) h9 ?_
    refine ev_call (y' := 142) rfl rfl rfl rfl (sp_wds xs _ z eb wa ms mt (a, b, c, g) K ht hT w hw e3 met) ?_
    obtain ⟨q1, q2, q3, q4⟩ := T_words_4 T (K.2.1.1.getD w 0) met
    by_cases c1 : 0 < (T_words T (K.2.1.1.getD w 0) met).1
    · rw [if_pos c1]
      generalize T_words T (K.2.1.1.getD w 0) met = q at q1 q2 q3 q4 c1
      obtain ⟨qw, Q⟩ := q
      dsimp only at q1 q2 q3 q4 c1 ⊢
      refine ev_go 5 (fun _ => rfl) ?_
      refine ev_call (y' := 144) rfl rfl rfl rfl (sp_says1 xs _ z eb wa ms mt a b c g _ ht (setR_at hl) qw c1) ?_
      rw [setR_R]
      refine ev_go 1 (fun _ => rfl) ?_
      refine ev_if_ne rfl rfl (fun _ => ?_) (fun n => absurd (fun n => by rw [n] at c1; exact absurd c1 (by decide)) n)
      refine ev_go 2 (fun _ => rfl) ?_
      unfold T_goOn
      by_cases c2 : mnI Q.2.2.1 (Q.2.2.2.1 + qw) = Q.2.2.1
      · rw [if_pos c2]
        refine ev_call (y' := 145) rfl rfl rfl rfl (sp_mayE1 xs _ z eb wa ms mt a b (c + qw) g _ ht (setR_at hl) c2 hl6) ?_
        rw [setR_R]
        simp only [dE, dL, T_off, ← q3, ← q4, i32_d1, Int32.sub_self, Int32.add_zero]
        exact ev_end 1 rfl
      · rw [if_neg c2]
        refine ev_call (y' := 145) rfl rfl rfl rfl (sp_mayE0 xs _ z eb wa ms mt a b (c + qw) g _ ht (setR_at hl) c2) ?_
        simp only [dE, dL, ← q3, ← q4, Int32.sub_self, hls]
        rw [Int32.add_zero a, Int32.add_zero b]
        exact ev_end 1 rfl
    · rw [if_neg c1]
      have c0 := T_words_0 c1
      generalize T_words T (K.2.1.1.getD w 0) met = q at q1 q2 q3 q4 c1 c0
      obtain ⟨qw, Q⟩ := q
      dsimp only at q1 q2 q3 q4 c1 c0 ⊢
      subst c0
      refine ev_go 5 (fun _ => rfl) ?_
      refine ev_call (y' := 144) rfl rfl rfl rfl (sp_says0 xs _ z eb wa ms mt a b c g _ (nI t) 0 (by decide)) ?_
      refine ev_go 2 (fun _ => rfl) ?_
      have e : dE T (T_silent Q K.1.2.1) = 0 := by unfold dE; rw [T_silent_e, q3, Int32.sub_self]
      have e2 : dL T (T_silent Q K.1.2.1) = dL Q (T_silent Q K.1.2.1) := by unfold dL; rw [q4]
      rw [e, e2, hls, Int32.add_zero a]
      have := sp_sil xs (d + 1) z eb wa ms mt a b (c + 0) g (setR K t Q) ht (setR_at hl) (by rw [q1, q2]; exact hn) (by rw [q1]; exact h0)
      rw [setR_R] at this
      exact this
end TG

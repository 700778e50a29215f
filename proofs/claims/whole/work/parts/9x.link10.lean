/-! best, kind, swap -/
/-- how many ended: a small number -/
def n9 (n : Nat) (T : TT) : Prop := ∃ c, c ≤ n ∧ T.2.2.2.2.2.2.2.2.1 = nI c
theorem n9_le {n m : Nat} {T : TT} (h : n ≤ m) (hT : n9 n T) : n9 m T := by
  obtain ⟨c, h1, h2⟩ := hT
  exact ⟨c, by omega, h2⟩
theorem n9_words {n : Nat} {T : TT} (k m : Int32) (h : n9 n T) : n9 n (T_words T k m).2 := by
  unfold T_words
  by_cases c1 : k = 3
  · rw [if_pos c1]
    cases T.2.2.2.2.2.1 with
    | false => exact h
    | true => exact h
  · rw [if_neg c1]
    by_cases c2 : k = 2
    · rw [if_pos c2]
      exact h
    · rw [if_neg c2]
      by_cases c3 : k = 1
      · rw [if_pos c3]
        exact h
      · rw [if_neg c3]
        exact h
theorem n9_goOn {n : Nat} {T : TT} (w : Int32) (h : n9 n T) : n9 (n + 1) (T_goOn T w) := by
  unfold T_goOn
  by_cases c : mnI T.2.2.1 (T.2.2.2.1 + w) = T.2.2.1
  · rw [if_pos c]
    obtain ⟨k, h1, h2⟩ := h
    refine ⟨k + 1, by omega, ?_⟩
    show T.2.2.2.2.2.2.2.2.1 + 1 = _
    rw [h2]
    exact nI_1 k
  · rw [if_neg c]
    obtain ⟨k, h1, h2⟩ := h
    exact ⟨k, by omega, h2⟩
theorem n9_silent {n : Nat} {T : TT} (m : Int32) (h : n9 n T) : n9 n (T_silent T m) := by
  unfold T_silent
  by_cases c1 : T.2.2.2.1 ≤ 0
  · rw [if_pos c1]
    exact h
  · rw [if_neg c1]
    obtain ⟨k, h1, h2⟩ := h
    by_cases c2 : m < T.2.2.2.2.1 + 1
    · rw [if_pos c2]
      exact ⟨k, h1, h2⟩
    · rw [if_neg c2]
      exact ⟨k, h1, h2⟩
theorem n9_pass {n : Nat} {T : TT} (b : Bool) (k e m : Int32) (h : n9 n T) : n9 (n + 1) (T_pass T b k e m).2 := by
  unfold T_pass
  cases b with
  | false => exact n9_le (by omega) (n9_silent m h)
  | true =>
    dsimp only
    by_cases c : 0 < (T_words T k e).1
    · rw [if_pos c]
      exact n9_goOn _ (n9_words k e h)
    · rw [if_neg c]
      exact n9_le (by omega) (n9_silent m (n9_words k e h))
theorem n9_it {B TN S : Nat} : ∀ (m n : Nat) (K : CK), CG K B TN S → (∀ t, t < TN → n9 n (K.2.2.getD t dT)) → ∀ t, t < TN → n9 (n + m) ((itC K B TN m).2.2.getD t dT)
  | 0, _, _, _, h => h
  | m + 1, n, K, hg, h => by
    have l6 := CG6 hg
    have hTN := hg.1.2.2.2.2.2.1
    have ih := n9_it (S := S) m (n + 1) (hrC K B TN) (CG_hr hg) (fun t ht => by
      show n9 (n + 1) ((mapUp (fun T => (T_hr K.2.1.1 (mvC K B).2.1.2.2.2.2.2.2.2.2.1 (mvC K B).2.1.2.2.2.2.2.2.2.2.2 K.1.2.1 T).2) TN K.2.2).getD t dT)
      rw [mapUp_gd ht (by omega)]
      exact n9_pass _ _ _ _ (h t ht))
    intro t ht
    rw [show n + (m + 1) = n + 1 + m by omega]
    exact ih t ht
theorem n9_sum {n : Nat} : ∀ (l : List TT) (a : Nat), (∀ T ∈ l, n9 n T) → ∃ s, s ≤ a + l.length * n ∧ l.foldl (fun a T => a + T_tell T 9) (nI a) = nI s
  | [], a, _ => ⟨a, by omega, rfl⟩
  | T :: l, a, h => by
    obtain ⟨c, h1, h2⟩ := h T List.mem_cons_self
    obtain ⟨s, h3, h4⟩ := n9_sum l (a + c) (fun U hU => h U (List.mem_cons_of_mem _ hU))
    refine ⟨s, ?_, ?_⟩
    · rw [List.length_cons, Nat.succ_mul]
      omega
    · rw [List.foldl_cons, show T_tell T 9 = nI c from h2, nI_add]
      exact h4
/-- no sum is below 0 -/
theorem sum_pos {B TN S N : Nat} {K : CK} (hN : N ≤ 100) (hg : CG K B TN S) (h : ∀ t, t < TN → n9 0 (K.2.2.getD t dT)) : -1 < smT 9 ((itC K B TN N).2.2.take TN) := by
  have hg2 := CG_it N hg
  have l6 := CG6 hg2
  have hTN := hg.1.2.2.2.2.2.1
  have h2 := n9_it (S := S) N 0 K hg h
  obtain ⟨s, h3, h4⟩ := n9_sum (n := N) ((itC K B TN N).2.2.take TN) 0 (fun T hT => by
    obtain ⟨t, a, b⟩ := mem_gd (by omega) hT
    rw [← b]
    exact n9_le (by omega) (h2 t a))
  have h5 : ((itC K B TN N).2.2.take TN).length ≤ 6 := by
    rw [List.length_take]
    omega
  have h6 : ((itC K B TN N).2.2.take TN).length * N ≤ 6 * 100 := Nat.mul_le_mul h5 hN
  have e : smT 9 ((itC K B TN N).2.2.take TN) = nI s := h4
  rw [e, Int32.lt_iff_toInt_lt, nI_toInt (by omega)]
  show (-1 : Int) < _
  omega
theorem jf_ne {E : Nat → Int32} : ∀ (m v : Nat) (q : Int32 × Int32), v + m ≤ 1000 → ¬ q.1 = -4 → ¬ (jfold E m v q).1 = -4
  | 0, _, _, _, h => h
  | m + 1, v, q, hv, h => by
    unfold jfold
    refine jf_ne m (v + 1) _ (by omega) ?_
    unfold jdM
    by_cases c : q.2 < E v
    · rw [if_pos c]
      exact nI_nn4 (by omega)
    · rw [if_neg c]
      exact h
section LK10
variable (xs : List Int32) (d : Nat) (now trial told im0 im1 : CK) (p : TP) (f : FP) (r : RS) (tr : Int32) (z : ZT) (Ks : CK) (I0 I1 nw eb wa ms mt : List Int32) (cc : C4) (B TN S : Nat)
variable {now trial told im0 im1 p f r tr z Ks I0 I1 nw eb wa ms mt cc B TN S}
theorem run_put {w b v N L : Nat} (ht : GS trial) (ho : mOK nw eb wa ms mt) (hC : caI B TN S now Ks) (hw : w ≤ 2) (hb : b < B) (eL : now.1.1 = nI L) (hL : L ≤ 20) (hv1 : w = 1 → v < 2 * L) (hv2 : w = 2 → v ≤ 9) : smT 9 ((itC (putK (tryK now trial B TN S) w b (nI v)) B TN N).2.2.take TN) = smT 9 (ghN (putK (stA wa ms mt Ks) w b (nI v)) B TN N).2.2 := by
  have hB := hC.1.1.2.2.2.2.1
  have hv := HV_put (b := b) hw (K := tryK now trial B TN S) eL hL hv1 hv2 (HV_try hC.1 ht)
  have hg := GM_put w b (nI v) (GM_st (VS_ca hC) ho)
  have hl := Lv_put (S := S) (v := nI v) hw (CG_t (wK_CG hC.1) ht).1.1 (GM_st (VS_ca hC) ho).1.1.1 (Lv_ca ht hC) (b := b) (by omega)
  refine sm_run (Or.inl rfl) (Lv_it N _ _ hl hv hg.1) (CG_it N hv.1).1 (GM_ghN N _ hg).1.1 (cl0_gh N _ ?_)
  intro t h1 h2
  rw [put_22]
  exact cl0_st (CL6 hC.2.1.1) t h1 h2
theorem meS_j {w b N M : Nat} {E : Nat → Int32} (hn : CG now B TN S) (hE : ∀ v, v ≤ M → ∀ trial : CK, GS trial → smT 9 ((itC (putK (tryK now trial B TN S) w b (nI v)) B TN N).2.2.take TN) = E v) : ∀ (m v : Nat) (q : Int32 × Int32) (trial : CK), v + m ≤ M + 1 → GS trial → meS now B TN S b w N m v q trial = ((jfold E m v (q.2, q.1)).2, (jfold E m v (q.2, q.1)).1)
  | 0, _, _, _, _, _ => rfl
  | m + 1, v, q, trial, hv, ht => by
    unfold meS jfold
    have e := hE v (by omega) trial ht
    rw [e, meS_j hn hE m (v + 1) _ _ (by omega) (GS_CG (CG_it N (CG_put w b _ (CG_t hn ht))))]
    unfold jdM
    dsimp only
    by_cases c : q.1 < E v
    · rw [if_pos c, if_pos c]
    · rw [if_neg c, if_neg c]
theorem n9_try (hC : wK now B TN S) (ht : GS trial) {w b : Nat} {v : Int32} : ∀ t, t < TN → n9 0 ((putK (tryK now trial B TN S) w b v).2.2.getD t dT) := by
  intro t htt
  rw [put_22, try_T hC.1 ht.1 htt]
  exact ⟨0, by omega, rfl⟩
theorem best_fin {w b N L M Lo : Nat} {E : Nat → Int32} (k : Int32) (ht : GS trial) (hC : wK now B TN S) (hN : N ≤ 100) (hM : M < 999) (hLo : Lo ≤ M) (hE : ∀ v, v ≤ M → ∀ trial : CK, GS trial → smT 9 ((itC (putK (tryK now trial B TN S) w b (nI v)) B TN N).2.2.take TN) = E v) : (if k = 0 then (meS now B TN S b w N (M + 1 - Lo) Lo (-1, 0) trial).2 else (meS now B TN S b w N (M + 1 - Lo) Lo (-1, 0) trial).1) = jA k (jfold E (M + 1 - Lo) Lo (-4, -1)) := by
  have hn := wK_CG hC
  have e1 : M + 1 - Lo = (M - Lo) + 1 := by omega
  rw [e1]
  have e := hE Lo hLo trial ht
  have hp : -1 < E Lo := by
    rw [← e]
    exact sum_pos hN (CG_put w b _ (CG_t hn ht)) (n9_try hC ht)
  have em : meS now B TN S b w N ((M - Lo) + 1) Lo (-1, 0) trial = ((jfold E (M - Lo) (Lo + 1) (nI Lo, E Lo)).2, (jfold E (M - Lo) (Lo + 1) (nI Lo, E Lo)).1) := by
    rw [meS]
    rw [e, if_pos hp]
    exact meS_j hn hE (M - Lo) (Lo + 1) (E Lo, nI Lo) _ (by omega) (GS_CG (CG_it N (CG_put w b _ (CG_t hn ht))))
  have ej : jfold E ((M - Lo) + 1) Lo (-4, -1) = jfold E (M - Lo) (Lo + 1) (nI Lo, E Lo) := by
    rw [jfold]
    unfold jdM
    rw [if_pos hp]
  rw [em, ej]
  unfold jA
  rw [if_neg (jf_ne (M - Lo) (Lo + 1) (nI Lo, E Lo) (by omega) (nI_nn4 (by omega)))]
theorem mo_le {L w : Nat} (hL1 : 2 ≤ L) (hL : L ≤ 20) (hw : w ≤ 2) : ∃ M Lo, M < 999 ∧ Lo ≤ M ∧ moI (nI L) (nI w) = nI M ∧ leI (nI w) = nI Lo ∧ (w = 1 → M < 2 * L) ∧ (w = 2 → M ≤ 9) := by
  match w, hw with
  | 0, _ => exact ⟨3, 0, by omega, by omega, rfl, rfl, fun q => absurd q (by decide), fun q => absurd q (by decide)⟩
  | 1, _ =>
    refine ⟨2 * L - 1, 0, by omega, by omega, ?_, rfl, fun _ => by omega, fun q => absurd q (by decide)⟩
    show 2 * nI L - nI 1 = _
    rw [two_nI, nI_subN (by omega)]
  | 2, _ => exact ⟨9, 1, by omega, by omega, rfl, rfl, fun q => absurd q (by decide), fun _ => by omega⟩
theorem k_best (b w n k : Int32) (hC : caI B TN S now Ks) (ht : GS trial) (hd : CL told) (ho : mOK nw eb wa ms mt) (hR : rsI im0 im1 p f r tr z I0 I1) : Alk xs d 76 172 [b, w, n, k] (hCl now trial told im0 im1 p f r tr) (mH (zS z Ks (I0 ++ I1)) nw eb wa ms mt cc) := by
  have h6 := CL6 hC.1.1.1
  have hB := hC.1.1.2.2.2.2.1
  cases c : (hasI b now.1.2.2.2.1 && (wiI w 1 2 && (wiI n 0 100 && wiI k 0 1))) with
  | false => exact ⟨.int (-1), _, _, int_nr _, Inv_mk hC ht hd ho hR, sp_best_bad xs (d + 19) now trial told im0 im1 p f r tr b w n k h6 c, m_best_bad (d := d + 18) (hv := VS_ca hC) (c := by rw [← eq_BN hC]; exact c) ..⟩
  | true =>
    rw [Bool.and_eq_true, Bool.and_eq_true, Bool.and_eq_true, hC.1.1.2.1] at c
    obtain ⟨c1, c2, c3, c4⟩ := c
    obtain ⟨b, hb, rfl⟩ := has_i (by omega) c1
    obtain ⟨w, w1, w2, rfl⟩ := wi_ab (a := 1) (b := 2) (by decide) (by decide) c2
    obtain ⟨N, hN, rfl⟩ := wi_of (M := 100) (by decide) c3
    obtain ⟨L, L1, L2, eL, -⟩ := hC.1.2.2.1
    obtain ⟨M, Lo, m1, m2, m3, m4, m5, m6⟩ := mo_le L1 L2 w2
    have eL2 : Ks.1.1 = nI L := hC.2.2.1.symm.trans eL
    have hr : ∀ v, v ≤ M → ∀ (trial : CK) (nw eb wa ms mt : List Int32), GS trial → mOK nw eb wa ms mt → smT 9 ((itC (putK (tryK now trial B TN S) w b (nI v)) B TN N).2.2.take TN) = smT 9 (ghN (putK (stA wa ms mt Ks) w b (nI v)) B TN N).2.2 := fun v hv trial nw eb wa ms mt ht ho => run_put ht ho hC w2 hb eL L2 (fun q => by have := m5 q; omega) (fun q => by have := m6 q; omega)
    obtain ⟨K1, g1, h1⟩ := sp_best xs (d + 14) now trial told im0 im1 p f r tr B TN S b w N M Lo k (wK_CG hC.1) ht hb c2 w2 hN c4 (by omega) m2 (by rw [eL]; exact m3) m4
    obtain ⟨h', hp, h2⟩ := m_best xs (d + 12) z Ks (I0 ++ I1) nw eb wa ms mt cc B TN S b w N Lo M k (fun v => smT 9 (ghN (putK (stA wa ms mt Ks) w b (nI v)) B TN N).2.2) hb (by omega) hN c4 m2 (by omega) (by rw [eL2]; exact m3) m4 (VS_ca hC) ho (fun v hv nw' eb' wa' ms' mt' ho' => (hr v hv trial nw' eb' wa' ms' mt' ht ho').symm.trans (hr v hv trial nw eb wa ms mt ht ho))
    rw [best_fin (L := L) k ht hC.1 hN m1 m2 (fun v hv trial ht => hr v hv trial nw eb wa ms mt ht ho)] at h1
    exact ⟨_, _, _, int_nr _, Inv_p hC g1 hd hp hR, h1, h2⟩
theorem k_kind (b n k : Int32) (hC : caI B TN S now Ks) (ht : GS trial) (hd : CL told) (ho : mOK nw eb wa ms mt) (hR : rsI im0 im1 p f r tr z I0 I1) : Alk xs d 77 173 [b, n, k] (hCl now trial told im0 im1 p f r tr) (mH (zS z Ks (I0 ++ I1)) nw eb wa ms mt cc) := by
  have h6 := CL6 hC.1.1.1
  have hB := hC.1.1.2.2.2.2.1
  cases c : (hasI b now.1.2.2.2.1 && (wiI n 0 100 && wiI k 0 1)) with
  | false => exact ⟨.int (-1), _, _, int_nr _, Inv_mk hC ht hd ho hR, sp_kind_bad xs (d + 19) now trial told im0 im1 p f r tr b n k h6 c, m_kind_bad (d := d + 18) (hv := VS_ca hC) (c := by rw [← eq_BN hC]; exact c) ..⟩
  | true =>
    rw [Bool.and_eq_true, Bool.and_eq_true, hC.1.1.2.1] at c
    obtain ⟨c1, c3, c4⟩ := c
    obtain ⟨b, hb, rfl⟩ := has_i (by omega) c1
    obtain ⟨N, hN, rfl⟩ := wi_of (M := 100) (by decide) c3
    obtain ⟨L, L1, L2, eL, -⟩ := hC.1.2.2.1
    have hr : ∀ v, v ≤ 3 → ∀ (trial : CK) (nw eb wa ms mt : List Int32), GS trial → mOK nw eb wa ms mt → smT 9 ((itC (putK (tryK now trial B TN S) 0 b (nI v)) B TN N).2.2.take TN) = smT 9 (ghN (putK (stA wa ms mt Ks) 0 b (nI v)) B TN N).2.2 := fun v hv trial nw eb wa ms mt ht ho => run_put ht ho hC (by omega) hb eL L2 (fun q => absurd q (by decide)) (fun q => absurd q (by decide))
    obtain ⟨K1, g1, h1⟩ := sp_kind xs (d + 14) now trial told im0 im1 p f r tr B TN S b N k (wK_CG hC.1) ht hb hN c4
    obtain ⟨h', hp, h2⟩ := m_kind xs (d + 12) z Ks (I0 ++ I1) nw eb wa ms mt cc B TN S b N k (fun v => smT 9 (ghN (putK (stA wa ms mt Ks) 0 b (nI v)) B TN N).2.2) hb hN c4 (VS_ca hC) ho (fun v hv nw' eb' wa' ms' mt' ho' => (hr v hv trial nw' eb' wa' ms' mt' ht ho').symm.trans (hr v hv trial nw eb wa ms mt ht ho))
    have e := best_fin (w := 0) (b := b) (N := N) (L := L) (M := 3) (Lo := 0) k ht hC.1 hN (by decide) (by decide) (fun v hv trial ht => hr v hv trial nw eb wa ms mt ht ho)
    have e' : (if k = 0 then (meS now B TN S b 0 N 4 0 (-1, 0) trial).2 else (meS now B TN S b 0 N 4 0 (-1, 0) trial).1) = jA k (jfold (fun v => smT 9 (ghN (putK (stA wa ms mt Ks) 0 b (nI v)) B TN N).2.2) 4 0 (-4, -1)) := e
    rw [e'] at h1
    exact ⟨_, _, _, int_nr _, Inv_p hC g1 hd hp hR, h1, h2⟩
end LK10

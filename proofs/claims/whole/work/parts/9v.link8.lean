/-! hours, runs, ahead -/
theorem mapUp_out {f : TT → TT} {n t : Nat} {l : List TT} (h : n ≤ t) : (mapUp f n l).getD t dT = l.getD t dT := by
  unfold mapUp
  rw [List.getD_eq_getElem?_getD, List.getD_eq_getElem?_getD]
  by_cases c : n ≤ l.length
  · rw [List.getElem?_append_right (by rw [List.length_map, List.length_take]; omega), List.length_map, List.length_take, List.getElem?_drop]
    congr 2
    omega
  · rw [List.getElem?_eq_none (by rw [List.length_append, List.length_map, List.length_take, List.length_drop]; omega), List.getElem?_eq_none (by omega)]
/-- no Talk that is not there has said a thing -/
def cl0 (K : CK) (TN : Nat) : Prop := ∀ t, TN ≤ t → t < 6 → T_tell (K.2.2.getD t dT) 9 = 0 ∧ T_tell (K.2.2.getD t dT) 10 = 0
theorem cl0_st {wa ms mt : List Int32} {Ks : CK} {TN : Nat} (h : Ks.2.2.length = 6) : cl0 (stA wa ms mt Ks) TN := fun t _ h6 => by
  rw [stA_gd h h6]
  exact ⟨rfl, rfl⟩
theorem cl0_gh {B TN : Nat} : ∀ (n : Nat) (K : CK), cl0 K TN → cl0 (ghN K B TN n) TN
  | 0, _, h => h
  | n + 1, K, h => by
    refine cl0_gh n (ghK false K B TN) (fun t h1 h2 => ?_)
    have e : (ghK false K B TN).2.2.getD t dT = K.2.2.getD t dT := mapUp_out h1
    rw [e]
    exact h t h1 h2
theorem smT_all {k TN : Nat} {l : List TT} (hl : l.length = 6) (hTN : TN ≤ 6) (h : ∀ t, TN ≤ t → t < 6 → T_tell (l.getD t dT) k = 0) : smT k l = smT k (l.take TN) := by
  have e : l = l.take TN ++ l.drop TN := (List.take_append_drop TN l).symm
  have hd : ∀ T ∈ l.drop TN, T_tell T k = 0 := by
    intro T hT
    obtain ⟨j, hj, e⟩ := List.mem_iff_getElem.mp hT
    have hj2 : TN + j < l.length := by rw [List.length_drop] at hj; omega
    have h2 := h (TN + j) (by omega) (by omega)
    rw [List.getD_eq_getElem?_getD, List.getElem?_eq_getElem hj2] at h2
    rw [List.getElem_drop] at e
    rw [← e]
    exact h2
  have key : ∀ (m : List TT) (a : Int32), (∀ T ∈ m, T_tell T k = 0) → m.foldl (fun a T => a + T_tell T k) a = a := by
    intro m
    induction m with
    | nil => intro a _; rfl
    | cons T m ih =>
      intro a hm
      rw [List.foldl_cons, hm T List.mem_cons_self, Int32.add_zero]
      exact ih a (fun U hU => hm U (List.mem_cons_of_mem _ hU))
  unfold smT
  conv => lhs; rw [e]
  rw [List.foldl_append, key _ _ hd]
/-- the words said in a run -/
theorem sm_run {B TN S k : Nat} {K K' : CK} (hk : k = 9 ∨ k = 10) (h : Lv B TN K K') (h1 : CN K B TN S) (h2 : CN K' B TN S) (h0 : cl0 K' TN) : smT k (K.2.2.take TN) = smT k K'.2.2 := by
  have hTN := h1.2.2.2.2.2.1
  have l6 := CL6 h1.1
  have l6' := CL6 h2.1
  have h3 : ∀ t, TN ≤ t → t < 6 → T_tell (K'.2.2.getD t dT) k = 0 := by
    intro t a b
    rcases hk with rfl | rfl
    · exact (h0 t a b).1
    · exact (h0 t a b).2
  rw [smT_all l6' hTN h3]
  exact smT_take (fun t htt => by rw [h.2.2.2.2.2.2 t htt]) (by omega) (by omega)
section WK
variable {B TN S : Nat} {K : CK}
theorem wTk_silent {T : TT} {m : Nat} (hm : m ≤ 99) (h : wTk B T) : wTk B (T_silent T (nI m)) := by
  unfold T_silent
  by_cases c1 : T.2.2.2.1 ≤ 0
  · rw [if_pos c1]
    exact h
  · rw [if_neg c1]
    obtain ⟨h1, nd, sa, si, a1, a2, a3, a4, a5, e1, e2, e3⟩ := h
    by_cases c2 : nI m < T.2.2.2.2.1 + 1
    · rw [if_pos c2]
      exact ⟨bT_of h1 ⟨rfl, rfl⟩, nd, 0, 0, a1, a2, by omega, by omega, fun _ => rfl, e1, rfl, rfl⟩
    · rw [if_neg c2]
      have e4 : T.2.2.2.2.1 + 1 = nI (si + 1) := by rw [e3]; exact nI_1 si
      rw [e4] at c2
      refine ⟨bT_of h1 ⟨rfl, rfl⟩, nd, sa, si + 1, a1, a2, a3, ?_, ?_, e1, e2, e4⟩
      · by_cases c : si + 1 ≤ 99
        · exact c
        · exact absurd (nI_lt (by omega) (by omega)) c2
      · intro q
        refine absurd ?_ c1
        rw [e2, q]
        exact Int32.le_refl 0
theorem wTk_pass {T : TT} {m : Nat} (b : Bool) (k e : Int32) (hm : m ≤ 99) (h : wTk B T) : wTk B (T_pass T b k e (nI m)).2 := by
  unfold T_pass
  cases b with
  | false => exact wTk_silent hm h
  | true =>
    obtain ⟨w1, w2⟩ := wTk_words k e h
    dsimp only
    by_cases c : 0 < (T_words T k e).1
    · rw [if_pos c]
      rcases w2 with e | e | e
      · rw [e]
        exact wTk_goOn (k := 0) (by decide) w1
      · rw [e]
        exact wTk_goOn (k := 1) (by decide) w1
      · rw [e]
        exact wTk_goOn (k := 2) (by decide) w1
    · rw [if_neg c]
      exact wTk_silent hm w1
theorem wK_hr {h : Nat} (hw : wK K B TN S) (eh : K.1.2.2.1 = nI h) (hh : h + 1 ≤ 9999) : wK (hrC K B TN) B TN S := by
  have hg := CG_hr (wK_CG hw)
  obtain ⟨h1, h2, ⟨L, a1, a2, a3, a4⟩, ⟨m, b1, b2, b3⟩, -, h6, h7⟩ := hw
  refine ⟨hg.1, (GS_CG hg).2, ⟨L, a1, a2, a3, fun b hb => ?_⟩, ⟨m, b1, b2, b3⟩, ⟨h + 1, hh, ?_⟩, fun t ht => ?_, h7⟩
  · obtain ⟨k, p, c, d1, d2, d3, d4, d5, d6, d7⟩ := a4 b hb
    refine ⟨k, (p + c) % (2 * L), c, d1, Nat.mod_lt _ (by omega), d3, d4, d5, ?_, d7⟩
    show (phU K.1.1 K.2.1.2.1 K.2.1.2.2.1 B).getD b 0 = _
    unfold phU
    rw [up_gd hb]
    unfold fwI
    rw [a3, d6, d7, fw_nI (by omega) a2 d2 d4]
  · show K.1.2.2.1 + 1 = _
    rw [eh]
    exact nI_1 h
  · have l6 := CL6 h1.1
    have hTN := h1.2.2.2.2.2.1
    show wTk B ((mapUp (fun T => (T_hr K.2.1.1 (mvC K B).2.1.2.2.2.2.2.2.2.2.1 (mvC K B).2.1.2.2.2.2.2.2.2.2.2 K.1.2.1 T).2) TN K.2.2).getD t dT)
    rw [mapUp_gd ht (by omega), b3]
    exact wTk_pass _ _ _ b2 (h6 t ht)
theorem wK_it : ∀ (n h : Nat) (K : CK), wK K B TN S → K.1.2.2.1 = nI h → h + n ≤ 9999 → wK (itC K B TN n) B TN S
  | 0, _, _, hw, _, _ => hw
  | n + 1, h, K, hw, eh, hh => wK_it n (h + 1) (hrC K B TN) (wK_hr hw eh (by omega)) (by show K.1.2.2.1 + 1 = _; rw [eh]; exact nI_1 h) (by omega)
theorem wK_cl (hw : wK K B TN S) : wK (clK K TN) B TN S := by
  have hg := CG_cl (wK_CG hw)
  have l6 := CL6 hw.1.1
  have hTN := hw.1.2.2.2.2.2.1
  refine wK_eq hw hg.1 (GS_CG hg).2 ⟨rfl, rfl, rfl, fun _ _ => ⟨rfl, rfl, rfl⟩, fun t ht => ?_, fun _ _ => ⟨rfl, rfl, rfl⟩⟩
  show _ = T_clr ((mapUp T_clr TN K.2.2).getD t dT)
  rw [mapUp_gd ht (by omega)]
  rfl
theorem gh_seen : ∀ (n : Nat) (K : CK), (ghN K B TN n).2.1.2.2.2.1 = K.2.1.2.2.2.1 ∧ (ghN K B TN n).2.1.2.2.2.2.1 = K.2.1.2.2.2.2.1 ∧ (ghN K B TN n).2.1.2.2.2.2.2.1 = K.2.1.2.2.2.2.2.1
  | 0, _ => ⟨rfl, rfl, rfl⟩
  | n + 1, K => gh_seen n (ghK false K B TN)
end WK
section LK8
variable (xs : List Int32) (d : Nat) (now trial told im0 im1 : CK) (p : TP) (f : FP) (r : RS) (tr : Int32) (z : ZT) (Ks : CK) (I0 I1 nw eb wa ms mt : List Int32) (cc : C4) (B TN S : Nat)
variable {now trial told im0 im1 p f r tr z Ks I0 I1 nw eb wa ms mt cc B TN S}
theorem Lv_cl (hC : caI B TN S now Ks) : Lv B TN (clK now TN) (stA wa ms mt Ks) := by
  have l6 := CL6 hC.1.1.1
  have hTN := hC.1.1.2.2.2.2.2.1
  refine ⟨hC.2.2.1, hC.2.2.2.1, hC.2.2.2.2.1, rfl, rfl, hC.2.2.2.2.2.1, fun t ht => ?_⟩
  rw [stA_gd (CL6 hC.2.1.1) (by omega)]
  show (mapUp T_clr TN now.2.2).getD t dT = _
  rw [mapUp_gd ht (by omega)]
  exact hC.2.2.2.2.2.2.1 t ht
theorem HV_w {K : CK} (hw : wK K B TN S) : HV K B TN S := by
  refine ⟨wK_CG hw, ?_, fun t ht => (hw.2.2.2.2.2.1 t ht).1⟩
  obtain ⟨-, -, ⟨L, a1, a2, a3, a4⟩, -⟩ := hw
  refine ⟨L, by omega, a2, a3, fun b hb => ?_⟩
  obtain ⟨k, p, c, d1, d2, d3, d4, d5, d6, d7⟩ := a4 b hb
  exact ⟨p, c, d2, d4, d6, d7⟩
theorem k_hours (n : Int32) (hC : caI B TN S now Ks) (ht : GS trial) (hd : CL told) (ho : mOK nw eb wa ms mt) (hR : rsI im0 im1 p f r tr z I0 I1) : Alk xs d 70 162 [n] (hCl now trial told im0 im1 p f r tr) (mH (zS z Ks (I0 ++ I1)) nw eb wa ms mt cc) := by
  cases c : wiI n 0 100 with
  | false => exact ⟨.int (-1), _, _, int_nr _, Inv_mk hC ht hd ho hR, sp_hours_bad xs (d + 19) now trial told im0 im1 p f r tr n c, m_hours_bad (d := d + 18) (c := c) ..⟩
  | true =>
    have c' := c
    obtain ⟨N, hN, rfl⟩ := wi_of (M := 100) (by decide) c
    obtain ⟨h, hh, eh⟩ := hC.1.2.2.2.2.1
    have eh2 : Ks.1.2.2.1 = nI h := hC.2.2.2.2.1.symm.trans eh
    have ea : now.1.2.2.1 + nI N = nI (h + N) := by rw [eh, nI_add]
    have ea2 : Ks.1.2.2.1 + nI N = nI (h + N) := by rw [eh2, nI_add]
    by_cases c2 : h + N ≤ 9999
    · have h1 := sp_hours_ok xs (d + 15) now trial told im0 im1 p f r tr B TN S N (wK_CG hC.1) hN (by rw [ea]; exact nI_lt (b := 10000) (by omega) (by decide))
      have h2 := m_hours xs (d + 14) z Ks (I0 ++ I1) nw eb wa ms mt cc B TN S N hN (VS_ca hC) ho (by rw [ea2]; exact nI_le (b := 9999) (by omega) (by decide))
      have wc := wK_cl hC.1
      have hL : Lv B TN (hoursK now B TN N) (ghN (stA wa ms mt Ks) B TN N) := Lv_it N _ _ (Lv_cl hC) (HV_w wc) (GM_st (VS_ca hC) ho).1
      have hw : wK (hoursK now B TN N) B TN S := wK_it N h (clK now TN) wc eh (by omega)
      have hg := GM_ghN N _ (GM_st (VS_ca hC) ho)
      rw [sm_run (Or.inl rfl) hL hw.1 hg.1.1 (cl0_gh N _ (cl0_st (CL6 hC.2.1.1)))] at h1
      obtain ⟨s1, s2, s3⟩ := gh_seen (B := B) (TN := TN) N (stA wa ms mt Ks)
      refine ⟨_, _, _, int_nr _, Inv_p (Ks := ghN (stA wa ms mt Ks) B TN N) ⟨hw, hg.1.1, hL.1, hL.2.1, hL.2.2.1, hL.2.2.2.2.2.1, fun t htt => by rw [hL.2.2.2.2.2.2 t htt], fun i hi => ?_⟩ ht hd (MHp_T (GS_GM hg)) hR, h1, h2⟩
      rw [s1, s2, s3]
      exact hC.2.2.2.2.2.2.2 i hi
    · exact ⟨.int (-3), _, _, int_nr _, Inv_mk hC ht hd ho hR, sp_hours_full xs (d + 19) now trial told im0 im1 p f r tr (nI N) c' (by rw [ea]; exact nI_nlt (b := 10000) (by omega) (by omega)), m_hours_full (d := d + 18) (c := c') (c2 := by rw [ea2]; exact nI_ge (a := 9999) (by omega) (by omega)) ..⟩
/-- what is tried, so many hours on -/
theorem Lv_run (N : Nat) (ht : GS trial) (ho : mOK nw eb wa ms mt) (hC : caI B TN S now Ks) : Lv B TN (aheadK now trial B TN S N) (ghN (stA wa ms mt Ks) B TN N) := Lv_it N _ _ (Lv_ca ht hC) (HV_try hC.1 ht) (GM_st (VS_ca hC) ho).1
theorem k_runs (n w : Int32) (hC : caI B TN S now Ks) (ht : GS trial) (hd : CL told) (ho : mOK nw eb wa ms mt) (hR : rsI im0 im1 p f r tr z I0 I1) : Alk xs d 71 163 [n, w] (hCl now trial told im0 im1 p f r tr) (mH (zS z Ks (I0 ++ I1)) nw eb wa ms mt cc) := by
  cases c : (wiI n 0 100 && wiI w 0 3) with
  | false => exact ⟨.int (-1), _, _, int_nr _, Inv_mk hC ht hd ho hR, sp_runs_bad xs (d + 19) now trial told im0 im1 p f r tr n w c, m_runs_bad (d := d + 18) (c := c) ..⟩
  | true =>
    rw [Bool.and_eq_true] at c
    obtain ⟨N, hN, rfl⟩ := wi_of (M := 100) (by decide) c.1
    obtain ⟨k, hk, rfl⟩ := wi_of (M := 3) (by decide) c.2
    have hg := GM_ghN (S := S) N _ (GM_st (VS_ca hC) ho)
    have ha := CG_ah (n := N) (wK_CG hC.1) ht
    have hL := Lv_run N ht ho hC
    have h1 := sp_runs xs (d + 15) now trial told im0 im1 p f r tr B TN S N k (wK_CG hC.1) ht hN hk
    have h2 := m_runs xs (d + 14) z Ks (I0 ++ I1) nw eb wa ms mt cc B TN S N k hN hk (VS_ca hC) ho
    have h0 : cl0 (ghN (stA wa ms mt Ks) B TN N) TN := cl0_gh N _ (cl0_st (CL6 hC.2.1.1))
    have e : runsA (aheadK now trial B TN S N) TN k = mrunsA (ghN (stA wa ms mt Ks) B TN N) k := by
      match k, hk with
      | 0, _ => exact sm_run (Or.inl rfl) hL ha.1 hg.1.1 h0
      | 1, _ => exact sm_run (Or.inr rfl) hL ha.1 hg.1.1 h0
      | 2, _ => exact hL.2.2.2.1
      | 3, _ => exact hL.2.2.2.2.1
    rw [e] at h1
    exact ⟨_, _, _, int_nr _, Inv_p hC (GS_CG ha) hd (MHp_T (GS_GM hg)) hR, h1, h2⟩
theorem k_ahead (t n w : Int32) (hC : caI B TN S now Ks) (ht : GS trial) (hd : CL told) (ho : mOK nw eb wa ms mt) (hR : rsI im0 im1 p f r tr z I0 I1) : Alk xs d 72 164 [t, n, w] (hCl now trial told im0 im1 p f r tr) (mH (zS z Ks (I0 ++ I1)) nw eb wa ms mt cc) := by
  have h6 := CL6 hC.1.1.1
  have hTN := hC.1.1.2.2.2.2.2.1
  cases c : (hasI t now.1.2.2.2.2.1 && (wiI n 0 100 && wiI w 0 1)) with
  | false => exact ⟨.int (-1), _, _, int_nr _, Inv_mk hC ht hd ho hR, sp_ahead_bad xs (d + 19) now trial told im0 im1 p f r tr t n w h6 c, m_ahead_bad (d := d + 18) (hv := VS_ca hC) (c := by rw [← eq_TN hC]; exact c) ..⟩
  | true =>
    rw [Bool.and_eq_true, Bool.and_eq_true, hC.1.1.2.2.1] at c
    obtain ⟨t, htt, rfl⟩ := has_i (by omega) c.1
    obtain ⟨N, hN, rfl⟩ := wi_of (M := 100) (by decide) c.2.1
    obtain ⟨k, hk, rfl⟩ := wi_of (M := 1) (by decide) c.2.2
    have hg := GM_ghN (S := S) N _ (GM_st (VS_ca hC) ho)
    have ha := CG_ah (n := N) (wK_CG hC.1) ht
    have hL := Lv_run N ht ho hC
    have h1 := sp_ahead xs (d + 15) now trial told im0 im1 p f r tr B TN S t N k (wK_CG hC.1) ht htt hN hk
    have h2 := m_ahead xs (d + 14) z Ks (I0 ++ I1) nw eb wa ms mt cc B TN S t N k htt hN hk (VS_ca hC) ho
    have e : aheadA (aheadK now trial B TN S N) t k = maheadA (ghN (stA wa ms mt Ks) B TN N) t k := by
      have g6 := GM6 hg
      match k, hk with
      | 0, _ =>
        show ((aheadK now trial B TN S N).2.2.getD t dT).2.2.2.1 = ((ghN (stA wa ms mt Ks) B TN N).2.2.getD t dT).2.2.2.1
        rw [hL.2.2.2.2.2.2 t htt]
      | 1, _ =>
        show ((aheadK now trial B TN S N).2.2.getD t dT).2.2.2.2.2.2.2.2.1 = ((ghN (stA wa ms mt Ks) B TN N).2.2.map eT).getD t 0
        rw [hL.2.2.2.2.2.2 t htt, List.getD_eq_getElem?_getD (l := List.map _ _), List.getElem?_map, getT_at (by omega)]
        rfl
    rw [e] at h1
    exact ⟨_, _, _, int_nr _, Inv_p hC (GS_CG ha) hd (MHp_T (GS_GM hg)) hR, h1, h2⟩
end LK8

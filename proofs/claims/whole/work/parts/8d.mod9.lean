/-! The reference's hours, runs, ahead, at, when, again -/
section MC3
variable (xs : List Int32) (d : Nat) (z : ZT) (Ks : CK) (X nw eb wa ms mt : List Int32) (cc : C4) (B TN S : Nat)
theorem m_hours_bad (n : Int32) (c : wiI n 0 100 = false) (h : MH) : Ev xs (d + 2) 162 0 [some (.ref 0), some (.int n)] [] h (some (.int (-1))) h := by
  refine ev_go 1 (fun _ => rfl) ?_
  refine ev_call (y' := 161) rfl rfl rfl rfl (sp_far xs _ h n) ?_
  rw [c]
  exact ev_end 3 rfl
theorem m_hours_full (n : Int32) (c : wiI n 0 100 = true) (c2 : ¬ Ks.1.2.2.1 + n ≤ 9999) : Ev xs (d + 2) 162 0 [some (.ref 0), some (.int n)] [] (mH (zS z Ks X) nw eb wa ms mt cc) (some (.int (-3))) (mH (zS z Ks X) nw eb wa ms mt cc) := by
  refine ev_go 1 (fun _ => rfl) ?_
  refine ev_call (y' := 161) rfl rfl rfl rfl (sp_far xs _ _ n) ?_
  rw [c]
  refine ev_go 4 (fun _ => rfl) ?_
  refine ev_iald rfl rfl (k := 2) rfl ((sg (by decide)).trans fq_2) ?_
  refine ev_go 3 (fun _ => rfl) ?_
  refine ev_ic_le rfl rfl (fun n => absurd n (c2)) (fun _ => ?_)
  exact ev_end 2 rfl
theorem m_hours (N : Nat) (hN : N ≤ 100) (hv : VS Ks B TN S) (ho : mOK nw eb wa ms mt) (c2 : Ks.1.2.2.1 + nI N ≤ 9999) : Ev xs (d + 6) 162 0 [some (.ref 0), some (.int (nI N))] [] (mH (zS z Ks X) nw eb wa ms mt cc) (some (.int (smT 9 (ghN (stA wa ms mt Ks) B TN N).2.2))) (mT (zS z (ghN (stA wa ms mt Ks) B TN N) X) (ghN (stA wa ms mt Ks) B TN N)) := by
  refine ev_go 1 (fun _ => rfl) ?_
  refine ev_call (y' := 161) rfl rfl rfl rfl (sp_far xs _ _ (nI N)) ?_
  rw [show wiI (nI N) 0 100 = true from wi_nI (M := 100) hN (by decide)]
  refine ev_go 4 (fun _ => rfl) ?_
  refine ev_iald rfl rfl (k := 2) rfl ((sg (by decide)).trans fq_2) ?_
  refine ev_go 3 (fun _ => rfl) ?_
  refine ev_ic_le rfl rfl (fun _ => ?_) (fun n => absurd (c2) n)
  refine ev_go 1 (fun _ => rfl) ?_
  refine ev_call (y' := 133) rfl rfl rfl rfl (sp_stA xs _ z Ks X nw eb wa ms mt cc ho (CL6 hv.1.1)) ?_
  refine ev_go 2 (fun _ => rfl) ?_
  refine ev_call (y' := 148) rfl rfl rfl rfl (sp_hsg xs _ (zS z Ks X) (stA wa ms mt Ks) N (by omega) B TN S (GM_st hv ho)) ?_
  refine ev_go 1 (fun _ => rfl) ?_
  refine ev_call (y' := 134) rfl rfl rfl rfl (sp_settles xs _ z Ks X _ _ _ _ _ (ghN (stA wa ms mt Ks) B TN N)) ?_
  exact ev_end 3 rfl
theorem m_runs_bad (n w : Int32) (c : (wiI n 0 100 && wiI w 0 3) = false) (h : MH) : Ev xs (d + 2) 163 0 [some (.ref 0), some (.int n), some (.int w)] [] h (some (.int (-1))) h := by
  refine ev_go 1 (fun _ => rfl) ?_
  refine ev_call (y' := 161) rfl rfl rfl rfl (sp_far xs _ h n) ?_
  cases c1 : wiI n 0 100 with
  | false => exact ev_end 3 rfl
  | true =>
    rw [c1] at c
    refine ev_go 5 (fun _ => rfl) ?_
    refine ev_call (y' := 110) rfl rfl rfl rfl (sp_in xs _ h w 0 3) ?_
    rw [show wiI w 0 3 = false from c]
    exact ev_end 3 rfl
def mrunsA (K : CK) (k : Nat) : Int32 := match k with
  | 0 => smT 9 K.2.2
  | 1 => smT 10 K.2.2
  | 2 => K.1.2.2.2.2.2.2.1
  | _ => K.1.2.2.2.2.2.2.2
theorem m_runs (N k : Nat) (hN : N ≤ 100) (hk : k ≤ 3) (hv : VS Ks B TN S) (ho : mOK nw eb wa ms mt) : Ev xs (d + 6) 163 0 [some (.ref 0), some (.int (nI N)), some (.int (nI k))] [] (mH (zS z Ks X) nw eb wa ms mt cc) (some (.int (mrunsA (ghN (stA wa ms mt Ks) B TN N) k))) (mT (zS z Ks X) (ghN (stA wa ms mt Ks) B TN N)) := by
  refine ev_go 1 (fun _ => rfl) ?_
  refine ev_call (y' := 161) rfl rfl rfl rfl (sp_far xs _ _ (nI N)) ?_
  rw [show wiI (nI N) 0 100 = true from wi_nI (M := 100) hN (by decide)]
  refine ev_go 5 (fun _ => rfl) ?_
  refine ev_call (y' := 110) rfl rfl rfl rfl (sp_in xs _ _ (nI k) 0 3) ?_
  rw [show wiI (nI k) 0 3 = true from wi_nI (M := 3) hk (by decide)]
  refine ev_go 2 (fun _ => rfl) ?_
  refine ev_call (y' := 133) rfl rfl rfl rfl (sp_stA xs _ z Ks X nw eb wa ms mt cc ho (CL6 hv.1.1)) ?_
  refine ev_go 2 (fun _ => rfl) ?_
  refine ev_call (y' := 148) rfl rfl rfl rfl (sp_hsg xs _ (zS z Ks X) (stA wa ms mt Ks) N (by omega) B TN S (GM_st hv ho)) ?_
  match k, hk with
  | 0, _ => exact ev_end 5 rfl
  | 1, _ => exact ev_end 5 rfl
  | 2, _ => exact ev_end 5 rfl
  | 3, _ => exact ev_end 5 rfl
  | n + 4, h => exact absurd h (by omega)
theorem m_ahead_bad (t n w : Int32) (hv : VS Ks B TN S) (c : (hasI t Ks.1.2.2.2.2.1 && (wiI n 0 100 && wiI w 0 1)) = false) : Ev xs (d + 2) 164 0 [some (.ref 0), some (.int t), some (.int n), some (.int w)] [] (mH (zS z Ks X) nw eb wa ms mt cc) (some (.int (-1))) (mH (zS z Ks X) nw eb wa ms mt cc) := by
  refine ev_go 2 (fun _ => rfl) ?_
  refine ev_call (y' := 131) rfl rfl rfl rfl (sp_isT xs _ z Ks X nw eb wa ms mt cc t TN hv.1.2.2.1 (by have := hv.1.2.2.2.2.2.1; omega)) ?_
  cases c0 : hasI t Ks.1.2.2.2.2.1 with
  | false => exact ev_end 3 rfl
  | true =>
    rw [c0] at c
    refine ev_go 2 (fun _ => rfl) ?_
    refine ev_call (y' := 161) rfl rfl rfl rfl (sp_far xs _ _ n) ?_
    cases c1 : wiI n 0 100 with
    | false => exact ev_end 3 rfl
    | true =>
      rw [c1] at c
      refine ev_go 2 (fun _ => rfl) ?_
      refine ev_call (y' := 132) rfl rfl rfl rfl (sp_part xs _ _ w) ?_
      rw [show wiI w 0 1 = false from c]
      exact ev_end 3 rfl
def maheadA (K : CK) (t k : Nat) : Int32 := match k with
  | 0 => (K.2.2.getD t dT).2.2.2.1
  | _ => (K.2.2.map eT).getD t 0
theorem m_ahead (t N k : Nat) (ht : t < TN) (hN : N ≤ 100) (hk : k ≤ 1) (hv : VS Ks B TN S) (ho : mOK nw eb wa ms mt) : Ev xs (d + 6) 164 0 [some (.ref 0), some (.int (nI t)), some (.int (nI N)), some (.int (nI k))] [] (mH (zS z Ks X) nw eb wa ms mt cc) (some (.int (maheadA (ghN (stA wa ms mt Ks) B TN N) t k))) (mT (zS z Ks X) (ghN (stA wa ms mt Ks) B TN N)) := by
  have h6 := hv.1.2.2.2.2.2.1
  have hg := GM_ghN N _ (GM_st hv ho)
  have hl : t < (ghN (stA wa ms mt Ks) B TN N).2.2.length := by rw [GM6 hg]; omega
  refine ev_go 2 (fun _ => rfl) ?_
  refine ev_call (y' := 131) rfl rfl rfl rfl (sp_isT xs _ z Ks X nw eb wa ms mt cc (nI t) TN hv.1.2.2.1 (by omega)) ?_
  rw [show hasI (nI t) Ks.1.2.2.2.2.1 = true by rw [hv.1.2.2.1]; exact has_nI (by omega) ht]
  refine ev_go 2 (fun _ => rfl) ?_
  refine ev_call (y' := 161) rfl rfl rfl rfl (sp_far xs _ _ (nI N)) ?_
  rw [show wiI (nI N) 0 100 = true from wi_nI (M := 100) hN (by decide)]
  refine ev_go 2 (fun _ => rfl) ?_
  refine ev_call (y' := 132) rfl rfl rfl rfl (sp_part xs _ _ (nI k)) ?_
  rw [show wiI (nI k) 0 1 = true from wi_nI (M := 1) hk (by decide)]
  refine ev_go 2 (fun _ => rfl) ?_
  refine ev_call (y' := 133) rfl rfl rfl rfl (sp_stA xs _ z Ks X nw eb wa ms mt cc ho (CL6 hv.1.1)) ?_
  refine ev_go 2 (fun _ => rfl) ?_
  refine ev_call (y' := 148) rfl rfl rfl rfl (sp_hsg xs _ (zS z Ks X) (stA wa ms mt Ks) N (by omega) B TN S (GM_st hv ho)) ?_
  match k, hk with
  | 0, _ =>
    refine ev_go 5 (fun _ => rfl) ?_
    refine ev_call (y' := 136) rfl rfl rfl rfl (sp_ofT xs _ (zS z Ks X) _ _ _ _ _ (ghN (stA wa ms mt Ks) B TN N) (by omega) (getT_at hl) (k := 3) (by decide) rfl) ?_
    exact ev_end 2 rfl
  | 1, _ =>
    refine ev_go 5 (fun _ => rfl) ?_
    refine ev_iald (L := (ghN (stA wa ms mt Ks) B TN N).2.2.map eT) rfl rfl (mm_ix_nI (by omega)) (getD_at (by rw [List.length_map]; exact hl)) ?_
    exact ev_end 1 rfl
  | n + 2, h => exact absurd h (by omega)
theorem m_at_bad (b n : Int32) (hv : VS Ks B TN S) (c : (hasI b Ks.1.2.2.2.1 && wiI n 0 100) = false) : Ev xs (d + 2) 165 0 [some (.ref 0), some (.int b), some (.int n)] [] (mH (zS z Ks X) nw eb wa ms mt cc) (some (.int (-1))) (mH (zS z Ks X) nw eb wa ms mt cc) := by
  refine ev_go 2 (fun _ => rfl) ?_
  refine ev_call (y' := 130) rfl rfl rfl rfl (sp_isB xs _ z Ks X nw eb wa ms mt cc b B hv.1.2.1 (by have := hv.1.2.2.2.2.1; omega)) ?_
  cases c0 : hasI b Ks.1.2.2.2.1 with
  | false => exact ev_end 3 rfl
  | true =>
    rw [c0] at c
    refine ev_go 2 (fun _ => rfl) ?_
    refine ev_call (y' := 161) rfl rfl rfl rfl (sp_far xs _ _ n) ?_
    rw [show wiI n 0 100 = false from c]
    exact ev_end 3 rfl
theorem m_at (b N : Nat) (hb : b < B) (hN : N ≤ 100) (hv : VS Ks B TN S) (ho : mOK nw eb wa ms mt) : Ev xs (d + 6) 165 0 [some (.ref 0), some (.int (nI b)), some (.int (nI N))] [] (mH (zS z Ks X) nw eb wa ms mt cc) (some (.int (plI (ghN (stA wa ms mt Ks) B TN N).1.1 ((ghN (stA wa ms mt Ks) B TN N).2.1.2.1.getD b 0)))) (mT (zS z Ks X) (ghN (stA wa ms mt Ks) B TN N)) := by
  have hB := hv.1.2.2.2.2.1
  refine ev_go 2 (fun _ => rfl) ?_
  refine ev_call (y' := 130) rfl rfl rfl rfl (sp_isB xs _ z Ks X nw eb wa ms mt cc (nI b) B hv.1.2.1 (by omega)) ?_
  rw [show hasI (nI b) Ks.1.2.2.2.1 = true by rw [hv.1.2.1]; exact has_nI (by omega) hb]
  refine ev_go 2 (fun _ => rfl) ?_
  refine ev_call (y' := 161) rfl rfl rfl rfl (sp_far xs _ _ (nI N)) ?_
  rw [show wiI (nI N) 0 100 = true from wi_nI (M := 100) hN (by decide)]
  refine ev_go 2 (fun _ => rfl) ?_
  refine ev_call (y' := 133) rfl rfl rfl rfl (sp_stA xs _ z Ks X nw eb wa ms mt cc ho (CL6 hv.1.1)) ?_
  refine ev_go 2 (fun _ => rfl) ?_
  refine ev_call (y' := 148) rfl rfl rfl rfl (sp_hsg xs _ (zS z Ks X) (stA wa ms mt Ks) N (by omega) B TN S (GM_st hv ho)) ?_
  refine ev_go 2 (fun _ => rfl) ?_
  refine ev_call (y' := 138) rfl rfl rfl rfl (sp_pl xs _ (zS z Ks X) _ _ _ _ _ (ghN (stA wa ms mt Ks) B TN N) b (by omega)) ?_
  exact ev_end 1 rfl
theorem m_when_bad (a b : Int32) (hv : VS Ks B TN S) (c : whC Ks a b = false) : Ev xs (d + 2) 166 0 [some (.ref 0), some (.int a), some (.int b), none] [] (mH (zS z Ks X) nw eb wa ms mt cc) (some (.int (-1))) (mH (zS z Ks X) nw eb wa ms mt cc) := by
  have hB := hv.1.2.2.2.2.1
  unfold whC at c
  refine ev_go 2 (fun _ => rfl) ?_
  refine ev_call (y' := 130) rfl rfl rfl rfl (sp_isB xs _ z Ks X nw eb wa ms mt cc a B hv.1.2.1 (by omega)) ?_
  cases c0 : hasI a Ks.1.2.2.2.1 with
  | false => exact ev_end 3 rfl
  | true =>
    rw [c0] at c
    refine ev_go 3 (fun _ => rfl) ?_
    refine ev_call (y' := 130) rfl rfl rfl rfl (sp_isB xs _ z Ks X nw eb wa ms mt cc b B hv.1.2.1 (by omega)) ?_
    cases c1 : hasI b Ks.1.2.2.2.1 with
    | false => exact ev_end 3 rfl
    | true =>
      rw [c1] at c
      refine ev_go 3 (fun _ => rfl) ?_
      refine ev_ic_ne rfl rfl (fun n => absurd n (fun n => n (Decidable.of_not_not (of_decide_eq_false c)))) (fun _ => ?_)
      exact ev_end 2 rfl
/-- the first hour in which they meet -/
def gwA (B TN a b : Nat) (m h : Nat) (K : CK) : Int32 := match m with
  | 0 => -4
  | m + 1 => if (ghK false K B TN).2.1.2.2.2.2.2.2.2.2.2.getD (5 * a + b) 0 = 1 then nI h else gwA B TN a b m (h + 1) (ghK false K B TN)
theorem lp_mwhen (a b : Nat) (ha : a < B) (hb : b < B) : ∀ m h, h + m = 101 → ∀ K : CK, GM K B TN S → ∃ K', GS K' ∧ Ev xs (d + 5) 166 29 [some (.ref 0), some (.int (nI a)), some (.int (nI b)), some (.int (nI h))] [] (mT (zS z Ks X) K) (some (.int (gwA B TN a b m h K))) (mT (zS z Ks X) K') := by
  intro m
  induction m with
  | zero =>
    intro h hh K hn
    refine ⟨K, GS_GM hn, ?_⟩
    have e : h = 101 := by omega
    subst e
    refine ev_go 2 (fun _ => rfl) ?_
    refine ev_ic_gt rfl rfl (fun _ => ?_) (fun n => absurd (nI_lt (a := 100) (b := 101) (by omega) (by omega)) n)
    exact ev_end 2 rfl
  | succ m ih =>
    intro h hh K hn
    have hB := hn.1.1.2.2.2.2.1
    have hg := GM_gh false hn
    have hl : 5 * a + b < (ghK false K B TN).2.1.2.2.2.2.2.2.2.2.2.length := by rw [hg.1.1.1.2.2.2.2.2.2.2.2.2.1]; omega
    have pre : ∀ K' (r : Option Value), Ev xs (d + 5) 166 51 [some (.ref 0), some (.int (nI a)), some (.int (nI b)), some (.int (nI h))] [.int 1, .int ((ghK false K B TN).2.1.2.2.2.2.2.2.2.2.2.getD (5 * a + b) 0)] (mT (zS z Ks X) (ghK false K B TN)) r K' → Ev xs (d + 5) 166 29 [some (.ref 0), some (.int (nI a)), some (.int (nI b)), some (.int (nI h))] [] (mT (zS z Ks X) K) r K' := by
      intro K' r hr
      refine ev_go 2 (fun _ => rfl) ?_
      refine ev_ic_gt rfl rfl (fun n => absurd n (nI_nlt (b := h) (a := 100) (by omega) (by omega))) (fun _ => ?_)
      refine ev_go 2 (fun _ => rfl) ?_
      refine ev_call (y' := 147) rfl rfl rfl rfl (sp_hg xs _ (zS z Ks X) K false B TN S hn) ?_
      refine ev_go 7 (fun _ => rfl) ?_
      refine ev_iald (L := (ghK false K B TN).2.1.2.2.2.2.2.2.2.2.2) rfl rfl (ixc5 (by omega)) (getD_at hl) ?_
      exact ev_go 1 (fun _ => rfl) hr
    unfold gwA
    by_cases c : (ghK false K B TN).2.1.2.2.2.2.2.2.2.2.2.getD (5 * a + b) 0 = 1
    · rw [if_pos c]
      refine ⟨_, GS_GM hg, pre _ _ ?_⟩
      refine ev_ic_ne rfl rfl (fun n => absurd n (fun n => n c)) (fun _ => ?_)
      exact ev_end 2 rfl
    · rw [if_neg c]
      obtain ⟨K', h1, h2⟩ := ih (h + 1) (by omega) _ hg
      refine ⟨K', h1, pre _ _ ?_⟩
      refine ev_ic_ne rfl rfl (fun _ => ?_) (fun n => absurd (c) n)
      refine ev_go 2 (ls' := [some (.ref 0), some (.int (nI a)), some (.int (nI b)), some (.int (nI h + Int32.ofInt 1))]) (fun _ => rfl) ?_
      rw [nI_inc]
      exact h2
theorem m_when (a b : Nat) (ha : a < B) (hb : b < B) (hab : a ≠ b) (hv : VS Ks B TN S) (ho : mOK nw eb wa ms mt) : ∃ K', GS K' ∧ Ev xs (d + 5) 166 0 [some (.ref 0), some (.int (nI a)), some (.int (nI b)), none] [] (mH (zS z Ks X) nw eb wa ms mt cc) (some (.int (gwA B TN a b 101 0 (stA wa ms mt Ks)))) (mT (zS z Ks X) K') := by
  have hB := hv.1.2.2.2.2.1
  obtain ⟨K', h1, h2⟩ := lp_mwhen xs d z Ks X B TN S a b ha hb 101 0 (by omega) _ (GM_st hv ho)
  refine ⟨K', h1, ?_⟩
  refine ev_go 2 (fun _ => rfl) ?_
  refine ev_call (y' := 130) rfl rfl rfl rfl (sp_isB xs _ z Ks X nw eb wa ms mt cc (nI a) B hv.1.2.1 (by omega)) ?_
  rw [show hasI (nI a) Ks.1.2.2.2.1 = true by rw [hv.1.2.1]; exact has_nI (by omega) ha]
  refine ev_go 3 (fun _ => rfl) ?_
  refine ev_call (y' := 130) rfl rfl rfl rfl (sp_isB xs _ z Ks X nw eb wa ms mt cc (nI b) B hv.1.2.1 (by omega)) ?_
  rw [show hasI (nI b) Ks.1.2.2.2.1 = true by rw [hv.1.2.1]; exact has_nI (by omega) hb]
  refine ev_go 3 (fun _ => rfl) ?_
  refine ev_ic_ne rfl rfl (fun _ => ?_) (fun n => absurd (fun n => hab ((nI_eq (by omega) (by omega)).mp n)) n)
  refine ev_go 1 (fun _ => rfl) ?_
  refine ev_call (y' := 133) rfl rfl rfl rfl (sp_stA xs _ z Ks X nw eb wa ms mt cc ho (CL6 hv.1.1)) ?_
  refine ev_go 2 (fun _ => rfl) ?_
  exact h2
end MC3

/-! The reference's again, swap -/
def aqS (K Ks : CK) (m b : Nat) (q : Bool) : Bool := match m with
  | 0 => q
  | m + 1 => aqS K Ks m (b + 1) (q && decide (K.2.1.2.1.getD b 0 = Ks.2.1.2.1.getD b 0))
def gaA (Ks : CK) (B TN : Nat) (m h : Nat) (K : CK) : Int32 := match m with
  | 0 => -4
  | m + 1 => match aqS (ghK false K B TN) Ks B 0 true with
    | true => nI h
    | false => gaA Ks B TN m (h + 1) (ghK false K B TN)
theorem ix32 {b : Nat} (h : 3 + 3 * b + 2 < 2 ^ 31) : mm_ix (Int32.ofInt 3 + Int32.ofInt 3 * nI b + Int32.ofInt 2) = some (3 + 3 * b + 2) := ix3 (w := 2) h
section MC6
variable (xs : List Int32) (d : Nat) (z : ZT) (Ks : CK) (X nw eb wa ms mt : List Int32) (cc : C4) (B TN S : Nat)
theorem lp_agI (K : CK) (n : Int32) (eB : Ks.1.2.2.2.1 = nI B) (hB : B ≤ 5) (r : Option Value) (R : MH) : ∀ m b, b + m = B → ∀ q : Bool, (Ev xs (d + 1) 167 69 [some (.ref 0), some (.int n), some (.int (bI (aqS K Ks m b q))), some (.int (nI B))] [] (mT (zS z Ks X) K) r R) → Ev xs (d + 1) 167 21 [some (.ref 0), some (.int n), some (.int (bI q)), some (.int (nI b))] [] (mT (zS z Ks X) K) r R := by
  intro m
  induction m with
  | zero =>
    intro b hb q kk
    have e : b = B := by omega
    subst e
    refine ev_go 4 (fun _ => rfl) ?_
    refine ev_iald rfl rfl (k := 18) rfl ((sg (by decide)).trans fq_18) ?_
    rw [eB]
    refine ev_ic_ge rfl rfl (fun _ => ?_) (fun n => absurd (nI_le (Nat.le_refl _) (by omega)) n)
    exact kk
  | succ m ih =>
    intro b hb q kk
    unfold aqS at kk
    have tl : ∀ q2 : Bool, q2 = (q && decide (K.2.1.2.1.getD b 0 = Ks.2.1.2.1.getD b 0)) → Ev xs (d + 1) 167 62 [some (.ref 0), some (.int n), some (.int (bI q)), some (.int (nI b))] [.int (bI q2)] (mT (zS z Ks X) K) r R := by
      intro q2 hq
      refine ev_go 3 (ls' := [some (.ref 0), some (.int n), some (.int (bI q2)), some (.int (nI b + Int32.ofInt 1))]) (fun _ => rfl) ?_
      rw [nI_inc]
      exact ih (b + 1) (by omega) q2 (by rw [hq]; exact kk)
    refine ev_go 4 (fun _ => rfl) ?_
    refine ev_iald rfl rfl (k := 18) rfl ((sg (by decide)).trans fq_18) ?_
    rw [eB]
    refine ev_ic_ge rfl rfl (fun n => absurd n (nI_ge (by omega) (by omega))) (fun _ => ?_)
    cases q with
    | false =>
      refine ev_go 3 (fun _ => rfl) ?_
      exact tl false rfl
    | true =>
      refine ev_go 5 (fun _ => rfl) ?_
      refine ev_call (y' := 135) rfl rfl rfl rfl (sp_of xs _ (zS z Ks X) _ _ _ _ _ K b 1 (by omega) (by decide)) ?_
      refine ev_go 9 (fun _ => rfl) ?_
      refine ev_iald rfl rfl (ix31 (by omega)) ((sg (by omega)).trans (fq_B (b := b) (w := 1) (by omega) (by decide))) ?_
      by_cases c : K.2.1.2.1.getD b 0 = Ks.2.1.2.1.getD b 0
      · refine ev_ic_ne rfl rfl (fun n => absurd n (fun n => n c)) (fun _ => ?_)
        refine ev_go 2 (fun _ => rfl) ?_
        exact tl true (by rw [decide_eq_true c]; rfl)
      · refine ev_ic_ne rfl rfl (fun _ => ?_) (fun n => absurd (c) n)
        refine ev_go 1 (fun _ => rfl) ?_
        exact tl false (by rw [decide_eq_false c]; rfl)
theorem lp_agM (eB : Ks.1.2.2.2.1 = nI B) : ∀ m h, h + m = 101 → ∀ (K : CK) (z1 z2 : Option Value), GM K B TN S → ∃ K', GS K' ∧ Ev xs (d + 5) 167 6 [some (.ref 0), some (.int (nI h)), z1, z2] [] (mT (zS z Ks X) K) (some (.int (gaA Ks B TN m h K))) (mT (zS z Ks X) K') := by
  intro m
  induction m with
  | zero =>
    intro h hh K z1 z2 hn
    refine ⟨K, GS_GM hn, ?_⟩
    have e : h = 101 := by omega
    subst e
    refine ev_go 2 (fun _ => rfl) ?_
    refine ev_ic_gt rfl rfl (fun _ => ?_) (fun n => absurd (nI_lt (a := 100) (b := 101) (by omega) (by omega)) n)
    exact ev_end 2 rfl
  | succ m ih =>
    intro h hh K z1 z2 hn
    have hB := hn.1.1.2.2.2.2.1
    have hg := GM_gh false hn
    have pre : ∀ (r : Option Value) (R : MH), (Ev xs (d + 5) 167 69 [some (.ref 0), some (.int (nI h)), some (.int (bI (aqS (ghK false K B TN) Ks B 0 true))), some (.int (nI B))] [] (mT (zS z Ks X) (ghK false K B TN)) r R) → Ev xs (d + 5) 167 6 [some (.ref 0), some (.int (nI h)), z1, z2] [] (mT (zS z Ks X) K) r R := by
      intro r R hr
      refine ev_go 2 (fun _ => rfl) ?_
      refine ev_ic_gt rfl rfl (fun n => absurd n (nI_nlt (a := 100) (b := h) (by omega) (by omega))) (fun _ => ?_)
      refine ev_go 2 (fun _ => rfl) ?_
      refine ev_call (y' := 147) rfl rfl rfl rfl (sp_hg xs _ (zS z Ks X) K false B TN S hn) ?_
      refine ev_go 4 (ls' := [some (.ref 0), some (.int (nI h)), some (.int (bI true)), some (.int (nI 0))]) (fun _ => rfl) ?_
      exact lp_agI xs _ z Ks X B (ghK false K B TN) (nI h) eB hB r R B 0 (by omega) true hr
    unfold gaA
    cases hq : aqS (ghK false K B TN) Ks B 0 true with
    | true =>
      rw [hq] at pre
      refine ⟨_, GS_GM hg, pre _ _ (ev_end 4 rfl)⟩
    | false =>
      rw [hq] at pre
      obtain ⟨K', h1, h2⟩ := ih (h + 1) (by omega) (ghK false K B TN) (some (.int (bI false))) (some (.int (nI B))) hg
      refine ⟨K', h1, pre _ _ ?_⟩
      refine ev_go 4 (ls' := [some (.ref 0), some (.int (nI h + Int32.ofInt 1)), some (.int (bI false)), some (.int (nI B))]) (fun _ => rfl) ?_
      rw [nI_inc]
      exact h2
theorem m_again (hv : VS Ks B TN S) (ho : mOK nw eb wa ms mt) : ∃ K', GS K' ∧ Ev xs (d + 5) 167 0 [some (.ref 0), none, none, none] [] (mH (zS z Ks X) nw eb wa ms mt cc) (some (.int (gaA Ks B TN 100 1 (stA wa ms mt Ks)))) (mT (zS z Ks X) K') := by
  obtain ⟨K', h1, h2⟩ := lp_agM xs d z Ks X B TN S hv.1.2.1 100 1 (by omega) (stA wa ms mt Ks) none none (GM_st hv ho)
  refine ⟨K', h1, ?_⟩
  refine ev_go 1 (fun _ => rfl) ?_
  refine ev_call (y' := 133) rfl rfl rfl rfl (sp_stA xs _ z Ks X nw eb wa ms mt cc ho (CL6 hv.1.1)) ?_
  refine ev_go 2 (fun _ => rfl) ?_
  exact h2
end MC6

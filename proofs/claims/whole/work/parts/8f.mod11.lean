/-! The reference's best, kind, need, again: the calls -/
section MC5
variable (xs : List Int32) (d : Nat) (z : ZT) (Ks : CK) (X nw eb wa ms mt : List Int32) (cc : C4) (B TN S : Nat)
theorem m_best_bad (b w n k : Int32) (hv : VS Ks B TN S) (c : (hasI b Ks.1.2.2.2.1 && (wiI w 1 2 && (wiI n 0 100 && wiI k 0 1))) = false) : Ev xs (d + 2) 172 0 [some (.ref 0), some (.int b), some (.int w), some (.int n), some (.int k)] [] (mH (zS z Ks X) nw eb wa ms mt cc) (some (.int (-1))) (mH (zS z Ks X) nw eb wa ms mt cc) := by
  refine ev_go 2 (fun _ => rfl) ?_
  refine ev_call (y' := 130) rfl rfl rfl rfl (sp_isB xs _ z Ks X nw eb wa ms mt cc b B hv.1.2.1 (by have := hv.1.2.2.2.2.1; omega)) ?_
  cases c0 : hasI b Ks.1.2.2.2.1 with
  | false => exact ev_end 3 rfl
  | true =>
    rw [c0] at c
    refine ev_go 5 (fun _ => rfl) ?_
    refine ev_call (y' := 110) rfl rfl rfl rfl (sp_in xs _ _ w 1 2) ?_
    cases c1 : wiI w 1 2 with
    | false => exact ev_end 3 rfl
    | true =>
      rw [c1] at c
      refine ev_go 2 (fun _ => rfl) ?_
      refine ev_call (y' := 161) rfl rfl rfl rfl (sp_far xs _ _ n) ?_
      cases c2 : wiI n 0 100 with
      | false => exact ev_end 3 rfl
      | true =>
        rw [c2] at c
        refine ev_go 2 (fun _ => rfl) ?_
        refine ev_call (y' := 132) rfl rfl rfl rfl (sp_part xs _ _ k) ?_
        rw [show wiI k 0 1 = false from c]
        exact ev_end 3 rfl
theorem m_best (b w N L M : Nat) (k : Int32) (E : Nat → Int32) (hb : b < B) (hw : w = 1 ∨ w = 2) (hN : N ≤ 100) (c3 : wiI k 0 1 = true) (hL : L ≤ M) (hM : M < 1000) (eM : moI Ks.1.1 (nI w) = nI M) (eL : leI (nI w) = nI L) (hv : VS Ks B TN S) (ho : mOK nw eb wa ms mt) (hE : ∀ v, v ≤ M → ∀ nw eb wa ms mt : List Int32, mOK nw eb wa ms mt → smT 9 (ghN (putK (stA wa ms mt Ks) w b (nI v)) B TN N).2.2 = E v) : ∃ h', MHp (zJ z (jfold E (M + 1 - L) L (-4, -1))) Ks X h' ∧ Ev xs (d + 8) 172 0 [some (.ref 0), some (.int (nI b)), some (.int (nI w)), some (.int (nI N)), some (.int k)] [] (mH (zS z Ks X) nw eb wa ms mt cc) (some (.int (jA k (jfold E (M + 1 - L) L (-4, -1))))) h' := by
  have hB := hv.1.2.2.2.2.1
  obtain ⟨h', h1, h2⟩ := sp_bestM xs d z Ks X nw eb wa ms mt cc B TN S b w N L M (by omega) (by omega) hN hL hM k E hv ho hE
  refine ⟨h', h1, ?_⟩
  have pre : ∀ (r : Option Value) (R : MH), Ev xs (d + 8) 172 37 [some (.ref 0), some (.int (nI b)), some (.int (nI w)), some (.int (nI N)), some (.int k)] [] (mH (zS z Ks X) nw eb wa ms mt cc) r R → Ev xs (d + 8) 172 0 [some (.ref 0), some (.int (nI b)), some (.int (nI w)), some (.int (nI N)), some (.int k)] [] (mH (zS z Ks X) nw eb wa ms mt cc) r R := by
    intro r R hr
    refine ev_go 2 (fun _ => rfl) ?_
    refine ev_call (y' := 130) rfl rfl rfl rfl (sp_isB xs _ z Ks X nw eb wa ms mt cc (nI b) B hv.1.2.1 (by omega)) ?_
    rw [show hasI (nI b) Ks.1.2.2.2.1 = true by rw [hv.1.2.1]; exact has_nI (by omega) hb]
    refine ev_go 5 (fun _ => rfl) ?_
    refine ev_call (y' := 110) rfl rfl rfl rfl (sp_in xs _ _ (nI w) 1 2) ?_
    rw [show wiI (nI w) 1 2 = true by rcases hw with rfl | rfl <;> rfl]
    refine ev_go 2 (fun _ => rfl) ?_
    refine ev_call (y' := 161) rfl rfl rfl rfl (sp_far xs _ _ (nI N)) ?_
    rw [show wiI (nI N) 0 100 = true from wi_nI (M := 100) hN (by decide)]
    refine ev_go 2 (fun _ => rfl) ?_
    refine ev_call (y' := 132) rfl rfl rfl rfl (sp_part xs _ _ k) ?_
    rw [c3]
    exact ev_go 1 (fun _ => rfl) hr
  refine pre _ _ ?_
  rcases hw with rfl | rfl
  · have e1 : (2 : Int32) * Ks.1.1 - 1 = nI M := eM
    have e2 : nI 0 = nI L := eL
    refine ev_go 11 (fun _ => rfl) ?_
    refine ev_iald rfl rfl (k := 0) rfl ((sg (by decide)).trans fq_0) ?_
    refine ev_go 5 (st' := [.int k, .int (nI N), .int ((2 : Int32) * Ks.1.1 - 1), .int (nI 0), .int (nI 1), .int (nI b), .ref 0]) (fun _ => rfl) ?_
    rw [e1, e2]
    refine ev_call (y' := 171) rfl rfl rfl rfl (h2) ?_
    exact ev_end 2 rfl
  · have e1 : nI 9 = nI M := eM
    have e2 : nI 1 = nI L := eL
    refine ev_go 10 (st' := [.int k, .int (nI N), .int (nI 9), .int (nI 1), .int (nI 2), .int (nI b), .ref 0]) (fun _ => rfl) ?_
    rw [e1, e2]
    refine ev_call (y' := 171) rfl rfl rfl rfl (h2) ?_
    exact ev_end 1 rfl
theorem m_kind_bad (b n k : Int32) (hv : VS Ks B TN S) (c : (hasI b Ks.1.2.2.2.1 && (wiI n 0 100 && wiI k 0 1)) = false) : Ev xs (d + 2) 173 0 [some (.ref 0), some (.int b), some (.int n), some (.int k)] [] (mH (zS z Ks X) nw eb wa ms mt cc) (some (.int (-1))) (mH (zS z Ks X) nw eb wa ms mt cc) := by
  refine ev_go 2 (fun _ => rfl) ?_
  refine ev_call (y' := 130) rfl rfl rfl rfl (sp_isB xs _ z Ks X nw eb wa ms mt cc b B hv.1.2.1 (by have := hv.1.2.2.2.2.1; omega)) ?_
  cases c0 : hasI b Ks.1.2.2.2.1 with
  | false => exact ev_end 3 rfl
  | true =>
    rw [c0] at c
    refine ev_go 2 (fun _ => rfl) ?_
    refine ev_call (y' := 161) rfl rfl rfl rfl (sp_far xs _ _ n) ?_
    cases c2 : wiI n 0 100 with
    | false => exact ev_end 3 rfl
    | true =>
      rw [c2] at c
      refine ev_go 2 (fun _ => rfl) ?_
      refine ev_call (y' := 132) rfl rfl rfl rfl (sp_part xs _ _ k) ?_
      rw [show wiI k 0 1 = false from c]
      exact ev_end 3 rfl
theorem m_kind (b N : Nat) (k : Int32) (E : Nat → Int32) (hb : b < B) (hN : N ≤ 100) (c3 : wiI k 0 1 = true) (hv : VS Ks B TN S) (ho : mOK nw eb wa ms mt) (hE : ∀ v, v ≤ 3 → ∀ nw eb wa ms mt : List Int32, mOK nw eb wa ms mt → smT 9 (ghN (putK (stA wa ms mt Ks) 0 b (nI v)) B TN N).2.2 = E v) : ∃ h', MHp (zJ z (jfold E 4 0 (-4, -1))) Ks X h' ∧ Ev xs (d + 8) 173 0 [some (.ref 0), some (.int (nI b)), some (.int (nI N)), some (.int k)] [] (mH (zS z Ks X) nw eb wa ms mt cc) (some (.int (jA k (jfold E 4 0 (-4, -1))))) h' := by
  have hB := hv.1.2.2.2.2.1
  obtain ⟨h', h1, h2⟩ := sp_bestM xs d z Ks X nw eb wa ms mt cc B TN S b 0 N 0 3 (by omega) (by omega) hN (by omega) (by omega) k E hv ho hE
  refine ⟨h', h1, ?_⟩
  refine ev_go 2 (fun _ => rfl) ?_
  refine ev_call (y' := 130) rfl rfl rfl rfl (sp_isB xs _ z Ks X nw eb wa ms mt cc (nI b) B hv.1.2.1 (by omega)) ?_
  rw [show hasI (nI b) Ks.1.2.2.2.1 = true by rw [hv.1.2.1]; exact has_nI (by omega) hb]
  refine ev_go 2 (fun _ => rfl) ?_
  refine ev_call (y' := 161) rfl rfl rfl rfl (sp_far xs _ _ (nI N)) ?_
  rw [show wiI (nI N) 0 100 = true from wi_nI (M := 100) hN (by decide)]
  refine ev_go 2 (fun _ => rfl) ?_
  refine ev_call (y' := 132) rfl rfl rfl rfl (sp_part xs _ _ k) ?_
  rw [c3]
  refine ev_go 8 (fun _ => rfl) ?_
  refine ev_call (y' := 171) rfl rfl rfl rfl (h2) ?_
  exact ev_end 2 rfl
theorem m_need_bad (n : Int32) (c : wiI n 0 100 = false) (h : MH) : Ev xs (d + 2) 174 0 [some (.ref 0), some (.int n), none] [] h (some (.int (-1))) h := by
  refine ev_go 1 (fun _ => rfl) ?_
  refine ev_call (y' := 161) rfl rfl rfl rfl (sp_far xs _ h n) ?_
  rw [c]
  exact ev_end 3 rfl
def memK (K : CK) (v : Int32) : CK := ((K.1.1, v, K.1.2.2), K.2)
theorem GM_mem {K : CK} {B TN S : Nat} (v : Int32) (h : GM K B TN S) : GM (memK K v) B TN S := h
/-- the first memory by which nothing is lost -/
def ndM (E : Nat → Int32) (m v : Nat) : Int32 := match m with
  | 0 => -4
  | m + 1 => if E v = 0 then nI v else ndM E m (v + 1)
theorem lp_needM (N : Nat) (hN : N ≤ 100) (E : Nat → Int32) (hv : VS Ks B TN S) (hE : ∀ v, v ≤ 99 → ∀ nw eb wa ms mt : List Int32, mOK nw eb wa ms mt → smT 10 (ghN (memK (stA wa ms mt Ks) (nI v)) B TN N).2.2 = E v) : ∀ m v, v + m = 100 → ∀ (nw eb wa ms mt : List Int32) (cc : C4), mOK nw eb wa ms mt → ∃ h', MHp z Ks X h' ∧ Ev xs (d + 6) 174 11 [some (.ref 0), some (.int (nI N)), some (.int (nI v))] [] (mH (zS z Ks X) nw eb wa ms mt cc) (some (.int (ndM E m v))) h' := by
  intro m
  induction m with
  | zero =>
    intro v hvv nw eb wa ms mt cc ho
    have e : v = 100 := by omega
    subst e
    refine ⟨_, ⟨_, _, _, _, _, cc, ho, rfl⟩, ?_⟩
    refine ev_go 2 (fun _ => rfl) ?_
    refine ev_ic_gt rfl rfl (fun _ => ?_) (fun n => absurd (nI_lt (a := 99) (b := 100) (by omega) (by omega)) n)
    exact ev_end 2 rfl
  | succ m ih =>
    intro v hvv nw eb wa ms mt cc ho
    have hg := GM_mem (nI v) (GM_st hv ho)
    have hg2 := GM_ghN N _ hg
    have pre : ∀ (r : Option Value) (R : MH), Ev xs (d + 6) 174 37 [some (.ref 0), some (.int (nI N)), some (.int (nI v))] [.int (E v)] (mT (zS z Ks X) (ghN (memK (stA wa ms mt Ks) (nI v)) B TN N)) r R → Ev xs (d + 6) 174 11 [some (.ref 0), some (.int (nI N)), some (.int (nI v))] [] (mH (zS z Ks X) nw eb wa ms mt cc) r R := by
      intro r R hr
      refine ev_go 2 (fun _ => rfl) ?_
      refine ev_ic_gt rfl rfl (fun n => absurd n (nI_nlt (a := 99) (b := v) (by omega) (by omega))) (fun _ => ?_)
      refine ev_go 1 (fun _ => rfl) ?_
      refine ev_call (y' := 133) rfl rfl rfl rfl (sp_stA xs _ z Ks X nw eb wa ms mt cc ho (CL6 hv.1.1)) ?_
      refine ev_go 4 (fun _ => rfl) ?_
      refine ev_iastE rfl (L := flK (stA wa ms mt Ks)) (h2 := mT (zS z Ks X) (memK (stA wa ms mt Ks) (nI v))) rfl (k := 1) rfl (by rw [flK_len]; decide) rfl ?_
      refine ev_go 2 (fun _ => rfl) ?_
      refine ev_call (y' := 148) rfl rfl rfl rfl (sp_hsg xs _ (zS z Ks X) (memK (stA wa ms mt Ks) (nI v)) N (by omega) B TN S hg) ?_
      refine ev_go 2 (st' := [.int (smT 10 (ghN (memK (stA wa ms mt Ks) (nI v)) B TN N).2.2)]) (fun _ => rfl) ?_
      rw [hE v (by omega) nw eb wa ms mt ho]
      exact hr
    unfold ndM
    by_cases c : E v = 0
    · rw [if_pos c]
      refine ⟨_, MHp_T (GS_GM hg2), pre _ _ ?_⟩
      refine ev_if_ne rfl rfl (fun n => absurd n (fun n => n c)) (fun _ => ?_)
      exact ev_end 2 rfl
    · rw [if_neg c]
      obtain ⟨h', h1, h2⟩ := ih (v + 1) (by omega) _ _ _ _ _ (smT 9 (ghN (memK (stA wa ms mt Ks) (nI v)) B TN N).2.2, smT 10 (ghN (memK (stA wa ms mt Ks) (nI v)) B TN N).2.2, (ghN (memK (stA wa ms mt Ks) (nI v)) B TN N).1.2.2.2.2.2.2.1, (ghN (memK (stA wa ms mt Ks) (nI v)) B TN N).1.2.2.2.2.2.2.2) (mOK_K (K := ghN (memK (stA wa ms mt Ks) (nI v)) B TN N) (eb := (ghN (memK (stA wa ms mt Ks) (nI v)) B TN N).2.2.map eT) (GS_GM hg2) (by rw [List.length_map]; exact GM6 hg2))
      refine ⟨h', h1, pre _ _ ?_⟩
      refine ev_if_ne rfl rfl (fun _ => ?_) (fun n => absurd (c) n)
      refine ev_go 2 (ls' := [some (.ref 0), some (.int (nI N)), some (.int (nI v + Int32.ofInt 1))]) (fun _ => rfl) ?_
      rw [nI_inc]
      exact h2
theorem m_need (N : Nat) (hN : N ≤ 100) (E : Nat → Int32) (hv : VS Ks B TN S) (ho : mOK nw eb wa ms mt) (hE : ∀ v, v ≤ 99 → ∀ nw eb wa ms mt : List Int32, mOK nw eb wa ms mt → smT 10 (ghN (memK (stA wa ms mt Ks) (nI v)) B TN N).2.2 = E v) : ∃ h', MHp z Ks X h' ∧ Ev xs (d + 6) 174 0 [some (.ref 0), some (.int (nI N)), none] [] (mH (zS z Ks X) nw eb wa ms mt cc) (some (.int (ndM E 99 1))) h' := by
  obtain ⟨h', h1, h2⟩ := lp_needM xs d z Ks X B TN S N hN E hv hE 99 1 (by omega) nw eb wa ms mt cc ho
  refine ⟨h', h1, ?_⟩
  refine ev_go 1 (fun _ => rfl) ?_
  refine ev_call (y' := 161) rfl rfl rfl rfl (sp_far xs _ _ (nI N)) ?_
  rw [show wiI (nI N) 0 100 = true from wi_nI (M := 100) hN (by decide)]
  refine ev_go 3 (fun _ => rfl) ?_
  exact h2
end MC5

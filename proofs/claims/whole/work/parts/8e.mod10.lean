/-! The reference's best, kind, need -/
def zJ (z : ZT) (q : Int32 × Int32) : ZT := (z.1, q, z.2.2)
def jdM (q : Int32 × Int32) (code much : Int32) : Int32 × Int32 := if q.2 < much then (code, much) else q
def jA (w : Int32) (q : Int32 × Int32) : Int32 := if q.1 = -4 then -4 else if w = 0 then q.1 else q.2
def jfold (E : Nat → Int32) (m v : Nat) (q : Int32 × Int32) : Int32 × Int32 := match m with
  | 0 => q
  | m + 1 => jfold E m (v + 1) (jdM q (nI v) (E v))
theorem mT_put (z : ZT) (K : CK) (w b : Nat) (v : Int32) : mT z (putK K w b v) = mH z (flK (putK K w b v)) (K.2.2.map eT) K.2.1.2.2.2.2.2.2.1 K.2.1.2.2.2.2.2.2.2.2.2 K.2.1.2.2.2.2.2.2.2.2.1 (smT 9 K.2.2, smT 10 K.2.2, K.1.2.2.2.2.2.2.1, K.1.2.2.2.2.2.2.2) := by
  unfold putK
  split <;> rfl
theorem GM_put {K : CK} {B TN S : Nat} (w b : Nat) (v : Int32) (h : GM K B TN S) : GM (putK K w b v) B TN S := by
  refine ⟨CG_put w b v h.1, ?_⟩
  have e : (putK K w b v).2.2 = K.2.2 := by
    unfold putK
    split <;> rfl
  rw [e]
  exact h.2
section MC4
variable (xs : List Int32) (d : Nat) (z : ZT) (Ks : CK) (X nw eb wa ms mt : List Int32) (cc : C4) (B TN S : Nat)
theorem sp_sJ (v : Int32) : Ev xs d 168 0 [some (.ref 0), some (.int v)] [] (mH (zS z Ks X) nw eb wa ms mt cc) none (mH (zS (zJ z (-4, v)) Ks X) nw eb wa ms mt cc) := ev_end 7 rfl
theorem sp_jd (q : Int32 × Int32) (c v : Int32) : Ev xs d 169 0 [some (.ref 0), some (.int c), some (.int v)] [] (mH (zS (zJ z q) Ks X) nw eb wa ms mt cc) none (mH (zS (zJ z (jdM q c v)) Ks X) nw eb wa ms mt cc) := by
  unfold jdM
  refine ev_go 3 (fun _ => rfl) ?_
  by_cases h : q.2 < v
  · rw [if_pos h]
    refine ev_ic_le rfl rfl (fun n => absurd n (i32_lt_nle h)) (fun _ => ?_)
    exact ev_end 7 rfl
  · rw [if_neg h]
    refine ev_ic_le rfl rfl (fun _ => ?_) (fun n => absurd (i32_nlt h) n)
    exact ev_end 1 rfl
theorem sp_jA (q : Int32 × Int32) (w : Int32) : Ev xs d 170 0 [some (.ref 0), some (.int w)] [] (mH (zS (zJ z q) Ks X) nw eb wa ms mt cc) (some (.int (jA w q))) (mH (zS (zJ z q) Ks X) nw eb wa ms mt cc) := by
  unfold jA
  refine ev_go 3 (fun _ => rfl) ?_
  by_cases h : q.1 = -4
  · rw [if_pos h]
    refine ev_ic_ne rfl rfl (fun n => absurd n (fun n => n h)) (fun _ => ?_)
    exact ev_end 3 rfl
  · rw [if_neg h]
    refine ev_ic_ne rfl rfl (fun _ => ?_) (fun n => absurd (h) n)
    refine ev_go 1 (fun _ => rfl) ?_
    by_cases h2 : w = 0
    · rw [if_pos h2]
      refine ev_if_ne rfl rfl (fun n => absurd n (fun n => n h2)) (fun _ => ?_)
      exact ev_end 4 rfl
    · rw [if_neg h2]
      refine ev_if_ne rfl rfl (fun _ => ?_) (fun n => absurd (h2) n)
      exact ev_end 3 rfl
/-- one Canal tried, one part of a barge changed -/
theorem lp_bestM (b p N M : Nat) (hb : b < 5) (hp : p ≤ 2) (hN : N ≤ 100) (hM : M < 1000) (lo w : Int32) (E : Nat → Int32) (hv : VS Ks B TN S) (hE : ∀ v, v ≤ M → ∀ nw eb wa ms mt : List Int32, mOK nw eb wa ms mt → smT 9 (ghN (putK (stA wa ms mt Ks) p b (nI v)) B TN N).2.2 = E v) : ∀ m v, v + m = M + 1 → ∀ (q : Int32 × Int32) (nw eb wa ms mt : List Int32) (cc : C4), mOK nw eb wa ms mt → ∃ h', MHp (zJ z (jfold E m v q)) Ks X h' ∧ Ev xs (d + 7) 171 8 [some (.ref 0), some (.int (nI b)), some (.int (nI p)), some (.int lo), some (.int (nI M)), some (.int (nI N)), some (.int w), some (.int (nI v))] [] (mH (zS (zJ z q) Ks X) nw eb wa ms mt cc) (some (.int (jA w (jfold E m v q)))) h' := by
  intro m
  induction m with
  | zero =>
    intro v hvv q nw eb wa ms mt cc ho
    refine ⟨_, ⟨_, _, _, _, _, cc, ho, rfl⟩, ?_⟩
    refine ev_go 2 (fun _ => rfl) ?_
    refine ev_ic_gt rfl rfl (fun _ => ?_) (fun n => absurd (nI_lt (by omega) (by omega)) n)
    refine ev_go 2 (fun _ => rfl) ?_
    refine ev_call (y' := 170) rfl rfl rfl rfl (sp_jA xs _ z Ks X nw eb wa ms mt cc q w) ?_
    exact ev_end 1 rfl
  | succ m ih =>
    intro v hvv q nw eb wa ms mt cc ho
    have hg := GM_put p b (nI v) (GM_st hv ho)
    have hg2 := GM_ghN N _ hg
    have hcl := (GM_st hv ho).1.1.1
    obtain ⟨h', h1, h2⟩ := ih (v + 1) (by omega) (jdM q (nI v) (E v)) _ _ _ _ _ (smT 9 (ghN (putK (stA wa ms mt Ks) p b (nI v)) B TN N).2.2, smT 10 (ghN (putK (stA wa ms mt Ks) p b (nI v)) B TN N).2.2, (ghN (putK (stA wa ms mt Ks) p b (nI v)) B TN N).1.2.2.2.2.2.2.1, (ghN (putK (stA wa ms mt Ks) p b (nI v)) B TN N).1.2.2.2.2.2.2.2) (mOK_K (K := ghN (putK (stA wa ms mt Ks) p b (nI v)) B TN N) (eb := (ghN (putK (stA wa ms mt Ks) p b (nI v)) B TN N).2.2.map eT) (GS_GM hg2) (by rw [List.length_map]; exact GM6 hg2))
    refine ⟨h', h1, ?_⟩
    refine ev_go 2 (fun _ => rfl) ?_
    refine ev_ic_gt rfl rfl (fun n => absurd n (nI_nlt (by omega) (by omega))) (fun _ => ?_)
    refine ev_go 1 (fun _ => rfl) ?_
    refine ev_call (y' := 133) rfl rfl rfl rfl (sp_stA xs _ (zJ z q) Ks X nw eb wa ms mt cc ho (CL6 hv.1.1)) ?_
    refine ev_go 10 (fun _ => rfl) ?_
    refine ev_iastE (L := flK (stA wa ms mt Ks)) (h2 := mT (zS (zJ z q) Ks X) (putK (stA wa ms mt Ks) p b (nI v))) rfl rfl (ix3 (by omega)) (by rw [flK_len]; omega) ?_ ?_
    · rw [mT_put]
      exact congrArg (fun l => mH (zS (zJ z q) Ks X) l ((stA wa ms mt Ks).2.2.map eT) wa ms mt (smT 9 (stA wa ms mt Ks).2.2, smT 10 (stA wa ms mt Ks).2.2, 0, 0)) (fs_B hcl hb hp)
    refine ev_go 4 (fun _ => rfl) ?_
    refine ev_call (y' := 149) rfl rfl rfl rfl (sp_ends0 xs _ (zS (zJ z q) Ks X) (putK (stA wa ms mt Ks) p b (nI v)) N (by omega) B TN S hg) ?_
    rw [hE v (by omega) nw eb wa ms mt ho]
    refine ev_call (y' := 169) rfl rfl rfl rfl (sp_jd xs _ z Ks X _ _ _ _ _ _ q (nI v) (E v)) ?_
    refine ev_go 2 (ls' := [some (.ref 0), some (.int (nI b)), some (.int (nI p)), some (.int lo), some (.int (nI M)), some (.int (nI N)), some (.int w), some (.int (nI v + Int32.ofInt 1))]) (fun _ => rfl) ?_
    rw [nI_inc]
    exact h2
theorem sp_bestM (b p N L M : Nat) (hb : b < 5) (hp : p ≤ 2) (hN : N ≤ 100) (hL : L ≤ M) (hM : M < 1000) (w : Int32) (E : Nat → Int32) (hv : VS Ks B TN S) (ho : mOK nw eb wa ms mt) (hE : ∀ v, v ≤ M → ∀ nw eb wa ms mt : List Int32, mOK nw eb wa ms mt → smT 9 (ghN (putK (stA wa ms mt Ks) p b (nI v)) B TN N).2.2 = E v) : ∃ h', MHp (zJ z (jfold E (M + 1 - L) L (-4, -1))) Ks X h' ∧ Ev xs (d + 7) 171 0 [some (.ref 0), some (.int (nI b)), some (.int (nI p)), some (.int (nI L)), some (.int (nI M)), some (.int (nI N)), some (.int w), none] [] (mH (zS z Ks X) nw eb wa ms mt cc) (some (.int (jA w (jfold E (M + 1 - L) L (-4, -1))))) h' := by
  obtain ⟨h', h1, h2⟩ := lp_bestM xs d z Ks X B TN S b p N M hb hp hN hM (nI L) w E hv hE (M + 1 - L) L (by omega) (-4, -1) nw eb wa ms mt cc ho
  refine ⟨h', h1, ?_⟩
  refine ev_go 2 (fun _ => rfl) ?_
  refine ev_call (y' := 168) rfl rfl rfl rfl (sp_sJ xs _ z Ks X nw eb wa ms mt cc (-1)) ?_
  refine ev_go 2 (fun _ => rfl) ?_
  exact h2
end MC4

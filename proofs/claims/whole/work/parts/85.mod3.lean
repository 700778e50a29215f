/-! The reference's barges go -/
def phK (K : CK) (l : List Int32) : CK := (K.1, (K.2.1.1, l, K.2.1.2.2), K.2.2)
def nmS (i j : Nat) (q : Bool) (s : NW3) : NW3 := (s.1.set (5 * i + j) (bI q), s.2.1.set i (s.2.1.getD i 0 + bI q), s.2.2 + (if i < j then bI q else 0))
def nmQ (fog : Bool) (len : Int32) (pa ph : List Int32) (i j : Nat) : Bool := !(decide (i = j)) && (!fog && pmB (pa.getD i 0) (pa.getD j 0) (plI len (ph.getD i 0)) (plI len (ph.getD j 0)))
def nmI (f : Nat → Nat → Bool) (i : Nat) (m j : Nat) (s : NW3) : NW3 := match m with
  | 0 => s
  | m + 1 => nmI f i m (j + 1) (nmS i j (f i j) s)
def nmO (f : Nat → Nat → Bool) (B m i : Nat) (s : NW3) : NW3 := match m with
  | 0 => s
  | m + 1 => nmO f B m (i + 1) (nmI f i B 0 s)
theorem nmS_len1 {i j : Nat} {q : Bool} {s : NW3} : (nmS i j q s).1.length = s.1.length := List.length_set
theorem nmS_len2 {i j : Nat} {q : Bool} {s : NW3} : (nmS i j q s).2.1.length = s.2.1.length := List.length_set
theorem nmI_len {f : Nat → Nat → Bool} {i : Nat} : ∀ (m j : Nat) (s : NW3), (nmI f i m j s).1.length = s.1.length ∧ (nmI f i m j s).2.1.length = s.2.1.length
  | 0, _, _ => ⟨rfl, rfl⟩
  | m + 1, j, s => by
    obtain ⟨a, b⟩ := nmI_len (f := f) (i := i) m (j + 1) (nmS i j (f i j) s)
    exact ⟨a.trans nmS_len1, b.trans nmS_len2⟩
theorem ixc5 {i j : Nat} (h : 5 * i + j < 2 ^ 31) : mm_ix (Int32.ofInt 5 * nI i + nI j) = some (5 * i + j) := by
  have e : Int32.ofInt 5 = nI 5 := rfl
  rw [e, nI_mulA, nI_add]
  exact mm_ix_nI h
theorem ix31 {b : Nat} (h : 3 + 3 * b + 1 < 2 ^ 31) : mm_ix (Int32.ofInt 3 + Int32.ofInt 3 * nI b + Int32.ofInt 1) = some (3 + 3 * b + 1) := ix3 (w := 1) h
section BG
variable (xs : List Int32) (d : Nat) (z : ZT) (eb pa ms mt : List Int32) (a b c mg : Int32) (K : CK) (fog : Bool)
theorem lp_bg1 (B : Nat) (hB : B ≤ 5) (eB : K.1.2.2.2.1 = nI B) (l1 : pa.length = 5) (l2 : mt.length = 5) (R : MH) (kk : ∀ zz, Ev xs (d + 2) 140 37 [some (.ref 0), some (.int (bI fog)), zz, none, none] [] (mH z (flK K) eb (paU K.1.1 K.2.1.2.1 B pa) ms (mtU B mt) (a, b, c, mg)) none R) : ∀ m t, t + m = B → Ev xs (d + 2) 140 2 [some (.ref 0), some (.int (bI fog)), some (.int (nI t)), none, none] [] (mH z (flK K) eb (paU K.1.1 K.2.1.2.1 t pa) ms (mtU t mt) (a, b, c, mg)) none R := by
  intro m
  induction m with
  | zero =>
    intro t ht
    have e : t = B := by omega
    subst e
    refine ev_go 4 (fun _ => rfl) ?_
    refine ev_iald rfl rfl (k := 18) rfl fq_18 ?_
    rw [eB]
    refine ev_ic_ge rfl rfl (fun _ => ?_) (fun n => absurd (nI_le (Nat.le_refl _) (by omega)) n)
    exact kk _
  | succ m ih =>
    intro t ht
    have it : mm_ix (nI t) = some t := mm_ix_nI (by omega)
    have g1 : (paU K.1.1 K.2.1.2.1 t pa).length = 5 := (up_len (by omega)).trans l1
    have g2 : (mtU t mt).length = 5 := (up_len (by omega)).trans l2
    refine ev_go 4 (fun _ => rfl) ?_
    refine ev_iald rfl rfl (k := 18) rfl fq_18 ?_
    rw [eB]
    refine ev_ic_ge rfl rfl (fun n => absurd n (nI_ge (by omega) (by omega))) (fun _ => ?_)
    refine ev_go 5 (fun _ => rfl) ?_
    refine ev_call (y' := 138) rfl rfl rfl rfl (sp_pl xs _ z eb (paU K.1.1 K.2.1.2.1 t pa) ms (mtU t mt) (a, b, c, mg) K t (by omega)) ?_
    refine ev_iastE rfl (h2 := mH z (flK K) eb ((paU K.1.1 K.2.1.2.1 t pa).set t (plI K.1.1 (K.2.1.2.1.getD t 0))) ms (mtU t mt) (a, b, c, mg)) rfl it (by show t < (paU K.1.1 K.2.1.2.1 t pa).length; omega) rfl ?_
    refine ev_go 4 (fun _ => rfl) ?_
    refine ev_iastE rfl (h2 := mH z (flK K) eb ((paU K.1.1 K.2.1.2.1 t pa).set t (plI K.1.1 (K.2.1.2.1.getD t 0))) ms ((mtU t mt).set t 0) (a, b, c, mg)) rfl it (by show t < (mtU t mt).length; omega) rfl ?_
    refine ev_go 2 (ls' := [some (.ref 0), some (.int (bI fog)), some (.int (nI t + Int32.ofInt 1)), none, none]) (fun _ => rfl) ?_
    have u2 : (paU K.1.1 K.2.1.2.1 t pa).set t (plI K.1.1 (K.2.1.2.1.getD t 0)) = paU K.1.1 K.2.1.2.1 (t + 1) pa := up_s (g := fun j => plI K.1.1 (K.2.1.2.1.getD j 0)) (by omega)
    have u4 : (mtU t mt).set t 0 = mtU (t + 1) mt := up_s (g := fun _ => (0 : Int32)) (by omega)
    rw [nI_inc, u2, u4]
    exact ih (t + 1) (by omega)
theorem lp_bg2 (B : Nat) (hK : CL K) (hB : B ≤ 5) (eB : K.1.2.2.2.1 = nI B) (hw : 0 < 2 * K.1.1) (R : MH) (kk : ∀ zz, Ev xs (d + 1) 140 90 [some (.ref 0), some (.int (bI fog)), zz, none, none] [] (mH z (flK (phK K (phU K.1.1 K.2.1.2.1 K.2.1.2.2.1 B))) eb pa ms mt (a, b, c, mg)) none R) : ∀ m t, t + m = B → Ev xs (d + 1) 140 39 [some (.ref 0), some (.int (bI fog)), some (.int (nI t)), none, none] [] (mH z (flK (phK K (phU K.1.1 K.2.1.2.1 K.2.1.2.2.1 t))) eb pa ms mt (a, b, c, mg)) none R := by
  obtain ⟨l1, l2, l3, lr⟩ := hK
  intro m
  induction m with
  | zero =>
    intro t ht
    have e : t = B := by omega
    subst e
    refine ev_go 4 (fun _ => rfl) ?_
    refine ev_iald rfl rfl (k := 18) rfl fq_18 ?_
    show Ev _ _ _ _ _ [.int K.1.2.2.2.1, .int (nI t)] _ _ _
    rw [eB]
    refine ev_ic_ge rfl rfl (fun _ => ?_) (fun n => absurd (nI_le (Nat.le_refl _) (by omega)) n)
    exact kk _
  | succ m ih =>
    intro t ht
    have it : mm_ix (nI t) = some t := mm_ix_nI (by omega)
    have g1 : (phU K.1.1 K.2.1.2.1 K.2.1.2.2.1 t).length = 5 := (up_len (by omega)).trans l2
    have gv : (phU K.1.1 K.2.1.2.1 K.2.1.2.2.1 t).getD t 0 = K.2.1.2.1.getD t 0 := by
      unfold phU
      rw [List.getD_eq_getElem?_getD, up_at, ← List.getD_eq_getElem?_getD]
    have hc : CL (phK K (phU K.1.1 K.2.1.2.1 K.2.1.2.2.1 t)) := ⟨l1, g1, l3, lr⟩
    refine ev_go 4 (fun _ => rfl) ?_
    refine ev_iald rfl rfl (k := 18) rfl fq_18 ?_
    show Ev _ _ _ _ _ [.int K.1.2.2.2.1, .int (nI t)] _ _ _
    rw [eB]
    refine ev_ic_ge rfl rfl (fun n => absurd n (nI_ge (by omega) (by omega))) (fun _ => ?_)
    refine ev_go 12 (fun _ => rfl) ?_
    refine ev_call (y' := 135) rfl rfl rfl rfl (sp_of xs _ z eb pa ms mt (a, b, c, mg) _ t 1 (by omega) (by decide)) ?_
    refine ev_go 3 (fun _ => rfl) ?_
    refine ev_call (y' := 135) rfl rfl rfl rfl (sp_of xs _ z eb pa ms mt (a, b, c, mg) _ t 2 (by omega) (by decide)) ?_
    refine ev_go 5 (fun _ => rfl) ?_
    refine ev_iald rfl rfl (k := 0) rfl fq_0 ?_
    refine ev_go 1 (fun _ => rfl) ?_
    refine ev_irem rfl (pos_ne hw) ?_
    show Ev xs (d + 1) 140 83 _ [.int (rmI ((phU K.1.1 K.2.1.2.1 K.2.1.2.2.1 t).getD t 0 + K.2.1.2.2.1.getD t 0) (2 * K.1.1)), _, _] _ _ _
    rw [gv]
    refine ev_iastE (L := flK (phK K (phU K.1.1 K.2.1.2.1 K.2.1.2.2.1 t))) rfl rfl (ix31 (by omega)) (by rw [flK_len]; omega) (congrArg (fun l => mH z l eb pa ms mt (a, b, c, mg)) (fs_B hc (by omega) (by decide))) ?_
    have u1 : (phU K.1.1 K.2.1.2.1 K.2.1.2.2.1 t).set t (fwI K.1.1 K.2.1.2.1 K.2.1.2.2.1 t) = phU K.1.1 K.2.1.2.1 K.2.1.2.2.1 (t + 1) := up_s (by omega)
    refine ev_go 2 (ls' := [some (.ref 0), some (.int (bI fog)), some (.int (nI t + Int32.ofInt 1)), none, none]) (h1 := mH z (flK (phK K ((phU K.1.1 K.2.1.2.1 K.2.1.2.2.1 t).set t (fwI K.1.1 K.2.1.2.1 K.2.1.2.2.1 t)))) eb pa ms mt (a, b, c, mg)) (fun _ => rfl) ?_
    rw [nI_inc, u1]
    exact ih (t + 1) (by omega)
/-- the inner loop -/
theorem lp_bgI (B i : Nat) (hB : B ≤ 5) (eB : K.1.2.2.2.1 = nI B) (hi : i < B) (l1 : pa.length = 5) (R : MH) : ∀ m j, j + m = B → ∀ (zz : Option Value) (s : NW3), s.1.length = 25 → s.2.1.length = 5 → (∀ (z1 z2 : Option Value) (s' : NW3), s' = nmI (nmQ fog K.1.1 pa K.2.1.2.1) i m j s → Ev xs (d + 3) 140 92 [some (.ref 0), some (.int (bI fog)), some (.int (nI (i + 1))), z1, z2] [] (mH z (flK K) eb pa s'.1 s'.2.1 (a, b, c, s'.2.2)) none R) → Ev xs (d + 3) 140 105 [some (.ref 0), some (.int (bI fog)), some (.int (nI i)), some (.int (nI j)), zz] [] (mH z (flK K) eb pa s.1 s.2.1 (a, b, c, s.2.2)) none R := by
  intro m
  induction m with
  | zero =>
    intro j hj zz s h1 h2 kk
    have e : j = B := by omega
    subst e
    refine ev_go 4 (fun _ => rfl) ?_
    refine ev_iald rfl rfl (k := 18) rfl fq_18 ?_
    rw [eB]
    refine ev_ic_ge rfl rfl (fun _ => ?_) (fun n => absurd (nI_le (Nat.le_refl _) (by omega)) n)
    refine ev_go 2 (ls' := [some (.ref 0), some (.int (bI fog)), some (.int (nI i + Int32.ofInt 1)), some (.int (nI j)), zz]) (fun _ => rfl) ?_
    rw [nI_inc]
    exact kk _ _ s rfl
  | succ m ih =>
    intro j hj zz s h1 h2 kk
    have ii : mm_ix (nI i) = some i := mm_ix_nI (by omega)
    -- from the flag on
    have tl : ∀ q : Bool, q = nmQ fog K.1.1 pa K.2.1.2.1 i j → Ev xs (d + 3) 140 139 [some (.ref 0), some (.int (bI fog)), some (.int (nI i)), some (.int (nI j)), zz] [.int (bI q)] (mH z (flK K) eb pa s.1 s.2.1 (a, b, c, s.2.2)) none R := by
      intro q hq
      obtain ⟨s1, s2, s3⟩ := s
      dsimp only at h1 h2 kk ⊢
      refine ev_call (y' := 111) rfl rfl rfl rfl (sp_flag xs _ _ q) ?_
      refine ev_go 9 (fun _ => rfl) ?_
      refine ev_iastE rfl (h2 := mH z (flK K) eb pa (s1.set (5 * i + j) (bI q)) s2 (a, b, c, s3)) rfl (ixc5 (by omega)) (by show 5 * i + j < s1.length; omega) rfl ?_
      refine ev_go 4 (fun _ => rfl) ?_
      refine ev_iald rfl rfl ii (getD_at (by show i < s2.length; omega)) ?_
      refine ev_go 2 (fun _ => rfl) ?_
      refine ev_iastE rfl (h2 := mH z (flK K) eb pa (s1.set (5 * i + j) (bI q)) (s2.set i (s2.getD i 0 + bI q)) (a, b, c, s3)) rfl ii (by show i < s2.length; omega) rfl ?_
      refine ev_go 5 (fun _ => rfl) ?_
      by_cases cq : i < j
      · refine ev_ic_ge rfl rfl (fun n => absurd n (nI_ge cq (by omega))) (fun _ => ?_)
        refine ev_go 6 (ls' := [some (.ref 0), some (.int (bI fog)), some (.int (nI i)), some (.int (nI j + Int32.ofInt 1)), some (.int (bI q))]) (h1 := mH z (flK K) eb pa (s1.set (5 * i + j) (bI q)) (s2.set i (s2.getD i 0 + bI q)) (a, b, c, s3 + bI q)) (fun _ => rfl) ?_
        rw [nI_inc]
        refine ih (j + 1) (by omega) _ (s1.set (5 * i + j) (bI q), s2.set i (s2.getD i 0 + bI q), s3 + bI q) (by rw [List.length_set]; exact h1) (by rw [List.length_set]; exact h2) (fun z1 z2 s' hs' => kk z1 z2 s' ?_)
        rw [hs']
        unfold nmI nmS
        rw [if_pos cq, ← hq]
        cases m <;> rfl
      · refine ev_ic_ge rfl rfl (fun _ => ?_) (fun n => absurd (nI_le (by omega) (by omega)) n)
        refine ev_go 5 (ls' := [some (.ref 0), some (.int (bI fog)), some (.int (nI i)), some (.int (nI j + Int32.ofInt 1)), some (.int (bI q))]) (h1 := mH z (flK K) eb pa (s1.set (5 * i + j) (bI q)) (s2.set i (s2.getD i 0 + bI q)) (a, b, c, s3 + 0)) (fun _ => rfl) ?_
        rw [nI_inc]
        refine ih (j + 1) (by omega) _ (s1.set (5 * i + j) (bI q), s2.set i (s2.getD i 0 + bI q), s3 + 0) (by rw [List.length_set]; exact h1) (by rw [List.length_set]; exact h2) (fun z1 z2 s' hs' => kk z1 z2 s' ?_)
        rw [hs']
        unfold nmI nmS
        rw [if_neg cq, ← hq]
        cases m <;> rfl
    refine ev_go 4 (fun _ => rfl) ?_
    refine ev_iald rfl rfl (k := 18) rfl fq_18 ?_
    rw [eB]
    refine ev_ic_ge rfl rfl (fun n => absurd n (nI_ge (by omega) (by omega))) (fun _ => ?_)
    refine ev_go 2 (fun _ => rfl) ?_
    by_cases cq : i = j
    · refine ev_ic_eq rfl rfl (fun _ => ?_) (fun n => absurd (by rw [cq]) n)
      refine ev_go 1 (fun _ => rfl) ?_
      exact tl false (by unfold nmQ; rw [decide_eq_true cq]; rfl)
    · refine ev_ic_eq rfl rfl (fun n => absurd n (fun n => cq ((nI_eq (by omega) (by omega)).mp n))) (fun _ => ?_)
      refine ev_go 1 (fun _ => rfl) ?_
      cases fog with
      | true =>
        refine ev_go 2 (fun _ => rfl) ?_
        exact tl false (by unfold nmQ; rw [decide_eq_false cq]; rfl)
      | false =>
        refine ev_go 4 (fun _ => rfl) ?_
        refine ev_call (y' := 139) rfl rfl rfl rfl (sp_dm xs _ z eb pa s.1 s.2.1 (a, b, c, s.2.2) K i j _ _ (by omega) (by omega) (getD_at (by show i < pa.length; omega)) (getD_at (by show j < pa.length; omega))) ?_
        have hq : nmQ false K.1.1 pa K.2.1.2.1 i j = pmB (pa.getD i 0) (pa.getD j 0) (plI K.1.1 (K.2.1.2.1.getD i 0)) (plI K.1.1 (K.2.1.2.1.getD j 0)) := by
          unfold nmQ
          rw [decide_eq_false cq]
          rfl
        show Ev _ _ _ _ _ [.int (bI (pmB (pa.getD i 0) (pa.getD j 0) (plI K.1.1 (K.2.1.2.1.getD i 0)) (plI K.1.1 (K.2.1.2.1.getD j 0))))] _ _ _
        rw [← hq]
        cases hqq : nmQ false K.1.1 pa K.2.1.2.1 i j with
        | true =>
          refine ev_go 3 (fun _ => rfl) ?_
          exact tl true hqq.symm
        | false =>
          refine ev_go 2 (fun _ => rfl) ?_
          exact tl false hqq.symm
theorem lp_bgO (B : Nat) (hB : B ≤ 5) (eB : K.1.2.2.2.1 = nI B) (l1 : pa.length = 5) : ∀ m i, i + m = B → ∀ (z1 z2 : Option Value) (s : NW3), s.1.length = 25 → s.2.1.length = 5 → Ev xs (d + 3) 140 92 [some (.ref 0), some (.int (bI fog)), some (.int (nI i)), z1, z2] [] (mH z (flK K) eb pa s.1 s.2.1 (a, b, c, s.2.2)) none (mH z (flK K) eb pa (nmO (nmQ fog K.1.1 pa K.2.1.2.1) B m i s).1 (nmO (nmQ fog K.1.1 pa K.2.1.2.1) B m i s).2.1 (a, b, c, (nmO (nmQ fog K.1.1 pa K.2.1.2.1) B m i s).2.2)) := by
  intro m
  induction m with
  | zero =>
    intro i hi z1 z2 s h1 h2
    have e : i = B := by omega
    subst e
    refine ev_go 4 (fun _ => rfl) ?_
    refine ev_iald rfl rfl (k := 18) rfl fq_18 ?_
    rw [eB]
    refine ev_ic_ge rfl rfl (fun _ => ?_) (fun n => absurd (nI_le (Nat.le_refl _) (by omega)) n)
    exact ev_end 1 rfl
  | succ m ih =>
    intro i hi z1 z2 s h1 h2
    refine ev_go 4 (fun _ => rfl) ?_
    refine ev_iald rfl rfl (k := 18) rfl fq_18 ?_
    rw [eB]
    refine ev_ic_ge rfl rfl (fun n => absurd n (nI_ge (by omega) (by omega))) (fun _ => ?_)
    refine ev_go 2 (ls' := [some (.ref 0), some (.int (bI fog)), some (.int (nI i)), some (.int (nI 0)), z2]) (fun _ => rfl) ?_
    refine lp_bgI xs d z eb pa a b c K fog B i hB eB (by omega) l1 _ B 0 (by omega) z2 s h1 h2 (fun z1 z2 s' hs' => ?_)
    subst hs'
    obtain ⟨a, b⟩ := nmI_len (f := nmQ fog K.1.1 pa K.2.1.2.1) (i := i) B 0 s
    exact ih (i + 1) (by omega) z1 z2 _ (a.trans h1) (b.trans h2)
/-- what the notes are behind the barges' going -/
def gmN (fog : Bool) (K : CK) (B : Nat) : NW3 := nmO (nmQ fog K.1.1 (paU K.1.1 K.2.1.2.1 B K.2.1.2.2.2.2.2.2.1) (phU K.1.1 K.2.1.2.1 K.2.1.2.2.1 B)) B B 0 (K.2.1.2.2.2.2.2.2.2.2.2, mtU B K.2.1.2.2.2.2.2.2.2.2.1, K.1.2.2.2.2.2.2.2)
def gmK (fog : Bool) (K : CK) (B : Nat) : CK := onK K ((K.1.2.2.1, K.1.2.2.2.2.2.2.1, (gmN fog K B).2.2), (phU K.1.1 K.2.1.2.1 K.2.1.2.2.1 B, paU K.1.1 K.2.1.2.1 B K.2.1.2.2.2.2.2.2.1, ptU K.1.1 K.2.1.2.1 K.2.1.2.2.1 B K.2.1.2.2.2.2.2.2.2.1, (gmN fog K B).2.1, (gmN fog K B).1), K.2.2)
/-- the notes of a Canal, as the reference has them -/
def mE (z : ZT) (eb : List Int32) (a b c : Int32) (K : CK) : MH := mH z (flK K) eb K.2.1.2.2.2.2.2.2.1 K.2.1.2.2.2.2.2.2.2.2.2 K.2.1.2.2.2.2.2.2.2.2.1 (a, b, c, K.1.2.2.2.2.2.2.2)
theorem sp_bg (B TN S : Nat) (hn : CN K B TN S) (hw : 0 < 2 * K.1.1) : Ev xs (d + 3) 140 0 [some (.ref 0), some (.int (bI fog)), none, none, none] [] (mE z eb a b c K) none (mE z eb a b c (gmK fog K B)) := by
  obtain ⟨hcl, eB, -, -, hB, -, -⟩ := hn
  have hc := hcl
  obtain ⟨l1, l2, l3, l4, l5, l6, l7, l8, l9, l10, l11⟩ := hcl
  refine ev_go 2 (fun _ => rfl) ?_
  refine lp_bg1 xs _ z eb K.2.1.2.2.2.2.2.2.1 K.2.1.2.2.2.2.2.2.2.2.2 K.2.1.2.2.2.2.2.2.2.2.1 a b c K.1.2.2.2.2.2.2.2 K fog B hB eB l7 l9 _ (fun zz => ?_) B 0 (by omega)
  refine ev_go 2 (ls' := [some (.ref 0), some (.int (bI fog)), some (.int (nI 0)), none, none]) (fun _ => rfl) ?_
  refine lp_bg2 xs _ z eb (paU K.1.1 K.2.1.2.1 B K.2.1.2.2.2.2.2.2.1) K.2.1.2.2.2.2.2.2.2.2.2 (mtU B K.2.1.2.2.2.2.2.2.2.2.1) a b c K.1.2.2.2.2.2.2.2 K fog B hc hB eB hw _ (fun z2 => ?_) B 0 (by omega)
  refine ev_go 2 (ls' := [some (.ref 0), some (.int (bI fog)), some (.int (nI 0)), none, none]) (fun _ => rfl) ?_
  exact lp_bgO xs d z eb (paU K.1.1 K.2.1.2.1 B K.2.1.2.2.2.2.2.2.1) a b c (phK K (phU K.1.1 K.2.1.2.1 K.2.1.2.2.1 B)) fog B hB eB ((up_len (by omega)).trans l7) B 0 (by omega) none none (K.2.1.2.2.2.2.2.2.2.2.2, mtU B K.2.1.2.2.2.2.2.2.2.2.1, K.1.2.2.2.2.2.2.2) l10 ((up_len (by omega)).trans l9)
end BG

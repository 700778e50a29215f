/-! need, swap, drift, see -/
theorem nI_mulA {a b : Nat} : nI a * nI b = nI (a * b) := by
  unfold nI
  rw [Int32.ofNat_mul]
theorem nI_mul10 {i j : Nat} : (Int8.ofInt 10).toInt32 * nI i + nI j = nI (10 * i + j) := by
  have e : (Int8.ofInt 10).toInt32 = nI 10 := rfl
  rw [e, nI_mulA, nI_add]
/-- a remainder, a quotient of small numbers -/
theorem nI_div {g b : Nat} (hg : g < 2 ^ 31) (hb : b < 2 ^ 31) (h0 : 0 < b) : nI g / nI b = nI (g / b) := by
  have h1 : g / b ≤ g := Nat.div_le_self g b
  apply Int32.toInt_inj.mp
  rw [Int32.toInt_div, nI_toInt hg, nI_toInt hb, nI_toInt (by omega)]
  have e : (g : Int).tdiv (b : Int) = ((g / b : Nat) : Int) := rfl
  rw [e]
  generalize g / b = k at h1 ⊢
  exact Int.bmod_eq_of_le (by omega) (by omega)
theorem rmI_nI {g b : Nat} (hg : g < 2 ^ 31) (hb : b < 2 ^ 31) (h0 : 0 < b) : rmI (nI g) (nI b) = nI (g % b) := by
  unfold rmI
  rw [nI_div hg hb h0, nI_mulA]
  have e : nI g = nI (g % b) + nI (g / b * b) := by
    rw [nI_add]
    congr 1
    have := Nat.mod_add_div g b
    rw [Nat.mul_comm] at this
    omega
  rw [e, Int32.add_sub_cancel]
theorem and_nI (x : Int32) : ∃ g, g < 32768 ∧ x &&& 32767 = nI g := by
  refine ⟨(x.toBitVec &&& 32767#32).toNat, ?_, ?_⟩
  · rw [BitVec.toNat_and]
    exact Nat.lt_of_le_of_lt Nat.and_le_right (by decide)
  · apply Int32.toBitVec_inj.mp
    unfold nI
    rw [Int32.toBitVec_and, Int32.toBitVec_ofNat']
    apply BitVec.eq_of_toNat_eq
    rw [BitVec.toNat_ofNat, Nat.mod_eq_of_lt (BitVec.isLt _)]
    rfl
section CLS10
variable (xs : List Int32) (d : Nat) (now trial told im0 im1 : CK) (p : TP) (f : FP) (r : RS) (tr : Int32)
theorem set_trialO (I : CI) : (hCl now trial told im0 im1 p f r tr).set 19 (bO 19 I) = hCl now (I, trial.2) told im0 im1 p f r tr := by
  unfold hCl
  rw [List.set_append_right _ _ (by show 1 ≤ 19; decide), List.set_append_right _ _ (by show 18 ≤ 18; decide)]
  rfl
theorem at_trialO : (hCl now trial told im0 im1 p f r tr)[19]? = some (bO 19 trial.1) := rfl
theorem set_trialP (l : List Int32) : (hCl now trial told im0 im1 p f r tr).set 22 (.inl (0, l)) = hCl now (trial.1, (trial.2.1.1, trial.2.1.2.1, l, trial.2.1.2.2.2), trial.2.2) told im0 im1 p f r tr := by
  unfold hCl
  rw [List.set_append_right _ _ (by show 1 ≤ 22; decide), List.set_append_right _ _ (by show 18 ≤ 21; decide)]
  rfl
/-- a memory without end -/
def endK (K : CK) : CK := ((K.1.1, 1000000, K.1.2.2), K.2)
theorem CG_end {K : CK} {B TN S : Nat} (h : CG K B TN S) : CG (endK K) B TN S := h
def ndS (B TN m : Nat) (K : CK) (q : Int32) : Int32 := match m with
  | 0 => q
  | m + 1 => ndS B TN m (hrC K B TN) (mxI q (lgT ((hrC K B TN).2.2.take TN)))
theorem sp_longC (K : CK) (B TN S : Nat) (h : CG K B TN S) : Ev xs d 22 0 [some (.ref 0), none, none] [] (bH 0 K) (some (.int (lgT (K.2.2.take TN)))) (bH 0 K) := by
  obtain ⟨⟨l1, l2, l3, l4, l5, l6, l7, l8⟩, ⟨r1, r2, r3, r4, r5, r6, r7, r8, r9, r10⟩, rw2⟩ := K
  obtain ⟨⟨hcl, e1, e2, e3, hB, hTN, hS⟩, hk, hw⟩ := h
  dsimp only at e2
  subst e2
  exact sp_long xs d l1 l2 l3 l4 l6 l7 l8 r1 r2 r3 r4 r5 r6 r7 r8 r9 r10 rw2 TN hTN hcl.2.2.2.2.2.2.2.2.2.2
theorem lp_need (B TN S N : Nat) (hN : N ≤ 100) : ∀ m h, h + m = N → ∀ (K : CK) (q : Int32), CG K B TN S → ∃ K', CG K' B TN S ∧ Ev xs (d + 4) 78 29 [some (.ref 0), some (.int (nI N)), some (.int q), some (.int (nI h))] [] (hCl now K told im0 im1 p f r tr) (some (.int (if ndS B TN m K q ≤ 99 then ndS B TN m K q else -4))) (hCl now K' told im0 im1 p f r tr) := by
  intro m
  induction m with
  | zero =>
    intro h hh K q hK
    have e : h = N := by omega
    subst e
    refine ⟨K, hK, ?_⟩
    unfold ndS
    refine ev_go 2 (fun _ => rfl) ?_
    refine ev_ic_ge rfl rfl (fun _ => ?_) (fun n => absurd (nI_le (Nat.le_refl _) (by omega)) n)
    refine ev_go 2 (fun _ => rfl) ?_
    split
    · rename_i c
      refine ev_ic_le rfl rfl (fun _ => ?_) (fun n => absurd (c) n)
      exact ev_end 2 rfl
    · rename_i c
      refine ev_ic_le rfl rfl (fun n => absurd n (c)) (fun _ => ?_)
      exact ev_end 3 rfl
  | succ m ih =>
    intro h hh K q hK
    have hh2 := CG_hr hK
    obtain ⟨K', hK', hv⟩ := ih (h + 1) (by omega) _ (mxI q (lgT ((hrC K B TN).2.2.take TN))) hh2
    refine ⟨K', hK', ?_⟩
    unfold ndS
    refine ev_go 2 (fun _ => rfl) ?_
    refine ev_ic_ge rfl rfl (fun n => absurd n (nI_ge (by omega) (by omega))) (fun _ => ?_)
    refine ev_go 2 (fun _ => rfl) ?_
    refine ev_cTrial (y' := 17) (As := []) (K' := hrC K B TN) rfl rfl rfl rfl rfl nil_i (CG6 hK) (CG6 hh2) (sp_hourC xs _ K B TN S hK.1 hK.2.1 hK.2.2) (Or.inl rfl) ?_
    refine ev_go 3 (fun _ => rfl) ?_
    refine ev_cTrial (y' := 22) (As := []) (K' := hrC K B TN) rfl rfl rfl rfl rfl nil_i (CG6 hh2) (CG6 hh2) (sp_longC xs _ _ B TN S hh2) (Or.inr ⟨_, rfl⟩) ?_
    refine ev_go 4 (ls' := [some (.ref 0), some (.int (nI N)), some (.int (mxI q (lgT ((hrC K B TN).2.2.take TN)))), some (.int (nI h + Int32.ofInt 1))]) (fun _ => rfl) ?_
    rw [nI_inc]
    exact hv
theorem sp_need_bad (n : Int32) (c : wiI n 0 100 = false) : Ev xs (d + 1) 78 0 [some (.ref 0), some (.int n), none, none] [] (hCl now trial told im0 im1 p f r tr) (some (.int (-1))) (hCl now trial told im0 im1 p f r tr) := by
  refine ev_go 3 (fun _ => rfl) ?_
  refine ev_call (y' := 95) rfl rfl rfl rfl (sp_within xs d _ n 0 100) ?_
  rw [c]
  exact ev_end 3 rfl
theorem sp_need (B TN S N : Nat) (hn : CG now B TN S) (ht : GS trial) (hN : N ≤ 100) : ∃ K', GS K' ∧ Ev xs (d + 4) 78 0 [some (.ref 0), some (.int (nI N)), none, none] [] (hCl now trial told im0 im1 p f r tr) (some (.int (if ndS B TN N (endK (tryK now trial B TN S)) 1 ≤ 99 then ndS B TN N (endK (tryK now trial B TN S)) 1 else -4))) (hCl now K' told im0 im1 p f r tr) := by
  obtain ⟨K', hK', hv⟩ := lp_need xs d now told im0 im1 p f r tr B TN S N hN N 0 (by omega) (endK (tryK now trial B TN S)) 1 (CG_end (CG_t hn ht))
  refine ⟨K', GS_CG hK', ?_⟩
  refine ev_go 3 (fun _ => rfl) ?_
  refine ev_call (y' := 95) rfl rfl rfl rfl (sp_within xs _ _ (nI N) 0 100) ?_
  rw [show wiI (nI N) 0 100 = true from wi_nI (M := 100) hN (by decide)]
  refine ev_go 2 (fun _ => rfl) ?_
  refine ev_call (y' := 96) rfl rfl rfl rfl (sp_try xs _ now trial told im0 im1 p f r tr B TN S hn.1 ht.1) ?_
  refine ev_go 3 (fun _ => rfl) ?_
  refine ev_pfE rfl rfl (at_trialO now _ told im0 im1 p f r tr) rfl rfl (set_trialO now _ told im0 im1 p f r tr (endK (tryK now trial B TN S)).1) ?_
  exact ev_go 4 (fun _ => rfl) hv
/-- swap: two paces changed, gone on -/
def swP (now K : CK) (a b : Nat) : CK := putK (putK K 2 a (gtK now 2 b)) 2 b (gtK now 2 a)
def swK (now trial : CK) (B TN S n a b : Nat) : CK := itC (swP now (tryK now trial B TN S) a b) B TN n
theorem CG_sw {now K : CK} {B TN S : Nat} (a b : Nat) (h : CG K B TN S) : CG (swP now K a b) B TN S := CG_put 2 _ _ (CG_put 2 _ _ h)
theorem sp_swapped (B TN S a b n : Nat) (hn : CG now B TN S) (ht : GS trial) (ha : a < 5) (hb : b < 5) (hN : n ≤ 100) : Ev xs (d + 5) 99 0 [some (.ref 0), some (.int (nI a)), some (.int (nI b)), some (.int (nI n))] [] (hCl now trial told im0 im1 p f r tr) (some (.int (smT 9 ((swK now trial B TN S n a b).2.2.take TN)))) (hCl now (swK now trial B TN S n a b) told im0 im1 p f r tr) := by
  have hg := CG_t hn ht
  have hp := CG_sw (now := now) a b hg
  have hi : CG (swK now trial B TN S n a b) B TN S := CG_it n hp
  have hK := CG6 hn
  have l3 := hn.1.1.2.2.1
  have g3 := hg.1.1.2.2.1
  have ia : mm_ix (nI a) = some a := mm_ix_nI (by omega)
  have ib : mm_ix (nI b) = some b := mm_ix_nI (by omega)
  refine ev_go 1 (fun _ => rfl) ?_
  refine ev_call (y' := 96) rfl rfl rfl rfl (sp_try xs _ now trial told im0 im1 p f r tr B TN S hn.1 ht.1) ?_
  refine ev_go 8 (fun _ => rfl) ?_
  refine ev_iald rfl (at_now now _ told im0 im1 p f r tr 3 (by decide) hK) ib (getD_at (by show b < now.2.1.2.2.1.length; omega)) ?_
  refine ev_iastE rfl (at_trial now _ told im0 im1 p f r tr 3 (by decide) (CG6 hg)) ia (by show a < (tryK now trial B TN S).2.1.2.2.1.length; omega) (set_trialP now _ told im0 im1 p f r tr _) ?_
  refine ev_go 8 (fun _ => rfl) ?_
  refine ev_iald rfl (at_now now _ told im0 im1 p f r tr 3 (by decide) hK) ia (getD_at (by show a < now.2.1.2.2.1.length; omega)) ?_
  refine ev_iastE rfl (at_trial now _ told im0 im1 p f r tr 3 (by decide) (CG6 (CG_put 2 a (gtK now 2 b) hg))) ib (by show b < ((tryK now trial B TN S).2.1.2.2.1.set a _).length; rw [List.length_set]; omega) (set_trialP now _ told im0 im1 p f r tr _) ?_
  refine ev_go 3 (fun _ => rfl) ?_
  refine ev_cTrial (y' := 16) (As := [.int (nI n)]) (K' := swK now trial B TN S n a b) rfl rfl rfl rfl rfl one_i (CG6 hp) (CG6 hi) (sp_hoursC xs _ (swP now (tryK now trial B TN S) a b) B TN S n hp.1 hp.2.1 hp.2.2 (by omega)) (Or.inl rfl) ?_
  refine ev_go 3 (fun _ => rfl) ?_
  refine ev_cTrial (y' := 23) (As := [.int (nI 9)]) (K' := swK now trial B TN S n a b) rfl rfl rfl rfl rfl one_i (CG6 hi) (CG6 hi) (sp_sumC xs _ _ B TN S 9 hi.1 (by decide)) (Or.inr ⟨_, rfl⟩) ?_
  exact ev_end 1 rfl
/-- a pair judged: how many end, the pair -/
def jdS (q : Int32 × Int32) (e c : Int32) : Int32 × Int32 := if q.1 < e then (e, c) else q
def swI (now : CK) (B TN S n a : Nat) (m b : Nat) (q : Int32 × Int32) (trial : CK) : (Int32 × Int32) × CK := match m with
  | 0 => (q, trial)
  | m + 1 => swI now B TN S n a m (b + 1) (jdS q (smT 9 ((swK now trial B TN S n a b).2.2.take TN)) (nI (10 * a + b))) (swK now trial B TN S n a b)
def swO (now : CK) (B TN S n : Nat) (m a : Nat) (q : Int32 × Int32) (trial : CK) : (Int32 × Int32) × CK := match m with
  | 0 => (q, trial)
  | m + 1 => swO now B TN S n m (a + 1) (swI now B TN S n a (B - (a + 1)) (a + 1) q trial).1 (swI now B TN S n a (B - (a + 1)) (a + 1) q trial).2
theorem GS_sw {now trial : CK} {B TN S n a b : Nat} (hn : CG now B TN S) (ht : GS trial) : GS (swK now trial B TN S n a b) := GS_CG (CG_it n (CG_sw a b (CG_t hn ht)))
theorem GS_swI {now : CK} {B TN S n a : Nat} (hn : CG now B TN S) : ∀ (m b : Nat) (q : Int32 × Int32) (trial : CK), GS trial → GS (swI now B TN S n a m b q trial).2
  | 0, _, _, _, h => h
  | m + 1, b, q, trial, h => GS_swI hn m (b + 1) _ _ (GS_sw hn h)
theorem lp_swI (B TN S n a : Nat) (hn : CG now B TN S) (hN : n ≤ 100) (ha : a < B) (w : Int32) (rs : Option Value) (h' : MH) : ∀ m b, b + m = B → a < b → ∀ (q : Int32 × Int32) (trial : CK) (z : Option Value), GS trial → (∀ z : Option Value, Ev xs (d + 6) 79 50 [some (.ref 0), some (.int (nI n)), some (.int w), some (.int (swI now B TN S n a m b q trial).1.1), some (.int (swI now B TN S n a m b q trial).1.2), some (.int (nI (a + 1))), some (.int (nI B)), z] [] (hCl now (swI now B TN S n a m b q trial).2 told im0 im1 p f r tr) rs h') → Ev xs (d + 6) 79 68 [some (.ref 0), some (.int (nI n)), some (.int w), some (.int q.1), some (.int q.2), some (.int (nI a)), some (.int (nI b)), z] [] (hCl now trial told im0 im1 p f r tr) rs h' := by
  have hB := hn.1.2.2.2.2.1
  have eB := hn.1.2.1
  intro m
  induction m with
  | zero =>
    intro b hb hab q trial z ht kk
    have e : b = B := by omega
    subst e
    refine ev_go 4 (st' := [.int now.1.2.2.2.1, .int (nI b)]) (fun _ => rfl) ?_
    rw [eB]
    refine ev_ic_ge rfl rfl (fun _ => ?_) (fun n => absurd (nI_le (Nat.le_refl _) (by omega)) n)
    refine ev_go 2 (ls' := [some (.ref 0), some (.int (nI n)), some (.int w), some (.int q.1), some (.int q.2), some (.int (nI a + Int32.ofInt 1)), some (.int (nI b)), z]) (fun _ => rfl) ?_
    rw [nI_inc]
    exact kk z
  | succ m ih =>
    intro b hb hab q trial z ht kk
    refine ev_go 4 (st' := [.int now.1.2.2.2.1, .int (nI b)]) (fun _ => rfl) ?_
    rw [eB]
    refine ev_ic_ge rfl rfl (fun n => absurd n (nI_ge (by omega) (by omega))) (fun _ => ?_)
    refine ev_go 4 (fun _ => rfl) ?_
    refine ev_call (y' := 99) rfl rfl rfl rfl (sp_swapped xs _ now trial told im0 im1 p f r tr B TN S a b n hn ht (by omega) (by omega) hN) ?_
    have hg := GS_sw (n := n) (a := a) (b := b) hn ht
    have h2 := ih (b + 1) (by omega) (by omega) (jdS q (smT 9 ((swK now trial B TN S n a b).2.2.take TN)) (nI (10 * a + b))) _ (some (.int (smT 9 ((swK now trial B TN S n a b).2.2.take TN)))) hg kk
    generalize smT 9 ((swK now trial B TN S n a b).2.2.take TN) = en at h2 ⊢
    unfold jdS at h2
    refine ev_go 3 (fun _ => rfl) ?_
    by_cases c : q.1 < en
    · rw [if_pos c] at h2
      refine ev_ic_le rfl rfl (fun n => absurd n (i32_lt_nle c)) (fun _ => ?_)
      refine ev_go 10 (ls' := [some (.ref 0), some (.int (nI n)), some (.int w), some (.int en), some (.int ((Int8.ofInt 10).toInt32 * nI a + nI b)), some (.int (nI a)), some (.int (nI b + Int32.ofInt 1)), some (.int en)]) (fun _ => rfl) ?_
      rw [nI_inc, nI_mul10]
      exact h2
    · rw [if_neg c] at h2
      refine ev_ic_le rfl rfl (fun _ => ?_) (fun n => absurd (i32_nlt c) n)
      refine ev_go 2 (ls' := [some (.ref 0), some (.int (nI n)), some (.int w), some (.int q.1), some (.int q.2), some (.int (nI a)), some (.int (nI b + Int32.ofInt 1)), some (.int en)]) (fun _ => rfl) ?_
      rw [nI_inc]
      exact h2
/-- what is told of a pair -/
def tlS (w : Int32) (q : Int32 × Int32) : Int32 := if w = 0 then q.2 else if q.2 = -4 then q.2 else q.1
theorem GS_swO {now : CK} {B TN S n : Nat} (hn : CG now B TN S) : ∀ (m a : Nat) (q : Int32 × Int32) (trial : CK), GS trial → GS (swO now B TN S n m a q trial).2
  | 0, _, _, _, h => h
  | m + 1, a, q, trial, h => GS_swO hn m (a + 1) _ _ (GS_swI hn _ _ _ _ h)
theorem lp_swO (B TN S n : Nat) (hn : CG now B TN S) (hN : n ≤ 100) (w : Int32) : ∀ m a, a + m = B → ∀ (q : Int32 × Int32) (trial : CK) (z1 z2 : Option Value), GS trial → Ev xs (d + 6) 79 50 [some (.ref 0), some (.int (nI n)), some (.int w), some (.int q.1), some (.int q.2), some (.int (nI a)), z1, z2] [] (hCl now trial told im0 im1 p f r tr) (some (.int (tlS w (swO now B TN S n m a q trial).1))) (hCl now (swO now B TN S n m a q trial).2 told im0 im1 p f r tr) := by
  have hB := hn.1.2.2.2.2.1
  have eB := hn.1.2.1
  intro m
  induction m with
  | zero =>
    intro a ha q trial z1 z2 ht
    have e : a = B := by omega
    subst e
    unfold swO tlS
    refine ev_go 4 (st' := [.int now.1.2.2.2.1, .int (nI a)]) (fun _ => rfl) ?_
    rw [eB]
    refine ev_ic_ge rfl rfl (fun _ => ?_) (fun n => absurd (nI_le (Nat.le_refl _) (by omega)) n)
    refine ev_go 1 (fun _ => rfl) ?_
    split
    · rename_i c
      refine ev_if_eq rfl rfl (fun _ => ?_) (fun n => absurd (c) n)
      exact ev_end 3 rfl
    · rename_i c
      refine ev_if_eq rfl rfl (fun n => absurd n (c)) (fun _ => ?_)
      refine ev_go 2 (fun _ => rfl) ?_
      split
      · rename_i c2
        refine ev_ic_ne rfl rfl (fun n => absurd n (fun n => n c2)) (fun _ => ?_)
        exact ev_end 3 rfl
      · rename_i c2
        refine ev_ic_ne rfl rfl (fun _ => ?_) (fun n => absurd (c2) n)
        exact ev_end 2 rfl
  | succ m ih =>
    intro a ha q trial z1 z2 ht
    have hgI := GS_swI (n := n) (a := a) hn (B - (a + 1)) (a + 1) q trial ht
    refine ev_go 4 (st' := [.int now.1.2.2.2.1, .int (nI a)]) (fun _ => rfl) ?_
    rw [eB]
    refine ev_ic_ge rfl rfl (fun n => absurd n (nI_ge (by omega) (by omega))) (fun _ => ?_)
    refine ev_go 4 (ls' := [some (.ref 0), some (.int (nI n)), some (.int w), some (.int q.1), some (.int q.2), some (.int (nI a)), some (.int (nI a + Int32.ofInt 1)), z2]) (fun _ => rfl) ?_
    rw [nI_inc]
    exact lp_swI xs d now told im0 im1 p f r tr B TN S n a hn hN (by omega) w _ _ (B - (a + 1)) (a + 1) (by omega) (by omega) q trial z2 ht (fun z => ih (a + 1) (by omega) _ _ _ z hgI)
theorem sp_swap_bad (n w : Int32) (c : (wiI n 0 100 && wiI w 0 1) = false) : Ev xs (d + 1) 79 0 [some (.ref 0), some (.int n), some (.int w), none, none, none, none, none] [] (hCl now trial told im0 im1 p f r tr) (some (.int (-1))) (hCl now trial told im0 im1 p f r tr) := by
  refine ev_go 3 (fun _ => rfl) ?_
  refine ev_call (y' := 95) rfl rfl rfl rfl (sp_within xs d _ n 0 100) ?_
  cases c1 : wiI n 0 100 with
  | false => exact ev_end 3 rfl
  | true =>
    rw [c1] at c
    refine ev_go 4 (fun _ => rfl) ?_
    refine ev_call (y' := 95) rfl rfl rfl rfl (sp_within xs d _ w 0 1) ?_
    rw [show wiI w 0 1 = false from c]
    exact ev_end 3 rfl
def swQ (now trial : CK) (B TN S n : Nat) : (Int32 × Int32) × CK := swO now B TN S n B 0 (smT 9 ((aheadK now trial B TN S n).2.2.take TN), -4) (aheadK now trial B TN S n)
theorem sp_swap (B TN S n : Nat) (w : Int32) (hn : CG now B TN S) (ht : GS trial) (hN : n ≤ 100) (cw : wiI w 0 1 = true) : Ev xs (d + 6) 79 0 [some (.ref 0), some (.int (nI n)), some (.int w), none, none, none, none, none] [] (hCl now trial told im0 im1 p f r tr) (some (.int (tlS w (swQ now trial B TN S n).1))) (hCl now (swQ now trial B TN S n).2 told im0 im1 p f r tr) := by
  have hg := CG_t hn ht
  have ha : CG (aheadK now trial B TN S n) B TN S := CG_ah hn ht
  have hB := hn.1.2.2.2.2.1
  refine ev_go 3 (fun _ => rfl) ?_
  refine ev_call (y' := 95) rfl rfl rfl rfl (sp_within xs _ _ (nI n) 0 100) ?_
  rw [show wiI (nI n) 0 100 = true from wi_nI (M := 100) hN (by decide)]
  refine ev_go 4 (fun _ => rfl) ?_
  refine ev_call (y' := 95) rfl rfl rfl rfl (sp_within xs _ _ w 0 1) ?_
  rw [cw]
  refine ev_go 2 (fun _ => rfl) ?_
  refine ev_call (y' := 96) rfl rfl rfl rfl (sp_try xs _ now trial told im0 im1 p f r tr B TN S hn.1 ht.1) ?_
  refine ev_go 3 (fun _ => rfl) ?_
  refine ev_cTrial (y' := 16) (As := [.int (nI n)]) (K' := aheadK now trial B TN S n) rfl rfl rfl rfl rfl one_i (CG6 hg) (CG6 ha) (sp_hoursC xs _ _ B TN S n hg.1 hg.2.1 hg.2.2 (by omega)) (Or.inl rfl) ?_
  refine ev_go 3 (fun _ => rfl) ?_
  refine ev_cTrial (y' := 23) (As := [.int (nI 9)]) (K' := aheadK now trial B TN S n) rfl rfl rfl rfl rfl one_i (CG6 ha) (CG6 ha) (sp_sumC xs _ _ B TN S 9 ha.1 (by decide)) (Or.inr ⟨_, rfl⟩) ?_
  exact ev_go 5 (fun _ => rfl) (lp_swO xs d now told im0 im1 p f r tr B TN S n hn hN w B 0 (by omega) (smT 9 ((aheadK now trial B TN S n).2.2.take TN), -4) (aheadK now trial B TN S n) none none (GS_CG ha))
/-- drift -/
def drN (x : Int32) : Int32 := x * 1103515245 + (Int16.ofInt 12345).toInt32
def drG (x : Int32) : Int32 := (x.toUInt32 >>> ((Int8.ofInt 16).toInt32.toUInt32 &&& Int32.toUInt32 31)).toInt32 &&& (Int16.ofInt 32767).toInt32
def drV (x : Int32) : Int32 := rmI (x / (Int8.ofInt 8).toInt32) (Int8.ofInt 9).toInt32 + Int32.ofInt 1
def drK (B TN : Nat) (K : CK) (x : Int32) : CK := hrC (putK K 2 (rmI (drG x) (nI B)).toNatClampNeg (drV (drG x))) B TN
def drS (B TN m : Nat) (K : CK) (x : Int32) : CK := match m with
  | 0 => K
  | m + 1 => drS B TN m (drK B TN K (drN x)) (drN x)
theorem ev_dr1 {xs : List Int32} {d : Nat} {ls : ML} {h h' : MH} {r : Option Value} {x : Int32} (hv : Ev xs d 87 54 ls [.int 1103515245, .int x] h r h') : Ev xs d 87 52 ls [.int x] h r h' :=
  ev_st (pc' := 54) (ls' := ls) (st' := [.int 1103515245, .int x]) (h1 := h) (i := .ldc 252) rfl rfl hv
theorem ev_dr2 {xs : List Int32} {d : Nat} {ls : ML} {h h' : MH} {r : Option Value} {x c : Int32} (hv : Ev xs d 87 59 ls [.int (x * c + (Int16.ofInt 12345).toInt32)] h r h') : Ev xs d 87 54 ls [.int c, .int x] h r h' := ev_go 3 (fun _ => rfl) hv
theorem ev_drN {xs : List Int32} {d : Nat} {ls : ML} {h h' : MH} {r : Option Value} {x : Int32} (hv : Ev xs d 87 59 ls [.int (drN x)] h r h') : Ev xs d 87 52 ls [.int x] h r h' := ev_dr1 (ev_dr2 (by unfold drN at hv; exact hv))
/-- one turn of the drift -/
theorem st_drift {xs : List Int32} {d : Nat} {now told im0 im1 : CK} {p : TP} {f : FP} {r : RS} {tr : Int32} (B TN S N g h : Nat) (eB : now.1.2.2.2.1 = nI B) (h0 : 0 < B) (hB : B ≤ 5) (x0 w x x1 x2 x3 : Int32) (K : CK) (z : Option Value) (hK : CG K B TN S) (e1 : rmI x2 (nI B) = nI (g % B)) {rs : Option Value} {h' : MH}
    (hv1 : ∀ {ls : ML} {h h' : MH} {r : Option Value}, Ev xs (d + 4) 87 59 ls [.int x1] h r h' → Ev xs (d + 4) 87 52 ls [.int x] h r h')
    (hv2 : ∀ {ls : ML} {h h' : MH} {r : Option Value}, Ev xs (d + 4) 87 70 ls [.int x2] h r h' → Ev xs (d + 4) 87 63 ls [.int x1] h r h')
    (hv3 : ∀ {ls : ML} {st : List Value} {h h' : MH} {r : Option Value}, Ev xs (d + 4) 87 99 ls (.int x3 :: st) h r h' → Ev xs (d + 4) 87 91 ls (.int x2 :: st) h r h')
    (hv : Ev xs (d + 4) 87 44 [some (.ref 0), some (.int x0), some (.int (nI N)), some (.int w), some (.int x1), some (.int (nI (h + 1))), some (.int x2)] [] (hCl now (hrC (putK K 2 (g % B) x3) B TN) told im0 im1 p f r tr) rs h') : Ev xs (d + 4) 87 50 [some (.ref 0), some (.int x0), some (.int (nI N)), some (.int w), some (.int x), some (.int (nI h)), z] [] (hCl now K told im0 im1 p f r tr) rs h' := by
  have hm : g % B < B := Nat.mod_lt _ h0
  have hp := CG_put 2 (g % B) x3 hK
  refine ev_go 1 (fun _ => rfl) (hv1 ?_)
  refine ev_go 2 (ls' := [some (.ref 0), some (.int x0), some (.int (nI N)), some (.int w), some (.int x1), some (.int (nI h)), z]) (st' := [.int x1]) (fun _ => rfl) (hv2 ?_)
  refine ev_go 8 (ls' := [some (.ref 0), some (.int x0), some (.int (nI N)), some (.int w), some (.int x1), some (.int (nI h)), some (.int x2)]) (st' := [.int now.1.2.2.2.1, .int x2, .ref 22]) (fun _ => rfl) ?_
  rw [eB]
  refine ev_irem rfl (nI_ne0 h0 (by omega)) ?_
  rw [e1]
  refine ev_go 1 (fun _ => rfl) (hv3 ?_)
  refine ev_iastE rfl (at_trial now K told im0 im1 p f r tr 3 (by decide) (CG6 hK)) (mm_ix_nI (by omega)) (by show g % B < K.2.1.2.2.1.length; have := hK.1.1.2.2.1; omega) (set_trialP now _ told im0 im1 p f r tr _) ?_
  refine ev_go 2 (fun _ => rfl) ?_
  refine ev_cTrial (y' := 17) (As := []) (K' := hrC (putK K 2 (g % B) x3) B TN) rfl rfl rfl rfl rfl nil_i (CG6 hp) (CG6 (CG_hr hp)) (sp_hourC xs _ (putK K 2 (g % B) x3) B TN S hp.1 hp.2.1 hp.2.2) (Or.inl rfl) ?_
  refine ev_go 2 (ls' := [some (.ref 0), some (.int x0), some (.int (nI N)), some (.int w), some (.int x1), some (.int (nI h + Int32.ofInt 1)), some (.int x2)]) (fun _ => rfl) ?_
  rw [nI_inc]
  exact hv
theorem ev_drG {xs : List Int32} {d : Nat} {ls : ML} {h h' : MH} {r : Option Value} {x : Int32} (hv : Ev xs d 87 70 ls [.int (drG x)] h r h') : Ev xs d 87 63 ls [.int x] h r h' := by
  unfold drG at hv
  exact ev_go 4 (fun _ => rfl) hv
theorem ev_drV {xs : List Int32} {d : Nat} {ls : ML} {st : List Value} {h h' : MH} {r : Option Value} {x : Int32} (hv : Ev xs d 87 99 ls (.int (drV x) :: st) h r h') : Ev xs d 87 91 ls (.int x :: st) h r h' := by
  unfold drV at hv
  exact ev_go 6 (fun _ => rfl) hv
theorem drG_nI (x : Int32) : ∃ g, g < 32768 ∧ drG x = nI g := by
  unfold drG
  rw [show (Int16.ofInt 32767).toInt32 = 32767 by decide]
  exact and_nI _
theorem CG_dr {B TN S : Nat} {K : CK} {x : Int32} (h : CG K B TN S) : CG (drK B TN K x) B TN S := CG_hr (CG_put 2 _ _ h)
theorem CG_drS {B TN S : Nat} : ∀ (m : Nat) (K : CK) (x : Int32), CG K B TN S → CG (drS B TN m K x) B TN S := by
  intro m
  induction m with
  | zero => intro K x h; exact h
  | succ m ih =>
    intro K x h
    unfold drS
    exact ih _ _ (CG_dr h)
theorem lp_drift (B TN S N : Nat) (hn : CG now B TN S) (h0 : 0 < B) (hN : N ≤ 100) (x0 w : Int32) : ∀ m h, h + m = N → ∀ (K : CK) (x : Int32) (z : Option Value), CG K B TN S → Ev xs (d + 4) 87 44 [some (.ref 0), some (.int x0), some (.int (nI N)), some (.int w), some (.int x), some (.int (nI h)), z] [] (hCl now K told im0 im1 p f r tr) (some (.int (if w = 0 then smT 9 ((drS B TN m K x).2.2.take TN) else (drS B TN m K x).1.2.2.2.2.2.2.1))) (hCl now (drS B TN m K x) told im0 im1 p f r tr) := by
  have hB := hn.1.2.2.2.2.1
  have eB := hn.1.2.1
  intro m
  induction m with
  | zero =>
    intro h hh K x z hK
    have e : h = N := by omega
    subst e
    unfold drS
    refine ev_go 2 (fun _ => rfl) ?_
    refine ev_ic_ge rfl rfl (fun _ => ?_) (fun n => absurd (nI_le (Nat.le_refl _) (by omega)) n)
    refine ev_go 1 (fun _ => rfl) ?_
    split
    · rename_i c
      refine ev_if_ne rfl rfl (fun n => absurd n (fun n => n c)) (fun _ => ?_)
      refine ev_go 3 (fun _ => rfl) ?_
      refine ev_cTrial (y' := 23) (As := [.int (nI 9)]) (K' := K) rfl rfl rfl rfl rfl one_i (CG6 hK) (CG6 hK) (sp_sumC xs _ K B TN S 9 hK.1 (by decide)) (Or.inr ⟨_, rfl⟩) ?_
      exact ev_end 2 rfl
    · rename_i c
      refine ev_if_ne rfl rfl (fun _ => ?_) (fun n => absurd (c) n)
      exact ev_end 4 rfl
  | succ m ih =>
    intro h hh K x z hK
    obtain ⟨g, hg, eg2⟩ := drG_nI (drN x)
    have hm : g % B < B := Nat.mod_lt _ h0
    have e1 : rmI (drG (drN x)) (nI B) = nI (g % B) := by rw [eg2]; exact rmI_nI (by omega) (by omega) h0
    have e2 : (rmI (drG (drN x)) (nI B)).toNatClampNeg = g % B := by rw [e1, nI_clamp (by omega)]
    have hd := CG_dr (x := drN x) hK
    have ed : drK B TN K (drN x) = hrC (putK K 2 (g % B) (drV (drG (drN x)))) B TN := by unfold drK; rw [e2]
    have hv := ih (h + 1) (by omega) _ (drN x) (some (.int (drG (drN x)))) hd
    unfold drS
    rw [ed] at hv ⊢
    refine ev_go 2 (fun _ => rfl) ?_
    refine ev_ic_ge rfl rfl (fun n => absurd n (nI_ge (by omega) (by omega))) (fun _ => ?_)
    exact st_drift B TN S N g h eB h0 hB x0 w x (drN x) (drG (drN x)) (drV (drG (drN x))) K z hK e1 ev_drN ev_drG ev_drV hv
theorem sp_drift_bad (x n w : Int32) (c : (wiI n 1 100 && wiI w 0 1) = false) : Ev xs (d + 1) 87 0 [some (.ref 0), some (.int x), some (.int n), some (.int w), none, none, none] [] (hCl now trial told im0 im1 p f r tr) (some (.int (-1))) (hCl now trial told im0 im1 p f r tr) := by
  refine ev_go 3 (fun _ => rfl) ?_
  refine ev_call (y' := 95) rfl rfl rfl rfl (sp_within xs d _ n 1 100) ?_
  cases c1 : wiI n 1 100 with
  | false => exact ev_end 3 rfl
  | true =>
    rw [c1] at c
    refine ev_go 4 (fun _ => rfl) ?_
    refine ev_call (y' := 95) rfl rfl rfl rfl (sp_within xs d _ w 0 1) ?_
    rw [show wiI w 0 1 = false from c]
    exact ev_end 3 rfl
theorem sp_drift_st (x n w : Int32) (c1 : wiI n 1 100 = true) (c2 : wiI w 0 1 = true) (e : now.1.2.2.2.1 = 0) : Ev xs (d + 1) 87 0 [some (.ref 0), some (.int x), some (.int n), some (.int w), none, none, none] [] (hCl now trial told im0 im1 p f r tr) (some (.int (-2))) (hCl now trial told im0 im1 p f r tr) := by
  refine ev_go 3 (fun _ => rfl) ?_
  refine ev_call (y' := 95) rfl rfl rfl rfl (sp_within xs d _ n 1 100) ?_
  rw [c1]
  refine ev_go 4 (fun _ => rfl) ?_
  refine ev_call (y' := 95) rfl rfl rfl rfl (sp_within xs d _ w 0 1) ?_
  rw [c2]
  refine ev_go 4 (fun _ => rfl) ?_
  refine ev_if_gt rfl rfl (fun n => absurd n (by show ¬ 0 < now.1.2.2.2.1; rw [e]; decide)) (fun _ => ?_)
  exact ev_end 2 rfl
theorem sp_drift (B TN S N : Nat) (x w : Int32) (hn : CG now B TN S) (ht : GS trial) (h0 : 0 < B) (hN : N ≤ 100) (c1 : wiI (nI N) 1 100 = true) (c2 : wiI w 0 1 = true) : Ev xs (d + 4) 87 0 [some (.ref 0), some (.int x), some (.int (nI N)), some (.int w), none, none, none] [] (hCl now trial told im0 im1 p f r tr) (some (.int (if w = 0 then smT 9 ((drS B TN N (tryK now trial B TN S) x).2.2.take TN) else (drS B TN N (tryK now trial B TN S) x).1.2.2.2.2.2.2.1))) (hCl now (drS B TN N (tryK now trial B TN S) x) told im0 im1 p f r tr) := by
  have hB := hn.1.2.2.2.2.1
  have eB := hn.1.2.1
  refine ev_go 3 (fun _ => rfl) ?_
  refine ev_call (y' := 95) rfl rfl rfl rfl (sp_within xs _ _ (nI N) 1 100) ?_
  rw [c1]
  refine ev_go 4 (fun _ => rfl) ?_
  refine ev_call (y' := 95) rfl rfl rfl rfl (sp_within xs _ _ w 0 1) ?_
  rw [c2]
  refine ev_go 4 (fun _ => rfl) ?_
  refine ev_if_gt rfl rfl (fun _ => ?_) (fun n => absurd (by show 0 < now.1.2.2.2.1; rw [eB]; exact nI_lt (a := 0) h0 (by omega)) n)
  refine ev_go 1 (fun _ => rfl) ?_
  refine ev_call (y' := 96) rfl rfl rfl rfl (sp_try xs _ now trial told im0 im1 p f r tr B TN S hn.1 ht.1) ?_
  exact ev_go 4 (fun _ => rfl) (lp_drift xs d now told im0 im1 p f r tr B TN S N hn h0 hN x w N 0 (by omega) _ x none (CG_t hn ht))
/-- see -/
def seeC (now : CK) (n t v : Int32) : Bool := wiI n 0 20 && (hasI t now.1.2.2.2.2.1 && wiI v 0 20)
theorem st_see (n t v : Int32) (hK : now.2.2.length = 6) (rs : Option Value) (h' : MH) (kt : seeC now n t v = true → Ev xs (d + 1) 82 33 [some (.ref 0), some (.int n), some (.int t), some (.int v)] [] (hCl now trial told im0 im1 p f r tr) rs h') (kf : seeC now n t v = false → Ev xs (d + 1) 82 31 [some (.ref 0), some (.int n), some (.int t), some (.int v)] [] (hCl now trial told im0 im1 p f r tr) rs h') : Ev xs (d + 1) 82 0 [some (.ref 0), some (.int n), some (.int t), some (.int v)] [] (hCl now trial told im0 im1 p f r tr) rs h' := by
  unfold seeC at kt kf
  refine ev_go 3 (fun _ => rfl) ?_
  refine ev_call (y' := 95) rfl rfl rfl rfl (sp_within xs d _ n 0 20) ?_
  cases c1 : wiI n 0 20 with
  | false =>
    rw [c1] at kf
    exact ev_go 1 (fun _ => rfl) (kf rfl)
  | true =>
    rw [c1] at kt kf
    refine ev_go 4 (fun _ => rfl) ?_
    refine ev_cNow (y' := 4) (As := [.int t]) (K' := now) rfl rfl rfl rfl rfl one_i (hK) (hK) (sp_hasTC xs _ now t) (Or.inr ⟨_, rfl⟩) ?_
    cases c2 : hasI t now.1.2.2.2.2.1 with
    | false =>
      rw [c2] at kf
      exact ev_go 1 (fun _ => rfl) (kf rfl)
    | true =>
      rw [c2] at kt kf
      refine ev_go 4 (fun _ => rfl) ?_
      refine ev_call (y' := 95) rfl rfl rfl rfl (sp_within xs d _ v 0 20) ?_
      cases c3 : wiI v 0 20 with
      | false =>
        rw [c3] at kf
        exact ev_go 1 (fun _ => rfl) (kf rfl)
      | true =>
        rw [c3] at kt
        exact ev_go 1 (fun _ => rfl) (kt rfl)
theorem sp_see_bad (n t v : Int32) (hK : now.2.2.length = 6) (c : seeC now n t v = false) : Ev xs (d + 1) 82 0 [some (.ref 0), some (.int n), some (.int t), some (.int v)] [] (hCl now trial told im0 im1 p f r tr) (some (.int (-1))) (hCl now trial told im0 im1 p f r tr) :=
  st_see xs d now trial told im0 im1 p f r tr n t v hK _ _ (fun e => by rw [c] at e; cases e) (fun _ => ev_end 2 rfl)
theorem sp_see_full (n t v : Int32) (hK : now.2.2.length = 6) (c : seeC now n t v = true) (e : now.1.2.2.2.2.2.1 = nI 6) : Ev xs (d + 1) 82 0 [some (.ref 0), some (.int n), some (.int t), some (.int v)] [] (hCl now trial told im0 im1 p f r tr) (some (.int (-3))) (hCl now trial told im0 im1 p f r tr) := by
  refine st_see xs d now trial told im0 im1 p f r tr n t v hK _ _ (fun _ => ?_) (fun q => by rw [c] at q; cases q)
  refine ev_go 4 (fun _ => rfl) ?_
  refine ev_ic_lt rfl rfl (fun n => absurd n (by show ¬ now.1.2.2.2.2.2.1 < 6; rw [e]; decide)) (fun _ => ?_)
  exact ev_end 2 rfl
def addSK (K : CK) (k : Nat) (n t v : Int32) : CK := ((K.1.1, K.1.2.1, K.1.2.2.1, K.1.2.2.2.1, K.1.2.2.2.2.1, nI (k + 1), K.1.2.2.2.2.2.2), (K.2.1.1, K.2.1.2.1, K.2.1.2.2.1, K.2.1.2.2.2.1.set k n, K.2.1.2.2.2.2.1.set k t, K.2.1.2.2.2.2.2.1.set k v, K.2.1.2.2.2.2.2.2), K.2.2)
theorem sp_addSK (K : CK) (k : Nat) (a b c : Int32) (e : K.1.2.2.2.2.2.1 = nI k) (hk : k < 6) (hl : CL K) : Ev xs d 13 0 [some (.ref 0), some (.int a), some (.int b), some (.int c)] [] (bH 0 K) none (bH 0 (addSK K k a b c)) := by
  obtain ⟨⟨l1, l2, l3, l4, l5, l6, l7, l8⟩, ⟨r1, r2, r3, r4, r5, r6, r7, r8, r9, r10⟩, rw2⟩ := K
  obtain ⟨g1, g2, g3, g4, g5, g6, -⟩ := hl
  dsimp only at e g4 g5 g6
  subst e
  have := sp_addS xs d l1 l2 l3 l4 l5 (nI k) l7 l8 r1 r2 r3 r4 r5 r6 r7 r8 r9 r10 rw2 a b c k (mm_ix_nI (by omega)) (by omega) (by omega) (by omega)
  rw [nI_1] at this
  exact this
theorem CL_addS {K : CK} {k : Nat} {a b c : Int32} (h : CL K) : CL (addSK K k a b c) := by
  obtain ⟨h1, h2, h3, h4, h5, h6, h7⟩ := h
  exact ⟨h1, h2, h3, by show (List.set _ _ _).length = 6; rw [List.length_set]; exact h4, by show (List.set _ _ _).length = 6; rw [List.length_set]; exact h5, by show (List.set _ _ _).length = 6; rw [List.length_set]; exact h6, h7⟩
theorem sp_see (n t v : Int32) (k : Nat) (hl : CL now) (c : seeC now n t v = true) (e : now.1.2.2.2.2.2.1 = nI k) (hk : k < 6) : Ev xs (d + 1) 82 0 [some (.ref 0), some (.int n), some (.int t), some (.int v)] [] (hCl now trial told im0 im1 p f r tr) (some (.int (nI (k + 1)))) (hCl (addSK now k n t v) trial told im0 im1 p f r tr) := by
  refine st_see xs d now trial told im0 im1 p f r tr n t v (CL6 hl) _ _ (fun _ => ?_) (fun q => by rw [c] at q; cases q)
  refine ev_go 4 (fun _ => rfl) ?_
  refine ev_ic_lt rfl rfl (fun _ => ?_) (fun n => absurd (by show now.1.2.2.2.2.2.1 < 6; rw [e]; exact nI_lt (b := 6) hk (by decide)) n)
  refine ev_go 5 (fun _ => rfl) ?_
  refine ev_cNow (y' := 13) (As := [.int n, .int t, .int v]) (K' := addSK now k n t v) rfl rfl rfl rfl rfl three_i (CL6 hl) (CL6 (CL_addS hl)) (sp_addSK xs _ now k n t v e hk hl) (Or.inl rfl) ?_
  exact ev_end 4 rfl
end CLS10

/-! when, again, best, kind -/
section CLS9
variable (xs : List Int32) (d : Nat) (now trial told im0 im1 : CK) (p : TP) (f : FP) (r : RS) (tr : Int32)
def whC (now : CK) (a b : Int32) : Bool := hasI a now.1.2.2.2.1 && (hasI b now.1.2.2.2.1 && decide (¬ a = b))
theorem sp_when_bad (a b : Int32) (hK : now.2.2.length = 6) (c : whC now a b = false) : Ev xs (d + 1) 74 0 [some (.ref 0), some (.int a), some (.int b), none] [] (hCl now trial told im0 im1 p f r tr) (some (.int (-1))) (hCl now trial told im0 im1 p f r tr) := by
  unfold whC at c
  refine ev_go 3 (fun _ => rfl) ?_
  refine ev_cNow (y' := 3) (As := [.int a]) (K' := now) rfl rfl rfl rfl rfl one_i (hK) (hK) (sp_hasBC xs _ now a) (Or.inr ⟨_, rfl⟩) ?_
  cases c0 : hasI a now.1.2.2.2.1 with
  | false => exact ev_end 3 rfl
  | true =>
    rw [c0] at c
    refine ev_go 4 (fun _ => rfl) ?_
    refine ev_cNow (y' := 3) (As := [.int b]) (K' := now) rfl rfl rfl rfl rfl one_i (hK) (hK) (sp_hasBC xs _ now b) (Or.inr ⟨_, rfl⟩) ?_
    cases c1 : hasI b now.1.2.2.2.1 with
    | false => exact ev_end 3 rfl
    | true =>
      rw [c1] at c
      have c2 : ¬ ¬ a = b := of_decide_eq_false c
      refine ev_go 3 (fun _ => rfl) ?_
      refine ev_ic_ne rfl rfl (fun n => absurd n (c2)) (fun _ => ?_)
      exact ev_end 2 rfl
theorem sp_meetC (K : CK) (i j : Nat) (b : Bool) (hi : i < 5) (hj : j < 5) (hm : K.2.1.2.2.2.2.2.2.2.2.2[5 * i + j]? = some (bI b)) : Ev xs d 18 0 [some (.ref 0), some (.int (nI i)), some (.int (nI j))] [] (bH 0 K) (some (.int (bI b))) (bH 0 K) := sp_doMeet xs d K.1.1 K.1.2.1 K.1.2.2.1 K.1.2.2.2.1 K.1.2.2.2.2.1 K.1.2.2.2.2.2.1 K.1.2.2.2.2.2.2.1 K.1.2.2.2.2.2.2.2 K.2.1.1 K.2.1.2.1 K.2.1.2.2.1 K.2.1.2.2.2.1 K.2.1.2.2.2.2.1 K.2.1.2.2.2.2.2.1 K.2.1.2.2.2.2.2.2.1 K.2.1.2.2.2.2.2.2.2.1 K.2.1.2.2.2.2.2.2.2.2.1 K.2.1.2.2.2.2.2.2.2.2.2 K.2.2 i j b hi hj hm
/-- do two meet by the latest move -/
def mtK (K : CK) (a b : Nat) : Bool := decide (K.2.1.2.2.2.2.2.2.2.2.2.getD (5 * a + b) 0 = 1)
theorem okM_at {ms : List Int32} {k : Nat} (h : okM ms) (hk : k < 25) : ms[k]? = some (bI (decide (ms.getD k 0 = 1))) := by
  obtain ⟨b, e⟩ := h k hk
  rw [List.getD_eq_getElem?_getD, e]
  cases b <;> rfl
/-- the hour of the first meeting, moves left m, hours gone h -/
def whA (B a b : Nat) (m h : Nat) (K : CK) : Int32 := match m with
  | 0 => -4
  | m + 1 => match mtK (mvC K B) a b with
    | true => nI h
    | false => whA B a b m (h + 1) (mvC K B)
theorem lp_when (B TN S a b : Nat) (ha : a < 5) (hb : b < 5) : ∀ m h, h + m = 101 → ∀ K : CK, CG K B TN S → ∃ K', CG K' B TN S ∧ Ev xs (d + 3) 74 35 [some (.ref 0), some (.int (nI a)), some (.int (nI b)), some (.int (nI h))] [] (hCl now K told im0 im1 p f r tr) (some (.int (whA B a b m h K))) (hCl now K' told im0 im1 p f r tr) := by
  intro m
  induction m with
  | zero =>
    intro h hh K hK
    have e : h = 101 := by omega
    subst e
    exact ⟨K, hK, ev_end 5 rfl⟩
  | succ m ih =>
    intro h hh K hK
    have hm := CG_mv hK
    have hq : (mvC K B).2.1.2.2.2.2.2.2.2.2.2[5 * a + b]? = some (bI (mtK (mvC K B) a b)) := okM_at hm.2.1.2.2.2.2.2.2.1 (by omega)
    have h1 : ¬ (nI 100 < nI h) := nI_nlt (by omega) (by decide)
    cases c : mtK (mvC K B) a b with
    | true =>
      refine ⟨_, hm, ?_⟩
      have ew : whA B a b (m + 1) h K = nI h := by unfold whA; rw [c]
      rw [ew]
      refine ev_go 2 (fun _ => rfl) ?_
      refine ev_ic_gt rfl rfl (fun n => absurd n (h1)) (fun _ => ?_)
      refine ev_go 2 (fun _ => rfl) ?_
      refine ev_cTrial (y' := 19) (As := []) (K' := mvC K B) rfl rfl rfl rfl rfl nil_i (CG6 hK) (CG6 hm) (sp_moveC xs _ K B TN S hK.1 hK.2.1 hK.2.2) (Or.inl rfl) ?_
      refine ev_go 4 (fun _ => rfl) ?_
      refine ev_cTrial (y' := 18) (As := [.int (nI a), .int (nI b)]) (K' := mvC K B) rfl rfl rfl rfl rfl two_i (CG6 hm) (CG6 hm) (sp_meetC xs _ _ a b _ ha hb hq) (Or.inr ⟨_, rfl⟩) ?_
      rw [c]
      exact ev_end 3 rfl
    | false =>
      obtain ⟨K', hK', hv⟩ := ih (h + 1) (by omega) _ hm
      refine ⟨K', hK', ?_⟩
      have ew : whA B a b (m + 1) h K = whA B a b m (h + 1) (mvC K B) := by conv => lhs; unfold whA; rw [c]
      rw [ew]
      refine ev_go 2 (fun _ => rfl) ?_
      refine ev_ic_gt rfl rfl (fun n => absurd n (h1)) (fun _ => ?_)
      refine ev_go 2 (fun _ => rfl) ?_
      refine ev_cTrial (y' := 19) (As := []) (K' := mvC K B) rfl rfl rfl rfl rfl nil_i (CG6 hK) (CG6 hm) (sp_moveC xs _ K B TN S hK.1 hK.2.1 hK.2.2) (Or.inl rfl) ?_
      refine ev_go 4 (fun _ => rfl) ?_
      refine ev_cTrial (y' := 18) (As := [.int (nI a), .int (nI b)]) (K' := mvC K B) rfl rfl rfl rfl rfl two_i (CG6 hm) (CG6 hm) (sp_meetC xs _ _ a b _ ha hb hq) (Or.inr ⟨_, rfl⟩) ?_
      rw [c]
      refine ev_go 3 (ls' := [some (.ref 0), some (.int (nI a)), some (.int (nI b)), some (.int (nI h + Int32.ofInt 1))]) (fun _ => rfl) ?_
      rw [nI_inc]
      exact hv
theorem sp_when (B TN S a b : Nat) (hn : CG now B TN S) (ht : GS trial) (ha : a < B) (hb : b < B) (hab : a ≠ b) : ∃ K', GS K' ∧ Ev xs (d + 3) 74 0 [some (.ref 0), some (.int (nI a)), some (.int (nI b)), none] [] (hCl now trial told im0 im1 p f r tr) (some (.int (whA B a b 101 0 (tryK now trial B TN S)))) (hCl now K' told im0 im1 p f r tr) := by
  have hB := hn.1.2.2.2.2.1
  have hK := CG6 hn
  obtain ⟨K', hK', hv⟩ := lp_when xs d now told im0 im1 p f r tr B TN S a b (by omega) (by omega) 101 0 rfl _ (CG_t hn ht)
  refine ⟨K', GS_CG hK', ?_⟩
  have ne : ¬ nI a = nI b := fun e => hab (by
    have := congrArg Int32.toNatClampNeg e
    rw [nI_clamp (by omega), nI_clamp (by omega)] at this
    exact this)
  refine ev_go 3 (fun _ => rfl) ?_
  refine ev_cNow (y' := 3) (As := [.int (nI a)]) (K' := now) rfl rfl rfl rfl rfl one_i (hK) (hK) (sp_hasBC xs _ now (nI a)) (Or.inr ⟨_, rfl⟩) ?_
  rw [show hasI (nI a) now.1.2.2.2.1 = true by rw [hn.1.2.1]; exact has_nI (by omega) ha]
  refine ev_go 4 (fun _ => rfl) ?_
  refine ev_cNow (y' := 3) (As := [.int (nI b)]) (K' := now) rfl rfl rfl rfl rfl one_i (hK) (hK) (sp_hasBC xs _ now (nI b)) (Or.inr ⟨_, rfl⟩) ?_
  rw [show hasI (nI b) now.1.2.2.2.1 = true by rw [hn.1.2.1]; exact has_nI (by omega) hb]
  refine ev_go 3 (fun _ => rfl) ?_
  refine ev_ic_ne rfl rfl (fun _ => ?_) (fun n => absurd (ne) n)
  refine ev_go 1 (fun _ => rfl) ?_
  refine ev_call (y' := 96) rfl rfl rfl rfl (sp_try xs _ now trial told im0 im1 p f r tr B TN S hn.1 ht.1) ?_
  exact ev_go 2 (fun _ => rfl) hv
/-- again -/
def agA (way : Int32) (ph pc : List Int32) (B m h : Nat) : Int32 := match m with
  | 0 => -4
  | m + 1 => match allB (nI h) way ph pc B 0 with
    | true => nI h
    | false => agA way ph pc B m (h + 1)
theorem sp_backC (K : CK) (B TN S : Nat) (n : Int32) (h : CG K B TN S) : Ev xs (d + 3) 21 0 [some (.ref 0), some (.int n), none] [] (bH 0 K) (some (.int (bI (allB n (2 * K.1.1) K.2.1.2.1 K.2.1.2.2.1 B 0)))) (bH 0 K) := by
  obtain ⟨⟨l1, l2, l3, l4, l5, l6, l7, l8⟩, ⟨r1, r2, r3, r4, r5, r6, r7, r8, r9, r10⟩, rw2⟩ := K
  obtain ⟨⟨hcl, e1, e2, e3, hB, hTN, hS⟩, hk, hw⟩ := h
  dsimp only at e1
  subst e1
  exact sp_back xs d l1 l2 l3 l5 l6 l7 l8 r1 r2 r3 r4 r5 r6 r7 r8 r9 r10 rw2 B n hB hcl.2.1 hcl.2.2.1 hw
theorem lp_again (B TN S : Nat) (hn : CG now B TN S) : ∀ m h, h + m = 101 → Ev xs (d + 4) 75 2 [some (.ref 0), some (.int (nI h))] [] (hCl now trial told im0 im1 p f r tr) (some (.int (agA (2 * now.1.1) now.2.1.2.1 now.2.1.2.2.1 B m h))) (hCl now trial told im0 im1 p f r tr) := by
  intro m
  induction m with
  | zero =>
    intro h hh
    have e : h = 101 := by omega
    subst e
    exact ev_end 5 rfl
  | succ m ih =>
    intro h hh
    have h1 : ¬ (nI 100 < nI h) := nI_nlt (by omega) (by decide)
    refine ev_go 2 (fun _ => rfl) ?_
    refine ev_ic_gt rfl rfl (fun n => absurd n (h1)) (fun _ => ?_)
    refine ev_go 3 (fun _ => rfl) ?_
    refine ev_cNow (y' := 21) (As := [.int (nI h)]) (K' := now) rfl rfl rfl rfl rfl one_i (CG6 hn) (CG6 hn) (sp_backC xs _ now B TN S (nI h) hn) (Or.inr ⟨_, rfl⟩) ?_
    unfold agA
    cases c : allB (nI h) (2 * now.1.1) now.2.1.2.1 now.2.1.2.2.1 B 0 with
    | true => exact ev_end 3 rfl
    | false =>
      refine ev_go 3 (ls' := [some (.ref 0), some (.int (nI h + Int32.ofInt 1))]) (fun _ => rfl) ?_
      rw [nI_inc]
      exact ih (h + 1) (by omega)
theorem sp_again (B TN S : Nat) (hn : CG now B TN S) : Ev xs (d + 4) 75 0 [some (.ref 0), none] [] (hCl now trial told im0 im1 p f r tr) (some (.int (agA (2 * now.1.1) now.2.1.2.1 now.2.1.2.2.1 B 100 1))) (hCl now trial told im0 im1 p f r tr) :=
  ev_go 2 (fun _ => rfl) (lp_again xs d now trial told im0 im1 p f r tr B TN S hn 100 1 rfl)
/-- mostEnded: the best value and how many end by it, tries left m, at v -/
def meS (now : CK) (B TN S b w n : Nat) (m v : Nat) (q : Int32 × Int32) (trial : CK) : Int32 × Int32 := match m with
  | 0 => q
  | m + 1 => meS now B TN S b w n m (v + 1) (if q.1 < smT 9 ((itC (putK (tryK now trial B TN S) w b (nI v)) B TN n).2.2.take TN) then (smT 9 ((itC (putK (tryK now trial B TN S) w b (nI v)) B TN n).2.2.take TN), nI v) else q) (itC (putK (tryK now trial B TN S) w b (nI v)) B TN n)
theorem lp_most (B TN S b w n M : Nat) (hn : CG now B TN S) (hb : b < B) (hw : w ≤ 2) (hN : n ≤ 100) (hM : M < 1000) (eM : moI now.1.1 (nI w) = nI M) (wh : Int32) : ∀ m v, v + m = M + 1 → ∀ (trial : CK) (q : Int32 × Int32) (z : Option Value), GS trial → ∃ K', GS K' ∧ Ev xs (d + 5) 98 16 [some (.ref 0), some (.int (nI b)), some (.int (nI w)), some (.int (nI n)), some (.int wh), some (.int q.1), some (.int q.2), some (.int (nI v)), z] [] (hCl now trial told im0 im1 p f r tr) (some (.int (if wh = 0 then (meS now B TN S b w n m v q trial).2 else (meS now B TN S b w n m v q trial).1))) (hCl now K' told im0 im1 p f r tr) := by
  have hK := CG6 hn
  have hB := hn.1.2.2.2.2.1
  intro m
  induction m with
  | zero =>
    intro v hv trial q z ht
    refine ⟨trial, ht, ?_⟩
    refine ev_go 4 (fun _ => rfl) ?_
    refine ev_cNow (y' := 8) (As := [.int (nI w)]) (K' := now) rfl rfl rfl rfl rfl one_i (hK) (hK) (sp_moC xs _ now (nI w)) (Or.inr ⟨_, rfl⟩) ?_
    rw [eM]
    refine ev_ic_gt rfl rfl (fun _ => ?_) (fun n => absurd (nI_lt (by omega) (by omega)) n)
    refine ev_go 1 (fun _ => rfl) ?_
    unfold meS
    split
    · rename_i c
      refine ev_if_ne rfl rfl (fun n => absurd n (fun n => n c)) (fun _ => ?_)
      exact ev_end 3 rfl
    · rename_i c
      refine ev_if_ne rfl rfl (fun _ => ?_) (fun n => absurd (c) n)
      exact ev_end 2 rfl
  | succ m ih =>
    intro v hv trial q z ht
    have hg := CG_t hn ht
    have hp := CG_put w b (nI v) hg
    have hi := CG_it n hp
    obtain ⟨K', hK', hq⟩ := ih (v + 1) (by omega) _ (if q.1 < smT 9 ((itC (putK (tryK now trial B TN S) w b (nI v)) B TN n).2.2.take TN) then (smT 9 ((itC (putK (tryK now trial B TN S) w b (nI v)) B TN n).2.2.take TN), nI v) else q) (some (.int (smT 9 ((itC (putK (tryK now trial B TN S) w b (nI v)) B TN n).2.2.take TN)))) (GS_CG hi)
    refine ⟨K', hK', ?_⟩
    refine ev_go 4 (fun _ => rfl) ?_
    refine ev_cNow (y' := 8) (As := [.int (nI w)]) (K' := now) rfl rfl rfl rfl rfl one_i (hK) (hK) (sp_moC xs _ now (nI w)) (Or.inr ⟨_, rfl⟩) ?_
    rw [eM]
    refine ev_ic_gt rfl rfl (fun n => absurd n (nI_nlt (by omega) (by omega))) (fun _ => ?_)
    refine ev_go 1 (fun _ => rfl) ?_
    refine ev_call (y' := 96) rfl rfl rfl rfl (sp_try xs _ now trial told im0 im1 p f r tr B TN S hn.1 ht.1) ?_
    refine ev_go 5 (fun _ => rfl) ?_
    refine ev_cTrial (y' := 10) (As := [.int (nI b), .int (nI w), .int (nI v)]) (K' := putK (tryK now trial B TN S) w b (nI v)) rfl rfl rfl rfl rfl three_i (CG6 hg) (CG6 hp) (sp_putC xs _ _ w b (nI v) hg.1.1 hw (by omega)) (Or.inr ⟨_, rfl⟩) ?_
    refine ev_go 4 (fun _ => rfl) ?_
    refine ev_cTrial (y' := 16) (As := [.int (nI n)]) (K' := itC (putK (tryK now trial B TN S) w b (nI v)) B TN n) rfl rfl rfl rfl rfl one_i (CG6 hp) (CG6 hi) (sp_hoursC xs _ _ B TN S n hp.1 hp.2.1 hp.2.2 (by omega)) (Or.inl rfl) ?_
    refine ev_go 3 (fun _ => rfl) ?_
    refine ev_cTrial (y' := 23) (As := [.int (nI 9)]) (K' := itC (putK (tryK now trial B TN S) w b (nI v)) B TN n) rfl rfl rfl rfl rfl one_i (CG6 hi) (CG6 hi) (sp_sumC xs _ _ B TN S 9 hi.1 (by decide)) (Or.inr ⟨_, rfl⟩) ?_
    unfold meS
    generalize itC (putK (tryK now trial B TN S) w b (nI v)) B TN n = KK at hq hi ⊢
    generalize smT 9 (KK.2.2.take TN) = en at hq ⊢
    refine ev_go 3 (fun _ => rfl) ?_
    by_cases c : q.1 < en
    · rw [if_pos c] at hq ⊢
      refine ev_ic_le rfl rfl (fun n => absurd n (i32_lt_nle c)) (fun _ => ?_)
      refine ev_go 6 (ls' := [some (.ref 0), some (.int (nI b)), some (.int (nI w)), some (.int (nI n)), some (.int wh), some (.int en), some (.int (nI v)), some (.int (nI v + Int32.ofInt 1)), some (.int en)]) (fun _ => rfl) ?_
      rw [nI_inc]
      exact hq
    · rw [if_neg c] at hq ⊢
      refine ev_ic_le rfl rfl (fun _ => ?_) (fun n => absurd (i32_nlt c) n)
      refine ev_go 2 (ls' := [some (.ref 0), some (.int (nI b)), some (.int (nI w)), some (.int (nI n)), some (.int wh), some (.int q.1), some (.int q.2), some (.int (nI v + Int32.ofInt 1)), some (.int en)]) (fun _ => rfl) ?_
      rw [nI_inc]
      exact hq
theorem sp_most2 (B TN S b w n M L : Nat) (hn : CG now B TN S) (ht : GS trial) (hb : b < B) (hw : w ≤ 2) (hN : n ≤ 100) (hM : M < 1000) (hL : L ≤ M) (eM : moI now.1.1 (nI w) = nI M) (eL : leI (nI w) = nI L) (wh : Int32) : ∃ K', GS K' ∧ Ev xs (d + 5) 98 0 [some (.ref 0), some (.int (nI b)), some (.int (nI w)), some (.int (nI n)), some (.int wh), none, none, none, none] [] (hCl now trial told im0 im1 p f r tr) (some (.int (if wh = 0 then (meS now B TN S b w n (M + 1 - L) L (-1, 0) trial).2 else (meS now B TN S b w n (M + 1 - L) L (-1, 0) trial).1))) (hCl now K' told im0 im1 p f r tr) := by
  obtain ⟨K', hK', hv⟩ := lp_most xs d now told im0 im1 p f r tr B TN S b w n M hn hb hw hN hM eM wh (M + 1 - L) L (by omega) trial (-1, 0) none ht
  refine ⟨K', hK', ?_⟩
  refine ev_go 7 (fun _ => rfl) ?_
  refine ev_cNow (y' := 7) (As := [.int (nI w)]) (K' := now) rfl rfl rfl rfl rfl one_i (CG6 hn) (CG6 hn) (sp_leC xs _ now (nI w)) (Or.inr ⟨_, rfl⟩) ?_
  rw [eL]
  exact ev_go 1 (fun _ => rfl) hv
theorem sp_best_bad (b w n k : Int32) (hK : now.2.2.length = 6) (c : (hasI b now.1.2.2.2.1 && (wiI w 1 2 && (wiI n 0 100 && wiI k 0 1))) = false) : Ev xs (d + 1) 76 0 [some (.ref 0), some (.int b), some (.int w), some (.int n), some (.int k)] [] (hCl now trial told im0 im1 p f r tr) (some (.int (-1))) (hCl now trial told im0 im1 p f r tr) := by
  refine ev_go 3 (fun _ => rfl) ?_
  refine ev_cNow (y' := 3) (As := [.int b]) (K' := now) rfl rfl rfl rfl rfl one_i (hK) (hK) (sp_hasBC xs _ now b) (Or.inr ⟨_, rfl⟩) ?_
  cases c0 : hasI b now.1.2.2.2.1 with
  | false => exact ev_end 3 rfl
  | true =>
    rw [c0] at c
    refine ev_go 4 (fun _ => rfl) ?_
    refine ev_call (y' := 95) rfl rfl rfl rfl (sp_within xs d _ w 1 2) ?_
    cases c1 : wiI w 1 2 with
    | false => exact ev_end 3 rfl
    | true =>
      rw [c1] at c
      refine ev_go 4 (fun _ => rfl) ?_
      refine ev_call (y' := 95) rfl rfl rfl rfl (sp_within xs d _ n 0 100) ?_
      cases c2 : wiI n 0 100 with
      | false => exact ev_end 3 rfl
      | true =>
        rw [c2] at c
        refine ev_go 4 (fun _ => rfl) ?_
        refine ev_call (y' := 95) rfl rfl rfl rfl (sp_within xs d _ k 0 1) ?_
        rw [show wiI k 0 1 = false from c]
        exact ev_end 3 rfl
theorem sp_best (B TN S b w n M L : Nat) (k : Int32) (hn : CG now B TN S) (ht : GS trial) (hb : b < B) (c1 : wiI (nI w) 1 2 = true) (hw : w ≤ 2) (hN : n ≤ 100) (c3 : wiI k 0 1 = true) (hM : M < 1000) (hL : L ≤ M) (eM : moI now.1.1 (nI w) = nI M) (eL : leI (nI w) = nI L) : ∃ K', GS K' ∧ Ev xs (d + 6) 76 0 [some (.ref 0), some (.int (nI b)), some (.int (nI w)), some (.int (nI n)), some (.int k)] [] (hCl now trial told im0 im1 p f r tr) (some (.int (if k = 0 then (meS now B TN S b w n (M + 1 - L) L (-1, 0) trial).2 else (meS now B TN S b w n (M + 1 - L) L (-1, 0) trial).1))) (hCl now K' told im0 im1 p f r tr) := by
  obtain ⟨K', hK', hv⟩ := sp_most2 xs d now trial told im0 im1 p f r tr B TN S b w n M L hn ht hb hw hN hM hL eM eL k
  have hB := hn.1.2.2.2.2.1
  refine ⟨K', hK', ?_⟩
  refine ev_go 3 (fun _ => rfl) ?_
  refine ev_cNow (y' := 3) (As := [.int (nI b)]) (K' := now) rfl rfl rfl rfl rfl one_i (CG6 hn) (CG6 hn) (sp_hasBC xs _ now (nI b)) (Or.inr ⟨_, rfl⟩) ?_
  rw [show hasI (nI b) now.1.2.2.2.1 = true by rw [hn.1.2.1]; exact has_nI (by omega) hb]
  refine ev_go 4 (fun _ => rfl) ?_
  refine ev_call (y' := 95) rfl rfl rfl rfl (sp_within xs _ _ (nI w) 1 2) ?_
  rw [c1]
  refine ev_go 4 (fun _ => rfl) ?_
  refine ev_call (y' := 95) rfl rfl rfl rfl (sp_within xs _ _ (nI n) 0 100) ?_
  rw [show wiI (nI n) 0 100 = true from wi_nI (M := 100) hN (by decide)]
  refine ev_go 4 (fun _ => rfl) ?_
  refine ev_call (y' := 95) rfl rfl rfl rfl (sp_within xs _ _ k 0 1) ?_
  rw [c3]
  refine ev_go 6 (fun _ => rfl) ?_
  refine ev_call (y' := 98) rfl rfl rfl rfl (hv) ?_
  exact ev_end 1 rfl
theorem sp_kind_bad (b n k : Int32) (hK : now.2.2.length = 6) (c : (hasI b now.1.2.2.2.1 && (wiI n 0 100 && wiI k 0 1)) = false) : Ev xs (d + 1) 77 0 [some (.ref 0), some (.int b), some (.int n), some (.int k)] [] (hCl now trial told im0 im1 p f r tr) (some (.int (-1))) (hCl now trial told im0 im1 p f r tr) := by
  refine ev_go 3 (fun _ => rfl) ?_
  refine ev_cNow (y' := 3) (As := [.int b]) (K' := now) rfl rfl rfl rfl rfl one_i (hK) (hK) (sp_hasBC xs _ now b) (Or.inr ⟨_, rfl⟩) ?_
  cases c0 : hasI b now.1.2.2.2.1 with
  | false => exact ev_end 3 rfl
  | true =>
    rw [c0] at c
    refine ev_go 4 (fun _ => rfl) ?_
    refine ev_call (y' := 95) rfl rfl rfl rfl (sp_within xs d _ n 0 100) ?_
    cases c2 : wiI n 0 100 with
    | false => exact ev_end 3 rfl
    | true =>
      rw [c2] at c
      refine ev_go 4 (fun _ => rfl) ?_
      refine ev_call (y' := 95) rfl rfl rfl rfl (sp_within xs d _ k 0 1) ?_
      rw [show wiI k 0 1 = false from c]
      exact ev_end 3 rfl
theorem sp_kind (B TN S b n : Nat) (k : Int32) (hn : CG now B TN S) (ht : GS trial) (hb : b < B) (hN : n ≤ 100) (c3 : wiI k 0 1 = true) : ∃ K', GS K' ∧ Ev xs (d + 6) 77 0 [some (.ref 0), some (.int (nI b)), some (.int (nI n)), some (.int k)] [] (hCl now trial told im0 im1 p f r tr) (some (.int (if k = 0 then (meS now B TN S b 0 n 4 0 (-1, 0) trial).2 else (meS now B TN S b 0 n 4 0 (-1, 0) trial).1))) (hCl now K' told im0 im1 p f r tr) := by
  obtain ⟨K', hK', hv⟩ := sp_most2 xs d now trial told im0 im1 p f r tr B TN S b 0 n 3 0 hn ht hb (by decide) hN (by decide) (by decide) rfl rfl k
  have hB := hn.1.2.2.2.2.1
  refine ⟨K', hK', ?_⟩
  refine ev_go 3 (fun _ => rfl) ?_
  refine ev_cNow (y' := 3) (As := [.int (nI b)]) (K' := now) rfl rfl rfl rfl rfl one_i (CG6 hn) (CG6 hn) (sp_hasBC xs _ now (nI b)) (Or.inr ⟨_, rfl⟩) ?_
  rw [show hasI (nI b) now.1.2.2.2.1 = true by rw [hn.1.2.1]; exact has_nI (by omega) hb]
  refine ev_go 4 (fun _ => rfl) ?_
  refine ev_call (y' := 95) rfl rfl rfl rfl (sp_within xs _ _ (nI n) 0 100) ?_
  rw [show wiI (nI n) 0 100 = true from wi_nI (M := 100) hN (by decide)]
  refine ev_go 4 (fun _ => rfl) ?_
  refine ev_call (y' := 95) rfl rfl rfl rfl (sp_within xs _ _ k 0 1) ?_
  rw [c3]
  refine ev_go 6 (fun _ => rfl) ?_
  refine ev_call (y' := 98) rfl rfl rfl rfl (hv) ?_
  exact ev_end 1 rfl
end CLS9

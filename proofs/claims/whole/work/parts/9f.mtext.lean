/-! The reference reads its text: tokens -/
def zR (z : ZT) (q : PZ) (dr : List Int32) : ZT := (q, z.2.1, z.2.2.1, z.2.2.2.1, z.2.2.2.2.1, z.2.2.2.2.2.1, dr, z.2.2.2.2.2.2.2)
def bA (D : Nat → Nat) (L p : Nat) : Int32 := if p < L then nI (D p) else -1
theorem vlF_s (D : Nat → Nat) : ∀ n q v, vlF D (n + 1) q v = 10 * vlF D n q v + (D (q + n) - 48)
  | 0, q, v => rfl
  | n + 1, q, v => by
    show vlF D (n + 1) (q + 1) (10 * v + (D q - 48)) = _
    rw [vlF_s D n (q + 1) (10 * v + (D q - 48))]
    show 10 * vlF D (n + 1) q v + _ = _
    rw [show q + 1 + n = q + (n + 1) by omega]
section MR
variable (xs : List Int32) (d : Nat) (z : ZT) (dr nw eb wa ms mt : List Int32) (cc : C4) (D : Nat → Nat) (L : Nat) (hc hm : Bool) (hi : Int32)
theorem sp_rq_t (q : PZ) (c : Int32) : Ev xs d 117 0 [some (.ref 0), some (.int (bI true)), some (.int c)] [] (mH (zR z q dr) nw eb wa ms mt cc) none (mH (zR z q dr) nw eb wa ms mt cc) := ev_end 3 rfl
theorem sp_rq_f (t po be so va wr c : Int32) : Ev xs d 117 0 [some (.ref 0), some (.int (bI false)), some (.int c)] [] (mH (zR z (hc, hm, hi, t, po, be, so, va, 0, wr) dr) nw eb wa ms mt cc) none (mH (zR z (hc, hm, hi, t, po, be, so, va, c, be) dr) nw eb wa ms mt cc) := ev_end 13 rfl
theorem sp_rq_k (b : Bool) (t po be so va f wr c : Int32) (hf : ¬ f = 0) : Ev xs d 117 0 [some (.ref 0), some (.int (bI b)), some (.int c)] [] (mH (zR z (hc, hm, hi, t, po, be, so, va, f, wr) dr) nw eb wa ms mt cc) none (mH (zR z (hc, hm, hi, t, po, be, so, va, f, wr) dr) nw eb wa ms mt cc) := by
  cases b with
  | true => exact ev_end 3 rfl
  | false =>
    refine ev_go 4 (fun _ => rfl) ?_
    refine ev_if_ne rfl rfl (fun _ => ?_) (fun n => absurd (hf) n)
    exact ev_end 1 rfl
theorem sp_byt (hD : byD D L z.2.2.2.2.2.2.2.1) (po be so va f wr : Int32) (p : Nat) (hp : p ≤ 200) : Ev xs d 118 0 [some (.ref 0), some (.int (nI p))] [] (mH (zR z (hc, hm, hi, nI L, po, be, so, va, f, wr) dr) nw eb wa ms mt cc) (some (.int (bA D L p))) (mH (zR z (hc, hm, hi, nI L, po, be, so, va, f, wr) dr) nw eb wa ms mt cc) := by
  have hL := hD.1
  unfold bA
  refine ev_go 3 (fun _ => rfl) ?_
  by_cases c : p < L
  · rw [if_pos c]
    refine ev_ic_ge rfl rfl (fun n => absurd n (nI_ge c (by omega))) (fun _ => ?_)
    refine ev_go 3 (fun _ => rfl) ?_
    refine ev_iald rfl rfl (mm_ix_nI (n := p) (by omega)) (hD.2 p c).1 ?_
    exact ev_end 2 rfl
  · rw [if_neg c]
    refine ev_ic_ge rfl rfl (fun _ => ?_) (fun n => absurd (nI_le (by omega) (by omega)) n)
    exact ev_end 2 rfl
theorem wi_cls {x a b k : Nat} (h : cls x = k) (ha : a < 200) (hb : b < 200) (hx : x < 128) (hk : cls x = k ↔ (a ≤ x ∧ x ≤ b)) : wiI (nI x) (nI a) (nI b) = true := by
  have h2 := hk.mp h
  unfold wiI
  rw [decide_eq_true (nI_nlt h2.1 (by omega)), decide_eq_true (nI_nlt h2.2 (by omega))]
  rfl
theorem cls1 (x : Nat) : cls x = 1 ↔ (97 ≤ x ∧ x ≤ 122) := by
  unfold cls
  constructor
  · intro h
    split at h
    · assumption
    · split at h
      · cases h
      · split at h <;> cases h
  · intro h
    rw [if_pos h]
theorem cls2 (x : Nat) : cls x = 2 ↔ (48 ≤ x ∧ x ≤ 57) := by
  constructor
  · exact cls_2
  · intro h
    unfold cls
    rw [if_neg (by omega), if_pos h]
theorem cls3 (x : Nat) : cls x = 3 ↔ x = 59 := by
  unfold cls
  constructor
  · intro h
    split at h
    · cases h
    · split at h
      · cases h
      · split at h
        · assumption
        · cases h
  · intro h
    subst h
    rfl
/-- is the byte at p one of a sort -/
theorem wi_bA {a b k p : Nat} (ha : a < 200) (hb : b < 200) (hp : p < L → D p < 128) (hk : ∀ x, cls x = k ↔ (a ≤ x ∧ x ≤ b)) : wiI (bA D L p) (nI a) (nI b) = (decide (p < L) && decide (cls (D p) = k)) := by
  unfold bA wiI
  by_cases c : p < L
  · have h128 := hp c
    rw [if_pos c, decide_eq_true c, Bool.true_and]
    by_cases q : cls (D p) = k
    · have h2 := (hk _).mp q
      rw [decide_eq_true q, decide_eq_true (nI_nlt h2.1 (by omega)), decide_eq_true (nI_nlt h2.2 (by omega))]
      rfl
    · rw [decide_eq_false q]
      have h2 : ¬ (a ≤ D p ∧ D p ≤ b) := fun w => q ((hk _).mpr w)
      by_cases a1 : a ≤ D p
      · rw [decide_eq_false (p := ¬ nI b < nI (D p)) (fun w => w (nI_lt (by omega) (by omega))), Bool.and_false]
      · rw [decide_eq_false (p := ¬ nI (D p) < nI a) (fun w => w (nI_lt (by omega) (by omega))), Bool.false_and]
  · rw [if_neg c, decide_eq_false c, Bool.false_and]
    have : (-1 : Int32) < nI a := by
      rw [Int32.lt_iff_toInt_lt, nI_toInt (by omega), show (-1 : Int32).toInt = -1 by decide]
      omega
    rw [decide_eq_false (p := ¬ (-1 : Int32) < nI a) (fun w => w this), Bool.false_and]
theorem lp_rd1 (hD : byD D L z.2.2.2.2.2.2.2.1) (be so va wr : Int32) (rs : Option Value) (R : MH) : ∀ n q, q + n = L → Ev xs (d + 1) 122 34 [some (.ref 0), none] [] (mH (zR z (hc, hm, hi, nI L, nI (spn (fun q => decide (D q = 32)) n q), be, so, va, 0, wr) dr) nw eb wa ms mt cc) rs R → Ev xs (d + 1) 122 8 [some (.ref 0), none] [] (mH (zR z (hc, hm, hi, nI L, nI q, be, so, va, 0, wr) dr) nw eb wa ms mt cc) rs R := by
  have hL := hD.1
  intro n
  induction n with
  | zero =>
    intro q hq kk
    have e : q = L := by omega
    subst e
    have hb := sp_byt xs d z dr nw eb wa ms mt cc D q hc hm hi hD (nI q) be so va 0 wr q (by omega)
    rw [show bA D q q = -1 from if_neg (by omega)] at hb
    refine ev_go 3 (fun _ => rfl) ?_
    refine ev_call (y' := 118) rfl rfl rfl rfl (hb) ?_
    refine ev_go 2 (fun _ => rfl) ?_
    exact kk
  | succ n ih =>
    intro q hq kk
    have hb := sp_byt xs d z dr nw eb wa ms mt cc D L hc hm hi hD (nI q) be so va 0 wr q (by omega)
    rw [show bA D L q = nI (D q) from if_pos (by omega)] at hb
    have h128 := (hD.2 q (by omega)).2
    unfold spn at kk
    refine ev_go 3 (fun _ => rfl) ?_
    refine ev_call (y' := 118) rfl rfl rfl rfl (hb) ?_
    refine ev_go 1 (fun _ => rfl) ?_
    by_cases c0 : D q = 32
    · rw [decide_eq_true c0] at kk
      refine ev_ic_ne rfl rfl (fun n => absurd n (fun n => n (by rw [c0]; rfl))) (fun _ => ?_)
      refine ev_go 7 (h1 := mH (zR z (hc, hm, hi, nI L, nI q + Int32.ofInt 1, be, so, va, 0, wr) dr) nw eb wa ms mt cc) (fun _ => rfl) ?_
      rw [nI_inc]
      exact ih (q + 1) (by omega) kk
    · rw [decide_eq_false c0] at kk
      refine ev_ic_ne rfl rfl (fun _ => ?_) (fun n => absurd (nI_neq (a := D q) (b := 32) c0 (by omega) (by omega)) n)
      exact kk
theorem lp_rd2 (hD : byD D L z.2.2.2.2.2.2.2.1) (be so va wr c1 : Int32) (rs : Option Value) (R : MH) : ∀ n q, q + n = L → Ev xs (d + 1) 122 274 [some (.ref 0), some (.int c1)] [] (mH (zR z (hc, hm, hi, nI L, nI (spn (fun q => decide (cls (D q) = 1)) n q), be, so, va, 0, wr) dr) nw eb wa ms mt cc) rs R → Ev xs (d + 1) 122 82 [some (.ref 0), some (.int c1)] [] (mH (zR z (hc, hm, hi, nI L, nI q, be, so, va, 0, wr) dr) nw eb wa ms mt cc) rs R := by
  have hL := hD.1
  intro n
  induction n with
  | zero =>
    intro q hq kk
    have e : q = L := by omega
    subst e
    have hb := sp_byt xs d z dr nw eb wa ms mt cc D q hc hm hi hD (nI q) be so va 0 wr q (by omega)
    have hw := wi_bA D q (a := 97) (b := 122) (k := 1) (p := q) (by omega) (by omega) (fun w => (hD.2 q w).2) cls1
    rw [decide_eq_false (Nat.lt_irrefl q), Bool.false_and] at hw
    refine ev_go 3 (fun _ => rfl) ?_
    refine ev_call (y' := 118) rfl rfl rfl rfl (hb) ?_
    refine ev_go 3 (fun _ => rfl) ?_
    refine ev_call (y' := 110) rfl rfl rfl rfl (sp_in xs _ _ (bA D q q) (nI 97) (nI 122)) ?_
    rw [hw]
    refine ev_go 1 (fun _ => rfl) ?_
    exact kk
  | succ n ih =>
    intro q hq kk
    have hb := sp_byt xs d z dr nw eb wa ms mt cc D L hc hm hi hD (nI q) be so va 0 wr q (by omega)
    have hw := wi_bA D L (a := 97) (b := 122) (k := 1) (p := q) (by omega) (by omega) (fun w => (hD.2 q w).2) cls1
    rw [decide_eq_true (show q < L by omega), Bool.true_and] at hw
    unfold spn at kk
    refine ev_go 3 (fun _ => rfl) ?_
    refine ev_call (y' := 118) rfl rfl rfl rfl (hb) ?_
    refine ev_go 3 (fun _ => rfl) ?_
    refine ev_call (y' := 110) rfl rfl rfl rfl (sp_in xs _ _ (bA D L q) (nI 97) (nI 122)) ?_
    rw [hw]
    by_cases c0 : cls (D q) = 1
    · rw [decide_eq_true c0] at kk ⊢
      refine ev_go 8 (h1 := mH (zR z (hc, hm, hi, nI L, nI q + Int32.ofInt 1, be, so, va, 0, wr) dr) nw eb wa ms mt cc) (fun _ => rfl) ?_
      rw [nI_inc]
      exact ih (q + 1) (by omega) kk
    · rw [decide_eq_false c0] at kk ⊢
      refine ev_go 1 (fun _ => rfl) ?_
      exact kk
theorem lp_rd3 (hD : byD D L z.2.2.2.2.2.2.2.1) (P : Nat) (so wr c1 : Int32) (rs : Option Value) (R : MH) : ∀ n q, q + n = L → P ≤ q → ∀ v : Nat, (q - P ≤ 2 → v = vlF D (q - P) P 0) → (∀ v : Nat, (spn (fun q => decide (cls (D q) = 2)) n q - P ≤ 2 → v = vlF D (spn (fun q => decide (cls (D q) = 2)) n q - P) P 0) → Ev xs (d + 1) 122 217 [some (.ref 0), some (.int c1)] [] (mH (zR z (hc, hm, hi, nI L, nI (spn (fun q => decide (cls (D q) = 2)) n q), nI P, so, nI v, 0, wr) dr) nw eb wa ms mt cc) rs R) → Ev xs (d + 1) 122 140 [some (.ref 0), some (.int c1)] [] (mH (zR z (hc, hm, hi, nI L, nI q, nI P, so, nI v, 0, wr) dr) nw eb wa ms mt cc) rs R := by
  have hL := hD.1
  intro n
  induction n with
  | zero =>
    intro q hq hPq v hv kk
    have e : q = L := by omega
    subst e
    have hb := sp_byt xs d z dr nw eb wa ms mt cc D q hc hm hi hD (nI q) (nI P) so (nI v) 0 wr q (by omega)
    have hw := wi_bA D q (a := 48) (b := 57) (k := 2) (p := q) (by omega) (by omega) (fun w => (hD.2 q w).2) cls2
    rw [decide_eq_false (Nat.lt_irrefl q), Bool.false_and] at hw
    refine ev_go 3 (fun _ => rfl) ?_
    refine ev_call (y' := 118) rfl rfl rfl rfl (hb) ?_
    refine ev_go 3 (fun _ => rfl) ?_
    refine ev_call (y' := 110) rfl rfl rfl rfl (sp_in xs _ _ (bA D q q) (nI 48) (nI 57)) ?_
    rw [hw]
    refine ev_go 1 (fun _ => rfl) ?_
    exact kk v hv
  | succ n ih =>
    intro q hq hPq v hv kk
    have hb := sp_byt xs d z dr nw eb wa ms mt cc D L hc hm hi hD (nI q) (nI P) so (nI v) 0 wr q (by omega)
    have hw := wi_bA D L (a := 48) (b := 57) (k := 2) (p := q) (by omega) (by omega) (fun w => (hD.2 q w).2) cls2
    rw [decide_eq_true (show q < L by omega), Bool.true_and] at hw
    unfold spn at kk
    refine ev_go 3 (fun _ => rfl) ?_
    refine ev_call (y' := 118) rfl rfl rfl rfl (hb) ?_
    refine ev_go 3 (fun _ => rfl) ?_
    refine ev_call (y' := 110) rfl rfl rfl rfl (sp_in xs _ _ (bA D L q) (nI 48) (nI 57)) ?_
    rw [hw]
    by_cases c0 : cls (D q) = 2
    · rw [decide_eq_true c0] at kk ⊢
      have h2 := cls_2 c0
      have tl : ∀ w : Nat, (q + 1 - P ≤ 2 → w = vlF D (q + 1 - P) P 0) → Ev xs (d + 1) 122 201 [some (.ref 0), some (.int c1)] [.int (nI w), .ref 0] (mH (zR z (hc, hm, hi, nI L, nI q, nI P, so, nI v, 0, wr) dr) nw eb wa ms mt cc) rs R := by
        intro w hw2
        refine ev_go 8 (h1 := mH (zR z (hc, hm, hi, nI L, nI q + Int32.ofInt 1, nI P, so, nI w, 0, wr) dr) nw eb wa ms mt cc) (fun _ => rfl) ?_
        rw [nI_inc]
        exact ih (q + 1) (by omega) (by omega) w hw2 kk
      refine ev_go 8 (st' := [.int (Int32.ofInt 2), .int (nI q - nI P), .ref 0]) (fun _ => rfl) ?_
      rw [nI_subN hPq]
      by_cases c2 : q - P < 2
      · refine ev_ic_ge rfl rfl (fun n => absurd n (nI_ge (a := q - P) (b := 2) c2 (by omega))) (fun _ => ?_)
        refine ev_go 7 (fun _ => rfl) ?_
        refine ev_call (y' := 118) rfl rfl rfl rfl (hb) ?_
        have ev : (Int8.ofInt 10).toInt32 * nI v + bA D L q - (Int8.ofInt 48).toInt32 = nI (10 * v + (D q - 48)) := by
          rw [show bA D L q = nI (D q) from if_pos (by omega), show (Int8.ofInt 10).toInt32 = nI 10 from rfl, show (Int8.ofInt 48).toInt32 = nI 48 from rfl, nI_mulA, nI_add, nI_subN (by omega)]
          congr 1
          omega
        refine ev_go 4 (st' := [.int ((Int8.ofInt 10).toInt32 * nI v + bA D L q - (Int8.ofInt 48).toInt32), .ref 0]) (fun _ => rfl) ?_
        rw [ev]
        refine tl _ (fun w => ?_)
        rw [show q + 1 - P = (q - P) + 1 by omega, vlF_s, ← hv (by omega), show P + (q - P) = q by omega]
      · refine ev_ic_ge rfl rfl (fun _ => ?_) (fun n => absurd (nI_le (a := 2) (b := q - P) (by omega) (by omega)) n)
        refine ev_go 2 (fun _ => rfl) ?_
        exact tl v (fun w => by omega)
    · rw [decide_eq_false c0] at kk ⊢
      refine ev_go 1 (fun _ => rfl) ?_
      exact kk v hv
theorem lp_rd3e (hD : byD D L z.2.2.2.2.2.2.2.1) (P : Nat) (so wr c1 : Int32) : ∀ n q, q + n = L → P ≤ q → ∀ v : Nat, ∃ v' : Nat, ∀ (R : MH), Ev xs (d + 1) 122 217 [some (.ref 0), some (.int c1)] [] (mH (zR z (hc, hm, hi, nI L, nI (spn (fun q => decide (cls (D q) = 2)) n q), nI P, so, nI v', 0, wr) dr) nw eb wa ms mt cc) none R → Ev xs (d + 1) 122 140 [some (.ref 0), some (.int c1)] [] (mH (zR z (hc, hm, hi, nI L, nI q, nI P, so, nI v, 0, wr) dr) nw eb wa ms mt cc) none R := by
  have hL := hD.1
  intro n
  induction n with
  | zero =>
    intro q hq hPq v
    have e : q = L := by omega
    subst e
    have hb := sp_byt xs d z dr nw eb wa ms mt cc D q hc hm hi hD (nI q) (nI P) so (nI v) 0 wr q (by omega)
    have hw := wi_bA D q (a := 48) (b := 57) (k := 2) (p := q) (by omega) (by omega) (fun w => (hD.2 q w).2) cls2
    rw [decide_eq_false (Nat.lt_irrefl q), Bool.false_and] at hw
    refine ⟨v, fun R kk => ?_⟩
    refine ev_go 3 (fun _ => rfl) ?_
    refine ev_call (y' := 118) rfl rfl rfl rfl (hb) ?_
    refine ev_go 3 (fun _ => rfl) ?_
    refine ev_call (y' := 110) rfl rfl rfl rfl (sp_in xs _ _ (bA D q q) (nI 48) (nI 57)) ?_
    rw [hw]
    refine ev_go 1 (fun _ => rfl) ?_
    exact kk
  | succ n ih =>
    intro q hq hPq v
    have hb := sp_byt xs d z dr nw eb wa ms mt cc D L hc hm hi hD (nI q) (nI P) so (nI v) 0 wr q (by omega)
    have hw := wi_bA D L (a := 48) (b := 57) (k := 2) (p := q) (by omega) (by omega) (fun w => (hD.2 q w).2) cls2
    rw [decide_eq_true (show q < L by omega), Bool.true_and] at hw
    have pre : ∀ (R : MH), Ev xs (d + 1) 122 158 [some (.ref 0), some (.int c1)] [.int (bI (decide (cls (D q) = 2)))] (mH (zR z (hc, hm, hi, nI L, nI q, nI P, so, nI v, 0, wr) dr) nw eb wa ms mt cc) none R → Ev xs (d + 1) 122 140 [some (.ref 0), some (.int c1)] [] (mH (zR z (hc, hm, hi, nI L, nI q, nI P, so, nI v, 0, wr) dr) nw eb wa ms mt cc) none R := by
      intro R hr
      refine ev_go 3 (fun _ => rfl) ?_
      refine ev_call (y' := 118) rfl rfl rfl rfl (hb) ?_
      refine ev_go 3 (fun _ => rfl) ?_
      refine ev_call (y' := 110) rfl rfl rfl rfl (sp_in xs _ _ (bA D L q) (nI 48) (nI 57)) ?_
      rw [hw]
      exact hr
    unfold spn
    by_cases c0 : cls (D q) = 2
    · rw [decide_eq_true c0] at pre ⊢
      have h2 := cls_2 c0
      by_cases c2 : q - P < 2
      · have ev : (Int8.ofInt 10).toInt32 * nI v + bA D L q - (Int8.ofInt 48).toInt32 = nI (10 * v + (D q - 48)) := by
          rw [show bA D L q = nI (D q) from if_pos (by omega), show (Int8.ofInt 10).toInt32 = nI 10 from rfl, show (Int8.ofInt 48).toInt32 = nI 48 from rfl, nI_mulA, nI_add, nI_subN (by omega)]
          congr 1
          omega
        obtain ⟨v', h1⟩ := ih (q + 1) (by omega) (by omega) (10 * v + (D q - 48))
        refine ⟨v', fun R kk => pre R ?_⟩
        refine ev_go 8 (st' := [.int (Int32.ofInt 2), .int (nI q - nI P), .ref 0]) (fun _ => rfl) ?_
        rw [nI_subN hPq]
        refine ev_ic_ge rfl rfl (fun n => absurd n (nI_ge (a := q - P) (b := 2) c2 (by omega))) (fun _ => ?_)
        refine ev_go 7 (fun _ => rfl) ?_
        refine ev_call (y' := 118) rfl rfl rfl rfl (hb) ?_
        refine ev_go 4 (st' := [.int ((Int8.ofInt 10).toInt32 * nI v + bA D L q - (Int8.ofInt 48).toInt32), .ref 0]) (fun _ => rfl) ?_
        rw [ev]
        refine ev_go 8 (h1 := mH (zR z (hc, hm, hi, nI L, nI q + Int32.ofInt 1, nI P, so, nI (10 * v + (D q - 48)), 0, wr) dr) nw eb wa ms mt cc) (fun _ => rfl) ?_
        rw [nI_inc]
        exact h1 R kk
      · obtain ⟨v', h1⟩ := ih (q + 1) (by omega) (by omega) v
        refine ⟨v', fun R kk => pre R ?_⟩
        refine ev_go 8 (st' := [.int (Int32.ofInt 2), .int (nI q - nI P), .ref 0]) (fun _ => rfl) ?_
        rw [nI_subN hPq]
        refine ev_ic_ge rfl rfl (fun _ => ?_) (fun n => absurd (nI_le (a := 2) (b := q - P) (by omega) (by omega)) n)
        refine ev_go 10 (h1 := mH (zR z (hc, hm, hi, nI L, nI q + Int32.ofInt 1, nI P, so, nI v, 0, wr) dr) nw eb wa ms mt cc) (fun _ => rfl) ?_
        rw [nI_inc]
        exact h1 R kk
    · rw [decide_eq_false c0] at pre ⊢
      refine ⟨v, fun R kk => pre R ?_⟩
      refine ev_go 1 (fun _ => rfl) ?_
      exact kk
/-- what reads leaves -/
def tokS (D : Nat → Nat) (L e : Nat) (hc hm : Bool) (hi : Int32) (q : PZ) : Prop := match pTok D L e with
  | .inl f => ∃ (po be so va : Int32), q = (hc, hm, hi, nI L, po, be, so, va, nI f.1, nI f.2)
  | .inr (k, p, e2) => ∃ (va wr : Int32), q = (hc, hm, hi, nI L, nI e2, nI p, nI k, va, 0, wr) ∧ (k = 2 → va = nI (vl D p e2))
theorem sp_rds_f (t po be so va f wr : Int32) (hf : 0 < f) : Ev xs d 122 0 [some (.ref 0), none] [] (mH (zR z (hc, hm, hi, t, po, be, so, va, f, wr) dr) nw eb wa ms mt cc) none (mH (zR z (hc, hm, hi, t, po, be, so, va, f, wr) dr) nw eb wa ms mt cc) := by
  refine ev_go 2 (fun _ => rfl) ?_
  refine ev_if_le rfl rfl (fun n => absurd n (i32_lt_nle hf)) (fun _ => ?_)
  exact ev_end 1 rfl
theorem sp_rds (hD : byD D L z.2.2.2.2.2.2.2.1) (e : Nat) (he : e ≤ L) (be so va wr : Int32) : ∃ q : PZ, tokS D L e hc hm hi q ∧ Ev xs (d + 2) 122 0 [some (.ref 0), none] [] (mH (zR z (hc, hm, hi, nI L, nI e, be, so, va, 0, wr) dr) nw eb wa ms mt cc) none (mH (zR z q dr) nw eb wa ms mt cc) := by
  have hL := hD.1
  have hP := tkP_b (D := D) he
  have hE := tkE_b (D := D) hP.2
  have pre : ∀ (R : MH), Ev xs (d + 2) 122 51 [some (.ref 0), some (.int (bA D L (tkP D L e)))] [] (mH (zR z (hc, hm, hi, nI L, nI (tkP D L e), nI (tkP D L e), so, va, 0, wr) dr) nw eb wa ms mt cc) none R → Ev xs (d + 2) 122 0 [some (.ref 0), none] [] (mH (zR z (hc, hm, hi, nI L, nI e, be, so, va, 0, wr) dr) nw eb wa ms mt cc) none R := by
    intro R hr
    refine ev_go 3 (fun _ => rfl) ?_
    refine lp_rd1 xs _ z dr nw eb wa ms mt cc D L hc hm hi hD be so va wr _ _ (L - e) e (by omega) ?_
    show Ev _ _ _ _ _ _ (mH (zR z (hc, hm, hi, nI L, nI (tkP D L e), be, so, va, 0, wr) dr) nw eb wa ms mt cc) _ _
    have hb := sp_byt xs (d + 1) z dr nw eb wa ms mt cc D L hc hm hi hD (nI (tkP D L e)) (nI (tkP D L e)) so va 0 wr (tkP D L e) (by omega)
    refine ev_go 7 (h1 := mH (zR z (hc, hm, hi, nI L, nI (tkP D L e), nI (tkP D L e), so, va, 0, wr) dr) nw eb wa ms mt cc) (fun _ => rfl) ?_
    refine ev_call (y' := 118) rfl rfl rfl rfl (hb) ?_
    refine ev_go 1 (fun _ => rfl) ?_
    exact hr
  unfold tokS pTok
  generalize tkP D L e = P at hP hE pre
  by_cases cL : P < L
  · have h128 := (hD.2 P cL).2
    have ek : tsK D L P = cls (D P) := if_pos cL
    have eb2 : bA D L P = nI (D P) := if_pos cL
    have w1 := wi_bA D L (a := 97) (b := 122) (k := 1) (p := P) (by omega) (by omega) (fun w => (hD.2 P w).2) cls1
    have w2 := wi_bA D L (a := 48) (b := 57) (k := 2) (p := P) (by omega) (by omega) (fun w => (hD.2 P w).2) cls2
    rw [decide_eq_true cL, Bool.true_and] at w1 w2
    by_cases c1 : cls (D P) = 1
    · rw [decide_eq_true c1] at w1
      have ee : tkE D L P = spn (fun q => decide (cls (D q) = 1)) (L - P) P := by
        unfold tkE
        rw [if_pos cL, c1, if_neg (by decide)]
      have hb : tkB D L P = false := by
        unfold tkB
        rw [ek, c1]
        rfl
      rw [hb]
      refine ⟨_, ⟨va, wr, rfl, fun w => by rw [ek, c1] at w; cases w⟩, pre _ ?_⟩
      rw [ek, c1, ee]
      rw [eb2] at w1 ⊢
      refine ev_go 1 (fun _ => rfl) ?_
      refine ev_if_ge rfl rfl (fun _ => ?_) (fun n => absurd (nI_pos' (by omega)) n)
      refine ev_go 4 (fun _ => rfl) ?_
      refine ev_call (y' := 110) rfl rfl rfl rfl (sp_in xs _ _ (nI (D P)) (nI 97) (nI 122)) ?_
      rw [w1]
      refine ev_go 4 (h1 := mH (zR z (hc, hm, hi, nI L, nI P, nI P, nI 1, va, 0, wr) dr) nw eb wa ms mt cc) (fun _ => rfl) ?_
      exact lp_rd2 xs (d + 1) z dr nw eb wa ms mt cc D L hc hm hi hD (nI P) (nI 1) va wr (nI (D P)) _ _ (L - P) P (by omega) (ev_end 1 rfl)
    · rw [decide_eq_false c1] at w1
      by_cases c2 : cls (D P) = 2
      · rw [decide_eq_true c2] at w2
        have ee : tkE D L P = spn (fun q => decide (cls (D q) = 2)) (L - P) P := by
          unfold tkE
          rw [if_pos cL, c2, if_neg (by decide)]
        have eP : P < tkE D L P := hE.2.2 cL
        have pre2 : ∀ (R : MH), (∀ v : Nat, (tkE D L P - P ≤ 2 → v = vlF D (tkE D L P - P) P 0) → Ev xs (d + 2) 122 217 [some (.ref 0), some (.int (nI (D P)))] [] (mH (zR z (hc, hm, hi, nI L, nI (tkE D L P), nI P, nI 2, nI v, 0, wr) dr) nw eb wa ms mt cc) none R) → Ev xs (d + 2) 122 51 [some (.ref 0), some (.int (bA D L P))] [] (mH (zR z (hc, hm, hi, nI L, nI P, nI P, so, va, 0, wr) dr) nw eb wa ms mt cc) none R := by
          intro R kk
          rw [ee] at kk
          rw [eb2] at w1 w2 ⊢
          refine ev_go 1 (fun _ => rfl) ?_
          refine ev_if_ge rfl rfl (fun _ => ?_) (fun n => absurd (nI_pos' (by omega)) n)
          refine ev_go 4 (fun _ => rfl) ?_
          refine ev_call (y' := 110) rfl rfl rfl rfl (sp_in xs _ _ (nI (D P)) (nI 97) (nI 122)) ?_
          rw [w1]
          refine ev_go 5 (fun _ => rfl) ?_
          refine ev_call (y' := 110) rfl rfl rfl rfl (sp_in xs _ _ (nI (D P)) (nI 48) (nI 57)) ?_
          rw [w2]
          refine ev_go 7 (h1 := mH (zR z (hc, hm, hi, nI L, nI P, nI P, nI 2, nI 0, 0, wr) dr) nw eb wa ms mt cc) (fun _ => rfl) ?_
          exact lp_rd3 xs (d + 1) z dr nw eb wa ms mt cc D L hc hm hi hD P (nI 2) wr (nI (D P)) _ _ (L - P) P (by omega) (Nat.le_refl _) 0 (fun _ => by rw [Nat.sub_self]; rfl) kk
        by_cases c3 : tkE D L P - P ≤ 2
        · have hb : tkB D L P = false := by
            unfold tkB
            rw [ek, c2, decide_eq_false (p := 2 < tkE D L P - P) (by omega)]
            rfl
          rw [hb]
          refine ⟨(hc, hm, hi, nI L, nI (tkE D L P), nI P, nI (tsK D L P), nI (vl D P (tkE D L P)), 0, wr), ⟨_, wr, rfl, fun _ => rfl⟩, pre _ (pre2 _ (fun v hv => ?_))⟩
          rw [hv c3, vl_F D eP c3, ek, c2]
          refine ev_go 7 (st' := [.int (Int32.ofInt 2), .int (nI (tkE D L P) - nI P), .ref 0]) (fun _ => rfl) ?_
          rw [nI_subN hE.1]
          refine ev_ic_gt rfl rfl (fun n => absurd n (nI_nlt (a := 2) (b := tkE D L P - P) c3 (by omega))) (fun _ => ?_)
          refine ev_go 3 (fun _ => rfl) ?_
          refine ev_call (y' := 117) rfl rfl rfl rfl (sp_rq_t xs _ z dr nw eb wa ms mt cc _ 1) ?_
          exact ev_end 2 rfl
        · have hb : tkB D L P = true := by
            unfold tkB
            rw [ek, c2, decide_eq_true (show 2 < tkE D L P - P by omega)]
            rfl
          rw [hb]
          obtain ⟨v0, hv0⟩ : ∃ v0 : Nat, v0 = 0 := ⟨0, rfl⟩
          have fin : ∀ v : Nat, ∃ q : PZ, (∃ (po be so va : Int32), q = (hc, hm, hi, nI L, po, be, so, va, nI 1, nI P)) ∧ Ev xs (d + 2) 122 217 [some (.ref 0), some (.int (nI (D P)))] [] (mH (zR z (hc, hm, hi, nI L, nI (tkE D L P), nI P, nI 2, nI v, 0, wr) dr) nw eb wa ms mt cc) none (mH (zR z q dr) nw eb wa ms mt cc) := by
            intro v
            refine ⟨(hc, hm, hi, nI L, nI (tkE D L P), nI P, nI 2, nI v, nI 1, nI P), ⟨_, _, _, _, rfl⟩, ?_⟩
            refine ev_go 7 (st' := [.int (Int32.ofInt 2), .int (nI (tkE D L P) - nI P), .ref 0]) (fun _ => rfl) ?_
            rw [nI_subN hE.1]
            refine ev_ic_gt rfl rfl (fun _ => ?_) (fun n => absurd (nI_lt (a := 2) (b := tkE D L P - P) (by omega) (by omega)) n)
            refine ev_go 2 (fun _ => rfl) ?_
            refine ev_call (y' := 117) rfl rfl rfl rfl (sp_rq_f xs _ z dr nw eb wa ms mt cc hc hm hi (nI L) (nI (tkE D L P)) (nI P) (nI 2) (nI v) wr 1) ?_
            exact ev_end 2 rfl
          rw [ee] at c3 fin
          obtain ⟨v1, h1⟩ : ∃ v : Nat, ∀ (R : MH), Ev xs (d + 2) 122 217 [some (.ref 0), some (.int (nI (D P)))] [] (mH (zR z (hc, hm, hi, nI L, nI (spn (fun q => decide (cls (D q) = 2)) (L - P) P), nI P, nI 2, nI v, 0, wr) dr) nw eb wa ms mt cc) none R → Ev xs (d + 2) 122 140 [some (.ref 0), some (.int (nI (D P)))] [] (mH (zR z (hc, hm, hi, nI L, nI P, nI P, nI 2, nI 0, 0, wr) dr) nw eb wa ms mt cc) none R := lp_rd3e xs (d + 1) z dr nw eb wa ms mt cc D L hc hm hi hD P (nI 2) wr (nI (D P)) (L - P) P (by omega) (Nat.le_refl _) 0
          obtain ⟨q, g1, g2⟩ := fin v1
          refine ⟨q, g1, pre _ ?_⟩
          rw [eb2] at w1 w2 ⊢
          refine ev_go 1 (fun _ => rfl) ?_
          refine ev_if_ge rfl rfl (fun _ => ?_) (fun n => absurd (nI_pos' (by omega)) n)
          refine ev_go 4 (fun _ => rfl) ?_
          refine ev_call (y' := 110) rfl rfl rfl rfl (sp_in xs _ _ (nI (D P)) (nI 97) (nI 122)) ?_
          rw [w1]
          refine ev_go 5 (fun _ => rfl) ?_
          refine ev_call (y' := 110) rfl rfl rfl rfl (sp_in xs _ _ (nI (D P)) (nI 48) (nI 57)) ?_
          rw [w2]
          refine ev_go 7 (h1 := mH (zR z (hc, hm, hi, nI L, nI P, nI P, nI 2, nI 0, 0, wr) dr) nw eb wa ms mt cc) (fun _ => rfl) ?_
          exact h1 _ g2
      · rw [decide_eq_false c2] at w2
        have h4 := cls_le (D P)
        have pre3 : ∀ (R : MH), Ev xs (d + 2) 122 248 [some (.ref 0), some (.int (nI (D P)))] [] (mH (zR z (hc, hm, hi, nI L, nI P, nI P, nI 3, va, 0, wr) dr) nw eb wa ms mt cc) none R → Ev xs (d + 2) 122 51 [some (.ref 0), some (.int (bA D L P))] [] (mH (zR z (hc, hm, hi, nI L, nI P, nI P, so, va, 0, wr) dr) nw eb wa ms mt cc) none R := by
          intro R kk
          rw [eb2] at w1 w2 ⊢
          refine ev_go 1 (fun _ => rfl) ?_
          refine ev_if_ge rfl rfl (fun _ => ?_) (fun n => absurd (nI_pos' (by omega)) n)
          refine ev_go 4 (fun _ => rfl) ?_
          refine ev_call (y' := 110) rfl rfl rfl rfl (sp_in xs _ _ (nI (D P)) (nI 97) (nI 122)) ?_
          rw [w1]
          refine ev_go 5 (fun _ => rfl) ?_
          refine ev_call (y' := 110) rfl rfl rfl rfl (sp_in xs _ _ (nI (D P)) (nI 48) (nI 57)) ?_
          rw [w2]
          refine ev_go 4 (h1 := mH (zR z (hc, hm, hi, nI L, nI P, nI P, nI 3, va, 0, wr) dr) nw eb wa ms mt cc) (fun _ => rfl) ?_
          exact kk
        by_cases c3 : cls (D P) = 3
        · have ee : tkE D L P = P + 1 := by
            unfold tkE
            rw [if_pos cL, if_pos c3]
          have hb : tkB D L P = false := by
            unfold tkB
            rw [ek, c3]
            rfl
          rw [hb]
          refine ⟨(hc, hm, hi, nI L, nI (tkE D L P), nI P, nI (tsK D L P), va, 0, wr), ⟨va, wr, rfl, fun w => by rw [ek, c3] at w; cases w⟩, pre _ (pre3 _ ?_)⟩
          rw [ek, c3, ee, show nI (P + 1) = nI P + Int32.ofInt 1 from nI_inc.symm]
          have e59 := (cls3 (D P)).mp c3
          rw [e59]
          refine ev_go 7 (fun _ => rfl) ?_
          refine ev_call (y' := 117) rfl rfl rfl rfl (sp_rq_t xs _ z dr nw eb wa ms mt cc _ 1) ?_
          exact ev_end 7 rfl
        · have e4 : cls (D P) = 4 := by
            unfold cls at c1 c2 c3 h4 ⊢
            revert c1 c2 c3
            repeat' split
            all_goals simp
          have hb : tkB D L P = true := by
            unfold tkB
            rw [ek, e4]
            rfl
          rw [hb]
          refine ⟨(hc, hm, hi, nI L, nI P + Int32.ofInt 1, nI P, nI 3, va, nI 1, nI P), ⟨_, _, _, _, rfl⟩, pre _ (pre3 _ ?_)⟩
          refine ev_go 3 (fun _ => rfl) ?_
          refine ev_ic_ne rfl rfl (fun _ => ?_) (fun n => absurd (nI_neq (a := D P) (b := 59) (fun w => c3 ((cls3 _).mpr w)) (by omega) (by omega)) n)
          refine ev_go 2 (fun _ => rfl) ?_
          refine ev_call (y' := 117) rfl rfl rfl rfl (sp_rq_f xs _ z dr nw eb wa ms mt cc hc hm hi (nI L) (nI P) (nI P) (nI 3) va wr 1) ?_
          exact ev_end 7 rfl
  · have ek : tsK D L P = 0 := if_neg cL
    have ee : tkE D L P = P := if_neg cL
    have hb : tkB D L P = false := by
      unfold tkB
      rw [ek]
      rfl
    have eb2 : bA D L P = -1 := if_neg cL
    rw [hb]
    refine ⟨(hc, hm, hi, nI L, nI (tkE D L P), nI P, nI (tsK D L P), va, 0, wr), ⟨va, wr, rfl, fun w => by rw [ek] at w; cases w⟩, pre _ ?_⟩
    rw [ek, ee, eb2]
    exact ev_end 7 rfl
end MR

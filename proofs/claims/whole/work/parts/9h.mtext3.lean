/-! The reference reads its text: numbers, lines -/
/-- a reader at fault -/
def FQ (L : Nat) (f : PF) (q : PZ) : Prop := ∃ (hc hm : Bool) (hi po be so va : Int32), q = (hc, hm, hi, nI L, po, be, so, va, nI f.1, nI f.2)
def mNum (D : Nat → Nat) (L : Nat) (hc hm : Bool) (hi : Int32) (r : PF ⊕ (Nat × Nat)) (x : Int32) (q : PZ) : Prop := match r with
  | .inl f => x = 0 ∧ ∃ (po be so va : Int32), q = (hc, hm, hi, nI L, po, be, so, va, nI f.1, nI f.2)
  | .inr (v, e2) => x = nI v ∧ tokS D L e2 hc hm hi q
/-- what may not be: a number, or none (-4) -/
def ntI (nt : Option Nat) : Int32 := match nt with
  | some a => nI a
  | none => -4
theorem nI_nn4 {v : Nat} (h : v < 1000) : ¬ nI v = -4 := fun q => by
  have := congrArg Int32.toInt q
  rw [nI_toInt (by omega), show (-4 : Int32).toInt = -4 by decide] at this
  omega
section MN
variable (xs : List Int32) (d : Nat) (z : ZT) (nw eb wa ms mt : List Int32) (cc : C4) (D : Nat → Nat) (L : Nat) (hc hm : Bool) (hi : Int32)
/-- a reader at fault reads on and on, and stays as it is -/
theorem sp_mnf (dr : List Int32) (lo mo nt t po be so va f wr : Int32) (hf : 0 < f) (hf0 : ¬ f = 0) : Ev xs (d + 1) 123 0 [some (.ref 0), some (.int lo), some (.int mo), some (.int nt), none] [] (mH (zR z (hc, hm, hi, t, po, be, so, va, f, wr) dr) nw eb wa ms mt cc) (some (.int 0)) (mH (zR z (hc, hm, hi, t, po, be, so, va, f, wr) dr) nw eb wa ms mt cc) := by
  refine ev_go 2 (fun _ => rfl) ?_
  refine ev_if_ne rfl rfl (fun _ => ?_) (fun n => absurd (hf0) n)
  refine ev_go 2 (fun _ => rfl) ?_
  refine ev_if_ne rfl rfl (fun _ => ?_) (fun n => absurd (hf0) n)
  refine ev_go 2 (fun _ => rfl) ?_
  refine ev_if_ne rfl rfl (fun _ => ?_) (fun n => absurd (hf0) n)
  refine ev_go 2 (fun _ => rfl) ?_
  refine ev_if_ne rfl rfl (fun _ => ?_) (fun n => absurd (hf0) n)
  refine ev_go 3 (fun _ => rfl) ?_
  refine ev_call (y' := 122) rfl rfl rfl rfl (sp_rds_f xs _ z dr nw eb wa ms mt cc hc hm hi t po be so va f wr hf) ?_
  exact ev_end 2 rfl
/-- from the number's taking on -/
theorem sp_mnt (hD : byD D L z.2.2.2.2.2.2.2.1) (dr : List Int32) (e2 v : Nat) (lo mo nt : Int32) (he : e2 ≤ L) (be so wr : Int32) : ∃ q : PZ, tokS D L e2 hc hm hi q ∧ Ev xs (d + 3) 123 74 [some (.ref 0), some (.int lo), some (.int mo), some (.int nt), none] [] (mH (zR z (hc, hm, hi, nI L, nI e2, be, so, nI v, 0, wr) dr) nw eb wa ms mt cc) (some (.int (nI v))) (mH (zR z q dr) nw eb wa ms mt cc) := by
  obtain ⟨q, q1, q2⟩ := sp_rds xs d z dr nw eb wa ms mt cc D L hc hm hi hD e2 he be so (nI v) wr
  refine ⟨q, q1, ?_⟩
  refine ev_go 8 (fun _ => rfl) ?_
  refine ev_call (y' := 122) rfl rfl rfl rfl (q2) ?_
  exact ev_end 2 rfl
theorem sp_mnum (hD : byD D L z.2.2.2.2.2.2.2.1) (e lo mo : Nat) (nt : Option Nat) (hlo : lo ≤ 99) (hmo : mo ≤ 99) (hnt : ∀ a, nt = some a → a ≤ 99) (he : e ≤ L) (q : PZ) (hq : tokS D L e hc hm hi q) (dr : List Int32) : ∃ (x : Int32) (q' : PZ), mNum D L hc hm hi (pNum D L e lo mo nt) x q' ∧ Ev xs (d + 3) 123 0 [some (.ref 0), some (.int (nI lo)), some (.int (nI mo)), some (.int (ntI nt)), none] [] (mH (zR z q dr) nw eb wa ms mt cc) (some (.int x)) (mH (zR z q' dr) nw eb wa ms mt cc) := by
  have hL := hD.1
  unfold tokS at hq
  unfold pNum
  cases ht : pTok D L e with
  | inl f =>
    rw [ht] at hq
    obtain ⟨po, be, so, va, e1⟩ := hq
    subst e1
    have hfo := tok_ft D L hL he ht
    have h0 : ¬ nI f.1 = 0 := nI_ne0 (Nat.pos_of_ne_zero hfo.1) (by have := hfo.2.1; omega)
    have h1 : 0 < nI f.1 := nI_lt (a := 0) (Nat.pos_of_ne_zero hfo.1) (by have := hfo.2.1; omega)
    exact ⟨0, _, ⟨rfl, po, be, so, va, rfl⟩, sp_mnf xs _ z nw eb wa ms mt cc hc hm hi dr (nI lo) (nI mo) (ntI nt) (nI L) po be so va (nI f.1) (nI f.2) h1 h0⟩
  | inr w =>
    obtain ⟨k, p, e2⟩ := w
    have hpb := pTok_b he ht
    have hk4 : k ≤ 4 := by
      rw [hpb.2.2.2.2.1]
      exact tsK_4 D L p
    rw [ht] at hq
    obtain ⟨va, wr, e1, hv⟩ := hq
    subst e1
    dsimp only
    -- a fault that is found here
    have bad : ∀ (fc : Nat), 0 < fc → fc ≤ 6 → Ev xs (d + 3) 123 74 [some (.ref 0), some (.int (nI lo)), some (.int (nI mo)), some (.int (ntI nt)), none] [] (mH (zR z (hc, hm, hi, nI L, nI e2, nI p, nI k, va, nI fc, nI p) dr) nw eb wa ms mt cc) (some (.int 0)) (mH (zR z (hc, hm, hi, nI L, nI e2, nI p, nI k, va, nI fc, nI p) dr) nw eb wa ms mt cc) := by
      intro fc h0 h6
      refine ev_go 2 (fun _ => rfl) ?_
      refine ev_if_ne rfl rfl (fun _ => ?_) (fun n => absurd (nI_ne0 h0 (by omega)) n)
      refine ev_go 3 (fun _ => rfl) ?_
      refine ev_call (y' := 122) rfl rfl rfl rfl (sp_rds_f xs _ z dr nw eb wa ms mt cc hc hm hi (nI L) (nI e2) (nI p) (nI k) va (nI fc) (nI p) (nI_lt (a := 0) h0 (by omega))) ?_
      exact ev_end 2 rfl
    by_cases c2 : k = 2
    · rw [if_pos c2]
      subst c2
      have hv := hv rfl
      subst hv
      have hvb : vl D p e2 ≤ 99 := by
        have tn := tk_num D L (by omega) hpb.2.2.2.2.1.symm hpb.2.2.2.2.2.2.2
        rw [← hpb.2.2.2.2.2.2.1] at tn
        have a1 := cls_2 (tn.2.2 p (Nat.le_refl _) tn.1)
        unfold vl
        split
        · omega
        · have a2 := cls_2 (tn.2.2 (p + 1) (by omega) (by omega))
          omega
      generalize vl D p e2 = v at hvb bad
      have pre : ∀ (R : MH) (x : Int32), Ev xs (d + 3) 123 45 [some (.ref 0), some (.int (nI lo)), some (.int (nI mo)), some (.int (ntI nt)), none] [.int (bI (wiI (nI v) (nI lo) (nI mo))), .ref 0] (mH (zR z (hc, hm, hi, nI L, nI e2, nI p, nI 2, nI v, 0, wr) dr) nw eb wa ms mt cc) (some (.int x)) R → Ev xs (d + 3) 123 0 [some (.ref 0), some (.int (nI lo)), some (.int (nI mo)), some (.int (ntI nt)), none] [] (mH (zR z (hc, hm, hi, nI L, nI e2, nI p, nI 2, nI v, 0, wr) dr) nw eb wa ms mt cc) (some (.int x)) R := by
        intro R x hr
        refine ev_go 7 (fun _ => rfl) ?_
        refine ev_ic_ne rfl rfl (fun n => absurd n (fun w => w rfl)) (fun _ => ?_)
        refine ev_go 3 (fun _ => rfl) ?_
        refine ev_call (y' := 117) rfl rfl rfl rfl (sp_rq_t xs _ z dr nw eb wa ms mt cc _ 2) ?_
        refine ev_go 11 (fun _ => rfl) ?_
        refine ev_call (y' := 110) rfl rfl rfl rfl (sp_in xs _ _ (nI v) (nI lo) (nI mo)) ?_
        exact hr
      by_cases cr : lo ≤ v ∧ v ≤ mo
      · rw [if_pos cr]
        have hw : wiI (nI v) (nI lo) (nI mo) = true := by
          unfold wiI
          rw [decide_eq_true (nI_nlt cr.1 (by omega)), decide_eq_true (nI_nlt cr.2 (by omega))]
          rfl
        rw [hw] at pre
        by_cases cn : some v = nt
        · rw [if_pos cn]
          refine ⟨0, (hc, hm, hi, nI L, nI e2, nI p, nI 2, nI v, nI 4, nI p), ⟨rfl, _, _, _, _, rfl⟩, pre _ _ ?_⟩
          rw [← cn]
          refine ev_go 1 (fun _ => rfl) ?_
          refine ev_call (y' := 117) rfl rfl rfl rfl (sp_rq_t xs _ z dr nw eb wa ms mt cc _ 3) ?_
          refine ev_go 7 (fun _ => rfl) ?_
          refine ev_ic_eq rfl rfl (fun _ => ?_) (fun n => absurd (rfl) n)
          refine ev_go 2 (fun _ => rfl) ?_
          refine ev_call (y' := 117) rfl rfl rfl rfl (sp_rq_f xs _ z dr nw eb wa ms mt cc hc hm hi (nI L) (nI e2) (nI p) (nI 2) (nI v) wr 4) ?_
          have := bad 4 (by omega) (by omega)
          rw [← cn] at this
          exact this
        · rw [if_neg cn]
          obtain ⟨qq, r1, r2⟩ := sp_mnt xs d z nw eb wa ms mt cc D L hc hm hi hD dr e2 v (nI lo) (nI mo) (ntI nt) hpb.2.2.1 (nI p) (nI 2) wr
          refine ⟨nI v, qq, ⟨rfl, r1⟩, pre _ _ ?_⟩
          have hnn : ¬ nI v = ntI nt := by
            cases nt with
            | none => exact nI_nn4 (by omega)
            | some a =>
              have := hnt a rfl
              exact nI_neq (fun w => cn (by rw [w])) (by omega) (by omega)
          refine ev_go 1 (fun _ => rfl) ?_
          refine ev_call (y' := 117) rfl rfl rfl rfl (sp_rq_t xs _ z dr nw eb wa ms mt cc _ 3) ?_
          refine ev_go 7 (fun _ => rfl) ?_
          refine ev_ic_eq rfl rfl (fun n => absurd n (hnn)) (fun _ => ?_)
          refine ev_go 3 (fun _ => rfl) ?_
          refine ev_call (y' := 117) rfl rfl rfl rfl (sp_rq_t xs _ z dr nw eb wa ms mt cc _ 4) ?_
          exact r2
      · rw [if_neg cr]
        have hw : wiI (nI v) (nI lo) (nI mo) = false := by
          unfold wiI
          by_cases a1 : lo ≤ v
          · rw [decide_eq_false (p := ¬ nI mo < nI v) (fun w => w (nI_lt (by omega) (by omega))), Bool.and_false]
          · rw [decide_eq_false (p := ¬ nI v < nI lo) (fun w => w (nI_lt (by omega) (by omega))), Bool.false_and]
        rw [hw] at pre
        refine ⟨0, (hc, hm, hi, nI L, nI e2, nI p, nI 2, nI v, nI 3, nI p), ⟨rfl, _, _, _, _, rfl⟩, pre _ _ ?_⟩
        refine ev_go 1 (fun _ => rfl) ?_
        refine ev_call (y' := 117) rfl rfl rfl rfl (sp_rq_f xs _ z dr nw eb wa ms mt cc hc hm hi (nI L) (nI e2) (nI p) (nI 2) (nI v) wr 3) ?_
        refine ev_go 2 (fun _ => rfl) ?_
        refine ev_if_ne rfl rfl (fun _ => ?_) (fun n => absurd (nI_ne0 (n := 3) (by omega) (by omega)) n)
        exact bad 3 (by omega) (by omega)
    · rw [if_neg c2]
      refine ⟨0, (hc, hm, hi, nI L, nI e2, nI p, nI k, va, nI 2, nI p), ⟨rfl, _, _, _, _, rfl⟩, ?_⟩
      refine ev_go 7 (fun _ => rfl) ?_
      refine ev_ic_ne rfl rfl (fun _ => ?_) (fun n => absurd (nI_neq (a := k) (b := 2) c2 (by omega) (by omega)) n)
      refine ev_go 2 (fun _ => rfl) ?_
      refine ev_call (y' := 117) rfl rfl rfl rfl (sp_rq_f xs _ z dr nw eb wa ms mt cc hc hm hi (nI L) (nI e2) (nI p) (nI k) va wr 2) ?_
      refine ev_go 2 (fun _ => rfl) ?_
      refine ev_if_ne rfl rfl (fun _ => ?_) (fun n => absurd (nI_ne0 (n := 2) (by omega) (by omega)) n)
      refine ev_go 2 (fun _ => rfl) ?_
      refine ev_if_ne rfl rfl (fun _ => ?_) (fun n => absurd (nI_ne0 (n := 2) (by omega) (by omega)) n)
      exact bad 2 (by omega) (by omega)
end MN

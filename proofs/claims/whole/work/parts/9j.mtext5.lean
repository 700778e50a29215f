/-! The reference reads its text: lines -/
def rqZ (q : PZ) (b : Bool) (c : Int32) : PZ := match b with
  | true => q
  | false => if q.2.2.2.2.2.2.2.2.1 = 0 then (q.1, q.2.1, q.2.2.1, q.2.2.2.1, q.2.2.2.2.1, q.2.2.2.2.2.1, q.2.2.2.2.2.2.1, q.2.2.2.2.2.2.2.1, c, q.2.2.2.2.2.1) else q
theorem rqZ_k {q : PZ} {b : Bool} {c : Int32} (h : ¬ q.2.2.2.2.2.2.2.2.1 = 0) : rqZ q b c = q := by
  cases b with
  | true => rfl
  | false => exact if_neg h
def hiOK (s : PS) (hi : Int32) : Prop := ∀ B, B ≤ 5 → (hi < nI B ↔ ∀ (t : Nat) (q : Nat × Nat × Nat), s.2.2.2[t]? = some q → q.1 < B ∧ q.2.1 < B)
theorem hiN_lt {hi x y : Int32} : hiN hi x < y ↔ (hi < y ∧ x < y) := by
  unfold hiN
  by_cases c : x ≤ hi
  · rw [if_pos c]
    exact ⟨fun h => ⟨h, Int32.lt_of_le_of_lt c h⟩, fun h => h.1⟩
  · rw [if_neg c]
    exact ⟨fun h => ⟨Int32.lt_trans (i32_nle c) h, h⟩, fun h => h.2⟩
theorem hiOK_T {s : PS} {hi : Int32} {a b c : Nat} (h : hiOK s hi) (ha : a ≤ 4) (hb : b ≤ 4) : hiOK (s.1, s.2.1, s.2.2.1, s.2.2.2 ++ [(a, b, c)]) (hiN (hiN hi (nI a)) (nI b)) := by
  intro B hB
  rw [hiN_lt, hiN_lt, h B hB, nI_ltI (by omega) (by omega), nI_ltI (by omega) (by omega)]
  constructor
  · intro w t q hq
    rcases snoc_at hq with ⟨-, c2⟩ | ⟨-, c2⟩
    · exact w.1.1 t q c2
    · rw [c2]
      exact ⟨w.1.2, w.2⟩
  · intro w
    have w1 := w s.2.2.2.length (a, b, c) (by show (s.2.2.2 ++ [(a, b, c)])[s.2.2.2.length]? = _; rw [List.getElem?_append_right (Nat.le_refl _), Nat.sub_self]; rfl)
    refine ⟨⟨fun t q hq => w t q ?_, w1.1⟩, w1.2⟩
    have hl := (List.getElem?_eq_some_iff.mp hq).1
    show (s.2.2.2 ++ [(a, b, c)])[t]? = _
    rw [List.getElem?_append_left hl]
    exact hq
theorem repM_B {K : CK} {s : PS} {k a c : Nat} (h : repM K s) (hl : s.2.2.1.length < 5) : repM (addBK K s.2.2.1.length (nI k) (nI a) (nI c)) (s.1, s.2.1, s.2.2.1 ++ [(k, a, c)], s.2.2.2) := ⟨rep_B h.1 hl, h.2⟩
theorem repM_T {K : CK} {s : PS} {a b c : Nat} (h : repM K s) (hl : s.2.2.2.length < 6) : repM (addTK K s.2.2.2.length (nI a) (nI b) (nI c)) (s.1, s.2.1, s.2.2.1, s.2.2.2 ++ [(a, b, c)]) := by
  refine ⟨rep_T h.1 hl, fun t h1 h2 => ?_⟩
  have h1 : (s.2.2.2 ++ [(a, b, c)]).length ≤ t := h1
  rw [List.length_append] at h1
  have h1 : s.2.2.2.length + 1 ≤ t := h1
  show (K.2.2.set _ _)[t]? = _
  rw [List.getElem?_set_ne (by omega)]
  exact h.2 t (by omega) h2
/-- what a line's body leaves -/
def bdyM (D : Nat → Nat) (L : Nat) (hc hm : Bool) (res : PF ⊕ (PS × Nat)) (q : PZ) (dr : List Int32) : Prop := match res with
  | .inl f => dr.length = 87 ∧ ∃ hi : Int32, rdS D L hc hm hi (.inl f) q
  | .inr (s2, e3) => ∃ (K : CK) (hi : Int32), dr = flK K ∧ repM K s2 ∧ hiOK s2 hi ∧ rdS D L hc hm hi (.inr e3) q
section MLN
variable (xs : List Int32) (d : Nat) (z : ZT) (nw eb wa ms mt : List Int32) (cc : C4) (D : Nat → Nat) (L : Nat) (hc hm : Bool) (hi : Int32)
theorem sp_rq (q : PZ) (b : Bool) (c : Int32) (dr : List Int32) : Ev xs d 117 0 [some (.ref 0), some (.int (bI b)), some (.int c)] [] (mH (zR z q dr) nw eb wa ms mt cc) none (mH (zR z (rqZ q b c) dr) nw eb wa ms mt cc) := by
  obtain ⟨q1, q2, q3, q4, q5, q6, q7, q8, q9, q10⟩ := q
  cases b with
  | true => exact sp_rq_t xs d z dr nw eb wa ms mt cc _ c
  | false =>
    unfold rqZ
    dsimp only
    by_cases h : q9 = 0
    · rw [if_pos h]
      subst h
      exact sp_rq_f xs d z dr nw eb wa ms mt cc q1 q2 q3 q4 q5 q6 q7 q8 q10 c
    · rw [if_neg h]
      exact sp_rq_k xs d z dr nw eb wa ms mt cc q1 q2 q3 false q4 q5 q6 q7 q8 q9 q10 c h
theorem sp_mlo (hD : byD D L z.2.2.2.2.2.2.2.1) (p e ln : Nat) (hln : ln < 7) (s : PS) (q : PZ) (hq : rdS D L hc hm hi (.inr e) q) (Kd : CK) (hK : repM Kd s) (hh : hiOK s hi) (h4 : ln = 4 → s.2.1.1 = false) (h5 : ln = 5 → s.2.1.2 = false) (h6 : ln = 6 → s.2.2.2.length < 6) (h0 : ln < 4 → s.2.2.1.length < 5) : ∃ (q' : PZ) (dr' : List Int32), bdyM D L hc hm (pBdy D L p e ln s) q' dr' ∧ Ev xs (d + 5) 126 0 [some (.ref 0), some (.int (nI ln))] [] (mH (zR z q (flK Kd)) nw eb wa ms mt cc) none (mH (zR z q' dr') nw eb wa ms mt cc) := by
  have hL := hD.1
  have he : e ≤ L := hq.1
  unfold pBdy
  by_cases k4 : ln = 4
  · rw [if_pos k4]
    obtain ⟨q1, a1, a2⟩ := sp_mS xs (d + 1) z nw eb wa ms mt cc D L hc hm hi hD (.inr e) 2 20 none (-4) (by decide) (by decide) (fun a w => by cases w) (fun _ _ => rfl) q hq (flK Kd)
    have e1 : pNS D L (.inr e) 2 20 none = pNum D L e 2 20 none := rfl
    rw [e1] at a1 a2
    refine ⟨q1, flK ((valI (pNum D L e 2 20 none), Kd.1.2), Kd.2), ?_, ?_⟩
    · unfold pCut
      rw [h4 k4, if_neg (fun w => Bool.false_ne_true w)]
      cases hp : pNum D L e 2 20 none with
      | inl f =>
        rw [hp] at a1
        exact ⟨flK_len _, hi, a1⟩
      | inr w =>
        obtain ⟨v, e2⟩ := w
        rw [hp] at a1
        exact ⟨_, hi, rfl, ⟨⟨hK.1.1, rfl, hK.1.2.2⟩, hK.2⟩, hh, a1⟩
    · subst k4
      generalize valI (pNum D L e 2 20 none) = x at a2 ⊢
      refine ev_go 9 (fun _ => rfl) ?_
      refine ev_call (y' := 123) rfl rfl rfl rfl (a2) ?_
      refine ev_iastE rfl (L := flK Kd) (h2 := mH (zR z q1 (flK ((x, Kd.1.2), Kd.2))) nw eb wa ms mt cc) rfl (k := 0) rfl (by rw [flK_len]; decide) rfl ?_
      exact ev_end 2 rfl
  · rw [if_neg k4]
    by_cases k5 : ln = 5
    · rw [if_pos k5]
      obtain ⟨q1, a1, a2⟩ := sp_mS xs (d + 1) z nw eb wa ms mt cc D L hc hm hi hD (.inr e) 1 99 none (-4) (by decide) (by decide) (fun a w => by cases w) (fun _ _ => rfl) q hq (flK Kd)
      have e1 : pNS D L (.inr e) 1 99 none = pNum D L e 1 99 none := rfl
      rw [e1] at a1 a2
      refine ⟨q1, flK ((Kd.1.1, valI (pNum D L e 1 99 none), Kd.1.2.2), Kd.2), ?_, ?_⟩
      · unfold pMem
        rw [h5 k5, if_neg (fun w => Bool.false_ne_true w)]
        cases hp : pNum D L e 1 99 none with
        | inl f =>
          rw [hp] at a1
          exact ⟨flK_len _, hi, a1⟩
        | inr w =>
          obtain ⟨v, e2⟩ := w
          rw [hp] at a1
          exact ⟨_, hi, rfl, ⟨⟨hK.1.1, hK.1.2.1, rfl, hK.1.2.2.2⟩, hK.2⟩, hh, a1⟩
      · subst k5
        generalize valI (pNum D L e 1 99 none) = x at a2 ⊢
        refine ev_go 9 (fun _ => rfl) ?_
        refine ev_call (y' := 123) rfl rfl rfl rfl (a2) ?_
        refine ev_iastE rfl (L := flK Kd) (h2 := mH (zR z q1 (flK ((Kd.1.1, x, Kd.1.2.2), Kd.2))) nw eb wa ms mt cc) rfl (k := 1) rfl (by rw [flK_len]; decide) rfl ?_
        exact ev_end 2 rfl
    · rw [if_neg k5]
      by_cases k6 : ln = 6
      · rw [if_pos k6]
        have hT6 := h6 k6
        obtain ⟨nt2, hn1, hn2⟩ : ∃ nt2 : Option Nat, (∀ a, nt2 = some a → a ≤ 99) ∧ (∀ e2, pPo (pNS D L (.inr e) 0 4 none) = .inr e2 → valI (pNS D L (.inr e) 0 4 none) = ntI nt2 ∧ ∀ v, pNum D L e 0 4 none = .inr (v, e2) → nt2 = some v) := by
          cases hp : pNum D L e 0 4 none with
          | inl f => exact ⟨none, fun a w => (by cases w), fun e2 w => (by rw [show pNS D L (.inr e) 0 4 none = .inl f from hp] at w; cases w)⟩
          | inr w =>
            obtain ⟨v, e3⟩ := w
            have hb := pNum_b he hp
            refine ⟨some v, fun a w => (by cases w; omega), fun e2 w => ⟨(by rw [show pNS D L (.inr e) 0 4 none = .inr (v, e3) from hp]; rfl), fun v2 h2 => (by cases h2; rfl)⟩⟩
        obtain ⟨q1, a1, a2⟩ := sp_mtlk xs d z nw eb wa ms mt cc D L hc hm hi hD s.2.2.2.length (.inr e) q hq Kd hK.1.1 hK.1.2.2.2.2.2.1 hT6 (hK.2 _ (Nat.le_refl _) hT6) nt2 hn1 (fun e2 w => (hn2 e2 w).1)
        have e1 : pNS D L (.inr e) 0 4 none = pNum D L e 0 4 none := rfl
        rw [e1] at a1 a2 hn2
        refine ⟨q1, flK (addTK Kd s.2.2.2.length (valI (pNum D L e 0 4 none)) (valI (pNS D L (pPo (pNum D L e 0 4 none)) 0 4 nt2)) (valI (pNS D L (pPo (pNS D L (pPo (pNum D L e 0 4 none)) 0 4 nt2)) 1 20 none))), ?_, ?_⟩
        rotate_left
        · subst k6
          refine ev_go 3 (fun _ => rfl) ?_
          refine ev_call (y' := 124) rfl rfl rfl rfl (a2) ?_
          exact ev_end 2 rfl
        · unfold pTlk
          rw [if_pos hT6]
          cases hp : pNum D L e 0 4 none with
          | inl f =>
            rw [hp] at a1
            exact ⟨flK_len _, _, a1⟩
          | inr w =>
            obtain ⟨a, e2⟩ := w
            have hb := pNum_b he hp
            rw [hp] at a1
            have hn3 := (hn2 e2 (by rw [hp]; rfl)).2 a hp
            subst hn3
            dsimp only
            have a1 : rdS D L hc hm (hiN (hiN hi (nI a)) (valI (pNum D L e2 0 4 (some a)))) (pPo (pNS D L (pPo (pNum D L e2 0 4 (some a))) 1 20 none)) q1 := a1
            cases hp2 : pNum D L e2 0 4 (some a) with
            | inl f =>
              rw [hp2] at a1
              exact ⟨flK_len _, _, a1⟩
            | inr w =>
              obtain ⟨b, e3⟩ := w
              have hb2 := pNum_b hb.2.1 hp2
              rw [hp2] at a1
              dsimp only
              have a1 : rdS D L hc hm (hiN (hiN hi (nI a)) (nI b)) (pPo (pNum D L e3 1 20 none)) q1 := a1
              cases hp3 : pNum D L e3 1 20 none with
              | inl f =>
                rw [hp3] at a1
                exact ⟨flK_len _, _, a1⟩
              | inr w =>
                obtain ⟨c, e4⟩ := w
                rw [hp3] at a1
                refine ⟨addTK Kd s.2.2.2.length (nI a) (nI b) (nI c), _, ?_, repM_T hK hT6, hiOK_T hh hb.2.2.2.1 hb2.2.2.2.1, a1⟩
                have v2 : pNS D L (pPo (.inr (a, e2))) 0 4 (some a) = .inr (b, e3) := hp2
                have v3 : pNS D L (pPo (pNS D L (pPo (.inr (a, e2))) 0 4 (some a))) 1 20 none = .inr (c, e4) := by rw [v2]; exact hp3
                rw [v3, v2]
                rfl
      · rw [if_neg k6]
        have hB5 := h0 (by omega)
        obtain ⟨q1, a1, a2⟩ := sp_mbar xs d z nw eb wa ms mt cc D L hc hm hi hD ln s.2.2.1.length (.inr e) q hq Kd hK.1.1 hK.1.2.2.2.2.1 hB5
        have e1 : pNS D L (.inr e) 0 39 none = pNum D L e 0 39 none := rfl
        rw [e1] at a1 a2
        refine ⟨q1, flK (addBK Kd s.2.2.1.length (nI ln) (valI (pNum D L e 0 39 none)) (valI (pNS D L (pPo (pNum D L e 0 39 none)) 1 9 none))), ?_, ?_⟩
        rotate_left
        · skip
          refine ev_go 1 (fun _ => rfl) ?_
          refine ev_ts_d (t := 71) rfl rfl ?_ ?_
          · rw [nI_toInt (by omega)]
            omega
          refine ev_go 2 (fun _ => rfl) ?_
          refine ev_call (y' := 125) rfl rfl rfl rfl (a2) ?_
          exact ev_end 1 rfl
        · unfold pBar
          rw [if_pos hB5]
          cases hp : pNum D L e 0 39 none with
          | inl f =>
            rw [hp] at a1
            exact ⟨flK_len _, hi, a1⟩
          | inr w =>
            obtain ⟨a, e2⟩ := w
            rw [hp] at a1
            dsimp only
            have a1 : rdS D L hc hm hi (pPo (pNum D L e2 1 9 none)) q1 := a1
            cases hp2 : pNum D L e2 1 9 none with
            | inl f =>
              rw [hp2] at a1
              exact ⟨flK_len _, hi, a1⟩
            | inr w =>
              obtain ⟨c, e3⟩ := w
              rw [hp2] at a1
              refine ⟨addBK Kd s.2.2.1.length (nI ln) (nI a) (nI c), hi, ?_, repM_B hK hB5, hh, a1⟩
              have v2 : pNS D L (pPo (.inr (a, e2))) 1 9 none = .inr (c, e3) := hp2
              rw [v2]
              rfl
end MLN

/-! The Tape: talks, lines, all -/
theorem pNum_some (D : Nat → Nat) (L e lo hi a : Nat) : pNum D L e lo hi (some a) = (match pNum D L e lo hi none with
    | .inl f => .inl f
    | .inr (v, e2) => if v = a then .inl (4, tkP D L e) else .inr (v, e2)) := by
  unfold pNum
  cases ht : pTok D L e with
  | inl f => rfl
  | inr w =>
    obtain ⟨k, p, e2⟩ := w
    dsimp only
    have ep : p = tkP D L e := by
      unfold pTok at ht
      cases hb : tkB D L (tkP D L e) with
      | true => rw [hb] at ht; cases ht
      | false => rw [hb] at ht; cases ht; rfl
    by_cases c2 : k = 2
    · rw [if_pos c2, if_pos c2]
      by_cases cr : lo ≤ vl D p e2 ∧ vl D p e2 ≤ hi
      · rw [if_pos cr, if_pos cr, if_neg (show ¬ some (vl D p e2) = none from fun q => by cases q)]
        dsimp only
        by_cases ca : vl D p e2 = a
        · rw [if_pos ca, if_pos (by rw [ca]), ep]
        · rw [if_neg ca, if_neg (fun q => ca (Option.some.inj q))]
      · rw [if_neg cr, if_neg cr]
    · rw [if_neg c2, if_neg c2]
section TL2
variable (xs : List Int32) (d : Nat) (by_ : List Int32) (D : Nat → Nat) (L : Nat)
theorem sp_rtlk (hD : byD D L by_) (p e : Nat) (he : e ≤ L) (s : PS) (K : CK) (hK : rep K s) (t v fp : Int32) : ∃ (r : Option Value) (h' : MH), bdyP L by_ fp (pTlk D L p e s) r h' ∧ Ev xs (d + 4) 50 0 [some (.ref 0), none, none] [] (tpB (nI L, s.2.1.1, s.2.1.2, t, nI p, nI e, v, 0, fp) by_ K) r h' := by
  have eT := hK.2.2.2.2.2.1
  have h6 := hK.2.2.2.2.2.2.2.2.1
  unfold pTlk
  by_cases c6 : s.2.2.2.length < 6
  · rw [if_pos c6]
    obtain ⟨r1, h1, a1, a2⟩ := sp_num xs (d + 1) K by_ D L e 0 4 (by decide) (by decide) he hK.1 hD s.2.1.1 s.2.1.2 t (nI p) v fp
    have pre : ∀ (r2 : Option Value) (R : MH), Ev xs (d + 4) 50 24 [some (.ref 0), none, none] r1.toList h1 r2 R → Ev xs (d + 4) 50 0 [some (.ref 0), none, none] [] (tpB (nI L, s.2.1.1, s.2.1.2, t, nI p, nI e, v, 0, fp) by_ K) r2 R := by
      intro r2 R hr
      refine ev_go 4 (fun _ => rfl) ?_
      refine ev_ic_lt rfl rfl (fun _ => ?_) (fun n => absurd (by show K.1.2.2.2.2.1 < nI 6; rw [eT]; exact nI_lt c6 (by omega)) n)
      refine ev_go 3 (fun _ => rfl) ?_
      refine ev_call (y' := 51) rfl rfl rfl rfl (a2) ?_
      rw [show List.drop (infT 51).1 ([.int (Int32.ofInt 4), .int (Int32.ofInt 0), .ref 0] : List Value) = [] from rfl, List.append_nil]
      exact hr
    cases hp : pNum D L e 0 4 none with
    | inl f =>
      rw [hp] at a1
      obtain ⟨e1, e2⟩ := a1
      subst e1
      exact ⟨some (.int 0), h1, ⟨rfl, e2⟩, pre _ _ (ev_end 3 rfl)⟩
    | inr w =>
      obtain ⟨a, e2⟩ := w
      rw [hp] at a1
      obtain ⟨e1, e3⟩ := a1
      subst e1
      subst e3
      have hb := pNum_b he hp
      dsimp only
      rw [pNum_some]
      obtain ⟨r2, h2, a3, a4⟩ := sp_num xs (d + 1) K by_ D L e2 0 4 (by decide) (by decide) hb.2.1 hK.1 hD s.2.1.1 s.2.1.2 (nI 2) (nI (tkP D L e)) (nI a) fp
      have pre2 : ∀ (r3 : Option Value) (R : MH), Ev xs (d + 4) 50 40 [some (.ref 0), some (.int (nI a)), none] r2.toList h2 r3 R → Ev xs (d + 4) 50 0 [some (.ref 0), none, none] [] (tpB (nI L, s.2.1.1, s.2.1.2, t, nI p, nI e, v, 0, fp) by_ K) r3 R := by
        intro r3 R hr
        refine pre r3 R ?_
        show Ev _ _ _ _ _ [.int 1] _ _ _
        refine ev_go 7 (fun _ => rfl) ?_
        refine ev_call (y' := 51) rfl rfl rfl rfl (a4) ?_
        rw [show List.drop (infT 51).1 ([.int (Int32.ofInt 4), .int (Int32.ofInt 0), .ref 0] : List Value) = [] from rfl, List.append_nil]
        exact hr
      cases hp2 : pNum D L e2 0 4 none with
      | inl f =>
        rw [hp2] at a3
        obtain ⟨e1, e3⟩ := a3
        subst e1
        exact ⟨some (.int 0), h2, ⟨rfl, e3⟩, pre2 _ _ (ev_end 3 rfl)⟩
      | inr w =>
        obtain ⟨b, e4⟩ := w
        rw [hp2] at a3
        obtain ⟨e1, e3⟩ := a3
        subst e1
        subst e3
        have hb2 := pNum_b hb.2.1 hp2
        dsimp only
        by_cases cab : b = a
        · rw [if_pos cab]
          refine ⟨some (.int 0), _, ⟨rfl, s.2.1.1, s.2.1.2, nI 2, nI (tkP D L e2), nI e4, nI b, K, hK.1, rfl⟩, pre2 _ _ ?_⟩
          show Ev _ _ _ _ _ [.int 1] _ _ _
          refine ev_go 6 (fun _ => rfl) ?_
          refine ev_ic_ne rfl rfl (fun n => absurd n (fun n => n (by show nI b = nI a; rw [cab]))) (fun _ => ?_)
          refine ev_go 2 (fun _ => rfl) ?_
          refine ev_call (y' := 54) rfl rfl rfl rfl (sp_fail xs _ K by_ s.2.1.1 s.2.1.2 (nI L) (nI 2) (nI (tkP D L e2)) (nI e4) (nI b) 0 fp 4) ?_
          exact ev_end 1 rfl
        · rw [if_neg cab]
          dsimp only
          obtain ⟨r3, h3, a5, a6⟩ := sp_num xs (d + 1) K by_ D L e4 1 20 (by decide) (by decide) hb2.2.1 hK.1 hD s.2.1.1 s.2.1.2 (nI 2) (nI (tkP D L e2)) (nI b) fp
          have pre3 : ∀ (r4 : Option Value) (R : MH), Ev xs (d + 4) 50 68 [some (.ref 0), some (.int (nI a)), some (.int (nI b))] r3.toList h3 r4 R → Ev xs (d + 4) 50 0 [some (.ref 0), none, none] [] (tpB (nI L, s.2.1.1, s.2.1.2, t, nI p, nI e, v, 0, fp) by_ K) r4 R := by
            intro r4 R hr
            refine pre2 r4 R ?_
            show Ev _ _ _ _ _ [.int 1] _ _ _
            refine ev_go 6 (fun _ => rfl) ?_
            refine ev_ic_ne rfl rfl (fun _ => ?_) (fun n => absurd (nI_neq (a := b) (b := a) cab (by omega) (by omega)) n)
            refine ev_go 3 (fun _ => rfl) ?_
            refine ev_call (y' := 51) rfl rfl rfl rfl (a6) ?_
            rw [show List.drop (infT 51).1 ([.int (Int8.ofInt 20).toInt32, .int (Int32.ofInt 1), .ref 0] : List Value) = [] from rfl, List.append_nil]
            exact hr
          cases hp3 : pNum D L e4 1 20 none with
          | inl f =>
            rw [hp3] at a5
            obtain ⟨e1, e3⟩ := a5
            subst e1
            exact ⟨some (.int 0), h3, ⟨rfl, e3⟩, pre3 _ _ (ev_end 3 rfl)⟩
          | inr w =>
            obtain ⟨c, e5⟩ := w
            rw [hp3] at a5
            obtain ⟨e1, e3⟩ := a5
            subst e1
            subst e3
            have hb3 := pNum_b hb2.2.1 hp3
            have hR := rep_T (a := a) (b := b) (c := c) hK c6
            refine ⟨some (.int 1), _, ⟨rfl, hb3.2.1, nI 2, nI (tkP D L e4), nI c, addTK K s.2.2.2.length (nI a) (nI b) (nI c), hR, rfl⟩, pre3 _ _ ?_⟩
            show Ev _ _ _ _ _ [.int 1] _ _ _
            refine ev_go 7 (fun _ => rfl) ?_
            refine ev_cT xs _ by_ (y' := 12) (As := [.int (nI a), .int (nI b), .int (nI c)]) (K' := addTK K s.2.2.2.length (nI a) (nI b) (nI c)) rfl rfl rfl rfl rfl three_i (CL6 hK.1) (CL6 hR.1) (sp_addTK xs _ K s.2.2.2.length (nI a) (nI b) (nI c) eT c6 (CL6 hK.1)) (Or.inl rfl) ?_
            exact ev_end 2 rfl
  · rw [if_neg c6]
    refine ⟨some (.int 0), _, ⟨rfl, s.2.1.1, s.2.1.2, t, nI p, nI e, v, K, hK.1, rfl⟩, ?_⟩
    refine ev_go 4 (fun _ => rfl) ?_
    refine ev_ic_lt rfl rfl (fun n => absurd n (by show ¬ K.1.2.2.2.2.1 < nI 6; rw [eT]; exact nI_nlt (by omega) (by omega))) (fun _ => ?_)
    refine ev_go 2 (fun _ => rfl) ?_
    refine ev_call (y' := 54) rfl rfl rfl rfl (sp_fail xs _ K by_ s.2.1.1 s.2.1.2 (nI L) t (nI p) (nI e) v 0 fp 5) ?_
    exact ev_end 1 rfl
theorem lnO_le (p e : Nat) : lnO D p e ≤ 7 := by
  unfold lnO
  repeat' split
  all_goals omega
theorem sp_rlin (hD : byD D L by_) (k p e : Nat) (hk : k ≤ 4) (hpe : p ≤ e) (he : e ≤ L) (s : PS) (K : CK) (hK : rep K s) (v fp : Int32) : ∃ (r : Option Value) (h' : MH), bdyP L by_ fp (pLin D L k p e s) r h' ∧ Ev xs (d + 8) 44 0 [some (.ref 0), none, none] [] (tpB (nI L, s.2.1.1, s.2.1.2, nI k, nI p, nI e, v, 0, fp) by_ K) r h' := by
  have h7 := lnO_le D p e
  unfold pLin
  have bad : Ev xs (d + 8) 44 22 [some (.ref 0), some (.int (-1)), none] [] (tpB (nI L, s.2.1.1, s.2.1.2, nI k, nI p, nI e, v, 0, fp) by_ K) (some (.int 0)) (tpB (nI L, s.2.1.1, s.2.1.2, nI k, nI p, nI e, v, nI 2, nI p) by_ K) := by
    refine ev_go 2 (fun _ => rfl) ?_
    refine ev_call (y' := 54) rfl rfl rfl rfl (sp_fail xs _ K by_ s.2.1.1 s.2.1.2 (nI L) (nI k) (nI p) (nI e) v 0 fp 2) ?_
    exact ev_end 1 rfl
  by_cases c1 : k = 1
  · subst c1
    have hl := sp_ln xs d K by_ D L p e hD hpe he s.2.1.1 s.2.1.2 (nI 1) v 0 fp
    generalize lnO D p e = ln at hl h7
    by_cases c7 : ln < 7
    · rw [if_pos ⟨rfl, c7⟩]
      have e7 : lnI ln = nI ln := if_neg (by omega)
      rw [e7] at hl
      -- the body
      have body : ∃ (r : Option Value) (h' : MH), bdyP L by_ fp (pBdy D L p e ln s) r h' ∧ ∀ (r2 : Option Value) (R : MH), Ev xs (d + 8) 44 74 [some (.ref 0), some (.int (nI ln)), r] [] h' r2 R → Ev xs (d + 8) 44 0 [some (.ref 0), none, none] [] (tpB (nI L, s.2.1.1, s.2.1.2, nI 1, nI p, nI e, v, 0, fp) by_ K) r2 R := by
        have rI : ∀ {q : PF ⊕ (PS × Nat)} {r : Option Value} {h' : MH}, bdyP L by_ fp q r h' → ∃ x, r = some (.int x) := by
          intro q r h' hq
          cases q with
          | inl f => exact ⟨_, hq.1⟩
          | inr w => obtain ⟨s2, e2⟩ := w; exact ⟨_, hq.1⟩
        have pre : ∀ (r2 : Option Value) (R : MH), Ev xs (d + 8) 44 28 [some (.ref 0), some (.int (nI ln)), none] [] (tpB (nI L, s.2.1.1, s.2.1.2, nI 1, nI p, nI e, v, 0, fp) by_ K) r2 R → Ev xs (d + 8) 44 0 [some (.ref 0), none, none] [] (tpB (nI L, s.2.1.1, s.2.1.2, nI 1, nI p, nI e, v, 0, fp) by_ K) r2 R := by
          intro r2 R hr
          refine ev_go 5 (fun _ => rfl) ?_
          refine ev_call (y' := 45) rfl rfl rfl rfl (hl) ?_
          refine ev_go 4 (fun _ => rfl) ?_
          refine ev_ic_ne rfl rfl (fun _ => ?_) (fun n => absurd (nI_ne1 (by omega)) n)
          exact hr
        unfold pBdy
        by_cases k4 : ln = 4
        · subst k4
          rw [if_pos rfl]
          obtain ⟨r, h', q1, q2⟩ := sp_rcut xs (d + 4) by_ D L hD p e he s K hK (nI 1) v fp
          obtain ⟨x, rfl⟩ := rI q1
          refine ⟨some (.int x), h', q1, fun r2 R hr => pre r2 R ?_⟩
          refine ev_go 4 (fun _ => rfl) ?_
          refine ev_call (y' := 47) rfl rfl rfl rfl (q2) ?_
          exact ev_go 2 (fun _ => rfl) hr
        · rw [if_neg k4]
          by_cases k5 : ln = 5
          · subst k5
            rw [if_pos rfl]
            obtain ⟨r, h', q1, q2⟩ := sp_rmem xs (d + 4) by_ D L hD p e he s K hK (nI 1) v fp
            obtain ⟨x, rfl⟩ := rI q1
            refine ⟨some (.int x), h', q1, fun r2 R hr => pre r2 R ?_⟩
            refine ev_go 7 (fun _ => rfl) ?_
            refine ev_call (y' := 48) rfl rfl rfl rfl (q2) ?_
            exact ev_go 2 (fun _ => rfl) hr
          · rw [if_neg k5]
            by_cases k6 : ln = 6
            · subst k6
              rw [if_pos rfl]
              obtain ⟨r, h', q1, q2⟩ := sp_rtlk xs (d + 3) by_ D L hD p e he s K hK (nI 1) v fp
              obtain ⟨x, rfl⟩ := rI q1
              refine ⟨some (.int x), h', q1, fun r2 R hr => pre r2 R ?_⟩
              refine ev_go 10 (fun _ => rfl) ?_
              refine ev_call (y' := 50) rfl rfl rfl rfl (q2) ?_
              exact ev_go 2 (fun _ => rfl) hr
            · rw [if_neg k6]
              obtain ⟨r, h', q1, q2⟩ := sp_rbar xs (d + 4) by_ D L hD p e ln he s K hK (nI 1) v fp
              obtain ⟨x, rfl⟩ := rI q1
              refine ⟨some (.int x), h', q1, fun r2 R hr => pre r2 R ?_⟩
              refine ev_go 2 (fun _ => rfl) ?_
              refine ev_ic_ne rfl rfl (fun _ => ?_) (fun n => absurd (nI_neq (a := ln) (b := 4) k4 (by omega) (by omega)) n)
              refine ev_go 2 (fun _ => rfl) ?_
              refine ev_ic_ne rfl rfl (fun _ => ?_) (fun n => absurd (nI_neq (a := ln) (b := 5) k5 (by omega) (by omega)) n)
              refine ev_go 2 (fun _ => rfl) ?_
              refine ev_ic_ne rfl rfl (fun _ => ?_) (fun n => absurd (nI_neq (a := ln) (b := 6) k6 (by omega) (by omega)) n)
              refine ev_go 2 (fun _ => rfl) ?_
              refine ev_call (y' := 49) rfl rfl rfl rfl (q2) ?_
              exact ev_go 1 (fun _ => rfl) hr
      obtain ⟨r, h', b1, b2⟩ := body
      cases hp : pBdy D L p e ln s with
      | inl f =>
        rw [hp] at b1
        obtain ⟨e1, e2⟩ := b1
        subst e1
        exact ⟨some (.int 0), h', ⟨rfl, e2⟩, b2 _ _ (ev_end 4 rfl)⟩
      | inr w =>
        obtain ⟨s2, e2⟩ := w
        rw [hp] at b1
        obtain ⟨e1, e3, t3, t4, v3, K3, hK3, e4⟩ := b1
        subst e1
        subst e4
        dsimp only
        obtain ⟨r5, h5, q5, q6⟩ := sp_stp xs (d + 5) by_ D L e2 e3 K3 hK3.1 hD s2.2.1.1 s2.2.1.2 t3 t4 v3 fp
        have pre3 : ∀ (r4 : Option Value) (R : MH), Ev xs (d + 8) 44 82 [some (.ref 0), some (.int (nI ln)), some (.int 1)] r5.toList h5 r4 R → Ev xs (d + 8) 44 0 [some (.ref 0), none, none] [] (tpB (nI L, s.2.1.1, s.2.1.2, nI 1, nI p, nI e, v, 0, fp) by_ K) r4 R := by
          intro r4 R hr
          refine b2 r4 R ?_
          refine ev_go 3 (fun _ => rfl) ?_
          refine ev_call (y' := 52) rfl rfl rfl rfl (q6) ?_
          rw [show List.drop (infT 52).1 ([.ref 0] : List Value) = [] from rfl, List.append_nil]
          exact hr
        cases hp5 : pStp D L e2 with
        | inl f =>
          rw [hp5] at q5
          obtain ⟨e1, e6⟩ := q5
          subst e1
          exact ⟨some (.int 0), h5, ⟨rfl, e6⟩, pre3 _ _ (ev_end 3 rfl)⟩
        | inr e7 =>
          rw [hp5] at q5
          obtain ⟨e1, t5, t6, e6⟩ := q5
          subst e1
          subst e6
          exact ⟨some (.int 1), _, ⟨rfl, (pStp_b e3 hp5).2, t5, t6, v3, K3, hK3, rfl⟩, pre3 _ _ (ev_end 4 rfl)⟩
    · rw [if_neg (fun q => c7 q.2)]
      have e7 : lnI ln = -1 := if_pos (by omega)
      rw [e7] at hl
      refine ⟨some (.int 0), _, ⟨rfl, s.2.1.1, s.2.1.2, nI 1, nI p, nI e, v, K, hK.1, rfl⟩, ?_⟩
      refine ev_go 5 (fun _ => rfl) ?_
      refine ev_call (y' := 45) rfl rfl rfl rfl (hl) ?_
      refine ev_go 5 (fun _ => rfl) ?_
      exact bad
  · rw [if_neg (fun q => c1 q.1)]
    refine ⟨some (.int 0), _, ⟨rfl, s.2.1.1, s.2.1.2, nI k, nI p, nI e, v, K, hK.1, rfl⟩, ?_⟩
    refine ev_go 3 (fun _ => rfl) ?_
    refine ev_ic_ne rfl rfl (fun _ => ?_) (fun n => absurd (nI_neq (a := k) (b := 1) c1 (by omega) (by omega)) n)
    refine ev_go 5 (fun _ => rfl) ?_
    exact bad
end TL2

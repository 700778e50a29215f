/-! The Tape: lines -/
/-- a Canal tells what was told -/
def rep (K : CK) (s : PS) : Prop := CL K ∧ K.1.1 = nI s.1.1 ∧ K.1.2.1 = nI s.1.2 ∧ K.1.2.2.1 = 0 ∧ K.1.2.2.2.1 = nI s.2.2.1.length ∧ K.1.2.2.2.2.1 = nI s.2.2.2.length ∧ K.1.2.2.2.2.2.1 = 0 ∧ s.2.2.1.length ≤ 5 ∧ s.2.2.2.length ≤ 6 ∧ (∀ (b : Nat) (q : Nat × Nat × Nat), s.2.2.1[b]? = some q → K.2.1.1[b]? = some (nI q.1) ∧ K.2.1.2.1[b]? = some (nI q.2.1) ∧ K.2.1.2.2.1[b]? = some (nI q.2.2)) ∧ ∀ (t : Nat) (q : Nat × Nat × Nat), s.2.2.2[t]? = some q → K.2.2[t]? = some (nI q.1, nI q.2.1, nI q.2.2, 0, 0, false, 0, 0, 0, 0)
def addBK (K : CK) (b : Nat) (x y z : Int32) : CK := ((K.1.1, K.1.2.1, K.1.2.2.1, nI (b + 1), K.1.2.2.2.2), (K.2.1.1.set b x, K.2.1.2.1.set b y, K.2.1.2.2.1.set b z, K.2.1.2.2.2), K.2.2)
theorem sp_addBK (xs : List Int32) (d : Nat) (K : CK) (b : Nat) (x y z : Int32) (e : K.1.2.2.2.1 = nI b) (hb : b < 5) (hl : CL K) : Ev xs d 11 0 [some (.ref 0), some (.int x), some (.int y), some (.int z)] [] (bH 0 K) none (bH 0 (addBK K b x y z)) := by
  obtain ⟨⟨l1, l2, l3, l4, l5, l6, l7, l8⟩, ⟨r1, r2, r3, r4, r5, r6, r7, r8, r9, r10⟩, rw2⟩ := K
  obtain ⟨g1, g2, g3, -⟩ := hl
  dsimp only at e g1 g2 g3
  subst e
  have := sp_addB xs d l1 l2 l3 (nI b) l5 l6 l7 l8 r1 r2 r3 r4 r5 r6 r7 r8 r9 r10 rw2 x y z b (mm_ix_nI (by omega)) (by omega) (by omega) (by omega)
  rw [nI_1] at this
  exact this
theorem snoc_at {α : Type} {l : List α} {a : α} {j : Nat} {q : α} (h : (l ++ [a])[j]? = some q) : (j < l.length ∧ l[j]? = some q) ∨ (j = l.length ∧ q = a) := by
  by_cases c : j < l.length
  · rw [List.getElem?_append_left c] at h
    exact Or.inl ⟨c, h⟩
  · rw [List.getElem?_append_right (by omega)] at h
    have hl := (List.getElem?_eq_some_iff.mp h).1
    have e : j = l.length := by
      have : j - l.length < 1 := hl
      omega
    subst e
    rw [Nat.sub_self] at h
    cases h
    exact Or.inr ⟨rfl, rfl⟩
theorem rep_B {K : CK} {s : PS} {k a c : Nat} (h : rep K s) (hl : s.2.2.1.length < 5) : rep (addBK K s.2.2.1.length (nI k) (nI a) (nI c)) (s.1, s.2.1, s.2.2.1 ++ [(k, a, c)], s.2.2.2) := by
  obtain ⟨⟨g1, g2, g3, g4⟩, e1, e2, e3, e4, e5, e6, h5, h6, hB, hT⟩ := h
  refine ⟨⟨List.length_set.trans g1, List.length_set.trans g2, List.length_set.trans g3, g4⟩, e1, e2, e3, ?_, e5, e6, ?_, h6, fun b q hq => ?_, hT⟩
  · show nI (s.2.2.1.length + 1) = nI (s.2.2.1 ++ [(k, a, c)]).length
    rw [List.length_append]
    rfl
  · show (s.2.2.1 ++ [(k, a, c)]).length ≤ 5
    rw [List.length_append]
    show s.2.2.1.length + 1 ≤ 5
    omega
  · have hq : (s.2.2.1 ++ [(k, a, c)])[b]? = some q := hq
    show (K.2.1.1.set _ _)[b]? = _ ∧ (K.2.1.2.1.set _ _)[b]? = _ ∧ (K.2.1.2.2.1.set _ _)[b]? = _
    rcases snoc_at hq with ⟨c1, c2⟩ | ⟨c1, c2⟩
    · rw [List.getElem?_set_ne (by omega), List.getElem?_set_ne (by omega), List.getElem?_set_ne (by omega)]
      exact hB b q c2
    · subst c1
      subst c2
      rw [List.getElem?_set_self (by omega), List.getElem?_set_self (by omega), List.getElem?_set_self (by omega)]
      exact ⟨rfl, rfl, rfl⟩
theorem rep_T {K : CK} {s : PS} {a b c : Nat} (h : rep K s) (hl : s.2.2.2.length < 6) : rep (addTK K s.2.2.2.length (nI a) (nI b) (nI c)) (s.1, s.2.1, s.2.2.1, s.2.2.2 ++ [(a, b, c)]) := by
  obtain ⟨⟨g1, g2, g3, g4, g5, g6, g7, g8, g9, g10, g11⟩, e1, e2, e3, e4, e5, e6, h5, h6, hB, hT⟩ := h
  refine ⟨⟨g1, g2, g3, g4, g5, g6, g7, g8, g9, g10, List.length_set.trans g11⟩, e1, e2, e3, e4, ?_, e6, h5, ?_, hB, fun t q hq => ?_⟩
  · show nI (s.2.2.2.length + 1) = nI (s.2.2.2 ++ [(a, b, c)]).length
    rw [List.length_append]
    rfl
  · show (s.2.2.2 ++ [(a, b, c)]).length ≤ 6
    rw [List.length_append]
    show s.2.2.2.length + 1 ≤ 6
    omega
  · have hq : (s.2.2.2 ++ [(a, b, c)])[t]? = some q := hq
    show (K.2.2.set _ _)[t]? = _
    rcases snoc_at hq with ⟨c1, c2⟩ | ⟨c1, c2⟩
    · rw [List.getElem?_set_ne (by omega)]
      exact hT t q c2
    · subst c1
      subst c2
      rw [List.getElem?_set_self (by omega)]
section TL
variable (xs : List Int32) (d : Nat) (by_ : List Int32) (D : Nat → Nat) (L : Nat)
theorem tp_dec (p : TP) (K : CK) : tpB p by_ K = [tpO 0 p, .inl (2, by_)] ++ bH 2 K ++ [] := by
  rw [List.append_nil]
  rfl
/-- a call of a method of the Canal told -/
theorem ev_cT {y pc y' idx : Nat} {ls : ML} {st As : List Value} {h' : MH} {r r1 : Option Value} {p : TP} {K K' : CK} (hf : fetT y pc = some (.invokevirtual idx)) (hs : mm_stp fldT (prmT xs) (d + 1) y (.invokevirtual idx) pc ls st (tpB p by_ K) = none) (hm : mthT y idx = some (y', true)) (hk : (decide ((infT y').1 ≤ st.length) && decide (mm_ct (st.drop (infT y').1) ≤ 8) && decide ((mm_sl ((st.take (infT y').1).reverse)).length ≤ (infT y').2.1) && !(infT y').2.2.2.2 && Nat.beq (infT y').2.2.2.1 0) = true) (hst : (st.take (infT y').1).reverse = .ref 2 :: As) (hA : ∀ v ∈ As, ∃ x, v = Value.int x) (hK : K.2.2.length = 6) (hK' : K'.2.2.length = 6)
    (hv : Ev xs d y' 0 (mm_en (infT y').2.1 (.ref 0 :: As)) [] (bH 0 K) r1 (bH 0 K')) (hr1 : r1 = none ∨ ∃ x, r1 = some (.int x)) (hr : Ev xs (d + 1) y (pc + 3) ls (r1.toList ++ st.drop (infT y').1) (tpB p by_ K') r h') : Ev xs (d + 1) y pc ls st (tpB p by_ K) r h' := by
  have hc : HasC (tpB p by_ K) 2 K := by
    rw [tp_dec]
    exact has_C rfl hK
  refine ev_callC (n := 2) hf hs hm hk hst hA hc rfl hK' hv hr1 ?_
  rw [tp_dec, put_C (n := 2) rfl hK hK', ← tp_dec]
  exact hr
def stpP (D : Nat → Nat) (L : Nat) (by_ : List Int32) (K : CK) (c m : Bool) (v fp : Int32) (q : PF ⊕ Nat) (r : Option Value) (h : MH) : Prop := match q with
  | .inl f => r = some (.int 0) ∧ FH L by_ f h
  | .inr e2 => r = some (.int 1) ∧ ∃ t t1 : Int32, h = tpB (nI L, c, m, t, t1, nI e2, v, 0, fp) by_ K
theorem tsK_4 (p : Nat) : tsK D L p ≤ 4 := by
  unfold tsK
  split
  · exact cls_le _
  · omega
theorem sp_stp (e : Nat) (he : e ≤ L) (K : CK) (hK : CL K) (hD : byD D L by_) (c m : Bool) (t t1 v fp : Int32) : ∃ (r : Option Value) (h' : MH), stpP D L by_ K c m v fp (pStp D L e) r h' ∧ Ev xs (d + 2) 52 0 [some (.ref 0)] [] (tpB (nI L, c, m, t, t1, nI e, v, 0, fp) by_ K) r h' := by
  have hn := sp_next xs d K by_ D L e he hD c m t t1 v 0 fp
  have h4 := tsK_4 D L (tkP D L e)
  unfold pStp
  cases hb : tkB D L (tkP D L e) with
  | true =>
    rw [hb] at hn
    rw [tok_t D L hb]
    refine ⟨some (.int 0), _, ⟨rfl, c, m, nI (tsK D L (tkP D L e)), nI (tkP D L e), nI (tkE D L (tkP D L e)), v, K, hK, rfl⟩, ?_⟩
    refine ev_go 1 (fun _ => rfl) ?_
    refine ev_call (y' := 55) rfl rfl rfl rfl (hn) ?_
    exact ev_end 3 rfl
  | false =>
    rw [hb] at hn
    rw [tok_f D L hb]
    dsimp only
    by_cases c3 : tsK D L (tkP D L e) = 3
    · rw [if_pos c3]
      refine ⟨some (.int 1), _, ⟨rfl, nI (tsK D L (tkP D L e)), nI (tkP D L e), rfl⟩, ?_⟩
      refine ev_go 1 (fun _ => rfl) ?_
      refine ev_call (y' := 55) rfl rfl rfl rfl (hn) ?_
      refine ev_go 4 (fun _ => rfl) ?_
      refine ev_ic_eq rfl rfl (fun _ => ?_) (fun n => absurd (by show nI (tsK D L (tkP D L e)) = nI 3; rw [c3]) n)
      exact ev_end 3 rfl
    · rw [if_neg c3]
      refine ⟨some (.int 0), _, ⟨rfl, c, m, nI (tsK D L (tkP D L e)), nI (tkP D L e), nI (tkE D L (tkP D L e)), v, K, hK, rfl⟩, ?_⟩
      refine ev_go 1 (fun _ => rfl) ?_
      refine ev_call (y' := 55) rfl rfl rfl rfl (hn) ?_
      refine ev_go 4 (fun _ => rfl) ?_
      refine ev_ic_eq rfl rfl (fun n => absurd n (nI_neq (a := tsK D L (tkP D L e)) (b := 3) c3 (by omega) (by omega))) (fun _ => ?_)
      refine ev_go 2 (fun _ => rfl) ?_
      refine ev_call (y' := 54) rfl rfl rfl rfl (sp_fail xs _ K by_ c m (nI L) (nI (tsK D L (tkP D L e))) (nI (tkP D L e)) (nI (tkE D L (tkP D L e))) v 0 fp 2) ?_
      exact ev_end 3 rfl
/-- what a line's body leaves -/
def bdyP (L : Nat) (by_ : List Int32) (fp : Int32) (q : PF ⊕ (PS × Nat)) (r : Option Value) (h : MH) : Prop := match q with
  | .inl f => r = some (.int 0) ∧ FH L by_ f h
  | .inr (s, e2) => r = some (.int 1) ∧ e2 ≤ L ∧ ∃ (t t1 v : Int32) (K : CK), rep K s ∧ h = tpB (nI L, s.2.1.1, s.2.1.2, t, t1, nI e2, v, 0, fp) by_ K
theorem sp_rcut (hD : byD D L by_) (p e : Nat) (he : e ≤ L) (s : PS) (K : CK) (hK : rep K s) (t v fp : Int32) : ∃ (r : Option Value) (h' : MH), bdyP L by_ fp (pCut D L p e s) r h' ∧ Ev xs (d + 3) 47 0 [some (.ref 0)] [] (tpB (nI L, s.2.1.1, s.2.1.2, t, nI p, nI e, v, 0, fp) by_ K) r h' := by
  obtain ⟨⟨s1, s2⟩, ⟨b1, b2⟩, s3, s4⟩ := s
  unfold pCut
  cases b1 with
  | true =>
    rw [if_pos rfl]
    refine ⟨some (.int 0), _, ⟨rfl, true, b2, t, nI p, nI e, v, K, hK.1, rfl⟩, ?_⟩
    refine ev_go 5 (fun _ => rfl) ?_
    refine ev_call (y' := 54) rfl rfl rfl rfl (sp_fail xs _ K by_ true b2 (nI L) t (nI p) (nI e) v 0 fp 4) ?_
    exact ev_end 1 rfl
  | false =>
    rw [if_neg (fun q => Bool.false_ne_true q)]
    obtain ⟨r, h', q1, q2⟩ := sp_num xs d K by_ D L e 2 20 (by decide) (by decide) he hK.1 hD true b2 t (nI p) v fp
    have pre : ∀ (r2 : Option Value) (R : MH), Ev xs (d + 3) 47 25 [some (.ref 0)] r.toList h' r2 R → Ev xs (d + 3) 47 0 [some (.ref 0)] [] (tpB (nI L, false, b2, t, nI p, nI e, v, 0, fp) by_ K) r2 R := by
      intro r2 R hr
      refine ev_go 9 (h1 := tpB (nI L, true, b2, t, nI p, nI e, v, 0, fp) by_ K) (fun _ => rfl) ?_
      refine ev_call (y' := 51) rfl rfl rfl rfl (q2) ?_
      rw [show List.drop (infT 51).1 ([.int (Int8.ofInt 20).toInt32, .int (Int32.ofInt 2), .ref 0] : List Value) = [] from rfl, List.append_nil]
      exact hr
    cases hp : pNum D L e 2 20 none with
    | inl f =>
      rw [hp] at q1
      obtain ⟨e1, e2⟩ := q1
      subst e1
      exact ⟨some (.int 0), h', ⟨rfl, e2⟩, pre _ _ (ev_end 3 rfl)⟩
    | inr w =>
      obtain ⟨w, e2⟩ := w
      rw [hp] at q1
      obtain ⟨e1, e3⟩ := q1
      subst e1
      subst e3
      have hb := pNum_b he hp
      refine ⟨some (.int 1), _, ⟨rfl, hb.2.1, nI 2, nI (tkP D L e), nI w, ((nI w, K.1.2), K.2), ?_, rfl⟩, pre _ _ (ev_end 8 rfl)⟩
      exact ⟨hK.1, rfl, hK.2.2⟩
theorem sp_rmem (hD : byD D L by_) (p e : Nat) (he : e ≤ L) (s : PS) (K : CK) (hK : rep K s) (t v fp : Int32) : ∃ (r : Option Value) (h' : MH), bdyP L by_ fp (pMem D L p e s) r h' ∧ Ev xs (d + 3) 48 0 [some (.ref 0)] [] (tpB (nI L, s.2.1.1, s.2.1.2, t, nI p, nI e, v, 0, fp) by_ K) r h' := by
  obtain ⟨⟨s1, s2⟩, ⟨b1, b2⟩, s3, s4⟩ := s
  unfold pMem
  cases b2 with
  | true =>
    rw [if_pos rfl]
    refine ⟨some (.int 0), _, ⟨rfl, b1, true, t, nI p, nI e, v, K, hK.1, rfl⟩, ?_⟩
    refine ev_go 5 (fun _ => rfl) ?_
    refine ev_call (y' := 54) rfl rfl rfl rfl (sp_fail xs _ K by_ b1 true (nI L) t (nI p) (nI e) v 0 fp 4) ?_
    exact ev_end 1 rfl
  | false =>
    rw [if_neg (fun q => Bool.false_ne_true q)]
    obtain ⟨r, h', q1, q2⟩ := sp_num xs d K by_ D L e 1 99 (by decide) (by decide) he hK.1 hD b1 true t (nI p) v fp
    have pre : ∀ (r2 : Option Value) (R : MH), Ev xs (d + 3) 48 25 [some (.ref 0)] r.toList h' r2 R → Ev xs (d + 3) 48 0 [some (.ref 0)] [] (tpB (nI L, b1, false, t, nI p, nI e, v, 0, fp) by_ K) r2 R := by
      intro r2 R hr
      refine ev_go 9 (h1 := tpB (nI L, b1, true, t, nI p, nI e, v, 0, fp) by_ K) (fun _ => rfl) ?_
      refine ev_call (y' := 51) rfl rfl rfl rfl (q2) ?_
      rw [show List.drop (infT 51).1 ([.int (Int8.ofInt 99).toInt32, .int (Int32.ofInt 1), .ref 0] : List Value) = [] from rfl, List.append_nil]
      exact hr
    cases hp : pNum D L e 1 99 none with
    | inl f =>
      rw [hp] at q1
      obtain ⟨e1, e2⟩ := q1
      subst e1
      exact ⟨some (.int 0), h', ⟨rfl, e2⟩, pre _ _ (ev_end 3 rfl)⟩
    | inr w =>
      obtain ⟨w, e2⟩ := w
      rw [hp] at q1
      obtain ⟨e1, e3⟩ := q1
      subst e1
      subst e3
      have hb := pNum_b he hp
      refine ⟨some (.int 1), _, ⟨rfl, hb.2.1, nI 2, nI (tkP D L e), nI w, ((K.1.1, nI w, K.1.2.2), K.2), ?_, rfl⟩, pre _ _ (ev_end 8 rfl)⟩
      exact ⟨hK.1, hK.2.1, rfl, hK.2.2.2⟩
theorem sp_rbar (hD : byD D L by_) (p e k : Nat) (he : e ≤ L) (s : PS) (K : CK) (hK : rep K s) (t v fp : Int32) : ∃ (r : Option Value) (h' : MH), bdyP L by_ fp (pBar D L p e k s) r h' ∧ Ev xs (d + 3) 49 0 [some (.ref 0), some (.int (nI k)), none] [] (tpB (nI L, s.2.1.1, s.2.1.2, t, nI p, nI e, v, 0, fp) by_ K) r h' := by
  have eB := hK.2.2.2.2.1
  have h5 := hK.2.2.2.2.2.2.2.1
  unfold pBar
  by_cases c5 : s.2.2.1.length < 5
  · rw [if_pos c5]
    obtain ⟨r1, h1, a1, a2⟩ := sp_num xs d K by_ D L e 0 39 (by decide) (by decide) he hK.1 hD s.2.1.1 s.2.1.2 t (nI p) v fp
    have pre : ∀ (r2 : Option Value) (R : MH), Ev xs (d + 3) 49 24 [some (.ref 0), some (.int (nI k)), none] r1.toList h1 r2 R → Ev xs (d + 3) 49 0 [some (.ref 0), some (.int (nI k)), none] [] (tpB (nI L, s.2.1.1, s.2.1.2, t, nI p, nI e, v, 0, fp) by_ K) r2 R := by
      intro r2 R hr
      refine ev_go 4 (fun _ => rfl) ?_
      refine ev_ic_lt rfl rfl (fun _ => ?_) (fun n => absurd (by show K.1.2.2.2.1 < nI 5; rw [eB]; exact nI_lt c5 (by omega)) n)
      refine ev_go 3 (fun _ => rfl) ?_
      refine ev_call (y' := 51) rfl rfl rfl rfl (a2) ?_
      rw [show List.drop (infT 51).1 ([.int (Int8.ofInt 39).toInt32, .int (Int32.ofInt 0), .ref 0] : List Value) = [] from rfl, List.append_nil]
      exact hr
    cases hp : pNum D L e 0 39 none with
    | inl f =>
      rw [hp] at a1
      obtain ⟨e1, e2⟩ := a1
      subst e1
      exact ⟨some (.int 0), h1, ⟨rfl, e2⟩, pre _ _ (ev_end 3 rfl)⟩
    | inr w =>
      obtain ⟨a, e2⟩ := w
      rw [hp] at a1
      obtain ⟨e1, e3⟩ := a1
      subst e1
      subst e3
      have hb := pNum_b he hp
      dsimp only
      obtain ⟨r2, h2, a3, a4⟩ := sp_num xs d K by_ D L e2 1 9 (by decide) (by decide) hb.2.1 hK.1 hD s.2.1.1 s.2.1.2 (nI 2) (nI (tkP D L e)) (nI a) fp
      have pre2 : ∀ (r3 : Option Value) (R : MH), Ev xs (d + 3) 49 41 [some (.ref 0), some (.int (nI k)), some (.int (nI a))] r2.toList h2 r3 R → Ev xs (d + 3) 49 0 [some (.ref 0), some (.int (nI k)), none] [] (tpB (nI L, s.2.1.1, s.2.1.2, t, nI p, nI e, v, 0, fp) by_ K) r3 R := by
        intro r3 R hr
        refine pre r3 R ?_
        show Ev _ _ _ _ _ [.int 1] _ _ _
        refine ev_go 7 (fun _ => rfl) ?_
        refine ev_call (y' := 51) rfl rfl rfl rfl (a4) ?_
        rw [show List.drop (infT 51).1 ([.int (Int8.ofInt 9).toInt32, .int (Int32.ofInt 1), .ref 0] : List Value) = [] from rfl, List.append_nil]
        exact hr
      cases hp2 : pNum D L e2 1 9 none with
      | inl f =>
        rw [hp2] at a3
        obtain ⟨e1, e3⟩ := a3
        subst e1
        exact ⟨some (.int 0), h2, ⟨rfl, e3⟩, pre2 _ _ (ev_end 3 rfl)⟩
      | inr w =>
        obtain ⟨c, e4⟩ := w
        rw [hp2] at a3
        obtain ⟨e1, e3⟩ := a3
        subst e1
        subst e3
        have hb2 := pNum_b hb.2.1 hp2
        have hR := rep_B (k := k) (a := a) (c := c) hK c5
        refine ⟨some (.int 1), _, ⟨rfl, hb2.2.1, nI 2, nI (tkP D L e2), nI c, addBK K s.2.2.1.length (nI k) (nI a) (nI c), hR, rfl⟩, pre2 _ _ ?_⟩
        show Ev _ _ _ _ _ [.int 1] _ _ _
        refine ev_go 7 (fun _ => rfl) ?_
        refine ev_cT xs _ by_ (y' := 11) (As := [.int (nI k), .int (nI a), .int (nI c)]) (K' := addBK K s.2.2.1.length (nI k) (nI a) (nI c)) rfl rfl rfl rfl rfl three_i (CL6 hK.1) (CL6 hR.1) (sp_addBK xs _ K s.2.2.1.length (nI k) (nI a) (nI c) eB c5 hK.1) (Or.inl rfl) ?_
        exact ev_end 2 rfl
  · rw [if_neg c5]
    refine ⟨some (.int 0), _, ⟨rfl, s.2.1.1, s.2.1.2, t, nI p, nI e, v, K, hK.1, rfl⟩, ?_⟩
    refine ev_go 4 (fun _ => rfl) ?_
    refine ev_ic_lt rfl rfl (fun n => absurd n (by show ¬ K.1.2.2.2.1 < nI 5; rw [eB]; exact nI_nlt (by omega) (by omega))) (fun _ => ?_)
    refine ev_go 2 (fun _ => rfl) ?_
    refine ev_call (y' := 54) rfl rfl rfl rfl (sp_fail xs _ K by_ s.2.1.1 s.2.1.2 (nI L) t (nI p) (nI e) v 0 fp 5) ?_
    exact ev_end 1 rfl
end TL

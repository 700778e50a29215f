/-! The Tape: all lines, the end; text -/
/-- phases brought home -/
def hmS (s : PS) : PS := (s.1, s.2.1, s.2.2.1.map (fun q => (q.1, q.2.1 % (2 * s.1.1), q.2.2)), s.2.2.2)
def hmK (K : CK) (B : Nat) : CK := (K.1, (K.2.1.1, mapUp (fun x => rmI x (2 * K.1.1)) B K.2.1.2.1, K.2.1.2.2), K.2.2)
theorem mapUp_lt {f : Int32 → Int32} {n j : Nat} {l : List Int32} {x : Int32} (h : j < n) (hx : l[j]? = some x) : (mapUp f n l)[j]? = some (f x) := by
  have hl := (List.getElem?_eq_some_iff.mp hx).1
  unfold mapUp
  rw [List.getElem?_append_left (by rw [List.length_map, List.length_take]; omega), List.getElem?_map, List.getElem?_take_of_lt h, hx]
  rfl
theorem rep_home {K : CK} {s : PS} (h : rep K s) (hc : 1 ≤ s.1.1) (hc2 : s.1.1 ≤ 20) (hp : ∀ (b : Nat) (q : Nat × Nat × Nat), s.2.2.1[b]? = some q → q.2.1 ≤ 39) : rep (hmK K s.2.2.1.length) (hmS s) := by
  obtain ⟨⟨g1, g2, g3⟩, e1, e2, e3, e4, e5, e6, h5, h6, hB, hT⟩ := h
  have el : (hmS s).2.2.1.length = s.2.2.1.length := List.length_map _
  refine ⟨⟨g1, mapUp_len.trans g2, g3⟩, e1, e2, e3, by rw [el]; exact e4, e5, e6, by rw [el]; exact h5, h6, fun b q hq => ?_, hT⟩
  have hq : (s.2.2.1.map (fun q => (q.1, q.2.1 % (2 * s.1.1), q.2.2)))[b]? = some q := hq
  rw [List.getElem?_map] at hq
  obtain ⟨q0, hq0, rfl⟩ := Option.map_eq_some_iff.mp hq
  have hb := (List.getElem?_eq_some_iff.mp hq0).1
  obtain ⟨a1, a2, a3⟩ := hB b q0 hq0
  have hp0 := hp b q0 hq0
  refine ⟨a1, ?_, a3⟩
  show (mapUp (fun x => rmI x (2 * K.1.1)) s.2.2.1.length K.2.1.2.1)[b]? = _
  rw [mapUp_lt hb a2, e1, two_nI, rmI_nI (by omega) (by omega) (by omega)]
section TA
variable (xs : List Int32) (d : Nat) (by_ : List Int32) (D : Nat → Nat) (L : Nat)
theorem sp_hmK (K : CK) (B : Nat) (e : K.1.2.2.2.1 = nI B) (hB : B ≤ 5) (hl : CL K) (hw : 0 < 2 * K.1.1) : Ev xs (d + 2) 14 0 [some (.ref 0), none] [] (bH 0 K) none (bH 0 (hmK K B)) := by
  obtain ⟨⟨l1, l2, l3, l4, l5, l6, l7, l8⟩, ⟨r1, r2, r3, r4, r5, r6, r7, r8, r9, r10⟩, rw2⟩ := K
  dsimp only at e
  subst e
  exact sp_home xs d l1 l2 l3 l5 l6 l7 l8 r1 r2 r3 r4 r5 r6 r7 r8 r9 r10 rw2 B hB hl.2.1 hw
/-- are a Talk's barges there -/
def tkO (s : PS) (q : Nat × Nat × Nat) : Bool := decide (q.1 < s.2.2.1.length) && decide (q.2.1 < s.2.2.1.length)
theorem has_ltB {a B : Nat} (ha : a < 2 ^ 31) (hB : B < 2 ^ 31) : hasI (nI a) (nI B) = decide (a < B) := by
  unfold hasI
  rw [decide_eq_true (nI_pos ha), Bool.true_and]
  by_cases c : a < B
  · rw [decide_eq_true c, decide_eq_true (nI_ge c hB)]
  · rw [decide_eq_false c, decide_eq_false (fun q => q (nI_le (by omega) ha))]
def okQ (s : PS) : Prop := (1 ≤ s.1.1 ∧ s.1.1 ≤ 20) ∧ (∀ (b : Nat) (q : Nat × Nat × Nat), s.2.2.1[b]? = some q → q.2.1 ≤ 39) ∧ ∀ (t : Nat) (q : Nat × Nat × Nat), s.2.2.2[t]? = some q → q.1 ≤ 4 ∧ q.2.1 ≤ 4
def finP (L : Nat) (by_ : List Int32) (s : PS) (c m : Bool) (t t1 t2 v fp : Int32) (q : Bool) (h : MH) : Prop := match q with
  | true => ∃ K, rep K (hmS s) ∧ h = tpB (nI L, c, m, t, t1, t2, v, 0, fp) by_ K
  | false => FH L by_ (6, L) h
theorem lp_fin (s : PS) (K : CK) (hK : rep K s) (hQ : okQ s) (c m : Bool) (t t2 v fp : Int32) : ∀ n i, i + n = s.2.2.2.length → ∀ z2 : Option Value, ∃ h', finP L by_ s c m t (nI L) t2 v fp ((s.2.2.2.drop i).all (tkO s)) h' ∧ Ev xs (d + 3) 53 2 [some (.ref 0), some (.int (nI i)), z2] [] (tpB (nI L, c, m, t, nI L, t2, v, 0, fp) by_ K) none h' := by
  obtain ⟨hcl, e1, e2, e3, e4, e5, e6, h5, h6, hB, hT⟩ := hK
  have hc6 := CL6 hcl
  have hq1 := hQ.1.1
  have hq2 := hQ.1.2
  intro n
  induction n with
  | zero =>
    intro i hi z2
    have e : i = s.2.2.2.length := by omega
    subst e
    rw [List.drop_length]
    have hr := rep_home ⟨hcl, e1, e2, e3, e4, e5, e6, h5, h6, hB, hT⟩ hQ.1.1 hQ.1.2 hQ.2.1
    refine ⟨_, ⟨hmK K s.2.2.1.length, hr, rfl⟩, ?_⟩
    refine ev_go 4 (fun _ => rfl) ?_
    refine ev_ic_ge rfl rfl (fun _ => ?_) (fun n => absurd (by show K.1.2.2.2.2.1 ≤ nI s.2.2.2.length; rw [e5]; exact nI_le (Nat.le_refl _) (by omega)) n)
    refine ev_go 2 (fun _ => rfl) ?_
    refine ev_cT xs _ by_ (y' := 14) (As := []) (K' := hmK K s.2.2.1.length) rfl rfl rfl rfl rfl nil_i hc6 hc6 (sp_hmK xs _ K s.2.2.1.length e4 h5 hcl (by rw [e1, two_nI]; exact nI_lt (a := 0) (by omega) (by omega))) (Or.inl rfl) ?_
    exact ev_end 1 rfl
  | succ n ih =>
    intro i hi z2
    obtain ⟨q, hq⟩ : ∃ q, s.2.2.2[i]? = some q := ⟨_, List.getElem?_eq_getElem (by omega)⟩
    have hTi := hT i q hq
    have hQi := hQ.2.2 i q hq
    have ed : (s.2.2.2.drop i).all (tkO s) = (tkO s q && (s.2.2.2.drop (i + 1)).all (tkO s)) := by
      rw [List.drop_eq_getElem_cons (by omega), List.all_cons]
      congr 2
      exact (List.getElem?_eq_some_iff.mp hq).2
    rw [ed]
    unfold tkO
    have hb1 := sp_hasBC xs (d + 2) K (nI q.1)
    have hb2 := sp_hasBC xs (d + 2) K (nI q.2.1)
    rw [e4, has_ltB (by omega) (by omega)] at hb1 hb2
    have hcc : HasC (tpB (nI L, c, m, t, nI L, t2, v, 0, fp) by_ K) 2 K := by
      rw [tp_dec]
      exact has_C rfl hc6
    have at12 : (tpB (nI L, c, m, t, nI L, t2, v, 0, fp) by_ K)[2 + (12 + i)]? = some (tkc (nI q.1, nI q.2.1, nI q.2.2, 0, 0, false, 0, 0, 0, 0)) := (hcc.2 (12 + i) (by omega)).trans (bH_tk hTi)
    have bad : ∀ z2, Ev xs (d + 3) 53 51 [some (.ref 0), some (.int (nI i)), z2] [] (tpB (nI L, c, m, t, nI L, t2, v, 0, fp) by_ K) none (tpB (nI L, c, m, t, nI L, t2, v, nI 6, nI L) by_ K) := by
      intro z2
      refine ev_go 2 (fun _ => rfl) ?_
      refine ev_call (y' := 54) rfl rfl rfl rfl (sp_fail xs _ K by_ c m (nI L) t (nI L) t2 v 0 fp 6) ?_
      exact ev_end 2 rfl
    have pre : ∀ (R : MH), Ev xs (d + 3) 53 34 [some (.ref 0), some (.int (nI i)), some (.ref (2 + (12 + i)))] [.int (bI (decide (q.1 < s.2.2.1.length)))] (tpB (nI L, c, m, t, nI L, t2, v, 0, fp) by_ K) none R → Ev xs (d + 3) 53 2 [some (.ref 0), some (.int (nI i)), z2] [] (tpB (nI L, c, m, t, nI L, t2, v, 0, fp) by_ K) none R := by
      intro R hr
      refine ev_go 4 (fun _ => rfl) ?_
      refine ev_ic_ge rfl rfl (fun n => absurd n (by show ¬ K.1.2.2.2.2.1 ≤ nI i; rw [e5]; exact nI_ge (by omega) (by omega))) (fun _ => ?_)
      refine ev_go 4 (fun _ => rfl) ?_
      refine ev_aald rfl (hcc.2 4 (by decide)) (by decide) (mm_ix_nI (n := i) (by omega)) (bR_at (by omega)) ?_
      refine ev_go 4 (fun _ => rfl) ?_
      refine ev_gfT rfl rfl at12 rfl ?_
      refine ev_cT xs _ by_ (y' := 3) (As := [.int (nI q.1)]) (K' := K) rfl rfl rfl rfl rfl one_i hc6 hc6 hb1 (Or.inr ⟨_, rfl⟩) ?_
      exact hr
    by_cases q1 : q.1 < s.2.2.1.length
    · rw [decide_eq_true q1] at pre ⊢
      by_cases q2 : q.2.1 < s.2.2.1.length
      · rw [decide_eq_true q2] at hb2 ⊢
        obtain ⟨h', g1, g2⟩ := ih (i + 1) (by omega) (some (.ref (2 + (12 + i))))
        refine ⟨h', g1, pre _ ?_⟩
        refine ev_go 4 (fun _ => rfl) ?_
        refine ev_gfT rfl rfl at12 rfl ?_
        refine ev_cT xs _ by_ (y' := 3) (As := [.int (nI q.2.1)]) (K' := K) rfl rfl rfl rfl rfl one_i hc6 hc6 hb2 (Or.inr ⟨_, rfl⟩) ?_
        refine ev_go 3 (ls' := [some (.ref 0), some (.int (nI i + Int32.ofInt 1)), some (.ref (2 + (12 + i)))]) (fun _ => rfl) ?_
        rw [nI_inc]
        exact g2
      · rw [decide_eq_false q2] at hb2 ⊢
        refine ⟨_, ⟨c, m, t, nI L, t2, v, K, hcl, rfl⟩, pre _ ?_⟩
        refine ev_go 4 (fun _ => rfl) ?_
        refine ev_gfT rfl rfl at12 rfl ?_
        refine ev_cT xs _ by_ (y' := 3) (As := [.int (nI q.2.1)]) (K' := K) rfl rfl rfl rfl rfl one_i hc6 hc6 hb2 (Or.inr ⟨_, rfl⟩) ?_
        refine ev_go 1 (fun _ => rfl) (bad _)
    · rw [decide_eq_false q1] at pre ⊢
      refine ⟨_, ⟨c, m, t, nI L, t2, v, K, hcl, rfl⟩, pre _ ?_⟩
      refine ev_go 1 (fun _ => rfl) (bad _)
theorem sp_fin (s : PS) (K : CK) (hK : rep K s) (hQ : okQ s) (c m : Bool) (t t2 v fp : Int32) : ∃ h', finP L by_ s c m t (nI L) t2 v fp (s.2.2.2.all (tkO s)) h' ∧ Ev xs (d + 3) 53 0 [some (.ref 0), none, none] [] (tpB (nI L, c, m, t, nI L, t2, v, 0, fp) by_ K) none h' := by
  obtain ⟨h', q1, q2⟩ := lp_fin xs d by_ L s K hK hQ c m t t2 v fp s.2.2.2.length 0 (by omega) none
  rw [List.drop_zero] at q1
  exact ⟨h', q1, ev_go 2 (fun _ => rfl) q2⟩
/-! what is told stays within its bounds -/
theorem okQ_cut {s : PS} {p e : Nat} {w : PS × Nat} (he : e ≤ L) (h : okQ s) (q : pCut D L p e s = .inr w) : okQ w.1 ∧ e ≤ w.2 ∧ w.2 ≤ L := by
  unfold pCut at q
  split at q
  · cases q
  · split at q
    · cases q
    · rename_i v e2 hp
      cases q
      have hb := pNum_b he hp
      exact ⟨⟨⟨by show 1 ≤ v; omega, hb.2.2.2.1⟩, h.2⟩, hb.1, hb.2.1⟩
theorem okQ_mem {s : PS} {p e : Nat} {w : PS × Nat} (he : e ≤ L) (h : okQ s) (q : pMem D L p e s = .inr w) : okQ w.1 ∧ e ≤ w.2 ∧ w.2 ≤ L := by
  unfold pMem at q
  split at q
  · cases q
  · split at q
    · cases q
    · rename_i v e2 hp
      cases q
      have hb := pNum_b he hp
      exact ⟨⟨h.1, h.2⟩, hb.1, hb.2.1⟩
theorem okQ_bar {s : PS} {p e k : Nat} {w : PS × Nat} (he : e ≤ L) (h : okQ s) (q : pBar D L p e k s = .inr w) : okQ w.1 ∧ e ≤ w.2 ∧ w.2 ≤ L := by
  unfold pBar at q
  split at q
  · split at q
    · cases q
    · rename_i a e2 hp
      have hb := pNum_b he hp
      split at q
      · cases q
      · rename_i b e3 hp2
        have hb2 := pNum_b hb.2.1 hp2
        cases q
        refine ⟨⟨h.1, fun j u hu => ?_, h.2.2⟩, by show e ≤ e3; omega, hb2.2.1⟩
        rcases snoc_at hu with ⟨-, c2⟩ | ⟨-, c2⟩
        · exact h.2.1 j u c2
        · rw [c2]
          exact hb.2.2.2.1
  · cases q
theorem okQ_tlk {s : PS} {p e : Nat} {w : PS × Nat} (he : e ≤ L) (h : okQ s) (q : pTlk D L p e s = .inr w) : okQ w.1 ∧ e ≤ w.2 ∧ w.2 ≤ L := by
  unfold pTlk at q
  split at q
  · split at q
    · cases q
    · rename_i a e2 hp
      have hb := pNum_b he hp
      split at q
      · cases q
      · rename_i b e3 hp2
        have hb2 := pNum_b hb.2.1 hp2
        split at q
        · cases q
        · rename_i c e4 hp3
          have hb3 := pNum_b hb2.2.1 hp3
          cases q
          refine ⟨⟨h.1, h.2.1, fun j u hu => ?_⟩, by show e ≤ e4; omega, hb3.2.1⟩
          rcases snoc_at hu with ⟨-, c2⟩ | ⟨-, c2⟩
          · exact h.2.2 j u c2
          · rw [c2]
            exact ⟨hb.2.2.2.1, hb2.2.2.2.1⟩
  · cases q
theorem okQ_lin {s : PS} {k p e : Nat} {w : PS × Nat} (he : e ≤ L) (h : okQ s) (q : pLin D L k p e s = .inr w) : okQ w.1 ∧ e ≤ w.2 ∧ w.2 ≤ L := by
  unfold pLin at q
  split at q
  · split at q
    · cases q
    · rename_i s2 e2 hp
      have hb : okQ s2 ∧ e ≤ e2 ∧ e2 ≤ L := by
        unfold pBdy at hp
        split at hp
        · exact okQ_cut D L he h hp
        · split at hp
          · exact okQ_mem D L he h hp
          · split at hp
            · exact okQ_tlk D L he h hp
            · exact okQ_bar D L he h hp
      split at q
      · cases q
      · rename_i e3 hp2
        have hb2 := pStp_b hb.2.2 hp2
        cases q
        exact ⟨hb.1, by show e ≤ e3; omega, hb2.2⟩
  · cases q
/-- what readAll leaves -/
def allP (L : Nat) (by_ : List Int32) (q : PF ⊕ (Nat × PS)) (r : Option Value) (h : MH) : Prop := match q with
  | .inl f => (∃ x, r = some (.int x)) ∧ f.1 ≠ 0 ∧ f.1 ≤ 6 ∧ FH L by_ f h
  | .inr (n, s) => r = some (.int (nI n)) ∧ ∃ (c m : Bool) (t t1 t2 v : Int32) (K : CK), rep K (hmS s) ∧ h = tpB (nI L, c, m, t, t1, t2, v, 0, 0) by_ K
/-- a fault's number -/
def fOK (f : PF) : Prop := f.1 ≠ 0 ∧ f.1 ≤ 6 ∧ f.2 ≤ 160
theorem tok_ft {e : Nat} {f : PF} (hL : L ≤ 160) (he : e ≤ L) (q : pTok D L e = .inl f) : fOK f := by
  have := tkP_b (D := D) he
  unfold pTok at q
  split at q
  · cases q
    exact ⟨fun q => (by cases q), by show 1 ≤ 6; omega, by show tkP D L e ≤ 160; omega⟩
  · cases q
theorem num_ft {e lo hi : Nat} {nt : Option Nat} {f : PF} (hL : L ≤ 160) (he : e ≤ L) (q : pNum D L e lo hi nt = .inl f) : fOK f := by
  unfold pNum at q
  split at q
  · rename_i f2 hp
    cases q
    exact tok_ft D L hL he hp
  · rename_i k p e2 hp
    have hb := pTok_b he hp
    split at q
    · split at q
      · split at q
        · cases q
          exact ⟨fun q => (by cases q), by show 4 ≤ 6; omega, by show p ≤ 160; omega⟩
        · cases q
      · cases q
        exact ⟨fun q => (by cases q), by show 3 ≤ 6; omega, by show p ≤ 160; omega⟩
    · cases q
      exact ⟨fun q => (by cases q), by show 2 ≤ 6; omega, by show p ≤ 160; omega⟩
theorem stp_ft {e : Nat} {f : PF} (hL : L ≤ 160) (he : e ≤ L) (q : pStp D L e = .inl f) : fOK f := by
  unfold pStp at q
  split at q
  · rename_i f2 hp
    cases q
    exact tok_ft D L hL he hp
  · rename_i k p e2 hp
    have hb := pTok_b he hp
    split at q
    · cases q
    · cases q
      exact ⟨fun q => (by cases q), by show 2 ≤ 6; omega, by show p ≤ 160; omega⟩
theorem bdy_ft {s : PS} {p e k : Nat} {f : PF} (hL : L ≤ 160) (he : e ≤ L) (hp0 : p ≤ L) (q : pBdy D L p e k s = .inl f) : fOK f := by
  unfold pBdy at q
  split at q
  · unfold pCut at q
    split at q
    · cases q
      exact ⟨fun q => (by cases q), by show 4 ≤ 6; omega, by show p ≤ 160; omega⟩
    · split at q
      · rename_i f2 hp
        cases q
        exact num_ft D L hL he hp
      · cases q
  · split at q
    · unfold pMem at q
      split at q
      · cases q
        exact ⟨fun q => (by cases q), by show 4 ≤ 6; omega, by show p ≤ 160; omega⟩
      · split at q
        · rename_i f2 hp
          cases q
          exact num_ft D L hL he hp
        · cases q
    · split at q
      · unfold pTlk at q
        split at q
        · split at q
          · rename_i f2 hp
            cases q
            exact num_ft D L hL he hp
          · rename_i a e2 hp
            have hb := pNum_b he hp
            split at q
            · rename_i f2 hp2
              cases q
              exact num_ft D L hL hb.2.1 hp2
            · rename_i b e3 hp2
              have hb2 := pNum_b hb.2.1 hp2
              split at q
              · rename_i f2 hp3
                cases q
                exact num_ft D L hL hb2.2.1 hp3
              · cases q
        · cases q
          exact ⟨fun q => (by cases q), by show 5 ≤ 6; omega, by show p ≤ 160; omega⟩
      · unfold pBar at q
        split at q
        · split at q
          · rename_i f2 hp
            cases q
            exact num_ft D L hL he hp
          · rename_i a e2 hp
            have hb := pNum_b he hp
            split at q
            · rename_i f2 hp2
              cases q
              exact num_ft D L hL hb.2.1 hp2
            · cases q
        · cases q
          exact ⟨fun q => (by cases q), by show 5 ≤ 6; omega, by show p ≤ 160; omega⟩
theorem lin_ft {s : PS} {k p e : Nat} {f : PF} (hL : L ≤ 160) (he : e ≤ L) (hp0 : p ≤ L) (h : okQ s) (q : pLin D L k p e s = .inl f) : fOK f := by
  unfold pLin at q
  split at q
  · split at q
    · rename_i f2 hp
      cases q
      exact bdy_ft D L hL he hp0 hp
    · rename_i s2 e2 hp
      have hb : okQ s2 ∧ e ≤ e2 ∧ e2 ≤ L := by
        unfold pBdy at hp
        split at hp
        · exact okQ_cut D L he h hp
        · split at hp
          · exact okQ_mem D L he h hp
          · split at hp
            · exact okQ_tlk D L he h hp
            · exact okQ_bar D L he h hp
      split at q
      · rename_i f2 hp2
        cases q
        exact stp_ft D L hL hb.2.2 hp2
      · cases q
  · cases q
    exact ⟨fun q => (by cases q), by show 2 ≤ 6; omega, by show p ≤ 160; omega⟩
end TA

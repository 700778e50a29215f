/-! The Tape: readAll; BargeTalks: text -/
def emK (K : CK) : CK := ((10, 40, 0, 0, 0, 0, K.1.2.2.2.2.2.2), K.2)
theorem rep_em {K : CK} (h : CL K) : rep (emK K) p0 := ⟨h, rfl, rfl, rfl, rfl, rfl, rfl, Nat.zero_le _, Nat.zero_le _, fun _ _ q => (by cases q), fun _ _ q => (by cases q)⟩
theorem okQ_0 : okQ p0 := ⟨⟨by decide, by decide⟩, fun _ _ q => (by cases q), fun _ _ q => by cases q⟩
section TX
variable (xs : List Int32) (d : Nat) (by_ : List Int32) (D : Nat → Nat) (L : Nat)
theorem sp_emK (K : CK) : Ev xs d 1 0 [some (.ref 0)] [] (bH 0 K) none (bH 0 (emK K)) := by
  obtain ⟨⟨l1, l2, l3, l4, l5, l6, l7, l8⟩, ⟨r1, r2, r3, r4, r5, r6, r7, r8, r9, r10⟩, rw2⟩ := K
  exact sp_empty xs d l1 l2 l3 l4 l5 l6 l7 l8 r1 r2 r3 r4 r5 r6 r7 r8 r9 r10 rw2
theorem lp_all6 (hD : byD D L by_) : ∀ m e n, L < e + m → e ≤ L → n ≤ e → ∀ (s : PS) (K : CK) (t t1 v : Int32), rep K s → okQ s → ∃ (r : Option Value) (h' : MH), allP L by_ (pAll D L m e n s) r h' ∧ Ev xs (d + 9) 43 34 [some (.ref 0), some (.int (nI n))] [] (tpB (nI L, s.2.1.1, s.2.1.2, t, t1, nI e, v, 0, 0) by_ K) r h' := by
  have hL := hD.1
  intro m
  induction m with
  | zero => intro e n h1 h2; omega
  | succ m ih =>
    intro e n h1 he hne s K t t1 v hK hQ
    have hP := tkP_b (D := D) he
    have hE := tkE_b (D := D) hP.2
    have h4 := tsK_4 D L (tkP D L e)
    have hn := sp_next xs (d + 7) K by_ D L e he hD s.2.1.1 s.2.1.2 t t1 v 0 0
    unfold pAll
    cases hb : tkB D L (tkP D L e) with
    | true =>
      rw [hb] at hn
      rw [tok_t D L hb]
      refine ⟨some (.int (nI n)), _, ⟨⟨_, rfl⟩, fun q => (by cases q), by show 1 ≤ 6; omega, s.2.1.1, s.2.1.2, nI (tsK D L (tkP D L e)), nI (tkP D L e), nI (tkE D L (tkP D L e)), v, K, hK.1, rfl⟩, ?_⟩
      refine ev_go 3 (fun _ => rfl) ?_
      refine ev_ic_gt rfl rfl (fun n => absurd n (nI_nlt (by omega) (by omega))) (fun _ => ?_)
      refine ev_go 1 (fun _ => rfl) ?_
      refine ev_call (y' := 55) rfl rfl rfl rfl (hn) ?_
      exact ev_end 6 rfl
    | false =>
      rw [hb] at hn
      have htf := tok_f D L hb
      have hpb := pTok_b he htf
      rw [htf]
      dsimp only
      by_cases c0 : tsK D L (tkP D L e) = 0
      · rw [if_pos c0]
        have hPL : tkP D L e = L := by
          by_cases c : tkP D L e < L
          · exfalso
            unfold tsK at c0
            rw [if_pos c] at c0
            unfold cls at c0
            revert c0
            repeat' split
            all_goals intro q; cases q
          · omega
        rw [c0, hPL] at hn
        obtain ⟨h', q1, q2⟩ := sp_fin xs (d + 5) by_ L s K hK hQ s.2.1.1 s.2.1.2 (nI 0) (nI (tkE D L L)) v 0
        have pre : Ev xs (d + 9) 43 34 [some (.ref 0), some (.int (nI n))] [] (tpB (nI L, s.2.1.1, s.2.1.2, t, t1, nI e, v, 0, 0) by_ K) (some (.int (nI n))) h' := by
          refine ev_go 3 (fun _ => rfl) ?_
          refine ev_ic_gt rfl rfl (fun n => absurd n (nI_nlt (by omega) (by omega))) (fun _ => ?_)
          refine ev_go 1 (fun _ => rfl) ?_
          refine ev_call (y' := 55) rfl rfl rfl rfl (hn) ?_
          refine ev_go 8 (fun _ => rfl) ?_
          refine ev_call (y' := 53) rfl rfl rfl rfl (q2) ?_
          exact ev_end 2 rfl
        unfold pFin
        have eA : (s.2.2.2.all fun q => decide (q.1 < s.2.2.1.length) && decide (q.2.1 < s.2.2.1.length)) = s.2.2.2.all (tkO s) := rfl
        rw [eA]
        cases hA : s.2.2.2.all (tkO s) with
        | true =>
          rw [hA] at q1
          obtain ⟨K2, e1, e2⟩ := q1
          exact ⟨_, _, ⟨rfl, s.2.1.1, s.2.1.2, nI 0, nI L, nI (tkE D L L), v, K2, e1, e2⟩, pre⟩
        | false =>
          rw [hA] at q1
          exact ⟨_, _, ⟨⟨_, rfl⟩, fun q => (by cases q), by show 6 ≤ 6; omega, q1⟩, pre⟩
      · rw [if_neg c0]
        obtain ⟨r, h', q1, q2⟩ := sp_rlin xs d by_ D L hD (tsK D L (tkP D L e)) (tkP D L e) (tkE D L (tkP D L e)) h4 hE.1 hE.2.1 s K hK v 0
        have pre : ∀ (r2 : Option Value) (R : MH), Ev xs (d + 9) 43 60 [some (.ref 0), some (.int (nI n))] r.toList h' r2 R → Ev xs (d + 9) 43 34 [some (.ref 0), some (.int (nI n))] [] (tpB (nI L, s.2.1.1, s.2.1.2, t, t1, nI e, v, 0, 0) by_ K) r2 R := by
          intro r2 R hr
          refine ev_go 3 (fun _ => rfl) ?_
          refine ev_ic_gt rfl rfl (fun n => absurd n (nI_nlt (by omega) (by omega))) (fun _ => ?_)
          refine ev_go 1 (fun _ => rfl) ?_
          refine ev_call (y' := 55) rfl rfl rfl rfl (hn) ?_
          refine ev_go 3 (fun _ => rfl) ?_
          refine ev_if_eq rfl rfl (fun n => absurd n (nI_ne0 (by omega) (by omega))) (fun _ => ?_)
          refine ev_go 1 (fun _ => rfl) ?_
          refine ev_call (y' := 44) rfl rfl rfl rfl (q2) ?_
          show Ev _ _ _ _ _ (r.toList ++ []) _ _ _
          rw [List.append_nil]
          exact hr
        cases hp : pLin D L (tsK D L (tkP D L e)) (tkP D L e) (tkE D L (tkP D L e)) s with
        | inl f =>
          have hf := lin_ft D L hL hE.2.1 hP.2 hQ hp
          rw [hp] at q1
          obtain ⟨e1, e2⟩ := q1
          subst e1
          obtain ⟨c, m2, t3, t4, t5, v3, K3, hK3, e3⟩ := e2
          subst e3
          refine ⟨some (.int (nI n)), _, ⟨⟨_, rfl⟩, hf.1, hf.2.1, c, m2, t3, t4, t5, v3, K3, hK3, rfl⟩, pre _ _ ?_⟩
          show Ev _ _ _ _ _ [.int 0] _ _ _
          refine ev_go 3 (fun _ => rfl) ?_
          refine ev_if_ne rfl rfl (fun _ => ?_) (fun n => absurd (nI_ne0 (Nat.pos_of_ne_zero hf.1) (by have := hf.2.1; omega)) n)
          exact ev_end 2 rfl
        | inr w =>
          have ho := okQ_lin D L hE.2.1 hQ hp
          obtain ⟨s2, e3⟩ := w
          rw [hp] at q1
          obtain ⟨e1, e2, t3, t4, v3, K3, hK3, e5⟩ := q1
          subst e1
          subst e5
          have hlt := hpb.2.2.2.1 c0
          dsimp only
          have ho2 : okQ s2 ∧ tkE D L (tkP D L e) ≤ e3 ∧ e3 ≤ L := ho
          obtain ⟨r5, h5, g1, g2⟩ := ih e3 (n + 1) (by omega) ho2.2.2 (by omega) s2 K3 t3 t4 v3 hK3 ho2.1
          refine ⟨r5, h5, g1, pre _ _ ?_⟩
          show Ev _ _ _ _ _ [.int 1] _ _ _
          refine ev_go 3 (ls' := [some (.ref 0), some (.int (nI n + Int32.ofInt 1))]) (fun _ => rfl) ?_
          rw [nI_inc]
          exact g2
theorem sp_all6 (hD : byD D L by_) (K : CK) (hK : CL K) (c m : Bool) (t t1 t2 v f fp : Int32) : ∃ (r : Option Value) (h' : MH), allP L by_ (pText D L) r h' ∧ Ev xs (d + 9) 43 0 [some (.ref 0), none] [] (tpB (nI L, c, m, t, t1, t2, v, f, fp) by_ K) r h' := by
  obtain ⟨r, h', q1, q2⟩ := lp_all6 xs d by_ D L hD (L + 1) 0 0 (by omega) (by omega) (by omega) p0 (emK K) t t1 v (rep_em hK) okQ_0
  refine ⟨r, h', q1, ?_⟩
  refine ev_go 2 (fun _ => rfl) ?_
  refine ev_cT xs _ by_ (y' := 1) (As := []) (K' := emK K) rfl rfl rfl rfl rfl nil_i (CL6 hK) (CL6 hK) (sp_emK xs _ K) (Or.inl rfl) ?_
  refine ev_go 17 (ls' := [some (.ref 0), some (.int (nI 0))]) (h1 := tpB (nI L, false, false, t, t1, nI 0, v, 0, 0) by_ (emK K)) (fun _ => rfl) ?_
  exact q2
end TX
section TX2
variable (xs : List Int32) (d : Nat) (now trial told im0 im1 : CK) (p : TP) (f : FP) (r : RS) (tr : Int32)
theorem tp_sh (by_ : List Int32) (K : CK) : shH 39 (tpB p by_ K) = tpO 39 p :: .inl (2, by_) :: bH 41 K := by
  show tpO 39 p :: .inl (2, by_) :: shH 39 (bH 2 K) = _
  rw [bH_sh]
theorem dec_tape : hCl now trial told im0 im1 p f r tr = ([clO tr] ++ (bH 1 (exK now) ++ (bH 19 (exK trial) ++ [.inr (100, [.ref 92, .ref 110]), .inl (1, [bI r.1.1, bI r.1.2])]))) ++ shH 39 (tpB p r.2.1 (exK told)) ++ (fgH 59 (exF f) ++ (clB r ++ (bH 92 (exK im0) ++ bH 110 (exK im1)))) := by
  rw [tp_sh]
  unfold hCl clA
  simp only [List.append_assoc, List.cons_append, List.nil_append]
/-- a call of the Tape's readAll -/
theorem ev_tape {y pc idx : Nat} {ls : ML} {rs r1 : Option Value} {h' : MH} {p' : TP} {K' : CK} (hf : fetT y pc = some (.invokevirtual idx)) (hs : mm_stp fldT (prmT xs) (d + 1) y (.invokevirtual idx) pc ls [.ref 39] (hCl now trial told im0 im1 p f r tr) = none) (hm : mthT y idx = some (43, true)) (hK : CL told) (hK' : CL K') (hv : Ev xs d 43 0 [some (.ref 0), none] [] (tpB p r.2.1 told) r1 (tpB p' r.2.1 K')) (hr1 : noRef r1 = true) (hr : Ev xs (d + 1) y (pc + 3) ls r1.toList (hCl now trial K' im0 im1 p' f r tr) rs h') : Ev xs (d + 1) y pc ls [.ref 39] (hCl now trial told im0 im1 p f r tr) rs h' := by
  have x1 : exK told = told := exK_eq (CL6 hK)
  have x2 : exK K' = K' := exK_eq (CL6 hK')
  rw [dec_tape] at hs ⊢
  rw [dec_tape] at hr
  refine ev_callB (n := 39) (ci := 3) (L := 20) (y' := 43) (As := []) (hb' := tpB p' r.2.1 (exK K')) (r1 := r1) hf hs hm rfl rfl nil_i rfl rfl rfl rfl rfl (by decide) rfl rfl ?_ hr1 ?_
  · rw [x1, x2]
    exact hv
  · rw [show List.drop (infT 43).1 ([.ref 39] : List Value) = [] from rfl, List.append_nil]
    exact hr
theorem rep_CN {K : CK} {s : PS} (h : rep K s) : CN K s.2.2.1.length s.2.2.2.length 0 := ⟨h.1, h.2.2.2.2.1, h.2.2.2.2.2.1, h.2.2.2.2.2.2.1, h.2.2.2.2.2.2.2.1, h.2.2.2.2.2.2.2.2.1, Nat.zero_le _⟩
def textP (now trial im0 im1 : CK) (f : FP) (r : RS) (tr : Int32) (q : PF ⊕ (Nat × PS)) (rs : Option Value) (h : MH) : Prop := match q with
  | .inl ft => rs = some (.int ((Int8.ofInt (-10)).toInt32 - nI ft.2)) ∧ ∃ (p' : TP) (K' : CK), CL K' ∧ p'.1 = nI 0 ∧ p'.2.2.2.2.2.2.2.1 = nI ft.1 ∧ h = hCl now trial K' im0 im1 p' f r tr
  | .inr (n, s) => rs = some (.int (nI n)) ∧ ∃ (p' : TP) (K' : CK), rep K' (hmS s) ∧ p'.1 = nI 0 ∧ p'.2.2.2.2.2.2.2.1 = nI 0 ∧ h = hCl (cpK now K' (hmS s).2.2.1.length (hmS s).2.2.2.length 0) trial K' im0 im1 p' f ((false, false), r.2) tr
theorem sp_text (D : Nat → Nat) (L : Nat) (hD : byD D L r.2.1) (e1 : p.1 = nI L) (hn : CL now) (hK : CL told) : ∃ (rs : Option Value) (h' : MH), textP now trial im0 im1 f r tr (pText D L) rs h' ∧ Ev xs (d + 10) 60 0 [some (.ref 0), none, none] [] (hCl now trial told im0 im1 p f r tr) rs h' := by
  obtain ⟨p1, c, m, t, t1, t2, v, ft, fp⟩ := p
  dsimp only at e1
  subst e1
  obtain ⟨r1, h1, q1, q2⟩ := sp_all6 xs d r.2.1 D L hD told hK c m t t1 t2 v ft fp
  cases hp : pText D L with
  | inl w =>
    rw [hp] at q1
    obtain ⟨⟨x, e1⟩, hw, hw6, c2, m2, t3, t4, t5, v3, K3, hK3, e2⟩ := q1
    subst e1
    subst e2
    refine ⟨_, _, ⟨rfl, (nI 0, c2, m2, t3, t4, t5, v3, nI w.1, nI w.2), K3, hK3, rfl, rfl, rfl⟩, ?_⟩
    refine ev_go 2 (fun _ => rfl) ?_
    refine ev_tape xs _ now trial told im0 im1 _ f r tr (p' := (nI L, c2, m2, t3, t4, t5, v3, nI w.1, nI w.2)) (K' := K3) rfl rfl rfl hK hK3 q2 rfl ?_
    refine ev_go 8 (fun _ => rfl) ?_
    refine ev_if_eq rfl rfl (fun n => absurd n (nI_ne0 (Nat.pos_of_ne_zero hw) (by omega))) (fun _ => ?_)
    exact ev_end 6 rfl
  | inr w =>
    obtain ⟨n, s⟩ := w
    rw [hp] at q1
    obtain ⟨e1, c2, m2, t3, t4, t5, v3, K3, hK3, e2⟩ := q1
    subst e1
    subst e2
    have hcn := rep_CN hK3
    have x1 : exK now = now := exK_eq (CL6 hn)
    have x2 : exK K3 = K3 := exK_eq (CL6 hK3.1)
    have x3 : cpK (exK now) (exK K3) (hmS s).2.2.1.length (hmS s).2.2.2.length 0 = exK (cpK now K3 (hmS s).2.2.1.length (hmS s).2.2.2.length 0) := by
      rw [x1, x2]
      exact (exK_eq (CL6 (CL_cp hcn.2.2.2.2.1 hcn.2.2.2.2.2.1 hcn.2.2.2.2.2.2 hn))).symm
    refine ⟨_, _, ⟨rfl, (nI 0, c2, m2, t3, t4, t5, v3, 0, 0), K3, hK3, rfl, rfl, rfl⟩, ?_⟩
    refine ev_go 2 (fun _ => rfl) ?_
    refine ev_tape xs _ now trial told im0 im1 _ f r tr (p' := (nI L, c2, m2, t3, t4, t5, v3, 0, 0)) (K' := K3) rfl rfl rfl hK hK3.1 q2 rfl ?_
    refine ev_go 14 (ls' := [some (.ref 0), some (.int (nI n)), none]) (st' := [.ref 41, .ref 1]) (h1 := hCl now trial K3 im0 im1 (nI 0, c2, m2, t3, t4, t5, v3, 0, 0) f r tr) (fun _ => rfl) ?_
    refine ev_callCC (n := 1) (m := 41) (K := exK now) (L := exK K3) (hmS s).2.2.1.length (hmS s).2.2.2.length 0 rfl rfl rfl rfl (has_now now trial K3 im0 im1 _ f _ tr) (has_told now trial K3 im0 im1 _ f _ tr) rfl hcn.2.2.2.2.1 hcn.2.2.2.2.2.1 hcn.2.2.2.2.2.2 (by rw [x1]; exact hn) (by rw [x2]; exact hK3.1) hcn.2.1 hcn.2.2.1 hcn.2.2.2.1 ?_
    rw [x3, put_now_told]
    refine ev_go 9 (fun _ => rfl) ?_
    refine ev_zast (L := [bI r.1.1, bI r.1.2]) (b := false) (k := 0) rfl (at_kept _ _ _ _ _ _ f r tr) rfl (Nat.le_of_ble_eq_true rfl) ?_
    rw [show ([bI r.1.1, bI r.1.2] : List Int32).set 0 (bI false) = [bI false, bI r.1.2] from rfl, set_kept]
    refine ev_go 9 (fun _ => rfl) ?_
    refine ev_zast (L := [bI false, bI r.1.2]) (b := false) (k := 1) rfl rfl rfl (Nat.le_of_ble_eq_true rfl) ?_
    rw [show ([bI false, bI r.1.2] : List Int32).set 1 (bI false) = [bI false, bI false] from rfl, set_kept]
    exact ev_end 7 rfl
end TX2

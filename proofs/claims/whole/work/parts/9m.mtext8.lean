/-! The reference's text -/
def kd0 : CK := ((10, 40, 0, 0, 0, 0, 0, 0), ([0, 0, 0, 0, 0], [0, 0, 0, 0, 0], [0, 0, 0, 0, 0], [0, 0, 0, 0, 0, 0], [0, 0, 0, 0, 0, 0], [0, 0, 0, 0, 0, 0], [0, 0, 0, 0, 0], [0, 0, 0, 0, 0], [0, 0, 0, 0, 0], [0, 0, 0, 0, 0, 0, 0, 0, 0, 0, 0, 0, 0, 0, 0, 0, 0, 0, 0, 0, 0, 0, 0, 0, 0]), [zT10, zT10, zT10, zT10, zT10, zT10])
theorem kd0_fl : ((List.replicate 87 (0 : Int32)).set 0 10).set 1 40 = flK kd0 := by decide +kernel
theorem rep_0 : repM kd0 p0 := by
  refine ⟨⟨⟨rfl, rfl, rfl, rfl, rfl, rfl, rfl, rfl, rfl, rfl, rfl⟩, rfl, rfl, rfl, rfl, rfl, rfl, Nat.zero_le _, Nat.zero_le _, fun _ _ q => (by cases q), fun _ _ q => (by cases q)⟩, fun t _ h => ?_⟩
  match t, h with
  | 0, _ => rfl
  | 1, _ => rfl
  | 2, _ => rfl
  | 3, _ => rfl
  | 4, _ => rfl
  | 5, _ => rfl
theorem hiOK_0 : hiOK p0 (-1) := by
  intro B hB
  constructor
  · intro _ t q hq
    cases hq
  · intro _
    rw [Int32.lt_iff_toInt_lt, nI_toInt (by omega), show (-1 : Int32).toInt = -1 by decide]
    omega
/-- where the reading ends -/
def endM (D : Nat → Nat) (L : Nat) (res : PF ⊕ (Nat × PS)) (n : Nat) (q : PZ) (dr : List Int32) : Prop := (∃ f, res = .inl f ∧ dr.length = 87 ∧ ∃ (hc hm : Bool) (hi : Int32), rdS D L hc hm hi (.inl f) q) ∨ ∃ (s : PS) (K : CK) (hi e va wr : Int32), res = pFin L n s ∧ okQ s ∧ dr = flK K ∧ repM K s ∧ hiOK s hi ∧ q = (s.2.1.1, s.2.1.2, hi, nI L, e, nI L, 0, va, 0, wr)
section MTX
variable (xs : List Int32) (d : Nat) (z : ZT) (nw eb wa ms mt : List Int32) (cc : C4) (D : Nat → Nat) (L : Nat)
theorem lp_mtx (hD : byD D L z.2.2.2.2.2.2.2.1) : ∀ m e n, L < e + m → e ≤ L → ∀ (s : PS) (K : CK) (hi : Int32) (q : PZ), okQ s → repM K s → hiOK s hi → rdS D L s.2.1.1 s.2.1.2 hi (.inr e) q → ∃ (q' : PZ) (dr' : List Int32) (n' : Nat), endM D L (pAll D L m e n s) n' q' dr' ∧ ∀ (rs : Option Value) (R : MH), Ev xs (d + 7) 128 44 [some (.ref 0), some (.int (nI n'))] [] (mH (zR z q' dr') nw eb wa ms mt cc) rs R → Ev xs (d + 7) 128 20 [some (.ref 0), some (.int (nI n))] [] (mH (zR z q (flK K)) nw eb wa ms mt cc) rs R := by
  have hL := hD.1
  intro m
  induction m with
  | zero => intro e n h1 h2; omega
  | succ m ih =>
    intro e n h1 he s K hi q hQ hK hh hq
    obtain ⟨-, hto⟩ := hq
    unfold tokS at hto
    unfold pAll
    cases ht : pTok D L e with
    | inl f =>
      have hf := tok_ft D L hL he ht
      have h20 : ¬ nI f.1 = 0 := nI_ne0 (Nat.pos_of_ne_zero hf.1) (by have := hf.2.1; omega)
      rw [ht] at hto
      obtain ⟨po, be, so, va, e2⟩ := hto
      subst e2
      refine ⟨_, flK K, n, Or.inl ⟨f, rfl, flK_len _, s.2.1.1, s.2.1.2, hi, hf, po, be, so, va, rfl⟩, fun rs R hr => ?_⟩
      refine ev_go 2 (fun _ => rfl) ?_
      refine ev_if_ne rfl rfl (fun _ => ?_) (fun n => absurd (h20) n)
      exact hr
    | inr w =>
      obtain ⟨k, p, e2⟩ := w
      have hpb := pTok_b he ht
      have hk4 : k ≤ 4 := by
        rw [hpb.2.2.2.2.1]
        exact tsK_4 D L p
      rw [ht] at hto
      obtain ⟨va, wr, e3, -⟩ := hto
      subst e3
      dsimp only
      by_cases c0 : k = 0
      · rw [if_pos c0]
        subst c0
        have hPL : p = L := by
          by_cases c : p < L
          · exfalso
            have hts := hpb.2.2.2.2.1
            unfold tsK at hts
            rw [if_pos c] at hts
            unfold cls at hts
            revert hts
            repeat' split
            all_goals intro w; cases w
          · omega
        subst hPL
        refine ⟨_, flK K, n, Or.inr ⟨s, K, hi, nI e2, va, wr, rfl, hQ, rfl, hK, hh, rfl⟩, fun rs R hr => ?_⟩
        exact ev_go 6 (fun _ => rfl) hr
      · rw [if_neg c0]
        obtain ⟨q2, dr2, m1, m2⟩ := sp_mlin xs d z nw eb wa ms mt cc D L hD k p e2 hpb.2.1 hpb.2.2.1 hk4 s hi va wr K hK hh
        have pre : ∀ (rs : Option Value) (R : MH), Ev xs (d + 7) 128 20 [some (.ref 0), some (.int (nI (n + 1)))] [] (mH (zR z q2 dr2) nw eb wa ms mt cc) rs R → Ev xs (d + 7) 128 20 [some (.ref 0), some (.int (nI n))] [] (mH (zR z (s.2.1.1, s.2.1.2, hi, nI L, nI e2, nI p, nI k, va, 0, wr) (flK K)) nw eb wa ms mt cc) rs R := by
          intro rs R hr
          refine ev_go 5 (fun _ => rfl) ?_
          refine ev_if_eq rfl rfl (fun n => absurd n (nI_ne0 (n := k) (by omega) (by omega))) (fun _ => ?_)
          refine ev_go 1 (fun _ => rfl) ?_
          refine ev_call (y' := 127) rfl rfl rfl rfl (m2) ?_
          refine ev_go 2 (ls' := [some (.ref 0), some (.int (nI n + Int32.ofInt 1))]) (fun _ => rfl) ?_
          rw [nI_inc]
          exact hr
        cases hp : pLin D L k p e2 s with
        | inl f =>
          rw [hp] at m1
          obtain ⟨hl, hc, hm, hi2, hf, po, be, so, va2, e4⟩ := m1
          have h20 : ¬ nI f.1 = 0 := nI_ne0 (Nat.pos_of_ne_zero hf.1) (by have := hf.2.1; omega)
          subst e4
          refine ⟨_, dr2, n + 1, Or.inl ⟨f, rfl, hl, hc, hm, hi2, hf, po, be, so, va2, rfl⟩, fun rs R hr => pre rs R ?_⟩
          refine ev_go 2 (fun _ => rfl) ?_
          refine ev_if_ne rfl rfl (fun _ => ?_) (fun n => absurd (h20) n)
          exact hr
        | inr w =>
          have ho := okQ_lin D L hpb.2.2.1 hQ hp
          obtain ⟨s2, e3⟩ := w
          rw [hp] at m1
          obtain ⟨K2, hi2, ed, hK2, hh2, hr2⟩ := m1
          subst ed
          have hlt := hpb.2.2.2.1 c0
          have ho2 : okQ s2 ∧ e2 ≤ e3 ∧ e3 ≤ L := ho
          dsimp only
          obtain ⟨q5, dr5, n5, u1, u2⟩ := ih e3 (n + 1) (by omega) ho2.2.2 s2 K2 hi2 q2 ho2.1 hK2 hh2 hr2
          exact ⟨q5, dr5, n5, u1, fun rs R hr => pre rs R (u2 rs R hr)⟩
theorem lp_fd (q : PZ) (dr : List Int32) (hl : dr.length = 87) (R : MH) (kk : ∀ zz, Ev xs d 113 21 [some (.ref 0), zz] [] (mH (zR z q (List.replicate 87 (0 : Int32))) nw eb wa ms mt cc) none R) : ∀ m t, t + m = 87 → Ev xs d 113 2 [some (.ref 0), some (.int (nI t))] [] (mH (zR z q (up (fun _ => (0 : Int32)) t dr)) nw eb wa ms mt cc) none R := by
  intro m
  induction m with
  | zero =>
    intro t ht
    have e : t = 87 := by omega
    subst e
    rw [up_all hl, List.map_const', List.length_range]
    refine ev_go 3 (fun _ => rfl) (kk _)
  | succ m ih =>
    intro t ht
    refine ev_go 2 (fun _ => rfl) ?_
    refine ev_ic_ge rfl rfl (fun n => absurd n (nI_ge (a := t) (b := 87) (by omega) (by omega))) (fun _ => ?_)
    refine ev_go 4 (fun _ => rfl) ?_
    refine ev_iastE rfl (L := up (fun _ => (0 : Int32)) t dr) (h2 := mH (zR z q (up (fun _ => (0 : Int32)) (t + 1) dr)) nw eb wa ms mt cc) rfl (mm_ix_nI (n := t) (by omega)) (by rw [up_len (by omega)]; omega) (by rw [← up_s (g := fun _ => (0 : Int32)) (l := dr) (t := t) (by omega)]; rfl) ?_
    refine ev_go 2 (ls' := [some (.ref 0), some (.int (nI t + Int32.ofInt 1))]) (fun _ => rfl) ?_
    rw [nI_inc]
    exact ih (t + 1) (by omega)
theorem sp_fd (q : PZ) (dr : List Int32) (hl : dr.length = 87) : Ev xs d 113 0 [some (.ref 0), none] [] (mH (zR z q dr) nw eb wa ms mt cc) none (mH (zR z (false, false, -1, q.2.2.2) (flK kd0)) nw eb wa ms mt cc) := by
  refine ev_go 2 (fun _ => rfl) ?_
  refine lp_fd xs d z nw eb wa ms mt cc q dr hl _ (fun zz => ?_) 87 0 (by omega)
  rw [← kd0_fl]
  refine ev_go 4 (fun _ => rfl) ?_
  refine ev_iastE rfl (L := List.replicate 87 (0 : Int32)) (h2 := mH (zR z q ((List.replicate 87 (0 : Int32)).set 0 10)) nw eb wa ms mt cc) rfl (k := 0) rfl (by decide) rfl ?_
  refine ev_go 4 (fun _ => rfl) ?_
  refine ev_iastE rfl (L := (List.replicate 87 (0 : Int32)).set 0 10) (h2 := mH (zR z q (((List.replicate 87 (0 : Int32)).set 0 10).set 1 40)) nw eb wa ms mt cc) rfl (k := 1) rfl (by rw [List.length_set]; decide) rfl ?_
  exact ev_end 10 rfl
/-- phases brought home, what was told is kept -/
theorem lp_kd1 (q : PZ) (K : CK) (B : Nat) (hK : CL K) (eB : K.1.2.2.2.1 = nI B) (hB : B ≤ 5) (hw : 0 < 2 * K.1.1) (R : MH) (kk : ∀ zz, Ev xs d 114 42 [some (.ref 0), zz] [] (mH (zR z q (flK (hmK K B))) nw eb wa ms mt cc) none R) : ∀ m t, t + m = B → Ev xs d 114 2 [some (.ref 0), some (.int (nI t))] [] (mH (zR z q (flK (hmK K t))) nw eb wa ms mt cc) none R := by
  intro m
  induction m with
  | zero =>
    intro t ht
    have e : t = B := by omega
    subst e
    refine ev_go 4 (fun _ => rfl) ?_
    refine ev_iald rfl (L := flK (hmK K t)) rfl (k := 18) rfl fq_18 ?_
    refine ev_ic_ge rfl rfl (fun _ => ?_) (fun n => absurd (by show K.1.2.2.2.1 ≤ nI t; rw [eB]; exact nI_le (Nat.le_refl _) (by omega)) n)
    exact kk _
  | succ m ih =>
    intro t ht
    have hcl : CL (hmK K t) := ⟨hK.1, mapUp_len.trans hK.2.1, hK.2.2⟩
    have hx := getD_at (l := K.2.1.2.1) (k := t) (by rw [hK.2.1]; omega)
    have eg : gtK (hmK K t) 1 t = K.2.1.2.1.getD t 0 := by
      show (mapUp (fun x => rmI x (2 * K.1.1)) t K.2.1.2.1).getD t 0 = _
      rw [List.getD_eq_getElem?_getD, mapUp_at, ← List.getD_eq_getElem?_getD]
    have g1 : (flK (hmK K t))[3 + 3 * t + 1]? = some (K.2.1.2.1.getD t 0) := by
      rw [fq_B (by omega) (by decide), eg]
    have g2 : (flK (hmK K t)).set (3 + 3 * t + 1) (rmI (K.2.1.2.1.getD t 0) (2 * K.1.1)) = flK (hmK K (t + 1)) := by
      rw [fs_B hcl (by omega) (by decide)]
      congr 1
      show (K.1, (K.2.1.1, (mapUp (fun x => rmI x (2 * K.1.1)) t K.2.1.2.1).set t _, K.2.1.2.2), K.2.2) = _
      rw [mapUp_s hx]
      rfl
    refine ev_go 4 (fun _ => rfl) ?_
    refine ev_iald rfl (L := flK (hmK K t)) rfl (k := 18) rfl fq_18 ?_
    refine ev_ic_ge rfl rfl (fun n => absurd n (by show ¬ K.1.2.2.2.1 ≤ nI t; rw [eB]; exact nI_ge (by omega) (by omega))) (fun _ => ?_)
    refine ev_go 10 (fun _ => rfl) ?_
    refine ev_iald rfl (L := flK (hmK K t)) rfl (ix31 (by omega)) g1 ?_
    refine ev_go 4 (fun _ => rfl) ?_
    refine ev_iald rfl (L := flK (hmK K t)) rfl (k := 0) rfl fq_0 ?_
    refine ev_go 1 (fun _ => rfl) ?_
    refine ev_irem rfl (z := 2 * K.1.1) (pos_ne hw) ?_
    refine ev_iastE rfl (L := flK (hmK K t)) (h2 := mH (zR z q (flK (hmK K (t + 1)))) nw eb wa ms mt cc) rfl (ix31 (by omega)) (by rw [flK_len]; omega) (congrArg (fun l => mH (zR z q l) nw eb wa ms mt cc) g2) ?_
    refine ev_go 2 (ls' := [some (.ref 0), some (.int (nI t + Int32.ofInt 1))]) (fun _ => rfl) ?_
    rw [nI_inc]
    exact ih (t + 1) (by omega)
theorem lp_kd2 (q : PZ) (K Ks : CK) (X : List Int32) (R : MH) (kk : ∀ zz, Ev xs d 114 68 [some (.ref 0), zz] [] (mH (zL (zR z q (flK K)) (flK K ++ X)) nw eb wa ms mt cc) none R) : ∀ m t, t + m = 87 → Ev xs d 114 44 [some (.ref 0), some (.int (nI t))] [] (mH (zL (zR z q (flK K)) (up (fun j => (flK K).getD j 0) t (flK Ks ++ X))) nw eb wa ms mt cc) none R := by
  intro m
  induction m with
  | zero =>
    intro t ht
    have e : t = 87 := by omega
    subst e
    rw [up_ap (flK_len Ks), rg_get (flK_len K)]
    refine ev_go 3 (fun _ => rfl) (kk _)
  | succ m ih =>
    intro t ht
    have e1 : t < (flK K).length := by rw [flK_len]; omega
    have e2 : t < (flK Ks ++ X).length := sl (by omega)
    refine ev_go 2 (fun _ => rfl) ?_
    refine ev_ic_ge rfl rfl (fun n => absurd n (nI_ge (a := t) (b := 87) (by omega) (by omega))) (fun _ => ?_)
    refine ev_go 6 (fun _ => rfl) ?_
    refine ev_iald rfl (L := flK K) rfl (mm_ix_nI (n := t) (by omega)) (getD_at e1) ?_
    refine ev_iastE rfl (L := up (fun j => (flK K).getD j 0) t (flK Ks ++ X)) (h2 := mH (zL (zR z q (flK K)) (up (fun j => (flK K).getD j 0) (t + 1) (flK Ks ++ X))) nw eb wa ms mt cc) rfl (mm_ix_nI (n := t) (by omega)) (by rw [up_len (by omega)]; exact e2) (by rw [← up_s (g := fun j => (flK K).getD j 0) (l := flK Ks ++ X) (t := t) e2]; rfl) ?_
    refine ev_go 2 (ls' := [some (.ref 0), some (.int (nI t + Int32.ofInt 1))]) (fun _ => rfl) ?_
    rw [nI_inc]
    exact ih (t + 1) (by omega)
theorem sp_kd (q : PZ) (K Ks : CK) (X : List Int32) (B : Nat) (k0 k1 : Bool) (hz : z.2.2.2.2.1 = flK Ks ++ X) (hk : z.2.2.2.2.2.1 = [bI k0, bI k1]) (hK : CL K) (eB : K.1.2.2.2.1 = nI B) (hB : B ≤ 5) (hw : 0 < 2 * K.1.1) : Ev xs d 114 0 [some (.ref 0), none] [] (mH (zR z q (flK K)) nw eb wa ms mt cc) none (mH (zS (zK (zR z q (flK (hmK K B))) [0, 0]) (hmK K B) X) nw eb wa ms mt cc) := by
  obtain ⟨z1, z2, z3, z4, z5, z6, z7⟩ := z
  dsimp only at hz hk
  subst hz
  subst hk
  refine ev_go 2 (fun _ => rfl) ?_
  refine lp_kd1 xs d _ nw eb wa ms mt cc q K B hK eB hB hw _ (fun zz => ?_) B 0 (by omega)
  refine ev_go 2 (ls' := [some (.ref 0), some (.int (nI 0))]) (fun _ => rfl) ?_
  refine lp_kd2 xs d (z1, z2, z3, z4, flK Ks ++ X, [bI k0, bI k1], z7) nw eb wa ms mt cc q (hmK K B) Ks X _ (fun zz => ?_) 87 0 (by omega)
  refine ev_go 4 (fun _ => rfl) ?_
  refine ev_zast (L := [bI k0, bI k1]) (b := false) (k := 0) rfl rfl rfl (Nat.le_of_ble_eq_true rfl) ?_
  refine ev_go 4 (fun _ => rfl) ?_
  refine ev_zast (L := [bI false, bI k1]) (b := false) (k := 1) rfl rfl rfl (Nat.le_of_ble_eq_true rfl) ?_
  exact ev_end 1 rfl
/-- what text leaves -/
def mtextP (z : ZT) (X : List Int32) (res : PF ⊕ (Nat × PS)) (rs : Option Value) (h : MH) (nw eb wa ms mt : List Int32) (cc : C4) : Prop := match res with
  | .inl f => rs = some (.int ((Int8.ofInt (-10)).toInt32 - nI f.2)) ∧ ∃ (q : PZ) (dr : List Int32), dr.length = 87 ∧ q.2.2.2.1 = nI 0 ∧ q.2.2.2.2.2.2.2.2.1 = nI f.1 ∧ h = mH (zR z q dr) nw eb wa ms mt cc
  | .inr (n, s) => rs = some (.int (nI n)) ∧ ∃ (q : PZ) (dr : List Int32) (K : CK), dr.length = 87 ∧ q.2.2.2.1 = nI 0 ∧ q.2.2.2.2.2.2.2.2.1 = nI 0 ∧ rep K (hmS s) ∧ okQ s ∧ h = mH (zS (zK (zR z q dr) [0, 0]) K X) nw eb wa ms mt cc
theorem m_text (hD : byD D L z.2.2.2.2.2.2.2.1) (Ks : CK) (X : List Int32) (k0 k1 : Bool) (hz : z.2.2.2.2.1 = flK Ks ++ X) (hk : z.2.2.2.2.2.1 = [bI k0, bI k1]) (hl : z.2.2.2.2.2.2.1.length = 87) (et : z.1.2.2.2.1 = nI L) : ∃ (rs : Option Value) (h' : MH), mtextP z X (pText D L) rs h' nw eb wa ms mt cc ∧ Ev xs (d + 7) 128 0 [some (.ref 0), none] [] (mH z nw eb wa ms mt cc) rs h' := by
  obtain ⟨⟨y1, y2, y3, y4, y5, y6, y7, y8, y9, y10⟩, z2, z3, z4, z5, z6, z7, z8, z9⟩ := z
  dsimp only at hz hk hl et hD
  subst et
  subst hz
  subst hk
  obtain ⟨q1, r1, r2⟩ := sp_rds xs (d + 4) ((y1, y2, y3, nI L, y5, y6, y7, y8, y9, y10), z2, z3, z4, flK Ks ++ X, [bI k0, bI k1], z7, z8, z9) (flK kd0) nw eb wa ms mt cc D L false false (-1) hD 0 (Nat.zero_le _) y6 y7 y8 y10
  obtain ⟨q2, dr2, n2, u1, u2⟩ := lp_mtx xs d ((y1, y2, y3, nI L, y5, y6, y7, y8, y9, y10), z2, z3, z4, flK Ks ++ X, [bI k0, bI k1], z7, z8, z9) nw eb wa ms mt cc D L hD (L + 1) 0 0 (by omega) (Nat.zero_le _) p0 kd0 (-1) q1 okQ_0 rep_0 hiOK_0 ⟨Nat.zero_le _, r1⟩
  have pre : ∀ (rs : Option Value) (R : MH), Ev xs (d + 7) 128 44 [some (.ref 0), some (.int (nI n2))] [] (mH (zR ((y1, y2, y3, nI L, y5, y6, y7, y8, y9, y10), z2, z3, z4, flK Ks ++ X, [bI k0, bI k1], z7, z8, z9) q2 dr2) nw eb wa ms mt cc) rs R → Ev xs (d + 7) 128 0 [some (.ref 0), none] [] (mH ((y1, y2, y3, nI L, y5, y6, y7, y8, y9, y10), z2, z3, z4, flK Ks ++ X, [bI k0, bI k1], z7, z8, z9) nw eb wa ms mt cc) rs R := by
    intro rs R hr
    refine ev_go 9 (ls' := [some (.ref 0), some (.int (nI 0))]) (h1 := mH (zR ((y1, y2, y3, nI L, y5, y6, y7, y8, y9, y10), z2, z3, z4, flK Ks ++ X, [bI k0, bI k1], z7, z8, z9) (y1, y2, y3, nI L, nI 0, y6, y7, y8, 0, y10) z7) nw eb wa ms mt cc) (fun _ => rfl) ?_
    refine ev_call (y' := 113) rfl rfl rfl rfl (sp_fd xs _ ((y1, y2, y3, nI L, y5, y6, y7, y8, y9, y10), z2, z3, z4, flK Ks ++ X, [bI k0, bI k1], z7, z8, z9) nw eb wa ms mt cc (y1, y2, y3, nI L, nI 0, y6, y7, y8, 0, y10) z7 hl) ?_
    refine ev_go 1 (fun _ => rfl) ?_
    refine ev_call (y' := 122) rfl rfl rfl rfl (r2) ?_
    exact u2 rs R hr
  clear u2 r2
  unfold pText
  rcases u1 with ⟨f, e1, hl2, hc, hm, hi, hf, po, be, so, va, e2⟩ | ⟨s, K, hi, e, va, wr, e1, hQ, ed, hK, hh, e2⟩
  · rw [e1]
    subst e2
    have h20 : ¬ nI f.1 = 0 := nI_ne0 (Nat.pos_of_ne_zero hf.1) (by have := hf.2.1; omega)
    have h2 : 0 < nI f.1 := nI_lt (a := 0) (Nat.pos_of_ne_zero hf.1) (by have := hf.2.1; omega)
    refine ⟨_, _, ⟨rfl, (hc, hm, hi, nI 0, po, be, so, va, nI f.1, nI f.2), dr2, hl2, rfl, rfl, rfl⟩, pre _ _ ?_⟩
    have fin : ∀ b : Bool, Ev xs (d + 7) 128 64 [some (.ref 0), some (.int (nI n2))] [.int (bI b), .ref 0] (mH (zR ((y1, y2, y3, nI L, y5, y6, y7, y8, y9, y10), z2, z3, z4, flK Ks ++ X, [bI k0, bI k1], z7, z8, z9) (hc, hm, hi, nI L, po, be, so, va, nI f.1, nI f.2) dr2) nw eb wa ms mt cc) (some (.int ((Int8.ofInt (-10)).toInt32 - nI f.2))) (mH (zR ((y1, y2, y3, nI L, y5, y6, y7, y8, y9, y10), z2, z3, z4, flK Ks ++ X, [bI k0, bI k1], z7, z8, z9) (hc, hm, hi, nI 0, po, be, so, va, nI f.1, nI f.2) dr2) nw eb wa ms mt cc) := by
      intro b
      refine ev_go 1 (fun _ => rfl) ?_
      refine ev_call (y' := 117) rfl rfl rfl rfl (sp_rq_k xs _ _ dr2 nw eb wa ms mt cc hc hm hi b (nI L) po be so va (nI f.1) (nI f.2) 6 h20) ?_
      refine ev_go 5 (h1 := mH (zR ((y1, y2, y3, nI L, y5, y6, y7, y8, y9, y10), z2, z3, z4, flK Ks ++ X, [bI k0, bI k1], z7, z8, z9) (hc, hm, hi, nI 0, po, be, so, va, nI f.1, nI f.2) dr2) nw eb wa ms mt cc) (fun _ => rfl) ?_
      refine ev_if_le rfl rfl (fun n => absurd n (i32_lt_nle h2)) (fun _ => ?_)
      exact ev_end 5 rfl
    refine ev_go 6 (fun _ => rfl) ?_
    refine ev_iald rfl (L := dr2) rfl (k := 18) rfl (getD_at (by omega)) ?_
    by_cases c : dr2.getD 18 0 ≤ hi
    · refine ev_ic_ge rfl rfl (fun _ => ?_) (fun n => absurd (c) n)
      exact ev_go 1 (fun _ => rfl) (fin false)
    · refine ev_ic_ge rfl rfl (fun n => absurd n (c)) (fun _ => ?_)
      exact ev_go 2 (fun _ => rfl) (fin true)
  · rw [e1]
    subst e2
    subst ed
    have eB := hK.1.2.2.2.2.1
    have hB5 := hK.1.2.2.2.2.2.2.2.1
    have hhB := hh s.2.2.1.length hB5
    unfold pFin
    cases hA : (s.2.2.2.all fun q => decide (q.1 < s.2.2.1.length) && decide (q.2.1 < s.2.2.1.length)) with
    | true =>
      have hlt : hi < nI s.2.2.1.length := by
        refine hhB.mpr (fun t q hq => ?_)
        have := List.all_eq_true.mp hA q (List.mem_of_getElem? hq)
        rw [Bool.and_eq_true] at this
        exact ⟨of_decide_eq_true this.1, of_decide_eq_true this.2⟩
      have hw : 0 < 2 * K.1.1 := by
        rw [hK.1.2.1, two_nI]
        have := hQ.1
        exact nI_lt (a := 0) (by omega) (by omega)
      have hR := rep_home hK.1 hQ.1.1 hQ.1.2 hQ.2.1
      refine ⟨_, _, ⟨rfl, (s.2.1.1, s.2.1.2, hi, nI 0, e, nI L, 0, va, 0, wr), flK (hmK K s.2.2.1.length), hmK K s.2.2.1.length, flK_len _, rfl, rfl, hR, hQ, rfl⟩, pre _ _ ?_⟩
      refine ev_go 6 (fun _ => rfl) ?_
      refine ev_iald rfl (L := flK K) rfl (k := 18) rfl fq_18 ?_
      rw [eB]
      refine ev_ic_ge rfl rfl (fun n => absurd n (i32_lt_nle hlt)) (fun _ => ?_)
      refine ev_go 3 (fun _ => rfl) ?_
      refine ev_call (y' := 117) rfl rfl rfl rfl (sp_rq_t xs _ _ (flK K) nw eb wa ms mt cc _ 6) ?_
      refine ev_go 7 (h1 := mH (zR ((y1, y2, y3, nI L, y5, y6, y7, y8, y9, y10), z2, z3, z4, flK Ks ++ X, [bI k0, bI k1], z7, z8, z9) (s.2.1.1, s.2.1.2, hi, nI 0, e, nI L, 0, va, 0, wr) (flK K)) nw eb wa ms mt cc) (fun _ => rfl) ?_
      refine ev_call (y' := 114) rfl rfl rfl rfl (sp_kd xs _ ((y1, y2, y3, nI L, y5, y6, y7, y8, y9, y10), z2, z3, z4, flK Ks ++ X, [bI k0, bI k1], z7, z8, z9) nw eb wa ms mt cc (s.2.1.1, s.2.1.2, hi, nI 0, e, nI L, 0, va, 0, wr) K Ks X s.2.2.1.length k0 k1 rfl rfl hK.1.1 eB hB5 hw) ?_
      exact ev_end 2 rfl
    | false =>
      have hge : ¬ hi < nI s.2.2.1.length := by
        intro hlt
        have h2 := hhB.mp hlt
        have : (s.2.2.2.all fun q => decide (q.1 < s.2.2.1.length) && decide (q.2.1 < s.2.2.1.length)) = true := by
          rw [List.all_eq_true]
          intro q hq
          obtain ⟨t, ht⟩ := List.getElem?_of_mem hq
          have h3 := h2 t q ht
          rw [decide_eq_true h3.1, decide_eq_true h3.2]
          rfl
        rw [hA] at this
        cases this
      refine ⟨_, _, ⟨rfl, (s.2.1.1, s.2.1.2, hi, nI 0, e, nI L, 0, va, nI 6, nI L), flK K, flK_len _, rfl, rfl, rfl⟩, pre _ _ ?_⟩
      refine ev_go 6 (fun _ => rfl) ?_
      refine ev_iald rfl (L := flK K) rfl (k := 18) rfl fq_18 ?_
      rw [eB]
      refine ev_ic_ge rfl rfl (fun _ => ?_) (fun n => absurd (i32_nlt hge) n)
      refine ev_go 2 (fun _ => rfl) ?_
      refine ev_call (y' := 117) rfl rfl rfl rfl (sp_rq_f xs _ _ (flK K) nw eb wa ms mt cc s.2.1.1 s.2.1.2 hi (nI L) e (nI L) 0 va wr 6) ?_
      exact ev_end 11 rfl
end MTX

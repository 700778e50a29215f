/-! The reference's ask -/
theorem ix126 {a k : Nat} (q : 126 * a + k < 2 ^ 31) : mm_ix ((Int8.ofInt 126).toInt32 * nI a + nI k) = some (126 * a + k) := by
  rw [show (Int8.ofInt 126).toInt32 = nI 126 from rfl, nI_mulA, nI_add]
  exact mm_ix_nI q
theorem ng_toInt {a : Nat} (h : a < 2 ^ 31) : (-(nI a)).toInt = -(a : Int) := by
  rw [Int32.toInt_neg, nI_toInt h]
  exact Int.bmod_eq_of_le (by omega) (by omega)
theorem ng_lt {a b : Nat} (ha : a < 2 ^ 31) (hb : b < 2 ^ 31) : -(nI a) < -(nI b) ↔ b < a := by
  rw [Int32.lt_iff_toInt_lt, ng_toInt ha, ng_toInt hb]
  omega
theorem jd_ak {E : Nat → Nat → Nat} {h t : Nat} {q : Nat × Int32} (hE : E h t ≤ 100) (hq : q.1 ≤ 100) : jdM (q.2, -(nI q.1)) (nI (10 * h + t)) (-(nI (E h t))) = ((akS E h t q).2, -(nI (akS E h t q).1)) := by
  unfold jdM akS
  by_cases c : E h t < q.1
  · rw [if_pos c, if_pos ((ng_lt (by omega) (by omega)).mpr c)]
  · rw [if_neg c, if_neg (fun n => c ((ng_lt (by omega) (by omega)).mp n))]
def cM (F : Nat → Nat → Nat → Int32) (TN v k : Nat) : Int32 := rowM (F v) TN (k / 6) (k % 6)
theorem tell_c {F : Nat → Nat → Nat → Int32} {TN v k : Nat} {row : List Int32} (h : tellM (F v) TN 21 row) (hk : k < 126) : row[k]? = some (cM F TN v k) := by
  have := h.2 (k / 6) (k % 6) (by omega) (Nat.mod_lt _ (by decide))
  rw [Nat.div_add_mod] at this
  exact this
/-- rows one behind another -/
def bpOK (F : Nat → Nat → Nat → Int32) (TN : Nat) (bp : List Int32) (vs : List Nat) : Prop := bp.length = 1134 ∧ ∀ a v, vs[a]? = some v → ∀ k, k < 126 → bp[126 * a + k]? = some (cM F TN v k)
section MC15
variable (xs : List Int32) (d : Nat) (z : ZT) (Ks : CK) (X nw eb wa ms mt : List Int32) (cc : C4) (sb bp : List Int32)
theorem lp_wsI (L : List Int32) (k a : Nat) (x ws : Int32) (hL : L.length ≤ 9) (hk : k < 126) (ha : a < L.length) (hx : L[a]? = some x) (hb : ∀ a, a < L.length → bp[126 * a + k]? = L[a]?) (rs : Option Value) (R : MH) (kk : ∀ z6, Ev xs (d + 1) 187 69 [some (.ref 0), some (.int (nI k)), some (.int (nI L.length)), some (.int ws), some (.int (nI a)), some (.int (nI (cnE L x))), z6] [] (mH (zS (zY z sb bp) Ks X) nw eb wa ms mt cc) rs R) : ∀ m b, b + m = L.length → Ev xs (d + 1) 187 17 [some (.ref 0), some (.int (nI k)), some (.int (nI L.length)), some (.int ws), some (.int (nI a)), some (.int (nI (cnE (L.take b) x))), some (.int (nI b))] [] (mH (zS (zY z sb bp) Ks X) nw eb wa ms mt cc) rs R := by
  intro m
  induction m with
  | zero =>
    intro b hbb
    have e : b = L.length := by omega
    subst e
    rw [List.take_length]
    refine ev_go 2 (fun _ => rfl) ?_
    refine ev_ic_ge rfl rfl (fun _ => ?_) (fun n => absurd (nI_le (Nat.le_refl _) (by omega)) n)
    exact kk _
  | succ m ih =>
    intro b hbb
    obtain ⟨y, hy⟩ : ∃ y, L[b]? = some y := ⟨_, List.getElem?_eq_getElem (by omega)⟩
    have e1 := cnE_s (L.take b) x y
    rw [← take_s hy] at e1
    have tl : ∀ q : Bool, q = decide (x = y) → Ev xs (d + 1) 187 57 [some (.ref 0), some (.int (nI k)), some (.int (nI L.length)), some (.int ws), some (.int (nI a)), some (.int (nI (cnE (L.take b) x))), some (.int (nI b))] [.int (bI q), .int (nI (cnE (L.take b) x))] (mH (zS (zY z sb bp) Ks X) nw eb wa ms mt cc) rs R := by
      intro q hq
      have e2 : nI (cnE (L.take b) x) + bI q = nI (cnE (L.take (b + 1)) x) := by
        rw [e1, hq]
        by_cases c : x = y
        · rw [if_pos c, decide_eq_true c]
          exact nI_inc
        · rw [if_neg c, decide_eq_false c, Nat.add_zero]
          exact Int32.add_zero _
      refine ev_call (y' := 111) rfl rfl rfl rfl (sp_flag xs _ _ q) ?_
      refine ev_go 4 (ls' := [some (.ref 0), some (.int (nI k)), some (.int (nI L.length)), some (.int ws), some (.int (nI a)), some (.int (nI (cnE (L.take b) x) + bI q)), some (.int (nI b + Int32.ofInt 1))]) (fun _ => rfl) ?_
      rw [e2, nI_inc]
      exact ih (b + 1) (by omega)
    refine ev_go 2 (fun _ => rfl) ?_
    refine ev_ic_ge rfl rfl (fun n => absurd n (nI_ge (by omega) (by omega))) (fun _ => ?_)
    refine ev_go 8 (fun _ => rfl) ?_
    refine ev_iald rfl (L := bp) rfl (ix126 (by omega)) ((hb a ha).trans hx) ?_
    refine ev_go 7 (fun _ => rfl) ?_
    refine ev_iald rfl (L := bp) rfl (ix126 (by omega)) ((hb b (by omega)).trans hy) ?_
    by_cases c : x = y
    · refine ev_ic_ne rfl rfl (fun n => absurd n (fun n => n c)) (fun _ => ?_)
      refine ev_go 2 (fun _ => rfl) (tl true (decide_eq_true c).symm)
    · refine ev_ic_ne rfl rfl (fun _ => ?_) (fun n => absurd (c) n)
      refine ev_go 1 (fun _ => rfl) (tl false (decide_eq_false c).symm)
theorem lp_wsO (L : List Int32) (k : Nat) (hL : L.length ≤ 9) (hk : k < 126) (hb : ∀ a, a < L.length → bp[126 * a + k]? = L[a]?) : ∀ m a, a + m = L.length → ∀ z5 z6 : Option Value, Ev xs (d + 1) 187 5 [some (.ref 0), some (.int (nI k)), some (.int (nI L.length)), some (.int (nI (mxL L (L.take a)))), some (.int (nI a)), z5, z6] [] (mH (zS (zY z sb bp) Ks X) nw eb wa ms mt cc) (some (.int (nI (mxP L)))) (mH (zS (zY z sb bp) Ks X) nw eb wa ms mt cc) := by
  intro m
  induction m with
  | zero =>
    intro a ha z5 z6
    have e : a = L.length := by omega
    subst e
    rw [List.take_length]
    refine ev_go 2 (fun _ => rfl) ?_
    refine ev_ic_ge rfl rfl (fun _ => ?_) (fun n => absurd (nI_le (Nat.le_refl _) (by omega)) n)
    exact ev_end 2 rfl
  | succ m ih =>
    intro a ha z5 z6
    obtain ⟨x, hx⟩ : ∃ x, L[a]? = some x := ⟨_, List.getElem?_eq_getElem (by omega)⟩
    have e1 := mxL_s L (L.take a) x
    rw [← take_s hx] at e1
    have h1 := cnE_le L x
    have h2 : mxL L (L.take a) ≤ L.length := mxL_le _ _ _ (fun y _ => cnE_le L y)
    refine ev_go 2 (fun _ => rfl) ?_
    refine ev_ic_ge rfl rfl (fun n => absurd n (nI_ge (by omega) (by omega))) (fun _ => ?_)
    refine ev_go 4 (ls' := [some (.ref 0), some (.int (nI k)), some (.int (nI L.length)), some (.int (nI (mxL L (L.take a)))), some (.int (nI a)), some (.int (nI (cnE (L.take 0) x))), some (.int (nI 0))]) (fun _ => rfl) ?_
    refine lp_wsI xs d z Ks X nw eb wa ms mt cc sb bp L k a x _ hL hk (by omega) hx hb _ _ (fun z6 => ?_) L.length 0 (by omega)
    refine ev_go 2 (fun _ => rfl) ?_
    by_cases c : cnE L x ≤ mxL L (L.take a)
    · refine ev_ic_le rfl rfl (fun _ => ?_) (fun n => absurd (nI_le c (by omega)) n)
      refine ev_go 4 (ls' := [some (.ref 0), some (.int (nI k)), some (.int (nI L.length)), some (.int (nI (mxL L (L.take a)))), some (.int (nI a + Int32.ofInt 1)), some (.int (nI (cnE L x))), z6]) (fun _ => rfl) ?_
      rw [nI_inc]
      rw [Nat.max_eq_left c] at e1
      have := ih (a + 1) (by omega) (some (.int (nI (cnE L x)))) z6
      rw [e1] at this
      exact this
    · refine ev_ic_le rfl rfl (fun n => absurd n (nI_ge (by omega) (by omega))) (fun _ => ?_)
      refine ev_go 5 (ls' := [some (.ref 0), some (.int (nI k)), some (.int (nI L.length)), some (.int (nI (cnE L x))), some (.int (nI a + Int32.ofInt 1)), some (.int (nI (cnE L x))), z6]) (fun _ => rfl) ?_
      rw [nI_inc]
      rw [Nat.max_eq_right (by omega)] at e1
      have := ih (a + 1) (by omega) (some (.int (nI (cnE L x)))) z6
      rw [e1] at this
      exact this
theorem sp_ws (L : List Int32) (k : Nat) (hL : L.length ≤ 9) (hk : k < 126) (hb : ∀ a, a < L.length → bp[126 * a + k]? = L[a]?) : Ev xs (d + 1) 187 0 [some (.ref 0), some (.int (nI k)), some (.int (nI L.length)), none, none, none, none] [] (mH (zS (zY z sb bp) Ks X) nw eb wa ms mt cc) (some (.int (nI (mxP L)))) (mH (zS (zY z sb bp) Ks X) nw eb wa ms mt cc) := by
  refine ev_go 4 (fun _ => rfl) ?_
  exact lp_wsO xs d z Ks X nw eb wa ms mt cc sb bp L k hL hk hb L.length 0 (by omega) none none
end MC15
theorem zJY (z : ZT) (sb bp : List Int32) (q : Int32 × Int32) (Ks : CK) (X : List Int32) : zS (zJ (zY z sb bp) q) Ks X = zS (zY (zJ z q) sb bp) Ks X := rfl
section MC16
variable (xs : List Int32) (d : Nat) (z : ZT) (Ks : CK) (X : List Int32) (B TN S : Nat) (F : Nat → Nat → Nat → Int32) (b w : Int32)
theorem bp_L {F : Nat → Nat → Nat → Int32} {TN h t : Nat} {bp : List Int32} {vs : List Nat} (hbp : bpOK F TN bp vs) (hh : h ≤ 20) (ht : t < TN) (hTN : TN ≤ 6) : ∀ a, a < (vs.map (fun v => F v h t)).length → bp[126 * a + (6 * h + t)]? = (vs.map (fun v => F v h t))[a]? := by
  intro a ha
  rw [List.length_map] at ha
  have e1 : vs[a]? = some vs[a] := List.getElem?_eq_getElem ha
  rw [hbp.2 a _ e1 (6 * h + t) (by omega), List.getElem?_map, e1]
  unfold cM
  rw [show (6 * h + t) / 6 = h by omega, show (6 * h + t) % 6 = t by omega]
  unfold rowM
  rw [if_pos ht]
  rfl
theorem lp_mkI (h : Nat) (vs : List Nat) (sb bp nw eb wa ms mt : List Int32) (cc : C4) (hh : h ≤ 20) (hn : CN Ks B TN S) (hvs : vs.length ≤ 9) (hbp : bpOK F TN bp vs) (rs : Option Value) (R : MH) : ∀ m t, t + m = TN → ∀ q : Nat × Int32, q.1 ≤ 100 → (∀ z5 : Option Value, Ev xs (d + 2) 188 93 [some (.ref 0), some (.int b), some (.int w), some (.int (nI vs.length)), some (.int (nI (h + 1))), z5] [] (mH (zS (zJ (zY z sb bp) ((akI (fun h t => mxP (vs.map (fun v => F v h t))) h m t q).2, -(nI (akI (fun h t => mxP (vs.map (fun v => F v h t))) h m t q).1))) Ks X) nw eb wa ms mt cc) rs R) → Ev xs (d + 2) 188 103 [some (.ref 0), some (.int b), some (.int w), some (.int (nI vs.length)), some (.int (nI h)), some (.int (nI t))] [] (mH (zS (zJ (zY z sb bp) (q.2, -(nI q.1))) Ks X) nw eb wa ms mt cc) rs R := by
  have hTN := hn.2.2.2.2.2.1
  have eT := hn.2.2.1
  intro m
  induction m with
  | zero =>
    intro t ht q hq kk
    have e : t = TN := by omega
    subst e
    refine ev_go 4 (fun _ => rfl) ?_
    refine ev_iald rfl rfl (k := 67) rfl ((sg (by decide)).trans fq_67) ?_
    rw [eT]
    refine ev_ic_ge rfl rfl (fun _ => ?_) (fun n => absurd (nI_le (Nat.le_refl _) (by omega)) n)
    refine ev_go 2 (ls' := [some (.ref 0), some (.int b), some (.int w), some (.int (nI vs.length)), some (.int (nI h + Int32.ofInt 1)), some (.int (nI t))]) (fun _ => rfl) ?_
    rw [nI_inc]
    exact kk _
  | succ m ih =>
    intro t ht q hq kk
    unfold akI at kk
    have hE : mxP (vs.map (fun v => F v h t)) ≤ 100 := by
      have h1 := mxP_le (vs.map (fun v => F v h t))
      rw [List.length_map] at h1
      omega
    have hj := jd_ak (E := fun h t => mxP (vs.map (fun v => F v h t))) (h := h) (t := t) (q := q) hE hq
    have hw := sp_ws xs d (zJ z (q.2, -(nI q.1))) Ks X nw eb wa ms mt cc sb bp (vs.map (fun v => F v h t)) (6 * h + t) (by rw [List.length_map]; exact hvs) (by omega) (bp_L hbp hh (by omega) hTN)
    rw [List.length_map] at hw
    refine ev_go 4 (fun _ => rfl) ?_
    refine ev_iald rfl rfl (k := 67) rfl ((sg (by decide)).trans fq_67) ?_
    rw [eT]
    refine ev_ic_ge rfl rfl (fun n => absurd n (nI_ge (by omega) (by omega))) (fun _ => ?_)
    refine ev_go 13 (fun _ => rfl) ?_
    rw [nI_mul10, show (Int8.ofInt 6).toInt32 = nI 6 from rfl, nI_mulA, nI_add]
    refine ev_call (y' := 187) rfl rfl rfl rfl (hw) ?_
    refine ev_go 1 (fun _ => rfl) ?_
    refine ev_call (y' := 169) rfl rfl rfl rfl (sp_jd xs _ (zY z sb bp) Ks X nw eb wa ms mt cc (q.2, -(nI q.1)) (nI (10 * h + t)) (-(nI (mxP (vs.map (fun v => F v h t)))))) ?_
    rw [hj]
    refine ev_go 2 (ls' := [some (.ref 0), some (.int b), some (.int w), some (.int (nI vs.length)), some (.int (nI h)), some (.int (nI t + Int32.ofInt 1))]) (fun _ => rfl) ?_
    rw [nI_inc]
    exact ih (t + 1) (by omega) _ (Nat.le_trans akS_le hq) kk
theorem lp_mkO (vs : List Nat) (sb bp nw eb wa ms mt : List Int32) (cc : C4) (hn : CN Ks B TN S) (hvs : vs.length ≤ 9) (hbp : bpOK F TN bp vs) : ∀ m h, h + m = 21 → ∀ (q : Nat × Int32) (z5 : Option Value), q.1 ≤ 100 → Ev xs (d + 2) 188 93 [some (.ref 0), some (.int b), some (.int w), some (.int (nI vs.length)), some (.int (nI h)), z5] [] (mH (zS (zJ (zY z sb bp) (q.2, -(nI q.1))) Ks X) nw eb wa ms mt cc) (some (.int (akA w (akO (fun h t => mxP (vs.map (fun v => F v h t))) TN m h q)))) (mH (zS (zJ (zY z sb bp) ((akO (fun h t => mxP (vs.map (fun v => F v h t))) TN m h q).2, -(nI (akO (fun h t => mxP (vs.map (fun v => F v h t))) TN m h q).1))) Ks X) nw eb wa ms mt cc) := by
  intro m
  induction m with
  | zero =>
    intro h hh q z5 hq
    have e : h = 21 := by omega
    subst e
    unfold akO akA
    refine ev_go 2 (fun _ => rfl) ?_
    refine ev_ic_gt rfl rfl (fun _ => ?_) (fun n => absurd (nI_lt (a := 20) (b := 21) (by omega) (by omega)) n)
    refine ev_go 3 (fun _ => rfl) ?_
    by_cases c2 : q.2 = -4
    · rw [if_pos c2]
      refine ev_ic_ne rfl rfl (fun n => absurd n (fun n => n c2)) (fun _ => ?_)
      exact ev_end 3 rfl
    · rw [if_neg c2]
      refine ev_ic_ne rfl rfl (fun _ => ?_) (fun n => absurd (c2) n)
      refine ev_go 1 (fun _ => rfl) ?_
      by_cases c : w = 0
      · rw [if_pos c]
        refine ev_if_ne rfl rfl (fun n => absurd n (fun n => n c)) (fun _ => ?_)
        exact ev_end 4 rfl
      · rw [if_neg c]
        refine ev_if_ne rfl rfl (fun _ => ?_) (fun n => absurd (c) n)
        rw [show some (Value.int (nI q.1)) = some (Value.int (-(-(nI q.1)))) by rw [Int32.neg_neg]]
        exact ev_end 4 rfl
  | succ m ih =>
    intro h hh q z5 hq
    unfold akO
    refine ev_go 2 (fun _ => rfl) ?_
    refine ev_ic_gt rfl rfl (fun n => absurd n (nI_nlt (a := 20) (b := h) (by omega) (by omega))) (fun _ => ?_)
    refine ev_go 2 (ls' := [some (.ref 0), some (.int b), some (.int w), some (.int (nI vs.length)), some (.int (nI h)), some (.int (nI 0))]) (fun _ => rfl) ?_
    exact lp_mkI xs d z Ks X B TN S F b w h vs sb bp nw eb wa ms mt cc (by omega) hn hvs hbp _ _ TN 0 (by omega) q hq (fun z5 => ih (h + 1) (by omega) _ z5 (Nat.le_trans (akI_le _ _ _) hq))
theorem lp_cpy (vs : List Nat) (v : Nat) (vi : Int32) (row : List Int32) (K : CK) (hvs : vs.length < 9) (hrow : tellM (F v) TN 21 row) (rs : Option Value) (R : MH → Prop) : ∀ m k, k + m = 126 → ∀ bp : List Int32, bpOK F TN bp vs → (∀ k', k' < k → bp[126 * vs.length + k']? = some (cM F TN v k')) → (∀ (bp' : List Int32) (z5 : Option Value), bpOK F TN bp' (vs ++ [v]) → ∃ h', R h' ∧ Ev xs d 188 75 [some (.ref 0), some (.int b), some (.int w), some (.int (nI vs.length)), some (.int vi), z5] [] (mT (zS (zY z row bp') Ks X) K) rs h') → ∃ h', R h' ∧ Ev xs d 188 43 [some (.ref 0), some (.int b), some (.int w), some (.int (nI vs.length)), some (.int vi), some (.int (nI k))] [] (mT (zS (zY z row bp) Ks X) K) rs h' := by
  intro m
  induction m with
  | zero =>
    intro k hk bp hbp h2 kk
    have e : k = 126 := by omega
    subst e
    obtain ⟨h', q1, q2⟩ := kk bp (some (.int (nI 126))) ⟨hbp.1, fun a u hu j hj => by
      by_cases c : a < vs.length
      · rw [List.getElem?_append_left c] at hu
        exact hbp.2 a u hu j hj
      · rw [List.getElem?_append_right (by omega)] at hu
        have hl := (List.getElem?_eq_some_iff.mp hu).1
        have e : a = vs.length := by
          have : a - vs.length < 1 := hl
          omega
        subst e
        rw [Nat.sub_self] at hu
        cases hu
        exact h2 j hj⟩
    refine ⟨h', q1, ?_⟩
    refine ev_go 3 (fun _ => rfl) ?_
    exact q2
  | succ m ih =>
    intro k hk bp hbp h2 kk
    have g1 : bpOK F TN (bp.set (126 * vs.length + k) (cM F TN v k)) vs := ⟨by rw [List.length_set]; exact hbp.1, fun a u hu j hj => by
      have hl := (List.getElem?_eq_some_iff.mp hu).1
      rw [List.getElem?_set_ne (by omega)]
      exact hbp.2 a u hu j hj⟩
    have g2 : ∀ k', k' < k + 1 → (bp.set (126 * vs.length + k) (cM F TN v k))[126 * vs.length + k']? = some (cM F TN v k') := fun k' c => by
      by_cases c2 : k' = k
      · subst c2
        exact List.getElem?_set_self (by rw [hbp.1]; omega)
      · rw [List.getElem?_set_ne (by omega)]
        exact h2 k' (by omega)
    obtain ⟨h', q1, q2⟩ := ih (k + 1) (by omega) _ g1 g2 kk
    refine ⟨h', q1, ?_⟩
    refine ev_go 2 (fun _ => rfl) ?_
    refine ev_ic_ge rfl rfl (fun n => absurd n (nI_ge (a := k) (b := 126) (by omega) (by omega))) (fun _ => ?_)
    refine ev_go 10 (fun _ => rfl) ?_
    refine ev_iald rfl (L := row) rfl (mm_ix_nI (n := k) (by omega)) (tell_c hrow (by omega)) ?_
    refine ev_iastE rfl (L := bp) (h2 := mT (zS (zY z row (bp.set (126 * vs.length + k) (cM F TN v k))) Ks X) K) rfl (ix126 (by omega)) (by rw [hbp.1]; omega) rfl ?_
    refine ev_go 2 (ls' := [some (.ref 0), some (.int b), some (.int w), some (.int (nI vs.length)), some (.int vi), some (.int (nI k + Int32.ofInt 1))]) (fun _ => rfl) ?_
    rw [nI_inc]
    exact q2
end MC16
section MC17
variable (xs : List Int32) (d : Nat) (z : ZT) (Ks : CK) (X : List Int32) (B TN S : Nat) (F : Nat → Nat → Nat → Int32) (w : Int32)
theorem lp_av (b : Nat) (hb : b < B) (hv : VS Ks B TN S) (hS : okS Ks S) (hF : ∀ (v : Nat), v < 10 → ∀ (nw eb wa ms mt : List Int32), mOK nw eb wa ms mt → ∀ h t, h ≤ 20 → t < TN → sdM (putK (stA wa ms mt Ks) 2 b (nI v)) B TN h t = F v h t) (rs : Option Value) (R : MH → Prop) : ∀ m v, v + m = 10 → ∀ (vs : List Nat) (sb bp nw eb wa ms mt : List Int32) (cc : C4) (z5 : Option Value), sb.length = 126 → mOK nw eb wa ms mt → bpOK F TN bp vs → vs.length + m ≤ 9 → (∀ (sb bp nw eb wa ms mt : List Int32) (cc : C4) (z4 z5 : Option Value), sb.length = 126 → mOK nw eb wa ms mt → bpOK F TN bp (vs ++ flt (fun v => asQ (F v) TN Ks S 0) m v) → ∃ h', R h' ∧ Ev xs (d + 6) 188 84 [some (.ref 0), some (.int (nI b)), some (.int w), some (.int (nI (vs ++ flt (fun v => asQ (F v) TN Ks S 0) m v).length)), z4, z5] [] (mH (zS (zY z sb bp) Ks X) nw eb wa ms mt cc) rs h') → ∃ h', R h' ∧ Ev xs (d + 6) 188 22 [some (.ref 0), some (.int (nI b)), some (.int w), some (.int (nI vs.length)), some (.int (nI v)), z5] [] (mH (zS (zY z sb bp) Ks X) nw eb wa ms mt cc) rs h' := by
  have hB := hv.1.2.2.2.2.1
  intro m
  induction m with
  | zero =>
    intro v hvv vs sb bp nw eb wa ms mt cc z5 hsb ho hbp hl kk
    have e : v = 10 := by omega
    subst e
    rw [show flt (fun v => asQ (F v) TN Ks S 0) 0 10 = [] from rfl, List.append_nil] at kk
    obtain ⟨h', q1, q2⟩ := kk sb bp nw eb wa ms mt cc (some (.int (nI 10))) z5 hsb ho hbp
    refine ⟨h', q1, ?_⟩
    refine ev_go 3 (fun _ => rfl) ?_
    exact q2
  | succ m ih =>
    intro v hvv vs sb bp nw eb wa ms mt cc z5 hsb ho hbp hl kk
    obtain ⟨row, K', q1, q2, q3⟩ := sp_iso xs d z Ks X bp B TN S nw eb wa ms mt cc (F v) b 2 (nI v) sb hsb (by omega) (by omega) hv hS ho (hF v (by omega) nw eb wa ms mt ho)
    unfold flt at kk
    rw [← List.append_assoc] at kk
    have pre : ∀ (R2 : MH), Ev xs (d + 6) 188 37 [some (.ref 0), some (.int (nI b)), some (.int w), some (.int (nI vs.length)), some (.int (nI v)), z5] [.int (bI (asQ (F v) TN Ks S 0))] (mT (zS (zY z row bp) Ks X) K') rs R2 → Ev xs (d + 6) 188 22 [some (.ref 0), some (.int (nI b)), some (.int w), some (.int (nI vs.length)), some (.int (nI v)), z5] [] (mH (zS (zY z sb bp) Ks X) nw eb wa ms mt cc) rs R2 := by
      intro R2 hr
      refine ev_go 2 (fun _ => rfl) ?_
      refine ev_ic_gt rfl rfl (fun n => absurd n (nI_nlt (a := 9) (b := v) (by omega) (by omega))) (fun _ => ?_)
      refine ev_go 4 (fun _ => rfl) ?_
      refine ev_call (y' := 183) rfl rfl rfl rfl (q3) ?_
      exact hr
    cases ha : asQ (F v) TN Ks S 0 with
    | false =>
      rw [ha] at kk pre
      rw [List.append_nil] at kk
      obtain ⟨h', e1, e2⟩ := ih (v + 1) (by omega) vs row bp _ _ _ _ _ (cT K') z5 q1.1 (mOK_T q2) hbp (by omega) kk
      refine ⟨h', e1, pre _ ?_⟩
      refine ev_go 3 (ls' := [some (.ref 0), some (.int (nI b)), some (.int w), some (.int (nI vs.length)), some (.int (nI v + Int32.ofInt 1)), z5]) (fun _ => rfl) ?_
      rw [nI_inc]
      exact e2
    | true =>
      rw [ha] at kk pre
      obtain ⟨h', e1, e2⟩ := lp_cpy xs (d + 6) z Ks X TN F (nI b) w vs v (nI v) row K' (by omega) q1 rs R 126 0 (by omega) bp hbp (fun k' c => by omega) (fun bp' z5 hbp' => by
        obtain ⟨h', g1, g2⟩ := ih (v + 1) (by omega) (vs ++ [v]) row bp' _ _ _ _ _ (cT K') z5 q1.1 (mOK_T q2) hbp' (by rw [List.length_append]; show vs.length + 1 + m ≤ 9; omega) kk
        refine ⟨h', g1, ?_⟩
        rw [show (vs ++ [v]).length = vs.length + 1 from List.length_append, ← nI_inc, ← nI_inc] at g2
        exact ev_go 3 (fun _ => rfl) g2)
      refine ⟨h', e1, pre _ ?_⟩
      refine ev_go 3 (fun _ => rfl) ?_
      exact e2
variable (nw eb wa ms mt : List Int32) (cc : C4)
theorem m_ask_bad (b : Int32) (hv : VS Ks B TN S) (c : (hasI b Ks.1.2.2.2.1 && wiI w 0 1) = false) : Ev xs (d + 2) 188 0 [some (.ref 0), some (.int b), some (.int w), none, none, none] [] (mH (zS z Ks X) nw eb wa ms mt cc) (some (.int (-1))) (mH (zS z Ks X) nw eb wa ms mt cc) := by
  refine ev_go 2 (fun _ => rfl) ?_
  refine ev_call (y' := 130) rfl rfl rfl rfl (sp_isB xs _ z Ks X nw eb wa ms mt cc b B hv.1.2.1 (by have := hv.1.2.2.2.2.1; omega)) ?_
  cases c0 : hasI b Ks.1.2.2.2.1 with
  | false => exact ev_end 3 rfl
  | true =>
    rw [c0] at c
    refine ev_go 2 (fun _ => rfl) ?_
    refine ev_call (y' := 132) rfl rfl rfl rfl (sp_part xs _ _ w) ?_
    rw [show wiI w 0 1 = false from c]
    exact ev_end 3 rfl
theorem m_ask (b : Nat) (sb bp : List Int32) (cw : wiI w 0 1 = true) (hb : b < B) (hv : VS Ks B TN S) (hS : okS Ks S) (hsb : sb.length = 126) (hbp : bp.length = 1134) (ho : mOK nw eb wa ms mt) (hF : ∀ (v : Nat), v < 10 → ∀ (nw eb wa ms mt : List Int32), mOK nw eb wa ms mt → ∀ h t, h ≤ 20 → t < TN → sdM (putK (stA wa ms mt Ks) 2 b (nI v)) B TN h t = F v h t) : ∃ h', (∃ (q : Int32 × Int32) (sb' bp' : List Int32), sb'.length = 126 ∧ bp'.length = 1134 ∧ MHp (zJ (zY z sb' bp') q) Ks X h') ∧ Ev xs (d + 6) 188 0 [some (.ref 0), some (.int (nI b)), some (.int w), none, none, none] [] (mH (zS (zY z sb bp) Ks X) nw eb wa ms mt cc) (some (.int (akA w (akO (fun h t => mxP ((flt (fun v => asQ (F v) TN Ks S 0) 9 1).map (fun v => F v h t))) TN 21 0 ((flt (fun v => asQ (F v) TN Ks S 0) 9 1).length, -4))))) h' := by
  have hB := hv.1.2.2.2.2.1
  have hl := flt_len (fun v => asQ (F v) TN Ks S 0) 9 1
  obtain ⟨h', e1, e2⟩ := lp_av xs d z Ks X B TN S F w b hb hv hS hF (some (.int (akA w (akO (fun h t => mxP ((flt (fun v => asQ (F v) TN Ks S 0) 9 1).map (fun v => F v h t))) TN 21 0 ((flt (fun v => asQ (F v) TN Ks S 0) 9 1).length, -4))))) (fun h' => ∃ (q : Int32 × Int32) (sb' bp' : List Int32), sb'.length = 126 ∧ bp'.length = 1134 ∧ MHp (zJ (zY z sb' bp') q) Ks X h') 9 1 (by omega) [] sb bp nw eb wa ms mt cc none hsb ho ⟨hbp, fun a v h => by cases h⟩ (by decide) (fun sb bp nw eb wa ms mt cc z4 z5 hsb ho hbp => by
    rw [List.nil_append] at hbp ⊢
    have h2 := lp_mkO xs (d + 4) z Ks X B TN S F (nI b) w (flt (fun v => asQ (F v) TN Ks S 0) 9 1) sb bp nw eb wa ms mt cc hv.1 hl hbp 21 0 (by omega) ((flt (fun v => asQ (F v) TN Ks S 0) 9 1).length, -4) z5 (by omega)
    generalize flt (fun v => asQ (F v) TN Ks S 0) 9 1 = vs at h2 hbp hl
    refine ⟨_, ⟨((akO (fun h t => mxP (vs.map (fun v => F v h t))) TN 21 0 (vs.length, -4)).2, -(nI (akO (fun h t => mxP (vs.map (fun v => F v h t))) TN 21 0 (vs.length, -4)).1)), sb, bp, hsb, hbp.1, ⟨nw, eb, wa, ms, mt, cc, ho, rfl⟩⟩, ?_⟩
    refine ev_go 3 (fun _ => rfl) ?_
    refine ev_call (y' := 168) rfl rfl rfl rfl (sp_sJ xs _ (zY z sb bp) Ks X nw eb wa ms mt cc (-(nI vs.length))) ?_
    refine ev_go 2 (fun _ => rfl) ?_
    exact h2)
  refine ⟨h', e1, ?_⟩
  refine ev_go 2 (fun _ => rfl) ?_
  refine ev_call (y' := 130) rfl rfl rfl rfl (sp_isB xs _ (zY z sb bp) Ks X nw eb wa ms mt cc (nI b) B hv.1.2.1 (by omega)) ?_
  rw [show hasI (nI b) Ks.1.2.2.2.1 = true by rw [hv.1.2.1]; exact has_nI (by omega) hb]
  refine ev_go 2 (fun _ => rfl) ?_
  refine ev_call (y' := 132) rfl rfl rfl rfl (sp_part xs _ _ w) ?_
  rw [cw]
  refine ev_go 5 (fun _ => rfl) ?_
  exact e2
end MC17

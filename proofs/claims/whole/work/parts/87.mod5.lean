/-! The reference's own Canal, and what is begun from it -/
def zS (z : ZT) (Ks : CK) (X : List Int32) : ZT := (z.1, z.2.1, z.2.2.1, z.2.2.2.1, flK Ks ++ X, z.2.2.2.2.2)
theorem sg {K : CK} {X : List Int32} {k : Nat} (h : k < 87) : (flK K ++ X)[k]? = (flK K)[k]? := ap_l (by rw [flK_len]; exact h)
theorem ss {K : CK} {X : List Int32} {k : Nat} {v : Int32} (h : k < 87) : (flK K ++ X).set k v = (flK K).set k v ++ X := st_l (by rw [flK_len]; exact h)
theorem sl {K : CK} {X : List Int32} {k : Nat} (h : k < 87) : k < (flK K ++ X).length := by
  rw [List.length_append, flK_len]
  omega
theorem wi_has {b : Int32} {B : Nat} (hB : B ≤ 100) : wiI b 0 (nI B - Int32.ofInt 1) = hasI b (nI B) := by
  have hb : (nI B - Int32.ofInt 1).toInt = (B : Int) - 1 := by
    cases B with
    | zero => rfl
    | succ n =>
      have e : nI (n + 1) - Int32.ofInt 1 = nI n := nI_pred n
      rw [e, nI_toInt (by omega)]
      omega
  have h2 : (nI B).toInt = (B : Int) := nI_toInt (by omega)
  unfold wiI hasI
  congr 1
  rw [decide_eq_decide, Int32.lt_iff_toInt_lt, Int32.le_iff_toInt_le, hb, h2]
  omega
theorem up_all {g : Nat → Int32} {n : Nat} {l : List Int32} (h : l.length = n) : up g n l = (List.range n).map g := by
  unfold up
  rw [List.drop_eq_nil_of_le (by omega), List.append_nil]
theorem rg_get {l : List Int32} {n : Nat} (h : l.length = n) : (List.range n).map (fun j => l.getD j 0) = l := by
  apply List.ext_getElem?
  intro j
  rw [List.getElem?_map]
  by_cases hj : j < n
  · rw [List.getElem?_range hj, List.getElem?_eq_getElem (by omega)]
    show some (l.getD j 0) = _
    rw [List.getD_eq_getElem?_getD, List.getElem?_eq_getElem (by omega)]
    rfl
  · rw [List.getElem?_eq_none (by rw [List.length_range]; omega), List.getElem?_eq_none (by omega)]
    rfl
theorem up_ap {g : Nat → Int32} {n : Nat} {a X : List Int32} (h : a.length = n) : up g n (a ++ X) = (List.range n).map g ++ X := by
  unfold up
  rw [← h, List.drop_left]
/-- the Canal from which all is tried: its counts are 0 -/
def stK (K Ks : CK) : CK := ((Ks.1.1, Ks.1.2.1, Ks.1.2.2.1, Ks.1.2.2.2.1, Ks.1.2.2.2.2.1, Ks.1.2.2.2.2.2.1, 0, 0), (Ks.2.1.1, Ks.2.1.2.1, Ks.2.1.2.2.1, Ks.2.1.2.2.2.1, Ks.2.1.2.2.2.2.1, Ks.2.1.2.2.2.2.2.1, K.2.1.2.2.2.2.2.2), Ks.2.2.map T_clr)
theorem flW_clr (l : List TT) : flW (l.map T_clr) = flW l := by
  unfold flW
  refine fm_congr (fun j _ => ?_)
  unfold flR
  rw [List.getD_eq_getElem?_getD, List.getElem?_map, List.getD_eq_getElem?_getD]
  cases l[j]? <;> rfl
theorem flK_st (K Ks : CK) : flK (stK K Ks) = flK Ks := by
  unfold flK
  rw [show flW (stK K Ks).2.2 = flW Ks.2.2 from flW_clr _]
  rfl
theorem sm_clr {k : Nat} (hk : k = 9 ∨ k = 10) : ∀ l : List TT, smT k (l.map T_clr) = 0
  | [] => rfl
  | T :: l => by
    rw [List.map_cons, smT_c, sm_clr hk l]
    rcases hk with rfl | rfl <;> rfl
theorem eT_clr (l : List TT) (h : l.length = 6) : (l.map T_clr).map eT = [0, 0, 0, 0, 0, 0] := by
  match l, h with
  | [a, b, c, d, e, f], _ => rfl
section MS
variable (xs : List Int32) (d : Nat) (z : ZT) (Ks : CK) (X nw eb wa ms mt : List Int32) (cc : C4)
theorem sp_isB (b : Int32) (B : Nat) (e : Ks.1.2.2.2.1 = nI B) (hB : B ≤ 100) : Ev xs (d + 1) 130 0 [some (.ref 0), some (.int b)] [] (mH (zS z Ks X) nw eb wa ms mt cc) (some (.int (bI (hasI b Ks.1.2.2.2.1)))) (mH (zS z Ks X) nw eb wa ms mt cc) := by
  refine ev_go 6 (fun _ => rfl) ?_
  refine ev_iald rfl rfl (k := 18) rfl ((sg (by decide)).trans fq_18) ?_
  refine ev_go 3 (fun _ => rfl) ?_
  refine ev_call (y' := 110) rfl rfl rfl rfl (sp_in xs d _ b 0 (Ks.1.2.2.2.1 - Int32.ofInt 1)) ?_
  rw [e, wi_has hB]
  cases hasI b (nI B) <;> exact ev_end 1 rfl
theorem sp_isT (b : Int32) (B : Nat) (e : Ks.1.2.2.2.2.1 = nI B) (hB : B ≤ 100) : Ev xs (d + 1) 131 0 [some (.ref 0), some (.int b)] [] (mH (zS z Ks X) nw eb wa ms mt cc) (some (.int (bI (hasI b Ks.1.2.2.2.2.1)))) (mH (zS z Ks X) nw eb wa ms mt cc) := by
  refine ev_go 6 (fun _ => rfl) ?_
  refine ev_iald rfl rfl (k := 67) rfl ((sg (by decide)).trans fq_67) ?_
  refine ev_go 3 (fun _ => rfl) ?_
  refine ev_call (y' := 110) rfl rfl rfl rfl (sp_in xs d _ b 0 (Ks.1.2.2.2.2.1 - Int32.ofInt 1)) ?_
  rw [e, wi_has hB]
  cases hasI b (nI B) <;> exact ev_end 1 rfl
/-- a number of the Canal changed -/
theorem sp_bec (i v x : Int32) (k : Nat) (K' : CK) (hi : mm_ix i = some k) (hk : k < 87) (hx : (flK Ks)[k]? = some x) (he : (flK Ks).set k v = flK K') : Ev xs d 155 0 [some (.ref 0), some (.int i), some (.int v), none] [] (mH (zS z Ks X) nw eb wa ms mt cc) (some (.int x)) (mH (zS z K' X) nw eb wa ms mt cc) := by
  refine ev_go 3 (fun _ => rfl) ?_
  refine ev_iald rfl rfl hi ((sg hk).trans hx) ?_
  refine ev_go 5 (fun _ => rfl) ?_
  refine ev_iastE (L := flK Ks ++ X) (h2 := mH (zS z K' X) nw eb wa ms mt cc) rfl rfl hi (sl hk) ?_ ?_
  · have e : (flK Ks ++ X).set k v = flK K' ++ X := by rw [ss hk, he]
    exact congrArg (fun l => mH (z.1, z.2.1, z.2.2.1, z.2.2.2.1, l, z.2.2.2.2.2) nw eb wa ms mt cc) e
  · exact ev_end 2 rfl
theorem lp_st1 (hnw : nw.length = 87) (R : MH) (kk : ∀ zz, Ev xs d 133 26 [some (.ref 0), zz] [] (mH (zS z Ks X) (flK Ks) eb wa ms mt cc) none R) : ∀ m t, t + m = 87 → Ev xs d 133 2 [some (.ref 0), some (.int (nI t))] [] (mH (zS z Ks X) (up (fun j => (flK Ks).getD j 0) t nw) eb wa ms mt cc) none R := by
  intro m
  induction m with
  | zero =>
    intro t ht
    have e : t = 87 := by omega
    subst e
    rw [up_all hnw, rg_get (flK_len Ks)]
    refine ev_go 2 (fun _ => rfl) ?_
    refine ev_ic_ge rfl rfl (fun _ => ?_) (fun n => absurd (nI_le (a := 87) (b := 87) (by omega) (by omega)) n)
    exact kk _
  | succ m ih =>
    intro t ht
    have it : mm_ix (nI t) = some t := mm_ix_nI (by omega)
    refine ev_go 2 (fun _ => rfl) ?_
    refine ev_ic_ge rfl rfl (fun n => absurd n (nI_ge (b := 87) (by omega) (by omega))) (fun _ => ?_)
    refine ev_go 6 (fun _ => rfl) ?_
    refine ev_iald rfl rfl it ((sg (by omega)).trans (getD_at (by rw [flK_len]; omega))) ?_
    refine ev_iastE rfl (h2 := mH (zS z Ks X) ((up (fun j => (flK Ks).getD j 0) t nw).set t ((flK Ks).getD t 0)) eb wa ms mt cc) rfl it (by rw [up_len (by omega)]; omega) rfl ?_
    refine ev_go 2 (ls' := [some (.ref 0), some (.int (nI t + Int32.ofInt 1))]) (fun _ => rfl) ?_
    rw [nI_inc, up_s (g := fun j => (flK Ks).getD j 0) (by omega)]
    exact ih (t + 1) (by omega)
theorem lp_st2 (heb : eb.length = 6) : ∀ m t, t + m = 6 → Ev xs d 133 28 [some (.ref 0), some (.int (nI t))] [] (mH (zS z Ks X) nw (up (fun _ => (0 : Int32)) t eb) wa ms mt cc) none (mH (zS z Ks X) nw [0, 0, 0, 0, 0, 0] wa ms mt (0, 0, 0, 0)) := by
  intro m
  induction m with
  | zero =>
    intro t ht
    have e : t = 6 := by omega
    subst e
    rw [up_all heb]
    refine ev_go 2 (fun _ => rfl) ?_
    refine ev_ic_ge rfl rfl (fun _ => ?_) (fun n => absurd (nI_le (a := 6) (b := 6) (by omega) (by omega)) n)
    exact ev_end 13 rfl
  | succ m ih =>
    intro t ht
    have it : mm_ix (nI t) = some t := mm_ix_nI (by omega)
    refine ev_go 2 (fun _ => rfl) ?_
    refine ev_ic_ge rfl rfl (fun n => absurd n (nI_ge (b := 6) (by omega) (by omega))) (fun _ => ?_)
    refine ev_go 4 (fun _ => rfl) ?_
    refine ev_iastE rfl (h2 := mH (zS z Ks X) nw ((up (fun _ => (0 : Int32)) t eb).set t 0) wa ms mt cc) rfl it (by rw [up_len (by omega)]; omega) rfl ?_
    refine ev_go 2 (ls' := [some (.ref 0), some (.int (nI t + Int32.ofInt 1))]) (fun _ => rfl) ?_
    rw [nI_inc, up_s (g := fun _ => (0 : Int32)) (by omega)]
    exact ih (t + 1) (by omega)
theorem sp_starts (hnw : nw.length = 87) (heb : eb.length = 6) : Ev xs d 133 0 [some (.ref 0), none] [] (mH (zS z Ks X) nw eb wa ms mt cc) none (mH (zS z Ks X) (flK Ks) [0, 0, 0, 0, 0, 0] wa ms mt (0, 0, 0, 0)) := by
  refine ev_go 2 (fun _ => rfl) ?_
  refine lp_st1 xs d z Ks X nw eb wa ms mt cc hnw _ (fun zz => ?_) 87 0 (by omega)
  refine ev_go 2 (ls' := [some (.ref 0), some (.int (nI 0))]) (fun _ => rfl) ?_
  exact lp_st2 xs d z Ks X (flK Ks) eb wa ms mt cc heb 6 0 (by omega)
theorem sp_stT (K : CK) (h6 : K.2.2.length = 6) (hs6 : Ks.2.2.length = 6) : Ev xs d 133 0 [some (.ref 0), none] [] (mT (zS z Ks X) K) none (mT (zS z Ks X) (stK K Ks)) := by
  have h := sp_starts xs d z Ks X (flK K) (K.2.2.map eT) K.2.1.2.2.2.2.2.2.1 K.2.1.2.2.2.2.2.2.2.2.2 K.2.1.2.2.2.2.2.2.2.2.1 (smT 9 K.2.2, smT 10 K.2.2, K.1.2.2.2.2.2.2.1, K.1.2.2.2.2.2.2.2) (flK_len K) (by rw [List.length_map]; exact h6)
  unfold mT mE
  rw [flK_st, show (stK K Ks).2.2 = Ks.2.2.map T_clr from rfl, eT_clr _ hs6, sm_clr (Or.inl rfl), sm_clr (Or.inr rfl)]
  exact h
theorem lp_set (K : CK) : ∀ m t, t + m = 87 → Ev xs d 134 2 [some (.ref 0), some (.int (nI t))] [] (mH (z.1, z.2.1, z.2.2.1, z.2.2.2.1, up (fun j => (flK K).getD j 0) t (flK Ks ++ X), z.2.2.2.2.2) (flK K) eb wa ms mt cc) none (mH (zS z K X) (flK K) eb wa ms mt cc) := by
  intro m
  induction m with
  | zero =>
    intro t ht
    have e : t = 87 := by omega
    subst e
    rw [up_ap (flK_len Ks), rg_get (flK_len K)]
    refine ev_go 2 (fun _ => rfl) ?_
    refine ev_ic_ge rfl rfl (fun _ => ?_) (fun n => absurd (nI_le (a := 87) (b := 87) (by omega) (by omega)) n)
    exact ev_end 1 rfl
  | succ m ih =>
    intro t ht
    have it : mm_ix (nI t) = some t := mm_ix_nI (by omega)
    have hl : (flK Ks ++ X).length = 87 + X.length := by rw [List.length_append, flK_len]
    refine ev_go 2 (fun _ => rfl) ?_
    refine ev_ic_ge rfl rfl (fun n => absurd n (nI_ge (b := 87) (by omega) (by omega))) (fun _ => ?_)
    refine ev_go 6 (fun _ => rfl) ?_
    refine ev_iald rfl rfl it (getD_at (by rw [flK_len]; omega)) ?_
    refine ev_iastE rfl (h2 := mH (z.1, z.2.1, z.2.2.1, z.2.2.2.1, (up (fun j => (flK K).getD j 0) t (flK Ks ++ X)).set t ((flK K).getD t 0), z.2.2.2.2.2) (flK K) eb wa ms mt cc) rfl it (by rw [up_len (by omega)]; omega) rfl ?_
    refine ev_go 2 (ls' := [some (.ref 0), some (.int (nI t + Int32.ofInt 1))]) (fun _ => rfl) ?_
    rw [nI_inc, up_s (g := fun j => (flK K).getD j 0) (by omega)]
    exact ih (t + 1) (by omega)
theorem sp_settles (K : CK) : Ev xs d 134 0 [some (.ref 0), none] [] (mH (zS z Ks X) (flK K) eb wa ms mt cc) none (mH (zS z K X) (flK K) eb wa ms mt cc) := by
  refine ev_go 2 (fun _ => rfl) ?_
  exact lp_set xs d z Ks X eb wa ms mt cc K 87 0 (by omega)
/-- a sum over the Talks -/
theorem lp_smM (TN k k' : Nat) (e : Ks.1.2.2.2.2.1 = nI TN) (hTN : TN ≤ 6) (h6 : Ks.2.2.length = 6) (hk : k < 8) (hkk : ∀ T : TT, (flT T)[k]? = some (T_tell T k')) : ∀ m t, t + m = TN → Ev xs d 150 4 [some (.ref 0), some (.int (nI k)), some (.int (smT k' (Ks.2.2.take t))), some (.int (nI t))] [] (mH (zS z Ks X) nw eb wa ms mt cc) (some (.int (smT k' (Ks.2.2.take TN)))) (mH (zS z Ks X) nw eb wa ms mt cc) := by
  intro m
  induction m with
  | zero =>
    intro t ht
    have e2 : t = TN := by omega
    subst e2
    refine ev_go 4 (fun _ => rfl) ?_
    refine ev_iald rfl rfl (k := 67) rfl ((sg (by decide)).trans fq_67) ?_
    rw [e]
    refine ev_ic_ge rfl rfl (fun _ => ?_) (fun n => absurd (nI_le (Nat.le_refl _) (by omega)) n)
    exact ev_end 2 rfl
  | succ m ih =>
    intro t ht
    have hT : Ks.2.2[t]? = some Ks.2.2[t] := List.getElem?_eq_getElem (by omega)
    refine ev_go 4 (fun _ => rfl) ?_
    refine ev_iald rfl rfl (k := 67) rfl ((sg (by decide)).trans fq_67) ?_
    rw [e]
    refine ev_ic_ge rfl rfl (fun n => absurd n (nI_ge (by omega) (by omega))) (fun _ => ?_)
    refine ev_go 10 (fun _ => rfl) ?_
    refine ev_iald rfl rfl (ix8 (by omega)) ((sg (by omega)).trans ((fq_T hT (by omega) hk).trans (hkk _))) ?_
    refine ev_go 4 (ls' := [some (.ref 0), some (.int (nI k)), some (.int (smT k' (Ks.2.2.take t) + T_tell Ks.2.2[t] k')), some (.int (nI t + Int32.ofInt 1))]) (fun _ => rfl) ?_
    rw [nI_inc, ← smT_s hT]
    exact ih (t + 1) (by omega)
theorem sp_smM (TN k k' : Nat) (e : Ks.1.2.2.2.2.1 = nI TN) (hTN : TN ≤ 6) (h6 : Ks.2.2.length = 6) (hk : k < 8) (hkk : ∀ T : TT, (flT T)[k]? = some (T_tell T k')) : Ev xs d 150 0 [some (.ref 0), some (.int (nI k)), none, none] [] (mH (zS z Ks X) nw eb wa ms mt cc) (some (.int (smT k' (Ks.2.2.take TN)))) (mH (zS z Ks X) nw eb wa ms mt cc) := by
  refine ev_go 4 (fun _ => rfl) ?_
  exact lp_smM xs d z Ks X nw eb wa ms mt cc TN k k' e hTN h6 hk hkk TN 0 (by omega)
end MS

/-! The reference's Talks -/
theorem ix3 {b w : Nat} (h : 3 + 3 * b + w < 2 ^ 31) : mm_ix (Int32.ofInt 3 + Int32.ofInt 3 * nI b + nI w) = some (3 + 3 * b + w) := by
  have e : Int32.ofInt 3 = nI 3 := rfl
  rw [e, nI_mulA, nI_add, nI_add]
  exact mm_ix_nI h
theorem ix8 {t k : Nat} (h : 19 + 8 * t + k < 2 ^ 31) : mm_ix ((Int8.ofInt 19).toInt32 + (Int8.ofInt 8).toInt32 * nI t + nI k) = some (19 + 8 * t + k) := by
  have e : (Int8.ofInt 19).toInt32 = nI 19 := rfl
  have e2 : (Int8.ofInt 8).toInt32 = nI 8 := rfl
  rw [e, e2, nI_mulA, nI_add, nI_add]
  exact mm_ix_nI h
theorem setR_at {K : CK} {t : Nat} {T : TT} (h : t < K.2.2.length) : (setR K t T).2.2[t]? = some T := List.getElem?_set_self h
theorem setR_R {K : CK} {t : Nat} {T U : TT} : setR (setR K t T) t U = setR K t U := by
  unfold setR
  dsimp only
  rw [List.set_set]
theorem setR_self {K : CK} {t : Nat} {T : TT} (h : K.2.2[t]? = some T) : setR K t T = K := by
  unfold setR
  rw [set_self h]
theorem setR_len {K : CK} {t : Nat} {T : TT} : (setR K t T).2.2.length = K.2.2.length := List.length_set
/-- do two meet, by where they were and are -/
def pmB (wa wb oa ob : Int32) : Bool := decide (oa = ob) || ((decide (wa < wb) && decide (ob < oa)) || (decide (wb < wa) && decide (oa < ob)))
section MT
variable (xs : List Int32) (d : Nat) (z : ZT) (eb wa ms mt : List Int32) (cc : C4) (K : CK)
theorem sp_of (b w : Nat) (hb : b < 5) (hw : w ≤ 2) : Ev xs d 135 0 [some (.ref 0), some (.int (nI b)), some (.int (nI w))] [] (mH z (flK K) eb wa ms mt cc) (some (.int (gtK K w b))) (mH z (flK K) eb wa ms mt cc) := by
  refine ev_go 9 (fun _ => rfl) ?_
  refine ev_iald rfl rfl (ix3 (by omega)) (fq_B hb hw) ?_
  exact ev_end 1 rfl
theorem sp_ofT {t k : Nat} {T : TT} {v : Int32} (ht : t < 6) (hT : K.2.2[t]? = some T) (hk : k < 8) (hv : (flT T)[k]? = some v) : Ev xs d 136 0 [some (.ref 0), some (.int (nI t)), some (.int (nI k))] [] (mH z (flK K) eb wa ms mt cc) (some (.int v)) (mH z (flK K) eb wa ms mt cc) := by
  refine ev_go 9 (fun _ => rfl) ?_
  refine ev_iald rfl rfl (ix8 (by omega)) ((fq_T hT ht hk).trans hv) ?_
  exact ev_end 1 rfl
theorem sp_tb {t k : Nat} {T : TT} (T' : TT) {v : Int32} (ht : t < 6) (hT : K.2.2[t]? = some T) (hk : k < 8) (he : flT T' = (flT T).set k v) : Ev xs d 137 0 [some (.ref 0), some (.int (nI t)), some (.int (nI k)), some (.int v)] [] (mH z (flK K) eb wa ms mt cc) none (mH z (flK (setR K t T')) eb wa ms mt cc) := by
  refine ev_go 10 (fun _ => rfl) ?_
  refine ev_iastE (L := flK K) rfl rfl (ix8 (by omega)) (by rw [flK_len]; omega) (congrArg (fun l => mH z l eb wa ms mt cc) (fs_T hT ht hk he)) ?_
  exact ev_end 1 rfl
theorem sp_pl (b : Nat) (hb : b < 5) : Ev xs (d + 1) 138 0 [some (.ref 0), some (.int (nI b)), none] [] (mH z (flK K) eb wa ms mt cc) (some (.int (plI K.1.1 (K.2.1.2.1.getD b 0)))) (mH z (flK K) eb wa ms mt cc) := by
  unfold plI
  refine ev_go 3 (fun _ => rfl) ?_
  refine ev_call (y' := 135) rfl rfl rfl rfl (sp_of xs d z eb wa ms mt cc K b 1 hb (by decide)) ?_
  refine ev_go 5 (fun _ => rfl) ?_
  refine ev_iald rfl rfl (k := 0) rfl fq_0 ?_
  split
  · rename_i c
    refine ev_ic_le rfl rfl (fun _ => ?_) (fun n => absurd (c) n)
    exact ev_end 2 rfl
  · rename_i c
    refine ev_ic_le rfl rfl (fun n => absurd n (c)) (fun _ => ?_)
    refine ev_go 4 (fun _ => rfl) ?_
    refine ev_iald rfl rfl (k := 0) rfl fq_0 ?_
    exact ev_end 5 rfl
theorem sp_dm (a b : Nat) (x1 x2 : Int32) (ha : a < 5) (hb : b < 5) (h1 : wa[a]? = some x1) (h2 : wa[b]? = some x2) : Ev xs (d + 2) 139 0 [some (.ref 0), some (.int (nI a)), some (.int (nI b)), none, none] [] (mH z (flK K) eb wa ms mt cc) (some (.int (bI (pmB x1 x2 (plI K.1.1 (K.2.1.2.1.getD a 0)) (plI K.1.1 (K.2.1.2.1.getD b 0)))))) (mH z (flK K) eb wa ms mt cc) := by
  have ia : mm_ix (nI a) = some a := mm_ix_nI (by omega)
  have ib : mm_ix (nI b) = some b := mm_ix_nI (by omega)
  refine ev_go 2 (fun _ => rfl) ?_
  refine ev_call (y' := 138) rfl rfl rfl rfl (sp_pl xs d z eb wa ms mt cc K a ha) ?_
  refine ev_go 3 (fun _ => rfl) ?_
  refine ev_call (y' := 138) rfl rfl rfl rfl (sp_pl xs d z eb wa ms mt cc K b hb) ?_
  generalize plI K.1.1 (K.2.1.2.1.getD a 0) = y1
  generalize plI K.1.1 (K.2.1.2.1.getD b 0) = y2
  unfold pmB
  refine ev_go 3 (fun _ => rfl) ?_
  by_cases c : y1 = y2
  · refine ev_ic_eq rfl rfl (fun _ => ?_) (fun n => absurd (c) n)
    rw [decide_eq_true c]
    exact ev_end 3 rfl
  · refine ev_ic_eq rfl rfl (fun n => absurd n (c)) (fun _ => ?_)
    rw [decide_eq_false c]
    refine ev_go 3 (fun _ => rfl) ?_
    refine ev_iald rfl rfl ia h1 ?_
    refine ev_go 3 (fun _ => rfl) ?_
    refine ev_iald rfl rfl ib h2 ?_
    by_cases c2 : x1 < x2
    · refine ev_ic_ge rfl rfl (fun n => absurd n (i32_lt_nle c2)) (fun _ => ?_)
      have c5 : ¬ x2 < x1 := i32_le_nlt (Int32.le_of_lt c2)
      rw [decide_eq_true c2, decide_eq_false c5]
      refine ev_go 2 (fun _ => rfl) ?_
      by_cases c3 : y2 < y1
      · refine ev_ic_gt rfl rfl (fun _ => ?_) (fun n => absurd (c3) n)
        rw [decide_eq_true c3]
        exact ev_end 3 rfl
      · refine ev_ic_gt rfl rfl (fun n => absurd n (c3)) (fun _ => ?_)
        rw [decide_eq_false c3]
        refine ev_go 3 (fun _ => rfl) ?_
        refine ev_iald rfl rfl ia h1 ?_
        refine ev_go 3 (fun _ => rfl) ?_
        refine ev_iald rfl rfl ib h2 ?_
        refine ev_ic_le rfl rfl (fun _ => ?_) (fun n => absurd (Int32.le_of_lt c2) n)
        exact ev_end 2 rfl
    · refine ev_ic_ge rfl rfl (fun _ => ?_) (fun n => absurd (i32_nlt c2) n)
      rw [decide_eq_false c2]
      refine ev_go 3 (fun _ => rfl) ?_
      refine ev_iald rfl rfl ia h1 ?_
      refine ev_go 3 (fun _ => rfl) ?_
      refine ev_iald rfl rfl ib h2 ?_
      by_cases c4 : x1 ≤ x2
      · refine ev_ic_le rfl rfl (fun _ => ?_) (fun n => absurd (c4) n)
        rw [decide_eq_false (i32_le_nlt c4)]
        exact ev_end 2 rfl
      · refine ev_ic_le rfl rfl (fun n => absurd n (c4)) (fun _ => ?_)
        rw [decide_eq_true (i32_nle c4)]
        refine ev_go 2 (fun _ => rfl) ?_
        by_cases c3 : y1 < y2
        · refine ev_ic_ge rfl rfl (fun n => absurd n (i32_lt_nle c3)) (fun _ => ?_)
          rw [decide_eq_true c3]
          exact ev_end 3 rfl
        · refine ev_ic_ge rfl rfl (fun _ => ?_) (fun n => absurd (i32_nlt c3) n)
          rw [decide_eq_false c3]
          exact ev_end 2 rfl
variable {t : Nat} {T : TT}
theorem sp_spk (ht : t < 6) (hT : K.2.2[t]? = some T) : Ev xs (d + 1) 141 0 [some (.ref 0), some (.int (nI t))] [] (mH z (flK K) eb wa ms mt cc) (some (.int (T_turn T))) (mH z (flK K) eb wa ms mt cc) := by
  unfold T_turn
  refine ev_go 3 (fun _ => rfl) ?_
  refine ev_call (y' := 136) rfl rfl rfl rfl (sp_ofT xs d z eb wa ms mt cc K ht hT (k := 3) (by decide) rfl) ?_
  refine ev_go 1 (fun _ => rfl) ?_
  refine ev_irem (z := 2) rfl (by decide) ?_
  by_cases c : T.2.2.2.1 - T.2.2.2.1 / 2 * 2 = 0
  · rw [if_pos c]
    refine ev_if_ne rfl rfl (fun n => absurd n (fun n => n c)) (fun _ => ?_)
    refine ev_go 3 (fun _ => rfl) ?_
    refine ev_call (y' := 136) rfl rfl rfl rfl (sp_ofT xs d z eb wa ms mt cc K ht hT (k := 0) (by decide) rfl) ?_
    exact ev_end 2 rfl
  · rw [if_neg c]
    refine ev_if_ne rfl rfl (fun _ => ?_) (fun n => absurd (c) n)
    refine ev_go 3 (fun _ => rfl) ?_
    refine ev_call (y' := 136) rfl rfl rfl rfl (sp_ofT xs d z eb wa ms mt cc K ht hT (k := 1) (by decide) rfl) ?_
    exact ev_end 1 rfl
theorem ev_ts_k {pc q : Nat} {y : Nat} {ls : ML} {st : List Value} {h h' : MH} {r : Option Value} {x : Int32} {df lo hi off : Int} {offs : Array Int} (hf : fetT y pc = some (.tableswitch df lo hi offs)) (h1 : ¬ x.toInt < lo) (h2 : ¬ hi < x.toInt) (ho : offs[(x.toInt - lo).toNat]? = some off) (ht : mm_to pc off = some q) (hv : Ev xs d y q ls st h r h') : Ev xs d y pc ls (.int x :: st) h r h' := by
  refine ev_s0 hf ?_ hv
  show (if x.toInt < lo then mm_go ls st (mm_to pc df) else if hi < x.toInt then mm_go ls st (mm_to pc df) else match offs[(x.toInt - lo).toNat]? with
    | some off => mm_go ls st (mm_to pc off)
    | none => none) = _
  rw [if_neg h1, if_neg h2, ho]
  dsimp only
  rw [ht]
  rfl
theorem sp_wds (ht : t < 6) (hT : K.2.2[t]? = some T) (w : Nat) (hw : w < 5) (e : T_turn T = nI w) (met : Int32) : Ev xs (d + 2) 142 0 [some (.ref 0), some (.int (nI t)), some (.int met), none] [] (mH z (flK K) eb wa ms mt cc) (some (.int (T_words T (K.2.1.1.getD w 0) met).1)) (mH z (flK (setR K t (T_words T (K.2.1.1.getD w 0) met).2)) eb wa ms mt cc) := by
  refine ev_go 3 (fun _ => rfl) ?_
  refine ev_call (y' := 141) rfl rfl rfl rfl (sp_spk xs _ z eb wa ms mt cc K ht hT) ?_
  rw [e]
  refine ev_go 1 (fun _ => rfl) ?_
  refine ev_call (y' := 135) rfl rfl rfl rfl (sp_of xs _ z eb wa ms mt cc K w 0 hw (by decide)) ?_
  show Ev _ _ _ _ _ [.int (K.2.1.1.getD w 0)] _ _ _
  generalize K.2.1.1.getD w 0 = kd
  unfold T_words
  by_cases c3 : kd = 3
  · subst c3
    rw [if_pos rfl]
    refine ev_ts_k (q := 49) xs _ rfl (by decide) (by decide) rfl rfl ?_
    obtain ⟨a, b, nd, sa, si, no, en, lo, es, ls⟩ := T
    refine ev_go 3 (fun _ => rfl) ?_
    refine ev_call (y' := 136) rfl rfl rfl rfl (sp_ofT xs _ z eb wa ms mt cc K ht hT (k := 5) (by decide) rfl) ?_
    cases no with
    | false =>
      refine ev_go 10 (fun _ => rfl) ?_
      refine ev_call (y' := 137) rfl rfl rfl rfl (sp_tb xs _ z eb wa ms mt cc K (T_nod (a, b, nd, sa, si, false, en, lo, es, ls) true) ht hT (k := 5) (by decide) rfl) ?_
      exact ev_end 4 rfl
    | true =>
      refine ev_go 12 (fun _ => rfl) ?_
      refine ev_call (y' := 137) rfl rfl rfl rfl (sp_tb xs _ z eb wa ms mt cc K (T_nod (a, b, nd, sa, si, true, en, lo, es, ls) false) ht hT (k := 5) (by decide) rfl) ?_
      refine ev_go 4 (fun _ => rfl) ?_
      dsimp only
      by_cases c : 1 < met
      · rw [if_pos c]
        refine ev_ic_gt rfl rfl (fun _ => ?_) (fun n => absurd (c) n)
        exact ev_end 2 rfl
      · rw [if_neg c]
        refine ev_ic_gt rfl rfl (fun n => absurd n (c)) (fun _ => ?_)
        exact ev_end 3 rfl
  · rw [if_neg c3]
    by_cases c2 : kd = 2
    · subst c2
      rw [if_pos rfl, setR_self hT]
      refine ev_ts_k (q := 38) xs _ rfl (by decide) (by decide) rfl rfl ?_
      refine ev_go 2 (fun _ => rfl) ?_
      dsimp only
      by_cases c : 1 < met
      · rw [if_pos c]
        refine ev_ic_le rfl rfl (fun n => absurd n (i32_lt_nle c)) (fun _ => ?_)
        exact ev_end 3 rfl
      · rw [if_neg c]
        refine ev_ic_le rfl rfl (fun _ => ?_) (fun n => absurd (i32_nlt c) n)
        exact ev_end 2 rfl
    · rw [if_neg c2]
      by_cases c1 : kd = 1
      · subst c1
        rw [if_pos rfl, setR_self hT]
        refine ev_ts_k (q := 36) xs _ rfl (by decide) (by decide) rfl rfl ?_
        exact ev_end 2 rfl
      · rw [if_neg c1, setR_self hT]
        have hx : kd.toInt < 1 ∨ 3 < kd.toInt := by
          by_cases q1 : kd.toInt < 1
          · exact Or.inl q1
          · by_cases q3 : 3 < kd.toInt
            · exact Or.inr q3
            · exfalso
              have : kd.toInt = 1 ∨ kd.toInt = 2 ∨ kd.toInt = 3 := by omega
              rcases this with q | q | q
              · exact c1 (Int32.toInt_inj.mp q)
              · exact c2 (Int32.toInt_inj.mp q)
              · exact c3 (Int32.toInt_inj.mp q)
        refine ev_ts_d (t := 95) rfl rfl hx ?_
        exact ev_end 2 rfl
theorem sp_begins (ht : t < 6) (hT : K.2.2[t]? = some T) : Ev xs (d + 1) 143 0 [some (.ref 0), some (.int (nI t))] [] (mH z (flK K) eb wa ms mt cc) none (mH z (flK (setR K t (T_off T))) eb wa ms mt cc) := by
  have hl : t < K.2.2.length := (List.getElem?_eq_some_iff.mp hT).1
  obtain ⟨a, b, nd, sa, si, no, en, lo, es, ls⟩ := T
  refine ev_go 4 (fun _ => rfl) ?_
  refine ev_call (y' := 137) rfl rfl rfl rfl (sp_tb xs _ z eb wa ms mt cc K (a, b, nd, 0, si, no, en, lo, es, ls) ht hT (k := 3) (by decide) rfl) ?_
  refine ev_go 4 (fun _ => rfl) ?_
  refine ev_call (y' := 137) rfl rfl rfl rfl (sp_tb xs _ z eb wa ms mt cc (setR K t (a, b, nd, 0, si, no, en, lo, es, ls)) (a, b, nd, 0, 0, no, en, lo, es, ls) ht (setR_at hl) (k := 4) (by decide) rfl) ?_
  rw [setR_R]
  refine ev_go 4 (fun _ => rfl) ?_
  refine ev_call (y' := 137) rfl rfl rfl rfl (sp_tb xs _ z eb wa ms mt cc (setR K t (a, b, nd, 0, 0, no, en, lo, es, ls)) (a, b, nd, 0, 0, false, en, lo, es, ls) ht (setR_at hl) (k := 5) (by decide) rfl) ?_
  rw [setR_R]
  exact ev_end 1 rfl
end MT
def T_say (T : TT) (w : Int32) : TT := (T.1, T.2.1, T.2.2.1, mnI T.2.2.1 (T.2.2.2.1 + w), 0, T.2.2.2.2.2)
/-- a Talk with one more end, one more loss -/
def T_end (T : TT) : TT := (T.1, T.2.1, T.2.2.1, 0, 0, false, mnI 999 (T.2.2.2.2.2.2.1 + 1), T.2.2.2.2.2.2.2.1, T.2.2.2.2.2.2.2.2.1 + 1, T.2.2.2.2.2.2.2.2.2)
section MT2
variable (xs : List Int32) (d : Nat) (z : ZT) (eb wa ms mt : List Int32) (a b c g : Int32) (K : CK) {t : Nat} {T : TT}
theorem sp_says1 (ht : t < 6) (hT : K.2.2[t]? = some T) (w : Int32) (hw : 0 < w) : Ev xs (d + 1) 144 0 [some (.ref 0), some (.int (nI t)), some (.int w)] [] (mH z (flK K) eb wa ms mt (a, b, c, g)) none (mH z (flK (setR K t (T_say T w))) eb wa ms mt (a, b, c + w, g)) := by
  have hl : t < K.2.2.length := (List.getElem?_eq_some_iff.mp hT).1
  refine ev_go 7 (h1 := mH z (flK K) eb wa ms mt (a, b, c + w, g)) (fun _ => rfl) ?_
  refine ev_if_le rfl rfl (fun n => absurd n (i32_lt_nle hw)) (fun _ => ?_)
  refine ev_go 6 (fun _ => rfl) ?_
  refine ev_call (y' := 136) rfl rfl rfl rfl (sp_ofT xs _ z eb wa ms mt (a, b, c + w, g) K ht hT (k := 3) (by decide) rfl) ?_
  refine ev_go 5 (fun _ => rfl) ?_
  refine ev_call (y' := 136) rfl rfl rfl rfl (sp_ofT xs _ z eb wa ms mt (a, b, c + w, g) K ht hT (k := 2) (by decide) rfl) ?_
  refine ev_call (y' := 112) rfl rfl rfl rfl (sp_upTo xs _ _ (T.2.2.2.1 + w) T.2.2.1) ?_
  refine ev_call (y' := 137) rfl rfl rfl rfl (sp_tb xs _ z eb wa ms mt (a, b, c + w, g) K (T.1, T.2.1, T.2.2.1, mnI T.2.2.1 (T.2.2.2.1 + w), T.2.2.2.2) ht hT (k := 3) (by decide) rfl) ?_
  refine ev_go 4 (fun _ => rfl) ?_
  refine ev_call (y' := 137) rfl rfl rfl rfl (sp_tb xs _ z eb wa ms mt (a, b, c + w, g) _ (T_say T w) ht (setR_at hl) (k := 4) (by decide) rfl) ?_
  rw [setR_R]
  exact ev_end 1 rfl
theorem sp_says0 (t w : Int32) (hw : ¬ 0 < w) : Ev xs (d + 1) 144 0 [some (.ref 0), some (.int t), some (.int w)] [] (mH z (flK K) eb wa ms mt (a, b, c, g)) none (mH z (flK K) eb wa ms mt (a, b, c + w, g)) := by
  refine ev_go 7 (h1 := mH z (flK K) eb wa ms mt (a, b, c + w, g)) (fun _ => rfl) ?_
  refine ev_if_le rfl rfl (fun _ => ?_) (fun n => absurd (i32_nlt hw) n)
  exact ev_end 1 rfl
theorem sp_mayE0 (ht : t < 6) (hT : K.2.2[t]? = some T) (hn : ¬ T.2.2.2.1 = T.2.2.1) : Ev xs (d + 1) 145 0 [some (.ref 0), some (.int (nI t))] [] (mH z (flK K) eb wa ms mt (a, b, c, g)) none (mH z (flK K) eb wa ms mt (a, b, c, g)) := by
  refine ev_go 3 (fun _ => rfl) ?_
  refine ev_call (y' := 136) rfl rfl rfl rfl (sp_ofT xs _ z eb wa ms mt (a, b, c, g) K ht hT (k := 3) (by decide) rfl) ?_
  refine ev_go 3 (fun _ => rfl) ?_
  refine ev_call (y' := 136) rfl rfl rfl rfl (sp_ofT xs _ z eb wa ms mt (a, b, c, g) K ht hT (k := 2) (by decide) rfl) ?_
  refine ev_ic_ne rfl rfl (fun _ => ?_) (fun n => absurd (hn) n)
  exact ev_end 1 rfl
theorem sp_mayE1 (ht : t < 6) (hT : K.2.2[t]? = some T) (hn : T.2.2.2.1 = T.2.2.1) (hl6 : eb.length = 6) : Ev xs (d + 2) 145 0 [some (.ref 0), some (.int (nI t))] [] (mH z (flK K) eb wa ms mt (a, b, c, g)) none (mH z (flK (setR K t (T_end T))) (eb.set t (eb.getD t 0 + 1)) wa ms mt (a + 1, b, c, g)) := by
  have hl : t < K.2.2.length := (List.getElem?_eq_some_iff.mp hT).1
  have it : mm_ix (nI t) = some t := mm_ix_nI (by omega)
  refine ev_go 3 (fun _ => rfl) ?_
  refine ev_call (y' := 136) rfl rfl rfl rfl (sp_ofT xs _ z eb wa ms mt (a, b, c, g) K ht hT (k := 3) (by decide) rfl) ?_
  refine ev_go 3 (fun _ => rfl) ?_
  refine ev_call (y' := 136) rfl rfl rfl rfl (sp_ofT xs _ z eb wa ms mt (a, b, c, g) K ht hT (k := 2) (by decide) rfl) ?_
  refine ev_ic_ne rfl rfl (fun n => absurd n (fun n => n hn)) (fun _ => ?_)
  refine ev_go 10 (h1 := mH z (flK K) eb wa ms mt (a + 1, b, c, g)) (fun _ => rfl) ?_
  refine ev_iald (L := eb) rfl rfl it (getD_at (by omega)) ?_
  refine ev_go 2 (fun _ => rfl) ?_
  refine ev_iastE rfl (L := eb) (h2 := mH z (flK K) (eb.set t (eb.getD t 0 + 1)) wa ms mt (a + 1, b, c, g)) rfl it (by omega) rfl ?_
  refine ev_go 6 (fun _ => rfl) ?_
  refine ev_call (y' := 136) rfl rfl rfl rfl (sp_ofT xs _ z (eb.set t (eb.getD t 0 + 1)) wa ms mt (a + 1, b, c, g) K ht hT (k := 6) (by decide) rfl) ?_
  refine ev_go 3 (fun _ => rfl) ?_
  refine ev_call (y' := 112) rfl rfl rfl rfl (sp_upTo xs _ _ (T.2.2.2.2.2.2.1 + 1) 999) ?_
  refine ev_call (y' := 137) rfl rfl rfl rfl (sp_tb xs _ z (eb.set t (eb.getD t 0 + 1)) wa ms mt (a + 1, b, c, g) K (T.1, T.2.1, T.2.2.1, T.2.2.2.1, T.2.2.2.2.1, T.2.2.2.2.2.1, mnI 999 (T.2.2.2.2.2.2.1 + 1), T.2.2.2.2.2.2.2.1, T.2.2.2.2.2.2.2.2.1 + 1, T.2.2.2.2.2.2.2.2.2) ht hT (k := 6) (by decide) rfl) ?_
  refine ev_go 2 (fun _ => rfl) ?_
  refine ev_call (y' := 143) rfl rfl rfl rfl (sp_begins xs _ z (eb.set t (eb.getD t 0 + 1)) wa ms mt (a + 1, b, c, g) _ ht (setR_at hl)) ?_
  rw [setR_R]
  exact ev_end 1 rfl
end MT2

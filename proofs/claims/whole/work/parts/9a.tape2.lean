/-! The Tape: names, numbers, stops -/
section STR
variable {xs : List Int32} {d pc j : Nat} {ls : ML} {st : List Value} {h h' : MH} {r : Option Value} {Lw : List Int32}
theorem ev_prm {y n : Nat} {i : Instr} {st' : List Value} (hf : fetT y pc = some i) (h0 : mm_s0 i pc ls st = none) (h1 : mm_s1 (fldT y) i pc st h = none) (hp : prmT xs y d i st = some (n, st')) (hv : Ev xs d y (pc + n) ls st' h r h') : Ev xs d y pc ls st h r h' := by
  refine ev_st hf ?_ hv
  unfold mm_stp
  rw [h0]
  dsimp only
  rw [h1]
  dsimp only
  rw [hp]
theorem prmT_S {y : Nat} {i : Instr} (h0 : prm0T xs y d i st = none) : prmT xs y d i st = prmS y d i st := by
  unfold prmT
  rw [h0]
theorem prmS_len {y idx k : Nat} (hb : (Nat.beq y 46 && Nat.beq idx 102 && Nat.ble 6 d && Nat.ble (mm_ct st) 8) = true) (hj : mm_lk mt_tk k = some Lw) : prmS y d (.invokevirtual idx) (.ref k :: st) = some (3, .int (Int32.ofNat Lw.length) :: st) := by
  unfold prmS
  dsimp only
  rw [hj, hb]
theorem prmS_chr {y idx k i : Nat} {x q : Int32} (hb : (Nat.beq y 46 && Nat.beq idx 106 && Nat.ble 6 d && Nat.ble (mm_ct st) 8) = true) (hj : mm_lk mt_tk k = some Lw) (hi : mm_ix q = some i) (hx : Lw[i]? = some x) : prmS y d (.invokevirtual idx) (.int q :: .ref k :: st) = some (3, .int x :: st) := by
  unfold prmS
  dsimp only
  rw [hj, hi, hb]
  dsimp only
  rw [hx]
theorem ev_slen (hf : fetT 46 pc = some (.invokevirtual 102)) (hj : mm_lk mt_tk j = some Lw) (hd : 6 ≤ d) (hc : mm_ct st ≤ 8) (hv : Ev xs d 46 (pc + 3) ls (.int (Int32.ofNat Lw.length) :: st) h r h') : Ev xs d 46 pc ls (.ref j :: st) h r h' :=
  ev_prm hf rfl rfl ((prmT_S rfl).trans (prmS_len (by rw [Nat.ble_eq_true_of_le hd, Nat.ble_eq_true_of_le hc]; rfl) hj)) hv
theorem ev_schr {i : Nat} {x : Int32} (hf : fetT 46 pc = some (.invokevirtual 106)) (hj : mm_lk mt_tk j = some Lw) (hi : i < 100) (hx : Lw[i]? = some x) (hd : 6 ≤ d) (hc : mm_ct st ≤ 8) (hv : Ev xs d 46 (pc + 3) ls (.int x :: st) h r h') : Ev xs d 46 pc ls (.int (nI i) :: .ref j :: st) h r h' :=
  ev_prm hf rfl rfl ((prmT_S rfl).trans (prmS_chr (i := i) (by rw [Nat.ble_eq_true_of_le hd, Nat.ble_eq_true_of_le hc]; rfl) hj (mm_ix_nI (by omega)) hx)) hv
end STR
theorem tx_w : ∀ j, j < 7 → mm_lk mt_tk (2000000 + j) = some ((wds.getD j []).map nI) := by decide +kernel
theorem wds_b : ∀ j, j < 7 → ∀ i, i < (wds.getD j []).length → (wds.getD j []).getD i 0 < 128 := by decide +kernel
theorem wds_l : ∀ j, j < 7 → (wds.getD j []).length ≤ 6 := by decide +kernel
section NM
variable (xs : List Int32) (d : Nat) (K : CK) (by_ : List Int32) (D : Nat → Nat) (L : Nat)
theorem lp_isn (j p e : Nat) (hj : j < 7) (hD : byD D L by_) (he : e ≤ L) (hpe : e = p + (wds.getD j []).length) (c m : Bool) (t v f fp : Int32) : ∀ n i, i + n = (wds.getD j []).length → Ev xs (d + 6) 46 20 [some (.ref 0), some (.ref (2000000 + j)), some (.int (nI i))] [] (tpB (nI L, c, m, t, nI p, nI e, v, f, fp) by_ K) (some (.int (bI (isT D p (wds.getD j []) n i)))) (tpB (nI L, c, m, t, nI p, nI e, v, f, fp) by_ K) := by
  have hL := hD.1
  have hw := wds_l j hj
  have hx := tx_w j hj
  have hb := wds_b j hj
  generalize wds.getD j [] = w at hpe hw hx hb
  intro n
  induction n with
  | zero =>
    intro i hi
    refine ev_go 2 (fun _ => rfl) ?_
    refine ev_slen rfl hx (by omega) (Nat.le_of_ble_eq_true rfl) ?_
    refine ev_ic_ge rfl rfl (fun _ => ?_) (fun n => absurd (by rw [List.length_map]; exact nI_le (a := w.length) (b := i) (by omega) (by omega)) n)
    exact ev_end 2 rfl
  | succ n ih =>
    intro i hi
    have hxi : (w.map nI)[i]? = some (nI (w.getD i 0)) := by
      rw [List.getElem?_map, List.getElem?_eq_getElem (by omega), List.getD_eq_getElem?_getD, List.getElem?_eq_getElem (by omega)]
      rfl
    have hd1 := (hD.2 (p + i) (by omega))
    have hbi := hb i (by omega)
    unfold isT
    refine ev_go 2 (fun _ => rfl) ?_
    refine ev_slen rfl hx (by omega) (Nat.le_of_ble_eq_true rfl) ?_
    refine ev_ic_ge rfl rfl (fun n => absurd n (by rw [List.length_map]; exact nI_ge (a := i) (b := w.length) (by omega) (by omega))) (fun _ => ?_)
    refine ev_go 6 (fun _ => rfl) ?_
    refine ev_bald rfl (L := by_) rfl (ixa (c := p) (k := i) (by omega)) hd1.1 ?_
    refine ev_go 2 (fun _ => rfl) ?_
    refine ev_schr (i := i) rfl hx (by omega) hxi (by omega) (Nat.le_of_ble_eq_true rfl) ?_
    by_cases c0 : D (p + i) = w.getD i 0
    · rw [decide_eq_true c0]
      refine ev_ic_eq rfl rfl (fun _ => ?_) (fun n => absurd (by rw [c0]) n)
      refine ev_go 2 (ls' := [some (.ref 0), some (.ref (2000000 + j)), some (.int (nI i + Int32.ofInt 1))]) (fun _ => rfl) ?_
      rw [nI_inc]
      exact ih (i + 1) (by omega)
    · rw [decide_eq_false c0]
      refine ev_ic_eq rfl rfl (fun n => absurd n (nI_neq c0 (by omega) (by omega))) (fun _ => ?_)
      exact ev_end 2 rfl
theorem sp_isn (j p e : Nat) (hj : j < 7) (hD : byD D L by_) (hp : p ≤ e) (he : e ≤ L) (c m : Bool) (t v f fp : Int32) : Ev xs (d + 6) 46 0 [some (.ref 0), some (.ref (2000000 + j)), none] [] (tpB (nI L, c, m, t, nI p, nI e, v, f, fp) by_ K) (some (.int (bI (isN D p e (wds.getD j []))))) (tpB (nI L, c, m, t, nI p, nI e, v, f, fp) by_ K) := by
  have hL := hD.1
  have hw := wds_l j hj
  have hx := tx_w j hj
  have hlp := lp_isn xs d K by_ D L j p e hj hD he
  unfold isN
  refine ev_go 6 (fun _ => rfl) ?_
  refine ev_slen rfl hx (by omega) (Nat.le_of_ble_eq_true rfl) ?_
  rw [List.length_map, nI_subN hp]
  by_cases c0 : e - p = (wds.getD j []).length
  · rw [decide_eq_true c0]
    refine ev_ic_eq rfl rfl (fun _ => ?_) (fun n => absurd (by rw [c0]; rfl) n)
    refine ev_go 2 (ls' := [some (.ref 0), some (.ref (2000000 + j)), some (.int (nI 0))]) (fun _ => rfl) ?_
    exact hlp (by omega) c m t v f fp _ 0 (by omega)
  · rw [decide_eq_false c0]
    refine ev_ic_eq rfl rfl (fun n => absurd n (nI_neq c0 (by omega) (by omega))) (fun _ => ?_)
    exact ev_end 2 rfl
def lnI (k : Nat) : Int32 := if k = 7 then -1 else nI k
theorem sp_ln (p e : Nat) (hD : byD D L by_) (hp : p ≤ e) (he : e ≤ L) (c m : Bool) (t v f fp : Int32) : Ev xs (d + 7) 45 0 [some (.ref 0)] [] (tpB (nI L, c, m, t, nI p, nI e, v, f, fp) by_ K) (some (.int (lnI (lnO D p e)))) (tpB (nI L, c, m, t, nI p, nI e, v, f, fp) by_ K) := by
  have hs := fun j hj => sp_isn xs d K by_ D L j p e hj hD hp he c m t v f fp
  have h0 := hs 0 (by decide)
  have h1 := hs 1 (by decide)
  have h2 := hs 2 (by decide)
  have h3 := hs 3 (by decide)
  have h4 := hs 4 (by decide)
  have h5 := hs 5 (by decide)
  have h6 := hs 6 (by decide)
  unfold lnO
  refine ev_go 2 (fun _ => rfl) ?_
  refine ev_call (y' := 46) rfl rfl rfl rfl (h0) ?_
  cases isN D p e (wds.getD 0 []) with
  | true => exact ev_end 3 rfl
  | false =>
    refine ev_go 3 (fun _ => rfl) ?_
    refine ev_call (y' := 46) rfl rfl rfl rfl (h1) ?_
    cases isN D p e (wds.getD 1 []) with
    | true => exact ev_end 3 rfl
    | false =>
      refine ev_go 3 (fun _ => rfl) ?_
      refine ev_call (y' := 46) rfl rfl rfl rfl (h2) ?_
      cases isN D p e (wds.getD 2 []) with
      | true => exact ev_end 3 rfl
      | false =>
        refine ev_go 3 (fun _ => rfl) ?_
        refine ev_call (y' := 46) rfl rfl rfl rfl (h3) ?_
        cases isN D p e (wds.getD 3 []) with
        | true => exact ev_end 3 rfl
        | false =>
          refine ev_go 3 (fun _ => rfl) ?_
          refine ev_call (y' := 46) rfl rfl rfl rfl (h4) ?_
          cases isN D p e (wds.getD 4 []) with
          | true => exact ev_end 3 rfl
          | false =>
            refine ev_go 3 (fun _ => rfl) ?_
            refine ev_call (y' := 46) rfl rfl rfl rfl (h5) ?_
            cases isN D p e (wds.getD 5 []) with
            | true => exact ev_end 3 rfl
            | false =>
              refine ev_go 3 (fun _ => rfl) ?_
              refine ev_call (y' := 46) rfl rfl rfl rfl (h6) ?_
              cases isN D p e (wds.getD 6 []) with
              | true => exact ev_end 4 rfl
              | false => exact ev_end 3 rfl
/-- a tape at fault -/
def FH (L : Nat) (by_ : List Int32) (f : PF) (h : MH) : Prop := ∃ (c m : Bool) (t t1 t2 v : Int32) (K : CK), CL K ∧ h = tpB (nI L, c, m, t, t1, t2, v, nI f.1, nI f.2) by_ K
def vlF (D : Nat → Nat) (n q v : Nat) : Nat := match n with
  | 0 => v
  | n + 1 => vlF D n (q + 1) (10 * v + (D q - 48))
theorem cls_2 {c : Nat} (h : cls c = 2) : 48 ≤ c ∧ c ≤ 57 := by
  unfold cls at h
  split at h
  · cases h
  · split at h
    · assumption
    · split at h <;> cases h
theorem lp_val (E : Nat) (lo hi : Int32) (hD : byD D L by_) (hE : E ≤ L) (c m : Bool) (t t1 f fp : Int32) (rs : Option Value) (R : MH) : ∀ n q, q + n = E → (∀ j, q ≤ j → j < E → cls (D j) = 2) → ∀ v : Nat, (∀ z, Ev xs d 51 68 [some (.ref 0), some (.int lo), some (.int hi), z] [] (tpB (nI L, c, m, t, t1, nI E, nI (vlF D n q v), f, fp) by_ K) rs R) → Ev xs d 51 33 [some (.ref 0), some (.int lo), some (.int hi), some (.int (nI q))] [] (tpB (nI L, c, m, t, t1, nI E, nI v, f, fp) by_ K) rs R := by
  have hL := hD.1
  intro n
  induction n with
  | zero =>
    intro q hq hc v kk
    have e : q = E := by omega
    subst e
    refine ev_go 3 (fun _ => rfl) ?_
    refine ev_ic_ge rfl rfl (fun _ => ?_) (fun n => absurd (nI_le (Nat.le_refl _) (by omega)) n)
    exact kk _
  | succ n ih =>
    intro q hq hc v kk
    have h2 := cls_2 (hc q (Nat.le_refl _) (by omega))
    have ev : (Int8.ofInt 10).toInt32 * nI v + nI (D q) - (Int8.ofInt 48).toInt32 = nI (10 * v + (D q - 48)) := by
      rw [show (Int8.ofInt 10).toInt32 = nI 10 from rfl, show (Int8.ofInt 48).toInt32 = nI 48 from rfl, nI_mulA, nI_add, nI_subN (by omega)]
      congr 1
      omega
    refine ev_go 3 (fun _ => rfl) ?_
    refine ev_ic_ge rfl rfl (fun n => absurd n (nI_ge (by omega) (by omega))) (fun _ => ?_)
    refine ev_go 8 (fun _ => rfl) ?_
    refine ev_bald rfl (L := by_) rfl (mm_ix_nI (n := q) (by omega)) (hD.2 q (by omega)).1 ?_
    refine ev_go 6 (ls' := [some (.ref 0), some (.int lo), some (.int hi), some (.int (nI q + Int32.ofInt 1))]) (h1 := tpB (nI L, c, m, t, t1, nI E, (Int8.ofInt 10).toInt32 * nI v + nI (D q) - (Int8.ofInt 48).toInt32, f, fp) by_ K) (fun _ => rfl) ?_
    rw [ev, nI_inc]
    exact ih (q + 1) (by omega) (fun j a b => hc j (by omega) b) _ kk
theorem vl_F {p e : Nat} (h1 : p < e) (h2 : e - p ≤ 2) : vlF D (e - p) p 0 = vl D p e := by
  unfold vl
  by_cases c : e - p = 1
  · rw [c, if_pos rfl]
    unfold vlF vlF
    omega
  · rw [if_neg c, show e - p = 2 by omega]
    unfold vlF vlF vlF
    omega
theorem tk_num {p : Nat} (hp : p ≤ L) (hk : tsK D L p = 2) (hb : tkB D L p = false) : p < tkE D L p ∧ tkE D L p - p ≤ 2 ∧ ∀ j, p ≤ j → j < tkE D L p → cls (D j) = 2 := by
  have hE := tkE_b (D := D) hp
  have hlt : p < L := by
    by_cases c : p < L
    · exact c
    · unfold tsK at hk
      rw [if_neg c] at hk
      cases hk
  unfold tkB at hb
  rw [hk] at hb
  have h2 : ¬ 2 < tkE D L p - p := fun q => by
    rw [decide_eq_true q] at hb
    cases hb
  refine ⟨hE.2.2 hlt, by omega, fun j a b => ?_⟩
  unfold tsK at hk
  rw [if_pos hlt] at hk
  unfold tkE at b
  rw [if_pos hlt, if_neg (by rw [hk]; decide)] at b
  have := spn_in _ _ _ j a b
  rw [hk] at this
  exact of_decide_eq_true this
/-- what readNumber leaves -/
def numP (D : Nat → Nat) (L e : Nat) (by_ : List Int32) (K : CK) (c m : Bool) (fp : Int32) (q : PF ⊕ (Nat × Nat)) (r : Option Value) (h : MH) : Prop := match q with
  | .inl f => r = some (.int 0) ∧ FH L by_ f h
  | .inr (v, e2) => r = some (.int 1) ∧ h = tpB (nI L, c, m, nI 2, nI (tkP D L e), nI e2, nI v, 0, fp) by_ K
theorem tok_t {e : Nat} (hb : tkB D L (tkP D L e) = true) : pTok D L e = .inl (1, tkP D L e) := by
  unfold pTok
  rw [hb]
theorem tok_f {e : Nat} (hb : tkB D L (tkP D L e) = false) : pTok D L e = .inr (tsK D L (tkP D L e), tkP D L e, tkE D L (tkP D L e)) := by
  unfold pTok
  rw [hb]
theorem sp_num (e lo hi : Nat) (hlo : lo ≤ 99) (hhi : hi ≤ 99) (he : e ≤ L) (hK : CL K) (hD : byD D L by_) (c m : Bool) (t t1 v fp : Int32) : ∃ (r : Option Value) (h' : MH), numP D L e by_ K c m fp (pNum D L e lo hi none) r h' ∧ Ev xs (d + 2) 51 0 [some (.ref 0), some (.int (nI lo)), some (.int (nI hi)), none] [] (tpB (nI L, c, m, t, t1, nI e, v, 0, fp) by_ K) r h' := by
  have hL := hD.1
  have hP := tkP_b (D := D) he
  have hE := tkE_b (D := D) hP.2
  have hn := sp_next xs d K by_ D L e he hD c m t t1 v 0 fp
  cases hb : tkB D L (tkP D L e) with
  | true =>
    rw [hb] at hn
    have ep : pNum D L e lo hi none = .inl (1, tkP D L e) := by
      unfold pNum
      rw [tok_t D L hb]
    rw [ep]
    refine ⟨some (.int 0), _, ⟨rfl, c, m, nI (tsK D L (tkP D L e)), nI (tkP D L e), nI (tkE D L (tkP D L e)), v, K, hK, rfl⟩, ?_⟩
    refine ev_go 1 (fun _ => rfl) ?_
    refine ev_call (y' := 55) rfl rfl rfl rfl (hn) ?_
    exact ev_end 3 rfl
  | false =>
    rw [hb] at hn
    by_cases hk : tsK D L (tkP D L e) = 2
    · have tn := tk_num D L hP.2 hk hb
      have hv := vl_F D tn.1 tn.2.1
      rw [hk] at hn
      have pre : ∀ (r : Option Value) (R : MH), (∀ z, Ev xs (d + 2) 51 68 [some (.ref 0), some (.int (nI lo)), some (.int (nI hi)), z] [] (tpB (nI L, c, m, nI 2, nI (tkP D L e), nI (tkE D L (tkP D L e)), nI (vl D (tkP D L e) (tkE D L (tkP D L e))), 0, fp) by_ K) r R) → Ev xs (d + 2) 51 0 [some (.ref 0), some (.int (nI lo)), some (.int (nI hi)), none] [] (tpB (nI L, c, m, t, t1, nI e, v, 0, fp) by_ K) r R := by
        intro r R kk
        refine ev_go 1 (fun _ => rfl) ?_
        refine ev_call (y' := 55) rfl rfl rfl rfl (hn) ?_
        refine ev_go 4 (fun _ => rfl) ?_
        refine ev_ic_eq rfl rfl (fun _ => ?_) (fun n => absurd (rfl) n)
        refine ev_go 6 (ls' := [some (.ref 0), some (.int (nI lo)), some (.int (nI hi)), some (.int (nI (tkP D L e)))]) (h1 := tpB (nI L, c, m, nI 2, nI (tkP D L e), nI (tkE D L (tkP D L e)), nI 0, 0, fp) by_ K) (fun _ => rfl) ?_
        refine lp_val xs _ K by_ D L (tkE D L (tkP D L e)) (nI lo) (nI hi) hD hE.2.1 c m (nI 2) (nI (tkP D L e)) 0 fp r R (tkE D L (tkP D L e) - tkP D L e) (tkP D L e) (by omega) tn.2.2 0 (fun z => ?_)
        rw [hv]
        exact kk z
      have hvb : vl D (tkP D L e) (tkE D L (tkP D L e)) ≤ 99 := by
        have a1 := cls_2 (tn.2.2 (tkP D L e) (Nat.le_refl _) tn.1)
        unfold vl
        split
        · omega
        · have a2 := cls_2 (tn.2.2 (tkP D L e + 1) (by omega) (by omega))
          omega
      have ep : pNum D L e lo hi none = (if lo ≤ vl D (tkP D L e) (tkE D L (tkP D L e)) ∧ vl D (tkP D L e) (tkE D L (tkP D L e)) ≤ hi then .inr (vl D (tkP D L e) (tkE D L (tkP D L e)), tkE D L (tkP D L e)) else .inl (3, tkP D L e)) := by
        unfold pNum
        rw [tok_f D L hb, hk]
        rfl
      rw [ep]
      generalize vl D (tkP D L e) (tkE D L (tkP D L e)) = u at pre hvb
      by_cases cr : lo ≤ u ∧ u ≤ hi
      · rw [if_pos cr]
        refine ⟨some (.int 1), _, ⟨rfl, rfl⟩, pre _ _ (fun z => ?_)⟩
        refine ev_go 3 (fun _ => rfl) ?_
        refine ev_ic_lt rfl rfl (fun n => absurd n (nI_nlt cr.1 (by omega))) (fun _ => ?_)
        refine ev_go 3 (fun _ => rfl) ?_
        refine ev_ic_le rfl rfl (fun _ => ?_) (fun n => absurd (nI_le cr.2 (by omega)) n)
        exact ev_end 3 rfl
      · rw [if_neg cr]
        refine ⟨some (.int 0), _, ⟨rfl, c, m, nI 2, nI (tkP D L e), nI (tkE D L (tkP D L e)), nI u, K, hK, rfl⟩, pre _ _ (fun z => ?_)⟩
        have tl : Ev xs (d + 2) 51 84 [some (.ref 0), some (.int (nI lo)), some (.int (nI hi)), z] [] (tpB (nI L, c, m, nI 2, nI (tkP D L e), nI (tkE D L (tkP D L e)), nI u, 0, fp) by_ K) (some (.int 0)) (tpB (nI L, c, m, nI 2, nI (tkP D L e), nI (tkE D L (tkP D L e)), nI u, nI 3, nI (tkP D L e)) by_ K) := by
          refine ev_go 2 (fun _ => rfl) ?_
          refine ev_call (y' := 54) rfl rfl rfl rfl (sp_fail xs _ K by_ c m (nI L) (nI 2) (nI (tkP D L e)) (nI (tkE D L (tkP D L e))) (nI u) 0 fp 3) ?_
          exact ev_end 3 rfl
        refine ev_go 3 (fun _ => rfl) ?_
        by_cases c1 : lo ≤ u
        · refine ev_ic_lt rfl rfl (fun n => absurd n (nI_nlt c1 (by omega))) (fun _ => ?_)
          refine ev_go 3 (fun _ => rfl) ?_
          refine ev_ic_le rfl rfl (fun n => absurd n (nI_ge (a := hi) (b := u) (by omega) (by omega))) (fun _ => ?_)
          exact tl
        · refine ev_ic_lt rfl rfl (fun _ => ?_) (fun n => absurd (nI_lt (by omega) (by omega)) n)
          exact tl
    · have ep : pNum D L e lo hi none = .inl (2, tkP D L e) := by
        unfold pNum
        rw [tok_f D L hb]
        dsimp only
        rw [if_neg hk]
      rw [ep]
      have hk4 : tsK D L (tkP D L e) ≤ 4 := by
        unfold tsK
        split
        · exact cls_le _
        · omega
      refine ⟨some (.int 0), _, ⟨rfl, c, m, nI (tsK D L (tkP D L e)), nI (tkP D L e), nI (tkE D L (tkP D L e)), v, K, hK, rfl⟩, ?_⟩
      refine ev_go 1 (fun _ => rfl) ?_
      refine ev_call (y' := 55) rfl rfl rfl rfl (hn) ?_
      refine ev_go 4 (fun _ => rfl) ?_
      refine ev_ic_eq rfl rfl (fun n => absurd n (nI_neq (a := tsK D L (tkP D L e)) (b := 2) hk (by omega) (by omega))) (fun _ => ?_)
      refine ev_go 2 (fun _ => rfl) ?_
      refine ev_call (y' := 54) rfl rfl rfl rfl (sp_fail xs _ K by_ c m (nI L) (nI (tsK D L (tkP D L e))) (nI (tkP D L e)) (nI (tkE D L (tkP D L e))) v 0 fp 2) ?_
      exact ev_end 1 rfl
end NM

/-! Canal.copy: two Canals side by side -/
def dO (len mem hour bg tn sn wd mg : Int32) : MC := .inr (0, [.int len, .int mem, .int hour, .int bg, .ref 19, .ref 20, .ref 21, .int tn, .ref 22, .int sn, .ref 23, .ref 24, .ref 25, .ref 26, .ref 27, .ref 28, .ref 29, .int wd, .int mg])
def dR : MC := .inr (102, [.ref 30, .ref 31, .ref 32, .ref 33, .ref 34, .ref 35])
def dH (o : MC) (kd ph pc sb st ss pa pt mt ms : List Int32) (rw : List TT) : MH := o :: .inl (0, kd) :: .inl (0, ph) :: .inl (0, pc) :: dR :: .inl (0, sb) :: .inl (0, st) :: .inl (0, ss) :: .inl (0, pa) :: .inl (0, pt) :: .inl (0, mt) :: .inl (1, ms) :: rw.map tkc
theorem dR_at {t : Nat} (h : t < 6) : ([.ref 30, .ref 31, .ref 32, .ref 33, .ref 34, .ref 35] : List Value)[t]? = some (.ref (30 + t)) := by
  match t, h with
  | 0, _ => rfl
  | 1, _ => rfl
  | 2, _ => rfl
  | 3, _ => rfl
  | 4, _ => rfl
  | 5, _ => rfl
theorem cH_len {o : MC} {kd ph pc sb st ss pa pt mt ms : List Int32} {rw : List TT} (h : rw.length = 6) : (cH o kd ph pc sb st ss pa pt mt ms rw).length = 18 := by
  unfold cH
  simp [h]
theorem cX_at {o : MC} {kd ph pc sb st ss pa pt mt ms : List Int32} {rw : List TT} {X : MH} (h : rw.length = 6) (j : Nat) : (cH o kd ph pc sb st ss pa pt mt ms rw ++ X)[18 + j]? = X[j]? := by
  rw [List.getElem?_append_right (by rw [cH_len h]; omega), cH_len h]
  congr 1
  omega
theorem cX_tk {o : MC} {kd ph pc sb st ss pa pt mt ms : List Int32} {rw : List TT} {X : MH} {t : Nat} {T : TT} (ht : rw[t]? = some T) (h : rw.length = 6) : (cH o kd ph pc sb st ss pa pt mt ms rw ++ X)[12 + t]? = some (tkc T) := by
  have hl := (List.getElem?_eq_some_iff.mp ht).1
  rw [List.getElem?_append_left (by rw [cH_len h]; omega)]
  exact cH_tk ht
theorem cX_set {o : MC} {kd ph pc sb st ss pa pt mt ms : List Int32} {rw : List TT} {X : MH} {t : Nat} {T : TT} (ht : t < 6) (h : rw.length = 6) : (cH o kd ph pc sb st ss pa pt mt ms rw ++ X).set (12 + t) (tkc T) = cH o kd ph pc sb st ss pa pt mt ms (rw.set t T) ++ X := by
  rw [List.set_append_left _ _ (by rw [cH_len h]; omega), cH_set]
theorem dH_tk {o : MC} {kd ph pc sb st ss pa pt mt ms : List Int32} {rw : List TT} {t : Nat} {T : TT} (h : rw[t]? = some T) : (dH o kd ph pc sb st ss pa pt mt ms rw)[12 + t]? = some (tkc T) := by
  rw [Nat.add_comm]
  show (rw.map tkc)[t]? = _
  rw [List.getElem?_map, h]
  rfl
/-- Talk.copy of one Talk into another -/
theorem ev_callT2 {xs : List Int32} {d y pc idx q p : Nat} {ls : ML} {st0 : List Value} {h h' : MH} {r : Option Value} {T U : TT} (hf : fetT y pc = some (.invokevirtual idx)) (hn : mm_stp fldT (prmT xs) (d + 1) y (.invokevirtual idx) pc ls (.ref p :: .ref q :: st0) h = none) (hm : mthT y idx = some (34, true)) (hk : Nat.ble (mm_ct st0) 8 = true) (hpq : q ≠ p) (hq : h[q]? = some (tkc T)) (hp : h[p]? = some (tkc U)) (hr : Ev xs (d + 1) y (pc + 3) ls st0 (h.set q (tkc U)) r h') : Ev xs (d + 1) y pc ls (.ref p :: .ref q :: st0) h r h' := by
  have hk := Nat.le_of_ble_eq_true hk
  have hobj : mm_obj h q 2 = some (tkF T) := mm_obj_of hq
  have hc : mm_cal mthT infT true y idx (.ref p :: .ref q :: st0) h = some (34, true) := by
    unfold mm_cal
    rw [hm]
    dsimp only
    have : mm_cok true (infT 34) (.ref p :: .ref q :: st0) h = true := by
      show (decide (2 ≤ st0.length + 1 + 1) && decide (mm_ct st0 ≤ 8) && true && (true && (mm_obj h q 2).isSome)) = true
      rw [hobj, decide_eq_true hk, decide_eq_true (by omega)]
      rfl
    rw [if_pos this]
  have bl : ∀ {k : Nat} {Z : TT}, h[k]? = some (tkc Z) → mm_blk bszT h (.ref k) = [k] := fun {k Z} hz => by
    unfold mm_blk
    dsimp only
    rw [hz]
    rfl
  have hV : mm_view bszT h (((Value.ref p :: .ref q :: st0).take (infT 34).1).reverse) = [q, p] := by
    show mm_blk bszT h (.ref q) ++ (mm_blk bszT h (.ref p) ++ []) = [q, p]
    rw [bl hq, bl hp]
    rfl
  have hs1 : mm_sub [q, p] [q, p] h = some [tkc T, tkc U] := by
    unfold mm_sub
    rw [hq]
    unfold mm_sub
    rw [hp]
    rfl
  have hrn : mm_rnL [q, p] (((Value.ref p :: .ref q :: st0).take (infT 34).1).reverse) = some [.ref 0, .ref 1] := by
    show mm_rnL [q, p] [.ref q, .ref p] = _
    have e1 : mm_rnV [q, p] (.ref q) = some (.ref 0) := by
      unfold mm_rnV mm_idx
      dsimp only
      rw [if_pos rfl]
    have e2 : mm_rnV [q, p] (.ref p) = some (.ref 1) := by
      unfold mm_rnV mm_idx
      dsimp only
      rw [if_neg hpq]
      unfold mm_idx
      rw [if_pos rfl]
    unfold mm_rnL
    rw [e1]
    unfold mm_rnL
    rw [e2]
    rfl
  have hok : mm_vok [q, p] = true := by
    unfold mm_vok va_nd
    rw [decide_eq_true (by simp; exact hpq)]
    rfl
  have hbk : mm_bk [q, p] [q, p] [tkc U, tkc U] h = some (h.set q (tkc U)) := by
    show some ((h.set q (tkc U)).set p (tkc U)) = _
    rw [set_self (by rw [List.getElem?_set_ne hpq]; exact hp)]
  exact ev_callV hf rfl hn hc hV hs1 hrn hok (sp_tcopy xs d T U) rfl hbk hr
/-- the first t of a list out of another -/
def cpI (l : List Int32) (t : Nat) (old : List Int32) : List Int32 := up (fun j => l.getD j 0) t old
def dT : TT := (0, 0, 0, 0, 0, false, 0, 0, 0, 0)
def cpT (l : List TT) (t : Nat) (old : List TT) : List TT := up (fun j => l.getD j dT) t old
section CP
variable (xs : List Int32) (d : Nat) (len mem hour bg tn sn wd mg : Int32) (kd ph pc sb st ss pa pt mt ms : List Int32) (rw : List TT)
variable (len2 mem2 hour2 wd2 mg2 : Int32) (B T2 S : Nat) (kd2 ph2 pc2 sb2 st2 ss2 pa2 pt2 mt2 ms2 : List Int32) (rw2 : List TT)
theorem lp_cp1 (hB : B ≤ 5) (hrw : rw.length = 6) (a1 : kd.length = 5) (a2 : ph.length = 5) (a3 : pc.length = 5) (b1 : kd2.length = 5) (b2 : ph2.length = 5) (b3 : pc2.length = 5) (tn2 sn2 : Int32) (R : MH)
    (kk : ∀ z, Ev xs (d + 1) 2 84 [some (.ref 0), some (.ref 18), z] [] (cH (cO len mem hour (nI B) tn sn wd mg) (cpI kd2 B kd) (cpI ph2 B ph) (cpI pc2 B pc) sb st ss pa pt mt ms rw ++ dH (dO len2 mem2 hour2 (nI B) tn2 sn2 wd2 mg2) kd2 ph2 pc2 sb2 st2 ss2 pa2 pt2 mt2 ms2 rw2) none R) : ∀ m t, t + m = B → Ev xs (d + 1) 2 34 [some (.ref 0), some (.ref 18), some (.int (nI t))] [] (cH (cO len mem hour (nI B) tn sn wd mg) (cpI kd2 t kd) (cpI ph2 t ph) (cpI pc2 t pc) sb st ss pa pt mt ms rw ++ dH (dO len2 mem2 hour2 (nI B) tn2 sn2 wd2 mg2) kd2 ph2 pc2 sb2 st2 ss2 pa2 pt2 mt2 ms2 rw2) none R := by
  intro m
  induction m with
  | zero =>
    intro t ht
    have e : t = B := by omega
    subst e
    refine ev_go 3 (fun _ => rfl) ?_
    exact ev_ic_ge rfl rfl (fun _ => kk _) (fun n => absurd (nI_le (Nat.le_refl _) (by omega)) n)
  | succ m ih =>
    intro t ht
    have l1 : (cpI kd2 t kd).length = 5 := (up_len (by omega)).trans a1
    have l2 : (cpI ph2 t ph).length = 5 := (up_len (by omega)).trans a2
    have l3 : (cpI pc2 t pc).length = 5 := (up_len (by omega)).trans a3
    have ix : mm_ix (nI t) = some t := mm_ix_nI (by omega)
    refine ev_go 3 (fun _ => rfl) ?_
    refine ev_ic_ge rfl rfl (fun n => absurd n (nI_ge (by omega) (by omega))) (fun _ => ?_)
    refine ev_go 4 (fun _ => rfl) ?_
    refine ev_gf rfl rfl (cX_at hrw 0) rfl ?_
    refine ev_go 1 (fun _ => rfl) ?_
    refine ev_iald rfl (cX_at hrw 1) ix (getD_at (by omega)) ?_
    refine ev_iast rfl rfl ix (by omega) ?_
    refine ev_go 4 (h1 := cH (cO len mem hour (nI B) tn sn wd mg) ((cpI kd2 t kd).set t (kd2.getD t 0)) (cpI ph2 t ph) (cpI pc2 t pc) sb st ss pa pt mt ms rw ++ dH (dO len2 mem2 hour2 (nI B) tn2 sn2 wd2 mg2) kd2 ph2 pc2 sb2 st2 ss2 pa2 pt2 mt2 ms2 rw2) (fun _ => rfl) ?_
    refine ev_gf rfl rfl (cX_at hrw 0) rfl ?_
    refine ev_go 1 (fun _ => rfl) ?_
    refine ev_iald rfl (cX_at hrw 2) ix (getD_at (by omega)) ?_
    refine ev_iast rfl rfl ix (by omega) ?_
    refine ev_go 4 (h1 := cH (cO len mem hour (nI B) tn sn wd mg) ((cpI kd2 t kd).set t (kd2.getD t 0)) ((cpI ph2 t ph).set t (ph2.getD t 0)) (cpI pc2 t pc) sb st ss pa pt mt ms rw ++ dH (dO len2 mem2 hour2 (nI B) tn2 sn2 wd2 mg2) kd2 ph2 pc2 sb2 st2 ss2 pa2 pt2 mt2 ms2 rw2) (fun _ => rfl) ?_
    refine ev_gf rfl rfl (cX_at hrw 0) rfl ?_
    refine ev_go 1 (fun _ => rfl) ?_
    refine ev_iald rfl (cX_at hrw 3) ix (getD_at (by omega)) ?_
    refine ev_iast rfl rfl ix (by omega) ?_
    refine ev_go 2 (ls' := [some (.ref 0), some (.ref 18), some (.int (nI t + Int32.ofInt 1))]) (h1 := cH (cO len mem hour (nI B) tn sn wd mg) ((cpI kd2 t kd).set t (kd2.getD t 0)) ((cpI ph2 t ph).set t (ph2.getD t 0)) ((cpI pc2 t pc).set t (pc2.getD t 0)) sb st ss pa pt mt ms rw ++ dH (dO len2 mem2 hour2 (nI B) tn2 sn2 wd2 mg2) kd2 ph2 pc2 sb2 st2 ss2 pa2 pt2 mt2 ms2 rw2) (fun _ => rfl) ?_
    have u1 : (cpI kd2 t kd).set t (kd2.getD t 0) = cpI kd2 (t + 1) kd := up_s (g := fun j => kd2.getD j 0) (by omega)
    have u2 : (cpI ph2 t ph).set t (ph2.getD t 0) = cpI ph2 (t + 1) ph := up_s (g := fun j => ph2.getD j 0) (by omega)
    have u3 : (cpI pc2 t pc).set t (pc2.getD t 0) = cpI pc2 (t + 1) pc := up_s (g := fun j => pc2.getD j 0) (by omega)
    rw [nI_inc, u1, u2, u3]
    exact ih (t + 1) (by omega)
theorem lp_cp2 (hT : T2 ≤ 6) (hrw2 : rw2.length = 6) (bg2 sn2 : Int32) (R : MH)
    (kk : ∀ z, Ev xs (d + 1) 2 123 [some (.ref 0), some (.ref 18), z] [] (cH (cO len mem hour bg (nI T2) sn wd mg) kd ph pc sb st ss pa pt mt ms (cpT rw2 T2 rw) ++ dH (dO len2 mem2 hour2 bg2 (nI T2) sn2 wd2 mg2) kd2 ph2 pc2 sb2 st2 ss2 pa2 pt2 mt2 ms2 rw2) none R) (hrw : rw.length = 6) : ∀ m t, t + m = T2 → Ev xs (d + 1) 2 94 [some (.ref 0), some (.ref 18), some (.int (nI t))] [] (cH (cO len mem hour bg (nI T2) sn wd mg) kd ph pc sb st ss pa pt mt ms (cpT rw2 t rw) ++ dH (dO len2 mem2 hour2 bg2 (nI T2) sn2 wd2 mg2) kd2 ph2 pc2 sb2 st2 ss2 pa2 pt2 mt2 ms2 rw2) none R := by
  intro m
  induction m with
  | zero =>
    intro t ht
    have e : t = T2 := by omega
    subst e
    refine ev_go 3 (fun _ => rfl) ?_
    exact ev_ic_ge rfl rfl (fun _ => kk _) (fun n => absurd (nI_le (Nat.le_refl _) (by omega)) n)
  | succ m ih =>
    intro t ht
    have l1 : (cpT rw2 t rw).length = 6 := (up_len (by omega)).trans hrw
    have ix : mm_ix (nI t) = some t := mm_ix_nI (by omega)
    have g1 : (cpT rw2 t rw)[t]? = some (cpT rw2 t rw)[t] := List.getElem?_eq_getElem (by omega)
    have g2 : rw2[t]? = some (rw2.getD t dT) := by rw [List.getD_eq_getElem?_getD, List.getElem?_eq_getElem (by omega)]; rfl
    refine ev_go 3 (fun _ => rfl) ?_
    refine ev_ic_ge rfl rfl (fun n => absurd n (nI_ge (by omega) (by omega))) (fun _ => ?_)
    refine ev_go 3 (fun _ => rfl) ?_
    refine ev_aald rfl rfl (by decide) ix (cR_at (by omega)) ?_
    refine ev_go 1 (fun _ => rfl) ?_
    refine ev_gf rfl rfl (cX_at l1 0) rfl ?_
    refine ev_go 1 (fun _ => rfl) ?_
    refine ev_aald rfl (cX_at l1 4) (by decide) ix (dR_at (by omega)) ?_
    refine ev_callT2 (q := 12 + t) (p := 30 + t) rfl rfl rfl rfl (by omega) (cX_tk g1 l1) ((by rw [show 30 + t = 18 + (12 + t) by omega, cX_at l1]; exact dH_tk g2)) ?_
    rw [cX_set (by omega) l1]
    refine ev_go 2 (ls' := [some (.ref 0), some (.ref 18), some (.int (nI t + Int32.ofInt 1))]) (fun _ => rfl) ?_
    have u1 : (cpT rw2 t rw).set t (rw2.getD t dT) = cpT rw2 (t + 1) rw := up_s (g := fun j => rw2.getD j dT) (by omega)
    rw [nI_inc, u1]
    exact ih (t + 1) (by omega)
theorem lp_cp3 (hS : S ≤ 6) (hrw : rw.length = 6) (a1 : sb.length = 6) (a2 : st.length = 6) (a3 : ss.length = 6) (b1 : sb2.length = 6) (b2 : st2.length = 6) (b3 : ss2.length = 6) (bg2 tn2 : Int32) : ∀ m t, t + m = S → Ev xs (d + 1) 2 133 [some (.ref 0), some (.ref 18), some (.int (nI t))] [] (cH (cO len mem hour bg tn (nI S) wd mg) kd ph pc (cpI sb2 t sb) (cpI st2 t st) (cpI ss2 t ss) pa pt mt ms rw ++ dH (dO len2 mem2 hour2 bg2 tn2 (nI S) wd2 mg2) kd2 ph2 pc2 sb2 st2 ss2 pa2 pt2 mt2 ms2 rw2) none (cH (cO len mem hour bg tn (nI S) wd mg) kd ph pc (cpI sb2 S sb) (cpI st2 S st) (cpI ss2 S ss) pa pt mt ms rw ++ dH (dO len2 mem2 hour2 bg2 tn2 (nI S) wd2 mg2) kd2 ph2 pc2 sb2 st2 ss2 pa2 pt2 mt2 ms2 rw2) := by
  intro m
  induction m with
  | zero =>
    intro t ht
    have e : t = S := by omega
    subst e
    refine ev_go 3 (fun _ => rfl) ?_
    exact ev_ic_ge rfl rfl (fun _ => ev_end 1 rfl) (fun n => absurd (nI_le (Nat.le_refl _) (by omega)) n)
  | succ m ih =>
    intro t ht
    have l1 : (cpI sb2 t sb).length = 6 := (up_len (by omega)).trans a1
    have l2 : (cpI st2 t st).length = 6 := (up_len (by omega)).trans a2
    have l3 : (cpI ss2 t ss).length = 6 := (up_len (by omega)).trans a3
    have ix : mm_ix (nI t) = some t := mm_ix_nI (by omega)
    refine ev_go 3 (fun _ => rfl) ?_
    refine ev_ic_ge rfl rfl (fun n => absurd n (nI_ge (by omega) (by omega))) (fun _ => ?_)
    refine ev_go 4 (fun _ => rfl) ?_
    refine ev_gf rfl rfl (cX_at hrw 0) rfl ?_
    refine ev_go 1 (fun _ => rfl) ?_
    refine ev_iald rfl (cX_at hrw 5) ix (getD_at (by omega)) ?_
    refine ev_iast rfl rfl ix (by omega) ?_
    refine ev_go 4 (h1 := cH (cO len mem hour bg tn (nI S) wd mg) kd ph pc ((cpI sb2 t sb).set t (sb2.getD t 0)) (cpI st2 t st) (cpI ss2 t ss) pa pt mt ms rw ++ dH (dO len2 mem2 hour2 bg2 tn2 (nI S) wd2 mg2) kd2 ph2 pc2 sb2 st2 ss2 pa2 pt2 mt2 ms2 rw2) (fun _ => rfl) ?_
    refine ev_gf rfl rfl (cX_at hrw 0) rfl ?_
    refine ev_go 1 (fun _ => rfl) ?_
    refine ev_iald rfl (cX_at hrw 6) ix (getD_at (by omega)) ?_
    refine ev_iast rfl rfl ix (by omega) ?_
    refine ev_go 4 (h1 := cH (cO len mem hour bg tn (nI S) wd mg) kd ph pc ((cpI sb2 t sb).set t (sb2.getD t 0)) ((cpI st2 t st).set t (st2.getD t 0)) (cpI ss2 t ss) pa pt mt ms rw ++ dH (dO len2 mem2 hour2 bg2 tn2 (nI S) wd2 mg2) kd2 ph2 pc2 sb2 st2 ss2 pa2 pt2 mt2 ms2 rw2) (fun _ => rfl) ?_
    refine ev_gf rfl rfl (cX_at hrw 0) rfl ?_
    refine ev_go 1 (fun _ => rfl) ?_
    refine ev_iald rfl (cX_at hrw 7) ix (getD_at (by omega)) ?_
    refine ev_iast rfl rfl ix (by omega) ?_
    refine ev_go 2 (ls' := [some (.ref 0), some (.ref 18), some (.int (nI t + Int32.ofInt 1))]) (h1 := cH (cO len mem hour bg tn (nI S) wd mg) kd ph pc ((cpI sb2 t sb).set t (sb2.getD t 0)) ((cpI st2 t st).set t (st2.getD t 0)) ((cpI ss2 t ss).set t (ss2.getD t 0)) pa pt mt ms rw ++ dH (dO len2 mem2 hour2 bg2 tn2 (nI S) wd2 mg2) kd2 ph2 pc2 sb2 st2 ss2 pa2 pt2 mt2 ms2 rw2) (fun _ => rfl) ?_
    have u1 : (cpI sb2 t sb).set t (sb2.getD t 0) = cpI sb2 (t + 1) sb := up_s (g := fun j => sb2.getD j 0) (by omega)
    have u2 : (cpI st2 t st).set t (st2.getD t 0) = cpI st2 (t + 1) st := up_s (g := fun j => st2.getD j 0) (by omega)
    have u3 : (cpI ss2 t ss).set t (ss2.getD t 0) = cpI ss2 (t + 1) ss := up_s (g := fun j => ss2.getD j 0) (by omega)
    rw [nI_inc, u1, u2, u3]
    exact ih (t + 1) (by omega)
end CP

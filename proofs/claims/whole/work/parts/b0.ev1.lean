/-! Runs of the law and of constructors, by rules -/
section F1
variable {fet : Nat → Nat → Option Instr} {fld : Nat → Nat → Option (Nat × Nat × FieldType × Bool)} {mth : Nat → Nat → Option (Nat × Bool)} {inf : Nat → MI} {prm : Nat → Nat → Instr → List Value → Option (Nat × List Value)} {bsz : Nat → Nat}
variable {nwc : Nat → Nat → Option (Nat × List Value)} {anc : Nat → Nat → Option Nat} {mnc : Nat → Nat → Bool} {arc : Nat → Bool} {ini : Nat → Option Nat} {spc : Nat → Nat → Option (Option Nat)}
theorem mm_cl1_s {n d y : Nat} {virt : Bool} {idx : Nat} {st : List Value} {h : MH} {R : Nat × Option Value × MH} (hq : mm_cl1 fet fld mth inf prm bsz n d y virt idx st h = some R) : mm_cl1 fet fld mth inf prm bsz (n + 1) d y virt idx st h = some R := by
  unfold mm_cl1 at hq ⊢
  split at hq
  · cases hq
  · split at hq
    · split at hq
      · rename_i hr
        rw [mm_run_s _ _ _ _ _ _ _ _ hr]
        exact hq
      · cases hq
    · split at hq
      · split at hq
        · rename_i hr
          rw [mm_run_s _ _ _ _ _ _ _ _ hr]
          exact hq
        · cases hq
      · cases hq
theorem mm_run1_s : ∀ (n d y pc : Nat) (ls : ML) (st : List Value) (h : MH) (nc ns : Nat) (R : Nat × ML × List Value × MH × Nat × Nat), mm_run1 fet fld mth inf prm bsz nwc anc mnc arc ini spc n d y pc ls st h nc ns = some R → mm_run1 fet fld mth inf prm bsz nwc anc mnc arc ini spc (n + 1) d y pc ls st h nc ns = some R := by
  intro n
  induction n with
  | zero => intro d y pc ls st h nc ns R hq; cases hq
  | succ n ih =>
    intro d y pc ls st h nc ns R hq
    unfold mm_run1 at hq ⊢
    split at hq
    · cases hq
    · split at hq
      · exact ih _ _ _ _ _ _ _ _ _ hq
      · split at hq
        · exact ih _ _ _ _ _ _ _ _ _ hq
        · split at hq
          · split at hq
            · exact ih _ _ _ _ _ _ _ _ _ hq
            · cases hq
          · split at hq
            · split at hq
              · cases hq
              · split at hq
                · rename_i hr
                  rw [mm_cl1_s hr]
                  exact ih _ _ _ _ _ _ _ _ _ hq
                · cases hq
            · split at hq
              · split at hq
                · cases hq
                · split at hq
                  · split at hq
                    · exact ih _ _ _ _ _ _ _ _ _ hq
                    · cases hq
                  · cases hq
                · split at hq
                  · cases hq
                  · split at hq
                    · cases hq
                    · split at hq
                      · rename_i hr
                        rw [ih _ _ _ _ _ _ _ _ _ hr]
                        dsimp only
                        split at hq
                        · exact ih _ _ _ _ _ _ _ _ _ hq
                        · cases hq
                      · cases hq
              · exact hq
              · exact hq
              · cases hq
theorem mm_run1_k {n d y pc : Nat} {ls : ML} {st : List Value} {h : MH} {nc ns : Nat} {R : Nat × ML × List Value × MH × Nat × Nat} (hq : mm_run1 fet fld mth inf prm bsz nwc anc mnc arc ini spc n d y pc ls st h nc ns = some R) (k : Nat) : mm_run1 fet fld mth inf prm bsz nwc anc mnc arc ini spc (n + k) d y pc ls st h nc ns = some R := by
  induction k with
  | zero => exact hq
  | succ k ih => exact mm_run1_s _ _ _ _ _ _ _ _ _ _ ih
theorem mm_cl1_k {n d y : Nat} {virt : Bool} {idx : Nat} {st : List Value} {h : MH} {R : Nat × Option Value × MH} (hq : mm_cl1 fet fld mth inf prm bsz n d y virt idx st h = some R) (k : Nat) : mm_cl1 fet fld mth inf prm bsz (n + k) d y virt idx st h = some R := by
  induction k with
  | zero => exact hq
  | succ k ih => exact mm_cl1_s ih
end F1
abbrev R1 : Type := Nat × ML × List Value × MH × Nat × Nat
def Ev1 (xs : List Int32) (d y pc : Nat) (ls : ML) (st : List Value) (h : MH) (nc ns : Nat) (R : R1) : Prop := ∃ n, rn1T xs n d y pc ls st h nc ns = some R
theorem e1_go {xs : List Int32} {d y pc pc' : Nat} {ls ls' : ML} {st st' : List Value} {h h1 : MH} {nc ns nc' ns' : Nat} {R : R1} (k : Nat) (e : ∀ n, rn1T xs (n + k) d y pc ls st h nc ns = rn1T xs n d y pc' ls' st' h1 nc' ns') (hv : Ev1 xs d y pc' ls' st' h1 nc' ns' R) : Ev1 xs d y pc ls st h nc ns R := by
  obtain ⟨n, hn⟩ := hv
  exact ⟨n + k, (e n).trans hn⟩
theorem e1_st {xs : List Int32} {d y pc pc' : Nat} {ls ls' : ML} {st st' : List Value} {h h1 : MH} {nc ns : Nat} {R : R1} {i : Instr} (hf : fetT y pc = some i) (hs : mm_stp fldT (prmT xs) d y i pc ls st h = some (pc', ls', st', h1)) (hv : Ev1 xs d y pc' ls' st' h1 nc ns R) : Ev1 xs d y pc ls st h nc ns R := by
  obtain ⟨n, hn⟩ := hv
  refine ⟨n + 1, ?_⟩
  unfold rn1T mm_run1
  rw [hf]
  dsimp only
  rw [hs]
  exact hn
theorem e1_s0 {xs : List Int32} {d y pc pc' : Nat} {ls ls' : ML} {st st' : List Value} {h : MH} {nc ns : Nat} {R : R1} {i : Instr} (hf : fetT y pc = some i) (hs : mm_s0 i pc ls st = some (pc', ls', st')) (hv : Ev1 xs d y pc' ls' st' h nc ns R) : Ev1 xs d y pc ls st h nc ns R := by
  refine e1_st hf ?_ hv
  unfold mm_stp
  rw [hs]
/-- out of the script -/
theorem e1_scr {xs : List Int32} {d y pc j : Nat} {ls : ML} {st : List Value} {h : MH} {nc ns : Nat} {R : R1} {x : Int32} (hf : fetT y pc = some .iaload) (hh : h.length ≤ 1000000) (hj : j < 2 ^ 31) (hx : xs[j]? = some x) (hv : Ev1 xs d y (pc + 1) ls (.int x :: st) h nc ns R) : Ev1 xs d y pc ls (.int (nI j) :: .ref 1000000 :: st) h nc ns R := by
  refine e1_st hf ?_ hv
  have e1 : h[1000000]? = none := List.getElem?_eq_none hh
  have e2 : mm_ix (nI j) = some j := mm_ix_nI hj
  have e3 : mm_s1 (fldT y) .iaload pc (.int (nI j) :: .ref 1000000 :: st) h = none := by
    show mm_r1 (pc + 1) st h ((mm_ra h 1000000 0 (nI j)).map .int) = none
    unfold mm_ra mm_arr
    rw [e2, e1]
    rfl
  have e4 : prm0T xs y d .iaload (.int (nI j) :: .ref 1000000 :: st) = some (1, .int x :: st) := by
    show (if 1000000 = 1000000 then match mm_ix (nI j) with
      | some j => match xs[j]? with
        | some x => some (1, Value.int x :: st)
        | none => none
      | none => none
    else none) = _
    rw [if_pos rfl, e2]
    dsimp only
    rw [hx]
  unfold mm_stp
  rw [show mm_s0 .iaload pc ls (.int (nI j) :: .ref 1000000 :: st) = none from rfl]
  dsimp only
  rw [e3]
  unfold prmT
  rw [e4]
theorem e1_len {xs : List Int32} {d y pc : Nat} {ls : ML} {st : List Value} {h : MH} {nc ns : Nat} {R : R1} (hf : fetT y pc = some .arraylength) (hh : h.length ≤ 1000000) (hv : Ev1 xs d y (pc + 1) ls (.int (nI xs.length) :: st) h nc ns R) : Ev1 xs d y pc ls (.ref 1000000 :: st) h nc ns R := by
  refine e1_st hf ?_ hv
  have e1 : h[1000000]? = none := List.getElem?_eq_none hh
  have e3 : mm_s1 (fldT y) .arraylength pc (.ref 1000000 :: st) h = none := by
    show mm_r1 (pc + 1) st h ((mm_al h 1000000).map (fun n => .int (Int32.ofNat n))) = none
    unfold mm_al
    rw [e1]
    rfl
  have e4 : prm0T xs y d .arraylength (.ref 1000000 :: st) = some (1, .int (nI xs.length) :: st) := by
    show (if 1000000 = 1000000 then some (1, Value.int (Int32.ofNat xs.length) :: st) else none) = _
    rw [if_pos rfl]
    rfl
  unfold mm_stp
  rw [show mm_s0 .arraylength pc ls (.ref 1000000 :: st) = none from rfl]
  dsimp only
  rw [e3]
  unfold prmT
  rw [e4]
/-- a call of a method on a view -/
theorem e1_callV {xs : List Int32} {d y pc y' idx : Nat} {ls : ML} {st vs : List Value} {h h1 hs hs' : MH} {V : List Nat} {r1 r2 : Option Value} {nc ns : Nat} {R : R1} (hf : fetT y pc = some (.invokevirtual idx)) (hn : mm_stp fldT (prmT xs) (d + 1) y (.invokevirtual idx) pc ls st h = none) (hc : mm_cal mthT infT true y idx st h = some (y', true)) (hV : mm_view bszT h ((st.take (infT y').1).reverse) = V) (hs1 : mm_sub V V h = some hs) (hrn : mm_rnL V ((st.take (infT y').1).reverse) = some vs) (hok : mm_vok V = true) (hv : Ev xs d y' 0 (mm_en (infT y').2.1 vs) [] hs r1 hs') (hbO : mm_bkO V r1 = some r2) (hbk : mm_bk V V hs' h = some h1) (hr : Ev1 xs (d + 1) y (pc + 3) ls (r2.toList ++ st.drop (infT y').1) h1 nc ns R) : Ev1 xs (d + 1) y pc ls st h nc ns R := by
  obtain ⟨n, hn1⟩ := hv
  obtain ⟨m, hm⟩ := hr
  refine ⟨n + m + 1, ?_⟩
  have hcl : mm_cl1 fetT fldT mthT infT (prmT xs) bszT n d y true idx st h = some ((infT y').1, r2, h1) := by
    unfold mm_cl1
    rw [hc]
    dsimp only
    rw [hV, hs1, hrn, hok]
    dsimp only
    unfold rnT at hn1
    rw [hn1]
    dsimp only
    rw [hbO, hbk]
  unfold rn1T mm_run1
  rw [hf]
  dsimp only
  rw [hn]
  dsimp only
  rw [show mm_s2 (fldT y) arcT (iniT y) (.invokevirtual idx) pc st h = none from rfl]
  dsimp only
  rw [show mm_new (nwT y) (anT y) (mnT y) h.length (.invokevirtual idx) pc st = none from rfl]
  dsimp only [mm_isI]
  rw [mm_cl1_k hcl m]
  have := mm_run1_k hm n
  rw [Nat.add_comm m n] at this
  exact this
/-- a call of a method on all cells -/
theorem e1_call {xs : List Int32} {d y pc y' idx : Nat} {ls : ML} {st : List Value} {h h1 : MH} {r1 : Option Value} {nc ns : Nat} {R : R1} (hf : fetT y pc = some (.invokevirtual idx)) (hn : mm_stp fldT (prmT xs) (d + 1) y (.invokevirtual idx) pc ls st h = none) (hc : mm_cal mthT infT true y idx st h = some (y', false)) (hv : Ev xs d y' 0 (mm_en (infT y').2.1 ((st.take (infT y').1).reverse)) [] h r1 h1) (hr : Ev1 xs (d + 1) y (pc + 3) ls (r1.toList ++ st.drop (infT y').1) h1 nc ns R) : Ev1 xs (d + 1) y pc ls st h nc ns R := by
  obtain ⟨n, hn1⟩ := hv
  obtain ⟨m, hm⟩ := hr
  refine ⟨n + m + 1, ?_⟩
  have hcl : mm_cl1 fetT fldT mthT infT (prmT xs) bszT n d y true idx st h = some ((infT y').1, r1, h1) := by
    unfold mm_cl1
    rw [hc]
    dsimp only
    unfold rnT at hn1
    rw [hn1]
  unfold rn1T mm_run1
  rw [hf]
  dsimp only
  rw [hn]
  dsimp only
  rw [show mm_s2 (fldT y) arcT (iniT y) (.invokevirtual idx) pc st h = none from rfl]
  dsimp only
  rw [show mm_new (nwT y) (anT y) (mnT y) h.length (.invokevirtual idx) pc st = none from rfl]
  dsimp only [mm_isI]
  rw [mm_cl1_k hcl m]
  have := mm_run1_k hm n
  rw [Nat.add_comm m n] at this
  exact this
/-- a constructor called -/
theorem e1_ini {xs : List Int32} {d y pc y' idx pcr : Nat} {ls lsr : ML} {st : List Value} {h h1 : MH} {nc ns mc ms : Nat} {R : R1} (hf : fetT y pc = some (.invokespecial idx)) (hn : mm_stp fldT (prmT xs) (d + 1) y (.invokespecial idx) pc ls st h = none) (hsp : spT y idx = some (some y')) (hok : mm_iok (infT y') ls st h = true) (hv : Ev1 xs d y' 0 (mm_en (infT y').2.1 ((st.take (infT y').1).reverse)) [] h 0 0 (pcr, lsr, [], h1, mc, ms)) (hfr : fetT y' pcr = some .return_) (hr : Ev1 xs (d + 1) y (pc + 3) ls (st.drop (infT y').1) h1 (nc + mc) (ns + ms) R) : Ev1 xs (d + 1) y pc ls st h nc ns R := by
  obtain ⟨n, hn1⟩ := hv
  obtain ⟨m, hm⟩ := hr
  refine ⟨n + m + 1, ?_⟩
  unfold rn1T at hn1
  unfold rn1T mm_run1
  rw [hf]
  dsimp only
  rw [hn]
  dsimp only
  rw [show mm_s2 (fldT y) arcT (iniT y) (.invokespecial idx) pc st h = none from rfl]
  dsimp only
  rw [show mm_new (nwT y) (anT y) (mnT y) h.length (.invokespecial idx) pc st = none from rfl]
  dsimp only [mm_isI]
  rw [hsp]
  dsimp only
  rw [hok]
  dsimp only
  rw [mm_run1_k hn1 m]
  dsimp only
  rw [hfr]
  dsimp only
  have := mm_run1_k hm n
  rw [Nat.add_comm m n] at this
  exact this
theorem e1_ret {xs : List Int32} {d y pc : Nat} {ls : ML} {st : List Value} {h : MH} {nc ns : Nat} (k : Nat) {R : R1} (e : rn1T xs k d y pc ls st h nc ns = some R) : Ev1 xs d y pc ls st h nc ns R := ⟨k, e⟩
/-- a call of a method whose receiver is a block -/
theorem e1_callB {xs : List Int32} {d y pc y' idx n ci L : Nat} {ls : ML} {st As : List Value} {P Q hb hb' : MH} {r1 : Option Value} {fs : List Value} {nc ns : Nat} {R : R1} (hf : fetT y pc = some (.invokevirtual idx)) (hs : mm_stp fldT (prmT xs) (d + 1) y (.invokevirtual idx) pc ls st (P ++ shH n hb ++ Q) = none) (hm : mthT y idx = some (y', true)) (hk : (decide ((infT y').1 ≤ st.length) && decide (mm_ct (st.drop (infT y').1) ≤ 8) && decide ((mm_sl ((st.take (infT y').1).reverse)).length ≤ (infT y').2.1) && !(infT y').2.2.2.2 && Nat.beq (infT y').2.2.2.1 ci) = true) (hst : (st.take (infT y').1).reverse = .ref n :: As) (hA : ∀ v ∈ As, ∃ x, v = Value.int x) (hP : P.length = n) (h0 : hb[0]? = some (.inr (ci, fs))) (hL : hb.length = L) (hz : bszT ci = L) (hc : clH L hb = true) (hnd : mm_vok (vR n L) = true) (hL' : hb'.length = L) (hc' : clH L hb' = true)
    (hv : Ev xs d y' 0 (mm_en (infT y').2.1 (.ref 0 :: As)) [] hb r1 hb') (hr1 : noRef r1 = true) (hr : Ev1 xs (d + 1) y (pc + 3) ls (r1.toList ++ st.drop (infT y').1) (P ++ shH n hb' ++ Q) nc ns R) : Ev1 xs (d + 1) y pc ls st (P ++ shH n hb ++ Q) nc ns R := by
  rw [Bool.and_eq_true, Bool.and_eq_true, Bool.and_eq_true, Bool.and_eq_true] at hk
  obtain ⟨⟨⟨⟨k1, k2⟩, k3⟩, k4⟩, k5⟩ := hk
  have k5 := Nat.eq_of_beq_eq_true k5
  have hB : HasB (P ++ shH n hb ++ Q) n hb := hasB hP
  have hpos : 0 < hb.length := (List.getElem?_eq_some_iff.mp h0).1
  have e0 : (P ++ shH n hb ++ Q)[n]? = some (.inr (ci, fs.map (shV n))) := by
    have := hB 0 hpos
    rw [Nat.add_zero] at this
    rw [this]
    unfold shH
    rw [List.getElem?_map, h0]
    rfl
  have hnd2 : va_nd (vR n L) = true := by
    unfold mm_vok at hnd
    rw [Bool.and_eq_true] at hnd
    exact hnd.1
  have hobj : (mm_obj (P ++ shH n hb ++ Q) n ci).isSome = true := by
    rw [mm_obj_of e0]
    rfl
  have hcal : mm_cal mthT infT true y idx st (P ++ shH n hb ++ Q) = some (y', true) := by
    unfold mm_cal
    rw [hm]
    dsimp only
    have : mm_cok true (infT y') st (P ++ shH n hb ++ Q) = true := by
      unfold mm_cok
      rw [k1, k2, k3, hst]
      dsimp only
      rw [k4, k5, hobj]
      rfl
    rw [if_pos this]
  have hV : mm_view bszT (P ++ shH n hb ++ Q) ((st.take (infT y').1).reverse) = vR n L := by
    rw [hst]
    show mm_blk bszT (P ++ shH n hb ++ Q) (.ref n) ++ mm_view bszT (P ++ shH n hb ++ Q) As = vR n L
    rw [mm_view_i As hA, List.append_nil]
    unfold mm_blk
    dsimp only
    rw [e0]
    dsimp only
    rw [hz]
    rfl
  subst hL
  have hrn : mm_rnL (vR n hb.length) ((st.take (infT y').1).reverse) = some (.ref 0 :: As) := by
    rw [hst]
    exact rn_c (rn_ref hnd2 (vR_at (j := 0) hpos)) (mm_rnL_i As hA)
  have hbk := bk_B (H := P ++ shH n hb ++ Q) (n := n) (h := hb') (by rw [hL']; exact hc')
  rw [putB hP hL'] at hbk
  rw [hL'] at hbk
  exact e1_callV hf hs hcal hV (sub_B hc hB hnd2) hrn hnd hv (bkO_n hr1) hbk hr

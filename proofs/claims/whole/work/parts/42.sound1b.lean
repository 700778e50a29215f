section MMV
variable {fet : Nat → Nat → Option Instr} {fld : Nat → Nat → Option (Nat × Nat × FieldType × Bool)} {mth : Nat → Nat → Option (Nat × Bool)} {inf : Nat → MI} {prm : Nat → Nat → Instr → List Value → Option (Nat × List Value)} {bsz : Nat → Nat}
variable {nwc : Nat → Nat → Option (Nat × List Value)} {anc : Nat → Nat → Option Nat} {mnc : Nat → Nat → Bool} {arc : Nat → Bool} {ini : Nat → Option Nat} {spc : Nat → Nat → Option (Option Nat)}
variable {l : Launch} {D : va_G} {cl : List vw_C} {tys : List (ClassId × FieldType)} {cA : Nat → ClassId} {s00 : State} {lo : Nat} {exA : Nat → Nat} {TB NW : List Cond} {nm : Nat → MethodName} {code : Nat → ByteArray}
/-- a call that makes no cell -/
theorem mm_cl1_ok (hTO : mm_TO fet fld mth inf D cl tys cA s00 TB NW nm code) (hPO : mm_PO fet inf prm l D cl tys s00 lo exA TB NW nm code) {n d y idx np : Nat} {virt : Bool} {st : List Value} {h h1 : MH} {r : Option Value} {i : Instr} (hI : mm_isI i = some (virt, idx)) (hq : mm_cl1 fet fld mth inf prm bsz n d y virt idx st h = some (np, r, h1))
    {p : Program} {e : Env} {s : State} {m : MethodId} {args : Array Value} {below : List Frame} {meth : Method} {c : Code} {H : Heap} {locs : List Loc} {A : Nat → Prop} {ad : Nat → Nat} {sl : Array Slot} {R : Room} {cells slots pc : Nat} {Q : State → Prop} (C : mm_Cx inf D cl tys s00 lo TB NW nm code p s m args meth c A y) (hRR : d + 2 ≤ R.frames ∧ 40 * (d + 2) ≤ R.locals ∧ cells ≤ R.cells ∧ slots ≤ R.slots) (hex : ∀ k, 1000000 ≤ k → ad k = exA k) (hP : va_P D cl (mm_wd cA ad h) H) (hD : va_D A (mm_wd cA ad h)) (hS : va_S A s.heap H locs) (hsl : sl.size = (inf y).2.1) (hd : mm_dec (code y) pc i)
    (kk : ∀ (H1 : Heap) (locs1 : List Loc), va_P D cl (mm_wd cA ad h1) H1 → va_D A (mm_wd cA ad h1) → va_S A s.heap H1 locs1 → W p l e R s m args below meth c H1 locs1 cells slots Q (F0 m (pc + 3) sl ((r.toList ++ st.drop np).map (mm_tv ad)))) : W p l e R s m args below meth c H locs cells slots Q (F0 m pc sl (st.map (mm_tv ad))) := by
  obtain ⟨hN, hg, hAO, hfet, hfld, hmth, hK0⟩ := id hTO
  unfold mm_cl1 at hq
  split at hq
  · cases hq
  · rename_i y' vw hcal
    unfold mm_cal at hcal
    split at hcal
    · rename_i y2 vw2 hm
      split at hcal
      · rename_i hcok
        cases hcal
        have hMO := hmth _ _ _ _ hm
        obtain ⟨-, -, hsl', -, -⟩ := mm_cok_ok hcok
        split at hq
        · split at hq
          · rename_i r1 h2 hrun
            cases hq
            obtain ⟨W1, L1⟩ := mm_run_ok hTO hPO _ _ _ _ _ _ _ _ _ hrun
            have hM := mm_Met_of hK0 hMO.1 hsl' W1
            obtain ⟨a, hR⟩ := mm_callRunG (e := e) (below := below) hRR hN hg C hP hS hsl hd hI hcok hMO hM hex (hD.weaken (fun k q hk z => C.2.2.2.2.2.2.2.2.2.1 _ z)) hP rfl
            refine mm_after hR hS (fun q hq => ?_) (fun H1 locs1 hP1 hk1 hS1 => ?_)
            · rcases hq with ⟨k, x, hk⟩ | hq
              · exact hD.2 k _ hk
              · exact C.2.2.2.2.2.2.2.2.1 q (Nat.le_trans hS.1 hq)
            · rw [← mm_toL]
              exact kk H1 locs1 hP1 (mm_lenD L1 hD) hS1
          · cases hq
        · split at hq
          · rename_i hs vs hsub hrn hV
            split at hq
            · rename_i r1 hs1 hrun
              split at hq
              · rename_i r2 h2 hbO hbk
                cases hq
                obtain ⟨W1, L1⟩ := mm_run_ok hTO hPO _ _ _ _ _ _ _ _ _ hrun
                have hlv : (mm_sl vs).length ≤ (inf y').2.1 := by
                  have e1 := mm_rnL_ok (ad := fun k => k) _ _ hrn
                  have e2 : (mm_sl vs).length = (mm_sl ((st.take (inf y').1).reverse)).length := by
                    rw [← mm_sl_map (ad := mm_adV (fun k => k) (mm_view bsz h ((st.take (inf y').1).reverse))), e1, mm_sl_map]
                  rw [e2]
                  exact hsl'
                have hM := mm_Met_of hK0 hMO.1 hlv W1
                have hDl : va_D (fun q => lo ≤ q) (mm_wd cA ad h) := hD.weaken (fun k q hk z => C.2.2.2.2.2.2.2.2.2.1 _ z)
                obtain ⟨a, hR⟩ := mm_callRunG (e := e) (below := below) hRR hN hg C hP hS hsl hd hI hcok hMO hM (mm_adV_ext hV hex) (mm_subD hV hsub hDl) (mm_subP hsub hP) (mm_rnL_ok _ _ hrn)
                refine mm_after hR hS (fun q hq => mm_subA hsub hD (fun q hq => C.2.2.2.2.2.2.2.2.1 q (Nat.le_trans hS.1 hq)) hq) (fun H1 locs1 hP1 hk1 hS1 => ?_)
                rw [← mm_bkO_ok hbO, ← mm_toL]
                exact kk H1 locs1 (mm_bkP hsub hbk hP hD hP1 hk1) (mm_lenD (mm_bk_len _ _ _ _ hbk).1 hD) hS1
              · cases hq
            · cases hq
          · cases hq
      · cases hcal
    · cases hcal
theorem mm_cl1_len (hTO : mm_TO fet fld mth inf D cl tys cA s00 TB NW nm code) (hPO : mm_PO fet inf prm l D cl tys s00 lo exA TB NW nm code) {n d y idx np : Nat} {virt : Bool} {st : List Value} {h h1 : MH} {r : Option Value} (hq : mm_cl1 fet fld mth inf prm bsz n d y virt idx st h = some (np, r, h1)) : h1.length = h.length := by
  unfold mm_cl1 at hq
  split at hq
  · cases hq
  · split at hq
    · split at hq
      · rename_i hrun
        cases hq
        exact (mm_run_ok hTO hPO _ _ _ _ _ _ _ _ _ hrun).2
      · cases hq
    · split at hq
      · split at hq
        · split at hq
          · rename_i hbk
            cases hq
            exact (mm_bk_len _ _ _ _ hbk).1
          · cases hq
        · cases hq
      · cases hq
theorem mm_iok_ok {f : MI} {ls : ML} {st : List Value} {h : MH} (hq : mm_iok f ls st h = true) : f.1 ≤ st.length ∧ mm_ct (st.drop f.1) ≤ 8 ∧ (mm_sl ((st.take f.1).reverse)).length ≤ f.2.1 ∧ (∃ a As, (st.take f.1).reverse = .ref a :: As) ∧ ls.all (mm_vO h.length) = true ∧ (st.drop f.1).all (mm_vv h.length) = true := by
  unfold mm_iok at hq
  rw [Bool.and_eq_true, Bool.and_eq_true, Bool.and_eq_true, Bool.and_eq_true, Bool.and_eq_true] at hq
  obtain ⟨⟨⟨⟨⟨h1, h2⟩, h3⟩, h4⟩, h5⟩, h6⟩ := hq
  refine ⟨of_decide_eq_true h1, of_decide_eq_true h2, of_decide_eq_true h3, ?_, h5, h6⟩
  split at h4
  · rename_i a As e
    exact ⟨a, As, e⟩
  · cases h4
/-- a constructor's call -/
theorem mm_iniRun {p : Program} {e : Env} {s : State} {m : MethodId} {args : Array Value} {below : List Frame} {meth : Method} {c : Code} {H : Heap} {locs : List Loc} {A : Nat → Prop} {ad : Nat → Nat} {sl : Array Slot} {d y y' idx pc mc ms : Nat} {ls : ML} {st : List Value} {h h' : MH} {R : Room} {cells slots : Nat}
    (hRR : d + 2 ≤ R.frames ∧ 40 * (d + 2) ≤ R.locals ∧ cells + mc ≤ R.cells ∧ slots + ms ≤ R.slots) (hN : ∀ w ∈ NW, mm_nw w) (hg : ∀ w ∈ TB, goodWord w = true) (C : mm_Cx inf D cl tys s00 lo TB NW nm code p s m args meth c A y) (hP : va_P D cl (mm_wd cA ad h) H) (hD : va_D A (mm_wd cA ad h)) (hS : va_S A s.heap H locs) (hsl : sl.size = (inf y).2.1) (hd : mm_dec (code y) pc (.invokespecial idx)) (hiok : mm_iok (inf y') ls st h = true) (hSO : mm_SO inf TB NW nm code (nm y).cls idx y')
    (hM : mm_Met1 inf l D cl cA s00 lo exA TB NW nm code d y' ((st.take (inf y').1).reverse) h h' mc ms) (hex : ∀ k, 1000000 ≤ k → ad k = exA k) :
    ∃ a : Array Value, va_Run p l e R s m args below meth c H locs cells slots mc ms (F0 m pc sl (st.map (mm_tv ad))) ((st.drop (inf y').1).map (mm_tv ad)) (mm_Qc1 D cl cA ad (va_A (mm_wd cA ad h) H.size) h h' a) (va_A (mm_wd cA ad h) H.size) := by
  obtain ⟨hx, hb, hml, hr, hlocks, hown, hts, hK, hA, hAlo, hSt⟩ := C
  obtain ⟨hnp, hct, hsl', ⟨a, As, hav⟩, hvl, hvs⟩ := mm_iok_ok hiok
  obtain ⟨hpl, hcode, hini, hnames, hmax, hlink, ⟨n, hn, hdesc⟩, hinst, hname, hret⟩ := hSO
  have hlo : lo ≤ H.size := Nat.le_trans hSt.1 hS.1
  have hMet := hM ad H.size hex (hD.weaken (fun k q hk z => hAlo _ z)) hlo
  have hpre : ∀ U : State, U.heap = H → s.WarmedH U.vm → mm_Pc D cl cA s00 lo NW ad ((st.take (inf y').1).reverse) h H.size (((st.take (inf y').1).reverse).map (mm_tv ad)).toArray U := fun U hU hW => ⟨rfl, by rw [hU], by rw [hU]; exact hP, mm_St_of hN hSt hAlo hS hU hW⟩
  have hroom : (mm_rm1 d mc ms).frames + 1 ≤ R.frames ∧ 8 + ((inf y').2.1 + 11) + (mm_rm1 d mc ms).locals ≤ R.locals := by
    refine ⟨hRR.1, ?_⟩
    show 8 + ((inf y').2.1 + 11) + 40 * (d + 1) ≤ R.locals
    omega
  have hrest : 2 * (F0 m pc sl (st.map (mm_tv ad))).monitorRoom + ((((st.drop (inf y').1).map (mm_tv ad))).map fun v => v.category).sum ≤ 8 := lv_room (by rw [mm_ct_ok]; exact hct)
  have hstk : st = ((st.take (inf y').1).reverse).reverse ++ st.drop (inf y').1 := by rw [List.reverse_reverse, List.take_append_drop]
  have hlen : ((st.take (inf y').1).reverse).length = (inf y').1 := by rw [List.length_reverse, List.length_take]; omega
  have hf : cells + mc ≤ R.cells ∧ slots + ms ≤ R.slots := ⟨hRR.2.2.1, hRR.2.2.2⟩
  have hpre2 : ∀ U : State, U.heap = H → s.WarmedH U.vm → mm_Pc D cl cA s00 lo NW ad ((st.take (inf y').1).reverse) h H.size (Value.ref (ad a) :: As.map (mm_tv ad)).toArray U := fun U hU hW => by
    have := hpre U hU hW
    rw [hav] at this ⊢
    exact this
  rw [hav] at hlen hstk
  have hstack : st.map (mm_tv ad) = (As.map (mm_tv ad)).reverse ++ .ref (ad a) :: (st.drop (inf y').1).map (mm_tv ad) := by
    conv => lhs; rw [hstk]
    rw [List.map_append, List.map_reverse, List.map_cons, List.reverse_cons, List.append_assoc]
    rfl
  have hnl : (As.map (mm_tv ad)).length = n := by
    rw [List.length_map]
    rw [List.length_cons] at hlen
    omega
  have hww : mm_ww inf TB nm code y' = Cond.code (nm y') (code y') (inf y').2.1 none :: TB := by
    unfold mm_ww
    rw [hret]
  refine ⟨(Value.ref (ad a) :: As.map (mm_tv ad)).toArray, ?_⟩
  rcases hlink with hlink | ⟨host, hlink⟩
  · exact va_runI (As := As.map (mm_tv ad)) (b := ad a) ⟨hx, hb, hml, hown, hts⟩ hMet ⟨callB_of n hts (mm_good hg hcode) hww rfl rfl (hts _ hini) (hts _ hlink) ⟨hnames.1, hnames.2, hdesc⟩ hroom, hname, hts _ hinst⟩ ⟨mm_blind hN, hpre2⟩ rfl hnl hsl hstack hrest (mm_d1 hd rfl (by decide)) hf
  · exact va_runIN (As := As.map (mm_tv ad)) (b := ad a) ⟨hx, hb, hml, hown, hts⟩ hMet ⟨va_cnB n hts (mm_good hg hcode) hww rfl rfl (hSt.2.2.2.1 _ hlink) (hts _ hini) ⟨hnames.1, hnames.2, hdesc⟩ hroom, hname, hts _ hinst⟩ ⟨mm_blind hN, hpre2⟩ rfl hnl hsl hstack hrest (mm_d1 hd rfl (by decide)) hf
set_option maxHeartbeats 4000000 in
theorem mm_run1_ok (hTO : mm_TO fet fld mth inf D cl tys cA s00 TB NW nm code) (hPO : mm_PO fet inf prm l D cl tys s00 lo exA TB NW nm code) (hT1 : mm_TO1 fld inf nwc anc mnc arc ini spc cl tys cA s00 TB NW nm code) : ∀ (n d y pc : Nat) (ls : ML) (st : List Value) (h : MH) (nc ns pcr : Nat) (lsr : ML) (str : List Value) (h' : MH) (nc' ns' : Nat), mm_run1 fet fld mth inf prm bsz nwc anc mnc arc ini spc n d y pc ls st h nc ns = some (pcr, lsr, str, h', nc', ns') → mm_WS1 inf ini l D cl tys cA s00 lo exA TB NW nm code d y pc ls st h nc ns pcr str h' nc' ns' ∧ h.length ≤ h'.length ∧ nc ≤ nc' ∧ ns ≤ ns' := by
  obtain ⟨hN, hg, hAO, hfet, hfld, hmth, hK0⟩ := id hTO
  obtain ⟨hAC, hNO, hAN, hMN, hFin, hArc, hIni, hSp, hOb⟩ := hT1
  intro n
  induction n with
  | zero => intro d y pc ls st h nc ns pcr lsr str h' nc' ns' hq; cases hq
  | succ n ih =>
    intro d y pc ls st h nc ns pcr lsr str h' nc' ns' hq
    unfold mm_run1 at hq
    split at hq
    · cases hq
    · rename_i i hi
      have hd := hfet _ _ _ hi
      split at hq
      · -- a step
        rename_i pc1 ls1 st1 h1 hstp
        obtain ⟨ihW, ihL, ihc, ihs⟩ := ih _ _ _ _ _ _ _ _ _ _ _ _ _ _ hq
        unfold mm_stp at hstp
        split at hstp
        · rename_i h0
          cases hstp
          refine ⟨?_, ihL, ihc, ihs⟩
          intro p e s m args below meth c H locs A ad sl R c0 s0 Q C hnm hR hex hP hD hS hl hll kk
          exact mm_s0_ok C.1 C.2.1 hd hl h0 (fun sl' e2 hl' => ihW p e s m args below meth c H locs A ad sl' R c0 s0 Q C hnm hR hex hP hD hS hl' (e2.trans hll) kk)
        · split at hstp
          · rename_i h0
            cases hstp
            have hlen := mm_s1_len h0
            refine ⟨?_, by rw [← hlen]; exact ihL, ihc, ihs⟩
            intro p e s m args below meth c H locs A ad sl R c0 s0 Q C hnm hR hex hP hD hS hl hll kk
            obtain ⟨hx, hb, hml, hr, hlocks, hown, hts, hK, hA, hAlo, hSt⟩ := id C
            exact mm_s1_ok hx hb hown hts (fun w hw => va_Nw.use (mm_nw_tab (hN w hw)) (hSt.2.2.2.1 w hw)) (hfld y) hAO hK hd hP hD hS h0 (fun H1 locs1 hP1 hD1 hS1 => ihW p e s m args below meth c H1 locs1 A ad sl R c0 s0 Q C hnm hR hex hP1 hD1 hS1 hl hll (fun ad1 H2 locs2 sl2 ha => kk ad1 H2 locs2 sl2 (by rw [← hlen]; exact ha)))
          · split at hstp
            · rename_i h0
              cases hstp
              refine ⟨?_, ihL, ihc, ihs⟩
              intro p e s m args below meth c H locs A ad sl R c0 s0 Q C hnm hR hex hP hD hS hl hll kk
              exact hPO _ _ _ _ _ _ h0 p e s m args below meth c H locs R (c0 + nc) (s0 + ns) _ A ad pc sl C ⟨hR.1, hR.2.1, by omega, by omega⟩ hex hS (hl.1.trans hll) hi (ihW p e s m args below meth c H locs A ad sl R c0 s0 Q C hnm hR hex hP hD hS hl hll kk)
            · cases hstp
      · split at hq
        · -- a final field, a reference into a row
          rename_i pc1 st1 h1 h0
          obtain ⟨ihW, ihL, ihc, ihs⟩ := ih _ _ _ _ _ _ _ _ _ _ _ _ _ _ hq
          have hlen := mm_s2_len h0
          refine ⟨?_, by rw [← hlen]; exact ihL, ihc, ihs⟩
          intro p e s m args below meth c H locs A ad sl R c0 s0 Q C hnm hR hex hP hD hS hl hll kk
          obtain ⟨hx, hb, hml, hr, hlocks, hown, hts, hK, hA, hAlo, hSt⟩ := id C
          exact mm_s2_ok hx hb hown hts (hfld y) (hFin y) hnm hArc hK hd hP hD hS h0 (fun H1 locs1 hP1 hD1 hS1 => ihW p e s m args below meth c H1 locs1 A ad sl R c0 s0 Q C hnm hR hex hP1 hD1 hS1 hl hll (fun ad1 H2 locs2 sl2 ha => kk ad1 H2 locs2 sl2 (by rw [← hlen]; exact ha)))
        · split at hq
          · -- new cells
            rename_i pc1 st1 g h0
            split at hq
            · rename_i hok
              rw [Bool.and_eq_true] at hok
              obtain ⟨hvS, hlt⟩ := hok
              unfold mm_vS at hvS
              rw [Bool.and_eq_true, Bool.and_eq_true] at hvS
              obtain ⟨⟨hvl, hvs⟩, hvh⟩ := hvS
              have hlt2 : h.length + g.length < 1000000 := Nat.le_of_ble_eq_true hlt
              obtain ⟨ihW, ihL, ihc, ihs⟩ := ih _ _ _ _ _ _ _ _ _ _ _ _ _ _ hq
              have hlg : h.length ≤ (h ++ g).length := by rw [List.length_append]; omega
              refine ⟨?_, Nat.le_trans hlg ihL, by omega, by omega⟩
              intro p e s m args below meth c H locs A ad sl R c0 s0 Q C hnm hR hex hP hD hS hl hll kk
              obtain ⟨hx, hb, hml, hr, hlocks, hown, hts, hK, hA, hAlo, hSt⟩ := id C
              refine mm_new_ok hx hb hown hts hK hSt.2.2.1 hAO hAC (hNO y) (hAN y) (hMN y) hd hP hD hS hA h0 hlt2 hvh hvs (by omega) (by omega) (fun ad1 H1 ha hP1 hD1 hS1 => ?_)
              have := ihW p e s m args below meth c H1 locs A ad1 sl R c0 s0 Q C hnm hR (mm_ag_ex ha hex) hP1 hD1 hS1 (mm_ag_as ha hvl hl) hll (fun ad2 H2 locs2 sl2 ha2 => kk ad2 H2 locs2 sl2 (mm_ag_tr hlg ha ha2))
              rw [← Nat.add_assoc, ← Nat.add_assoc] at this
              exact this
            · cases hq
          · split at hq
            · -- a call
              rename_i virt idx hI
              split at hq
              · cases hq
              · rename_i d'
                split at hq
                · rename_i np r h1 hcl
                  obtain ⟨ihW, ihL, ihc, ihs⟩ := ih _ _ _ _ _ _ _ _ _ _ _ _ _ _ hq
                  have hlen := mm_cl1_len hTO hPO hcl
                  refine ⟨?_, by rw [← hlen]; exact ihL, ihc, ihs⟩
                  intro p e s m args below meth c H locs A ad sl R c0 s0 Q C hnm hR hex hP hD hS hl hll kk
                  exact mm_cl1_ok hTO hPO hI hcl C ⟨hR.1, hR.2.1, by omega, by omega⟩ hex hP hD hS (hl.1.trans hll) hd (fun H1 locs1 hP1 hD1 hS1 => ihW p e s m args below meth c H1 locs1 A ad sl R c0 s0 Q C hnm hR hex hP1 hD1 hS1 hl hll (fun ad1 H2 locs2 sl2 ha => kk ad1 H2 locs2 sl2 (by rw [← hlen]; exact ha)))
                · cases hq
            · split at hq
              · -- invokespecial
                rename_i idx
                split at hq
                · cases hq
                · rename_i hsp
                  split at hq
                  · split at hq
                    · rename_i hct
                      obtain ⟨ihW, ihL, ihc, ihs⟩ := ih _ _ _ _ _ _ _ _ _ _ _ _ _ _ hq
                      refine ⟨?_, ihL, ihc, ihs⟩
                      intro p e s m args below meth c H locs A ad sl R c0 s0 Q C hnm hR hex hP hD hS hl hll kk
                      obtain ⟨hx, hb, hml, hr, hlocks, hown, hts, hK, hA, hAlo, hSt⟩ := id C
                      obtain ⟨o1, o2, o3⟩ := hOb _ _ hsp
                      have hct2 := Nat.le_of_ble_eq_true hct
                      refine W.objInit hx hb hown (hts _ o1) (hts _ o2) (hts _ o3) rfl (hl.1.trans (hll.trans hml.symm)) (rest := List.map (mm_tv ad) _) rfl (mm_d1 hd rfl (by decide)) (by omega) ?_ (ihW p e s m args below meth c H locs A ad sl R c0 s0 Q C hnm hR hex hP hD hS hl hll kk)
                      rw [mm_ct_ok]
                      show 2 * 0 + mm_ct _ + 12 ≤ R.locals
                      omega
                    · cases hq
                  · cases hq
                · rename_i y' hsp
                  split at hq
                  · cases hq
                  · rename_i d'
                    split at hq
                    · cases hq
                    · rename_i hiok
                      split at hq
                      · rename_i pcr1 lsr1 h1 mc ms hrun
                        split at hq
                        · rename_i hfr
                          obtain ⟨cW, cL, -, -⟩ := ih _ _ _ _ _ _ _ _ _ _ _ _ _ _ hrun
                          obtain ⟨ihW, ihL, ihc, ihs⟩ := ih _ _ _ _ _ _ _ _ _ _ _ _ _ _ hq
                          have hSO := hSp _ _ _ hsp
                          obtain ⟨hnp, hct, hsl', -, hvl, hvs⟩ := mm_iok_ok hiok
                          have hM := mm_Met1_of hK0 hSO.1 hsl' hSO.2.2.2.2.2.2.2.2.1 hSO.2.2.2.2.2.2.2.2.2 (hfet _ _ _ hfr) cW
                          refine ⟨?_, Nat.le_trans cL ihL, by omega, by omega⟩
                          intro p e s m args below meth c H locs A ad sl R c0 s0 Q C hnm hR hex hP hD hS hl hll kk
                          obtain ⟨a, hRun⟩ := mm_iniRun (e := e) (below := below) (R := R) (cells := c0 + nc) (slots := s0 + ns) ⟨hR.1, hR.2.1, by omega, by omega⟩ hN hg C hP hD hS (hl.1.trans hll) hd hiok hSO hM hex
                          have hA1 : ∀ q, va_A (mm_wd cA ad h) H.size q → A q := fun q hq => by
                            rcases hq with ⟨k, x, hk⟩ | hq
                            · exact hD.2 k _ hk
                            · exact C.2.2.2.2.2.2.2.2.1 q (Nat.le_trans hS.1 hq)
                          refine mm_after1 hRun hS hA1 (fun ad1 H1 locs1 ha hP1 hD1 hS1 => ?_)
                          have := ihW p e s m args below meth c H1 locs1 A ad1 sl R c0 s0 Q C hnm hR (mm_ag_ex ha hex) hP1 (hD1.weaken (fun k q hk z => hA1 _ z)) hS1 (mm_ag_as ha hvl hl) hll (fun ad2 H2 locs2 sl2 ha2 => kk ad2 H2 locs2 sl2 (mm_ag_tr cL ha ha2))
                          rw [mm_ag_L ha hvs, ← Nat.add_assoc, ← Nat.add_assoc] at this
                          exact this
                        · cases hq
                      · cases hq
              · cases hq
                refine ⟨?_, Nat.le_refl _, Nat.le_refl _, Nat.le_refl _⟩
                intro p e s m args below meth c H locs A ad sl R c0 s0 Q C hnm hR hex hP hD hS hl hll kk
                exact kk ad H locs sl mm_ag_rf hP hD hS
              · cases hq
                refine ⟨?_, Nat.le_refl _, Nat.le_refl _, Nat.le_refl _⟩
                intro p e s m args below meth c H locs A ad sl R c0 s0 Q C hnm hR hex hP hD hS hl hll kk
                exact kk ad H locs sl mm_ag_rf hP hD hS
              · cases hq
end MMV

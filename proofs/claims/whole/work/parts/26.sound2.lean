section MMU
variable {fet : Nat → Nat → Option Instr} {fld : Nat → Nat → Option (Nat × Nat × FieldType × Bool)} {mth : Nat → Nat → Option (Nat × Bool)} {inf : Nat → MI} {prm : Nat → Nat → Instr → List Value → Option (Nat × List Value)} {bsz : Nat → Nat}
variable {l : Launch} {D : va_G} {cl : List vw_C} {tys : List (ClassId × FieldType)} {cA : Nat → ClassId} {s00 : State} {lo : Nat} {exA : Nat → Nat} {TB NW : List Cond} {nm : Nat → MethodName} {code : Nat → ByteArray}
theorem mm_St_of (hN : ∀ w ∈ NW, mm_nw w) {s U : State} {H : Heap} {locs : List Loc} {A : Nat → Prop} (hSt : mm_St s00 lo NW s) (hAlo : ∀ q, A q → lo ≤ q) (hS : va_S A s.heap H locs) (hU : U.heap = H) (hW : s.WarmedH U.vm) : mm_St s00 lo NW U := by
  subst hU
  refine ⟨Nat.le_trans hSt.1 hS.1, fun q hq => ?_, hSt.2.2.1.trans hW.alike, fun w hw => mm_nw_warm (hN w hw) hW (hSt.2.2.2.1 w hw), fun own k tx b hv => vk_R.warm hW (hSt.2.2.2.2 own k tx b hv)⟩
  rw [hS.2.1 q (Nat.lt_of_lt_of_le hq hSt.1) (fun z => absurd (hAlo q z) (Nat.not_le.mpr hq))]
  exact hSt.2.1 q hq
theorem mm_cok_ok {virt : Bool} {f : MI} {st : List Value} {h : MH} (hq : mm_cok virt f st h = true) : f.1 ≤ st.length ∧ mm_ct (st.drop f.1) ≤ 8 ∧ (mm_sl ((st.take f.1).reverse)).length ≤ f.2.1 ∧ (virt = true → f.2.2.2.2 = false ∧ ∃ a As fs, (st.take f.1).reverse = .ref a :: As ∧ mm_obj h a f.2.2.2.1 = some fs) ∧ (virt = false → f.2.2.2.2 = true) := by
  unfold mm_cok at hq
  rw [Bool.and_eq_true, Bool.and_eq_true, Bool.and_eq_true] at hq
  obtain ⟨⟨⟨h1, h2⟩, h3⟩, h4⟩ := hq
  refine ⟨of_decide_eq_true h1, of_decide_eq_true h2, of_decide_eq_true h3, fun hv => ?_, fun hv => ?_⟩
  · subst hv
    dsimp only at h4
    rw [Bool.and_eq_true] at h4
    refine ⟨by simpa using h4.1, ?_⟩
    have h5 := h4.2
    split at h5
    · rename_i a As e
      obtain ⟨fs, hfs⟩ := Option.isSome_iff_exists.mp h5
      exact ⟨a, As, fs, e, hfs⟩
    · cases h5
  · subst hv
    exact h4
theorem mm_callRun {p : Program} {e : Env} {s : State} {m : MethodId} {args : Array Value} {below : List Frame} {meth : Method} {c : Code} {H : Heap} {locs : List Loc} {A : Nat → Prop} {ad ad' : Nat → Nat} {sl : Array Slot} {d y y' idx pc : Nat} {virt : Bool} {i : Instr} {st vs' : List Value} {h hs hs' : MH} {r : Option Value}
    (hN : ∀ w ∈ NW, mm_nw w) (hg : ∀ w ∈ TB, goodWord w = true) (C : mm_Cx inf D cl tys s00 lo TB NW nm code p s m args meth c A y) (hP : va_P D cl (mm_wd cA ad h) H) (hS : va_S A s.heap H locs) (hsl : sl.size = (inf y).2.1) (hd : mm_dec (code y) pc i) (hi : mm_isI i = some (virt, idx)) (hcok : mm_cok virt (inf y') st h = true) (hMO : mm_MO inf cl TB NW nm code (nm y).cls idx y')
    (hM : mm_Met inf l D cl cA s00 lo exA TB NW nm code d y' vs' hs r hs') (hex : ∀ k, 1000000 ≤ k → ad' k = exA k) (hD' : va_D (fun q => lo ≤ q) (mm_wd cA ad' hs)) (hP' : va_P D cl (mm_wd cA ad' hs) H) (hvs : vs'.map (mm_tv ad') = ((st.take (inf y').1).reverse).map (mm_tv ad)) :
    ∃ a : Array Value, va_Run p l e (mm_rm (d + 1)) s m args below meth c H locs 0 0 0 0 (F0 m pc sl (st.map (mm_tv ad))) ((st.drop (inf y').1).map (mm_tv ad)) (mm_Qc D cl cA ad' (va_A (mm_wd cA ad' hs) H.size) r hs' a) (va_A (mm_wd cA ad' hs) H.size) := by
  obtain ⟨hx, hb, hml, hr, hlocks, hown, hts, hK, hA, hAlo, hSt⟩ := C
  obtain ⟨hnp, hct, hsl', hvirt, hstat⟩ := mm_cok_ok hcok
  obtain ⟨hpl, hcode, hini, hnames, hmax, hlink, hst1, hst2⟩ := hMO
  have hlo : lo ≤ H.size := Nat.le_trans hSt.1 hS.1
  have hMet := hM ad' H.size hex hD' hlo
  have hpre : ∀ U : State, U.heap = H → s.WarmedH U.vm → mm_Pc D cl cA s00 lo NW ad' vs' hs H.size (((st.take (inf y').1).reverse).map (mm_tv ad)).toArray U := fun U hU hW => ⟨by rw [hvs], by rw [hU], by rw [hU]; exact hP', mm_St_of hN hSt hAlo hS hU hW⟩
  have hroom : (mm_rm d).frames + 1 ≤ (mm_rm (d + 1)).frames ∧ 8 + ((inf y').2.1 + 11) + (mm_rm d).locals ≤ (mm_rm (d + 1)).locals := by
    refine ⟨Nat.le_refl _, ?_⟩
    show 8 + ((inf y').2.1 + 11) + 40 * (d + 1) ≤ 40 * (d + 1 + 1)
    omega
  have hrest : 2 * (F0 m pc sl (st.map (mm_tv ad))).monitorRoom + ((((st.drop (inf y').1).map (mm_tv ad))).map fun v => v.category).sum ≤ 8 := lv_room (by rw [mm_ct_ok]; exact hct)
  have hstk : st = ((st.take (inf y').1).reverse).reverse ++ st.drop (inf y').1 := by rw [List.reverse_reverse, List.take_append_drop]
  have hlen : ((st.take (inf y').1).reverse).length = (inf y').1 := by rw [List.length_reverse, List.length_take]; omega
  have hf : 0 + 0 ≤ (mm_rm (d + 1)).cells ∧ 0 + 0 ≤ (mm_rm (d + 1)).slots := ⟨Nat.le_refl _, Nat.le_refl _⟩
  cases virt with
  | true =>
    have hii : i = .invokevirtual idx := by
      unfold mm_isI at hi
      split at hi
      · cases hi; rfl
      · cases hi
      · cases hi
    subst hii
    obtain ⟨hs0, a, As, fs, hav, hobj⟩ := hvirt rfl
    obtain ⟨n, T, N, hn, hdesc, hinst, hsel, h100, hcl⟩ := hst2 hs0
    rw [hav] at hlen hstk hpre
    have he := mm_wd_at (cA := cA) (ad := ad) (mm_obj_ok hobj)
    rw [mm_tE_o h100] at he
    have hrec := va_recv hK hP hcl he
    have hstack : st.map (mm_tv ad) = (As.map (mm_tv ad)).reverse ++ .ref (ad a) :: (st.drop (inf y').1).map (mm_tv ad) := by
      conv => lhs; rw [hstk]
      rw [List.map_append, List.map_reverse, List.map_cons, List.reverse_cons, List.append_assoc]
      rfl
    have hnl : (As.map (mm_tv ad)).length = n := by
      rw [List.length_map]
      rw [List.length_cons] at hlen
      omega
    refine ⟨(Value.ref (ad a) :: As.map (mm_tv ad)).toArray, ?_⟩
    rcases hlink with hlink | ⟨host, hlink⟩
    · exact va_runV (As := As.map (mm_tv ad)) (b := ad a) ⟨hx, hb, hml, hown, hts⟩ hMet ⟨callB_of n hts (mm_good hg hcode) rfl rfl rfl (hts _ hini) (hts _ hlink) ⟨hnames.1, hnames.2, hdesc⟩ hroom, hts _ hinst, hts _ hsel⟩ ⟨mm_blind hN, hrec, hpre⟩ rfl hnl hsl hstack hrest (mm_d1 hd rfl (by decide)) hf
    · exact va_runVN (As := As.map (mm_tv ad)) (b := ad a) ⟨hx, hb, hml, hown, hts⟩ hMet ⟨va_cnB n hts (mm_good hg hcode) rfl rfl rfl (hSt.2.2.2.1 _ hlink) (hts _ hini) ⟨hnames.1, hnames.2, hdesc⟩ hroom, hts _ hinst, hts _ hsel⟩ ⟨mm_blind hN, hrec, hpre⟩ rfl hnl hsl hstack hrest (mm_d1 hd rfl (by decide)) hf
  | false =>
    have hii : i = .invokestatic idx := by
      unfold mm_isI at hi
      split at hi
      · cases hi
      · cases hi; rfl
      · cases hi
    subst hii
    obtain ⟨hdesc, hsta⟩ := hst1 (hstat rfl)
    have hstack : st.map (mm_tv ad) = (((st.take (inf y').1).reverse).map (mm_tv ad)).reverse ++ (st.drop (inf y').1).map (mm_tv ad) := by
      conv => lhs; rw [hstk]
      rw [List.map_append, List.map_reverse]
    have hnl : (((st.take (inf y').1).reverse).map (mm_tv ad)).length = (inf y').1 := by rw [List.length_map]; exact hlen
    refine ⟨(((st.take (inf y').1).reverse).map (mm_tv ad)).toArray, ?_⟩
    rcases hlink with hlink | ⟨host, hlink⟩
    · exact va_runS (As := ((st.take (inf y').1).reverse).map (mm_tv ad)) ⟨hx, hb, hml, hown, hts⟩ hMet ⟨callB_of _ hts (mm_good hg hcode) rfl rfl rfl (hts _ hini) (hts _ hlink) ⟨hnames.1, hnames.2, hdesc⟩ hroom, hts _ hsta⟩ ⟨mm_blind hN, hpre⟩ rfl hnl hsl hstack hrest (mm_d1 hd rfl (by decide)) hf
    · exact va_runSN (As := ((st.take (inf y').1).reverse).map (mm_tv ad)) ⟨hx, hb, hml, hown, hts⟩ hMet ⟨va_cnB _ hts (mm_good hg hcode) rfl rfl rfl (hSt.2.2.2.1 _ hlink) (hts _ hini) ⟨hnames.1, hnames.2, hdesc⟩ hroom, hts _ hsta, trivial⟩ ⟨mm_blind hN, hpre⟩ rfl hnl hsl hstack hrest (mm_d1 hd rfl (by decide)) hf
theorem mm_bkO_ok {ad : Nat → Nat} {V : List Nat} {r r' : Option Value} (h : mm_bkO V r = some r') : r'.map (mm_tv ad) = r.map (mm_tv (mm_adV ad V)) := by
  unfold mm_bkO at h
  split at h
  · cases h; rfl
  · split at h
    · rename_i w hw
      cases h
      show some _ = some _
      rw [mm_bkV_ok hw]
    · cases h
theorem mm_toL {ad : Nat → Nat} (r : Option Value) (rest : List Value) : (r.toList ++ rest).map (mm_tv ad) = (r.map (mm_tv ad)).toList ++ rest.map (mm_tv ad) := by
  rw [List.map_append]
  cases r <;> rfl
set_option maxHeartbeats 4000000 in
theorem mm_run_ok (hTO : mm_TO fet fld mth inf D cl tys cA s00 TB NW nm code) (hPO : mm_PO fet inf prm l D cl tys s00 lo exA TB NW nm code) : ∀ (n d y pc : Nat) (ls : ML) (st : List Value) (h : MH) (r : Option Value) (h' : MH), mm_run fet fld mth inf prm bsz n d y pc ls st h = some (r, h') → mm_WS inf l D cl tys cA s00 lo exA TB NW nm code d y pc ls st h r h' ∧ h'.length = h.length := by
  obtain ⟨hN, hg, hAO, hfet, hfld, hmth, hK0⟩ := id hTO
  intro n
  induction n with
  | zero => intro d y pc ls st h r h' hq; cases hq
  | succ n ih =>
    intro d y pc ls st h r h' hq
    unfold mm_run at hq
    split at hq
    · cases hq
    · rename_i i hi
      have hd := hfet _ _ _ hi
      split at hq
      · -- a step
        rename_i pc1 ls1 st1 h1 hstp
        obtain ⟨ihW, ihL⟩ := ih _ _ _ _ _ _ _ _ hq
        unfold mm_stp at hstp
        split at hstp
        · rename_i h0
          cases hstp
          refine ⟨?_, ihL⟩
          intro p e s m args below meth c H locs A ad sl C hex hP hD hS hl hll
          exact mm_s0_ok C.1 C.2.1 hd hl h0 (fun sl' e2 hl' => ihW p e s m args below meth c H locs A ad sl' C hex hP hD hS hl' (e2.trans hll))
        · split at hstp
          · rename_i h0
            cases hstp
            refine ⟨?_, ihL.trans (mm_s1_len h0)⟩
            intro p e s m args below meth c H locs A ad sl C hex hP hD hS hl hll
            obtain ⟨hx, hb, hml, hr, hlocks, hown, hts, hK, hA, hAlo, hSt⟩ := id C
            exact mm_s1_ok hx hb hown hts (fun w hw => va_Nw.use (mm_nw_tab (hN w hw)) (hSt.2.2.2.1 w hw)) (hfld y) hAO hK hd hP hD hS h0 (fun H1 locs1 hP1 hD1 hS1 => ihW p e s m args below meth c H1 locs1 A ad sl C hex hP1 hD1 hS1 hl hll)
          · split at hstp
            · rename_i h0
              cases hstp
              refine ⟨?_, ihL⟩
              intro p e s m args below meth c H locs A ad sl C hex hP hD hS hl hll
              exact hPO _ _ _ _ _ _ h0 p e s m args below meth c H locs (mm_rm d) 0 0 _ A ad pc sl C ⟨Nat.le_refl _, Nat.le_refl _, Nat.le_refl _, Nat.le_refl _⟩ hex hS (hl.1.trans hll) hi (ihW p e s m args below meth c H locs A ad sl C hex hP hD hS hl hll)
            · cases hstp
      · split at hq
        · -- the end
          unfold mm_ret at hq
          split at hq
          · split at hq
            · rename_i hok
              cases hq
              refine ⟨?_, rfl⟩
              intro p e s m args below meth c H locs A ad sl C hex hP hD hS hl hll
              obtain ⟨hx, hb, hml, hr, hlocks, hown, hts, hK, hA, hAlo, hSt⟩ := id C
              unfold mm_rok at hok
              split at hok
              · rename_i ty hty
                exact W.zret hx hb (hr.trans hty) (mm_fit_ok hok).1 (fun t ht hW => ⟨rfl, by rw [ht]; exact hP, hS.F ht⟩) hS.2.2 (mm_d1 hd rfl (by decide)) hlocks
              · cases hok
            · cases hq
          · split at hq
            · rename_i hok
              cases hq
              refine ⟨?_, rfl⟩
              intro p e s m args below meth c H locs A ad sl C hex hP hD hS hl hll
              obtain ⟨hx, hb, hml, hr, hlocks, hown, hts, hK, hA, hAlo, hSt⟩ := id C
              unfold mm_rok at hok
              split at hok
              · rename_i ty hty
                have hty2 : ty = .long := by
                  cases ty <;> first | rfl | cases hok
                subst hty2
                exact W.lret hx hb (hr.trans hty) (fun t ht hW => ⟨rfl, by rw [ht]; exact hP, hS.F ht⟩) hS.2.2 (mm_d1 hd rfl (by decide)) hlocks
              · cases hok
            · cases hq
          · split at hq
            · rename_i hok
              cases hq
              refine ⟨?_, rfl⟩
              intro p e s m args below meth c H locs A ad sl C hex hP hD hS hl hll
              obtain ⟨hx, hb, hml, hr, hlocks, hown, hts, hK, hA, hAlo, hSt⟩ := id C
              unfold mm_rok at hok
              split at hok
              · rename_i ty hty
                have hty2 : (∃ n, ty = .object n) ∨ ∃ t, ty = .array t := by
                  cases ty <;> first | exact Or.inl ⟨_, rfl⟩ | exact Or.inr ⟨_, rfl⟩ | cases hok
                exact W.aret hx hb (hr.trans hty) hty2 (Or.inr ⟨_, rfl⟩) (fun t ht hW => ⟨rfl, by rw [ht]; exact hP, hS.F ht⟩) hS.2.2 (mm_d1 hd rfl (by decide)) hlocks
              · cases hok
            · cases hq
          · split at hq
            · rename_i hret
              cases hq
              refine ⟨?_, rfl⟩
              intro p e s m args below meth c H locs A ad sl C hex hP hD hS hl hll
              obtain ⟨hx, hb, hml, hr, hlocks, hown, hts, hK, hA, hAlo, hSt⟩ := id C
              exact W.vret hx hb (hr.trans hret) (fun t ht hW => ⟨rfl, by rw [ht]; exact hP, hS.F ht⟩) hS.2.2 (mm_d1 hd rfl (by decide)) hlocks
            · cases hq
          · cases hq
        · -- a call
          rename_i virt idx hI
          split at hq
          · cases hq
          · rename_i y' vw hcal
            unfold mm_cal at hcal
            split at hcal
            · rename_i y2 vw2 hm
              split at hcal
              · rename_i hcok
                cases hcal
                have hMO := hmth _ _ _ _ hm
                obtain ⟨-, -, hsl', -, -⟩ := mm_cok_ok hcok
                split at hq
                · cases hq
                · rename_i d'
                  split at hq
                  · -- on all cells
                    split at hq
                    · rename_i r1 h1 hrun
                      obtain ⟨W1, L1⟩ := ih _ _ _ _ _ _ _ _ hrun
                      obtain ⟨W2, L2⟩ := ih _ _ _ _ _ _ _ _ hq
                      have hM := mm_Met_of hK0 hMO.1 hsl' W1
                      refine ⟨?_, L2.trans L1⟩
                      intro p e s m args below meth c H locs A ad sl C hex hP hD hS hl hll
                      obtain ⟨a, hR⟩ := mm_callRun (e := e) (below := below) hN hg C hP hS (hl.1.trans hll) hd hI hcok hMO hM hex (hD.weaken (fun k q hk z => C.2.2.2.2.2.2.2.2.2.1 _ z)) hP rfl
                      refine mm_after hR hS (fun q hq => ?_) (fun H1 locs1 hP1 hk1 hS1 => ?_)
                      · rcases hq with ⟨k, x, hk⟩ | hq
                        · exact hD.2 k _ hk
                        · exact C.2.2.2.2.2.2.2.2.1 q (Nat.le_trans hS.1 hq)
                      · rw [← mm_toL]
                        exact W2 p e s m args below meth c H1 locs1 A ad sl C hex hP1 (mm_lenD L1 hD) hS1 hl hll
                    · cases hq
                  · -- on a view
                    split at hq
                    · rename_i hs vs hsub hrn hV
                      split at hq
                      · rename_i r1 hs1 hrun
                        split at hq
                        · rename_i r2 h2 hbO hbk
                          obtain ⟨W1, L1⟩ := ih _ _ _ _ _ _ _ _ hrun
                          obtain ⟨W2, L2⟩ := ih _ _ _ _ _ _ _ _ hq
                          have hlv : (mm_sl vs).length ≤ (inf y').2.1 := by
                            have e1 := mm_rnL_ok (ad := fun k => k) _ _ hrn
                            have e2 : (mm_sl vs).length = (mm_sl ((st.take (inf y').1).reverse)).length := by
                              rw [← mm_sl_map (ad := mm_adV (fun k => k) (mm_view bsz h ((st.take (inf y').1).reverse))), e1, mm_sl_map]
                            rw [e2]
                            exact hsl'
                          have hM := mm_Met_of hK0 hMO.1 hlv W1
                          refine ⟨?_, L2.trans (mm_bk_len _ _ _ _ hbk).1⟩
                          intro p e s m args below meth c H locs A ad sl C hex hP hD hS hl hll
                          have hDl : va_D (fun q => lo ≤ q) (mm_wd cA ad h) := hD.weaken (fun k q hk z => C.2.2.2.2.2.2.2.2.2.1 _ z)
                          obtain ⟨a, hR⟩ := mm_callRun (e := e) (below := below) hN hg C hP hS (hl.1.trans hll) hd hI hcok hMO hM (mm_adV_ext hV hex) (mm_subD hV hsub hDl) (mm_subP hsub hP) (mm_rnL_ok _ _ hrn)
                          refine mm_after hR hS (fun q hq => mm_subA hsub hD (fun q hq => C.2.2.2.2.2.2.2.2.1 q (Nat.le_trans hS.1 hq)) hq) (fun H1 locs1 hP1 hk1 hS1 => ?_)
                          rw [← mm_bkO_ok hbO, ← mm_toL]
                          exact W2 p e s m args below meth c H1 locs1 A ad sl C hex (mm_bkP hsub hbk hP hD hP1 hk1) (mm_lenD (mm_bk_len _ _ _ _ hbk).1 hD) hS1 hl hll
                        · cases hq
                      · cases hq
                    · cases hq
              · cases hcal
            · cases hcal
end MMU

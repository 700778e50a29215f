/-! The same calls in any room; and the runs that make cells -/
section MMG
variable {fet : Nat → Nat → Option Instr} {fld : Nat → Nat → Option (Nat × Nat × FieldType × Bool)} {mth : Nat → Nat → Option (Nat × Bool)} {inf : Nat → MI} {prm : Nat → Nat → Instr → List Value → Option (Nat × List Value)} {bsz : Nat → Nat}
variable {l : Launch} {D : va_G} {cl : List vw_C} {tys : List (ClassId × FieldType)} {cA : Nat → ClassId} {s00 : State} {lo : Nat} {exA : Nat → Nat} {TB NW : List Cond} {nm : Nat → MethodName} {code : Nat → ByteArray}
theorem mm_callRunG {R : Room} {cells slots : Nat} {p : Program} {e : Env} {s : State} {m : MethodId} {args : Array Value} {below : List Frame} {meth : Method} {c : Code} {H : Heap} {locs : List Loc} {A : Nat → Prop} {ad ad' : Nat → Nat} {sl : Array Slot} {d y y' idx pc : Nat} {virt : Bool} {i : Instr} {st vs' : List Value} {h hs hs' : MH} {r : Option Value}
    (hRR : d + 2 ≤ R.frames ∧ 40 * (d + 2) ≤ R.locals ∧ cells ≤ R.cells ∧ slots ≤ R.slots) (hN : ∀ w ∈ NW, mm_nw w) (hg : ∀ w ∈ TB, goodWord w = true) (C : mm_Cx inf D cl tys s00 lo TB NW nm code p s m args meth c A y) (hP : va_P D cl (mm_wd cA ad h) H) (hS : va_S A s.heap H locs) (hsl : sl.size = (inf y).2.1) (hd : mm_dec (code y) pc i) (hi : mm_isI i = some (virt, idx)) (hcok : mm_cok virt (inf y') st h = true) (hMO : mm_MO inf cl TB NW nm code (nm y).cls idx y')
    (hM : mm_Met inf l D cl cA s00 lo exA TB NW nm code d y' vs' hs r hs') (hex : ∀ k, 1000000 ≤ k → ad' k = exA k) (hD' : va_D (fun q => lo ≤ q) (mm_wd cA ad' hs)) (hP' : va_P D cl (mm_wd cA ad' hs) H) (hvs : vs'.map (mm_tv ad') = ((st.take (inf y').1).reverse).map (mm_tv ad)) :
    ∃ a : Array Value, va_Run p l e R s m args below meth c H locs cells slots 0 0 (F0 m pc sl (st.map (mm_tv ad))) ((st.drop (inf y').1).map (mm_tv ad)) (mm_Qc D cl cA ad' (va_A (mm_wd cA ad' hs) H.size) r hs' a) (va_A (mm_wd cA ad' hs) H.size) := by
  obtain ⟨hx, hb, hml, hr, hlocks, hown, hts, hK, hA, hAlo, hSt⟩ := C
  obtain ⟨hnp, hct, hsl', hvirt, hstat⟩ := mm_cok_ok hcok
  obtain ⟨hpl, hcode, hini, hnames, hmax, hlink, hst1, hst2⟩ := hMO
  have hlo : lo ≤ H.size := Nat.le_trans hSt.1 hS.1
  have hMet := hM ad' H.size hex hD' hlo
  have hpre : ∀ U : State, U.heap = H → s.WarmedH U.vm → mm_Pc D cl cA s00 lo NW ad' vs' hs H.size (((st.take (inf y').1).reverse).map (mm_tv ad)).toArray U := fun U hU hW => ⟨by rw [hvs], by rw [hU], by rw [hU]; exact hP', mm_St_of hN hSt hAlo hS hU hW⟩
  have hroom : (mm_rm d).frames + 1 ≤ R.frames ∧ 8 + ((inf y').2.1 + 11) + (mm_rm d).locals ≤ R.locals := by
    refine ⟨hRR.1, ?_⟩
    show 8 + ((inf y').2.1 + 11) + 40 * (d + 1) ≤ R.locals
    omega
  have hrest : 2 * (F0 m pc sl (st.map (mm_tv ad))).monitorRoom + ((((st.drop (inf y').1).map (mm_tv ad))).map fun v => v.category).sum ≤ 8 := lv_room (by rw [mm_ct_ok]; exact hct)
  have hstk : st = ((st.take (inf y').1).reverse).reverse ++ st.drop (inf y').1 := by rw [List.reverse_reverse, List.take_append_drop]
  have hlen : ((st.take (inf y').1).reverse).length = (inf y').1 := by rw [List.length_reverse, List.length_take]; omega
  have hf : cells + 0 ≤ R.cells ∧ slots + 0 ≤ R.slots := ⟨hRR.2.2.1, hRR.2.2.2⟩
  cases virt with
  | true =>
    have hii : i = .invokevirtual idx := by
      unfold mm_isI at hi
      split at hi
      · cases hi; rfl
      · cases hi
      · cases hi
    subst hii
    obtain ⟨hs0, a, As, fs, hav, hobj⟩ := hvirt rfl
    obtain ⟨n, T, N, hn, hdesc, hinst, hsel, h100, hcl⟩ := hst2 hs0
    rw [hav] at hlen hstk hpre
    have he := mm_wd_at (cA := cA) (ad := ad) (mm_obj_ok hobj)
    rw [mm_tE_o h100] at he
    have hrec := va_recv hK hP hcl he
    have hstack : st.map (mm_tv ad) = (As.map (mm_tv ad)).reverse ++ .ref (ad a) :: (st.drop (inf y').1).map (mm_tv ad) := by
      conv => lhs; rw [hstk]
      rw [List.map_append, List.map_reverse, List.map_cons, List.reverse_cons, List.append_assoc]
      rfl
    have hnl : (As.map (mm_tv ad)).length = n := by
      rw [List.length_map]
      rw [List.length_cons] at hlen
      omega
    refine ⟨(Value.ref (ad a) :: As.map (mm_tv ad)).toArray, ?_⟩
    rcases hlink with hlink | ⟨host, hlink⟩
    · exact va_runV (As := As.map (mm_tv ad)) (b := ad a) ⟨hx, hb, hml, hown, hts⟩ hMet ⟨callB_of n hts (mm_good hg hcode) rfl rfl rfl (hts _ hini) (hts _ hlink) ⟨hnames.1, hnames.2, hdesc⟩ hroom, hts _ hinst, hts _ hsel⟩ ⟨mm_blind hN, hrec, hpre⟩ rfl hnl hsl hstack hrest (mm_d1 hd rfl (by decide)) hf
    · exact va_runVN (As := As.map (mm_tv ad)) (b := ad a) ⟨hx, hb, hml, hown, hts⟩ hMet ⟨va_cnB n hts (mm_good hg hcode) rfl rfl rfl (hSt.2.2.2.1 _ hlink) (hts _ hini) ⟨hnames.1, hnames.2, hdesc⟩ hroom, hts _ hinst, hts _ hsel⟩ ⟨mm_blind hN, hrec, hpre⟩ rfl hnl hsl hstack hrest (mm_d1 hd rfl (by decide)) hf
  | false =>
    have hii : i = .invokestatic idx := by
      unfold mm_isI at hi
      split at hi
      · cases hi
      · cases hi; rfl
      · cases hi
    subst hii
    obtain ⟨hdesc, hsta⟩ := hst1 (hstat rfl)
    have hstack : st.map (mm_tv ad) = (((st.take (inf y').1).reverse).map (mm_tv ad)).reverse ++ (st.drop (inf y').1).map (mm_tv ad) := by
      conv => lhs; rw [hstk]
      rw [List.map_append, List.map_reverse]
    have hnl : (((st.take (inf y').1).reverse).map (mm_tv ad)).length = (inf y').1 := by rw [List.length_map]; exact hlen
    refine ⟨(((st.take (inf y').1).reverse).map (mm_tv ad)).toArray, ?_⟩
    rcases hlink with hlink | ⟨host, hlink⟩
    · exact va_runS (As := ((st.take (inf y').1).reverse).map (mm_tv ad)) ⟨hx, hb, hml, hown, hts⟩ hMet ⟨callB_of _ hts (mm_good hg hcode) rfl rfl rfl (hts _ hini) (hts _ hlink) ⟨hnames.1, hnames.2, hdesc⟩ hroom, hts _ hsta⟩ ⟨mm_blind hN, hpre⟩ rfl hnl hsl hstack hrest (mm_d1 hd rfl (by decide)) hf
    · exact va_runSN (As := ((st.take (inf y').1).reverse).map (mm_tv ad)) ⟨hx, hb, hml, hown, hts⟩ hMet ⟨va_cnB _ hts (mm_good hg hcode) rfl rfl rfl (hSt.2.2.2.1 _ hlink) (hts _ hini) ⟨hnames.1, hnames.2, hdesc⟩ hroom, hts _ hsta, trivial⟩ ⟨mm_blind hN, hpre⟩ rfl hnl hsl hstack hrest (mm_d1 hd rfl (by decide)) hf
end MMG
/-- a final field in a constructor, a reference into a row -/
def mm_s2 (fld : Nat → Option (Nat × Nat × FieldType × Bool)) (arc : Nat → Bool) (ini : Option Nat) (i : Instr) (pc : Nat) (st : List Value) (h : MH) : Option (Nat × List Value × MH) := match i, st with
  | .putfield idx, v :: .ref a :: st => match fld idx, ini with
    | some (ci, k, ty, true), some cj => if ci = cj then match mm_obj h a ci with
        | some fs => if k < fs.length then if mm_fit ty v = true then some (pc + 3, st, h.set a (.inr (ci, fs.set k v))) else none else none
        | none => none
      else none
    | _, _ => none
  | .aastore, .ref v :: .int i :: .ref a :: st => match mm_ix i, h[a]?, h[v]? with
    | some k, some (.inr (t, fs)), some (.inr (ci, _)) => if t = 100 + ci ∧ ci < 100 ∧ arc ci = true ∧ k < fs.length then some (pc + 1, st, h.set a (.inr (t, fs.set k (.ref v)))) else none
    | _, _, _ => none
  | _, _ => none
theorem mm_s2_len {fld : Nat → Option (Nat × Nat × FieldType × Bool)} {arc : Nat → Bool} {ini : Option Nat} {i : Instr} {pc pc' : Nat} {st st' : List Value} {h h' : MH} (hq : mm_s2 fld arc ini i pc st h = some (pc', st', h')) : h'.length = h.length := by
  unfold mm_s2 at hq
  split at hq
  · split at hq
    · split at hq
      · split at hq
        · split at hq
          · split at hq
            · cases hq; exact List.length_set
            · cases hq
          · cases hq
        · cases hq
      · cases hq
    · cases hq
  · split at hq
    · split at hq
      · cases hq; exact List.length_set
      · cases hq
    · cases hq
  · cases hq
theorem mm_up_set {ad : Nat → Nat} {fs : List Value} {k v : Nat} (hk : k < fs.length) : va_up (fun j => mm_rf ad (fs.getD j .null)) k (some (ad v)) = fun j => mm_rf ad ((fs.set k (.ref v)).getD j .null) := by
  funext j
  unfold va_up
  show (if j = k then some (ad v) else mm_rf ad (fs.getD j .null)) = _
  rw [List.getD_eq_getElem?_getD, List.getD_eq_getElem?_getD, List.getElem?_set]
  by_cases e : j = k
  · subst e
    simp [hk, mm_rf]
  · have e2 : ¬ k = j := fun q => e q.symm
    simp [e, e2]
section MMC
variable {p : Program} {l : Launch} {e : Env} {R : Room} {s : State} {m : MethodId} {args : Array Value} {below : List Frame} {meth : Method} {c : Code} {H H0 : Heap} {locs : List Loc} {cells slots : Nat} {Q : State → Prop} {cc : ByteArray} {D : va_G} {cl : List vw_C} {tys : List (ClassId × FieldType)} {A : Nat → Prop} {TB NW : List Cond} {own : String}
set_option maxHeartbeats 4000000 in
theorem mm_s2_ok (hx : p.tables.exec = Jvm.exec) (hb : c.code = cc) {cA : Nat → ClassId} {ad : Nat → Nat} {fld : Nat → Option (Nat × Nat × FieldType × Bool)} {arc : Nat → Bool} {ini : Option Nat} (hown : s.vm.findClass own = some m.cls) (hts : ∀ w ∈ TB, w.before args s = true) (hfo : ∀ idx ci k ty fin, fld idx = some (ci, k, ty, fin) → mm_FO cl TB NW own idx ci k ty fin) (hfin : ∀ idx ci k ty, fld idx = some (ci, k, ty, true) → ini = some ci → ∀ C T N, cl[ci]? = some (C, T, N) → (T k).1 = own ∧ Cond.fieldLink own idx (T k).1 (T k).2.1 (T k).2.2.1 ∈ TB) (hini : ∀ ci, ini = some ci → meth.name = "<init>") (harc : ∀ ci, arc ci = true → ∃ (r : vw_C) (t0 : Nat), cl[ci]? = some r ∧ tys[t0]? = some (cA (100 + ci), .object r.1)) (hK : va_K D cl tys s)
    {i : Instr} {pc pc' : Nat} {st st' : List Value} {h h' : MH} {sl : Array Slot} (hd : mm_dec cc pc i) (hP : va_P D cl (mm_wd cA ad h) H) (hD : va_D A (mm_wd cA ad h)) (hS : va_S A H0 H locs) (hq : mm_s2 fld arc ini i pc st h = some (pc', st', h'))
    (kk : ∀ (H1 : Heap) (locs1 : List Loc), va_P D cl (mm_wd cA ad h') H1 → va_D A (mm_wd cA ad h') → va_S A H0 H1 locs1 → W p l e R s m args below meth c H1 locs1 cells slots Q (F0 m pc' sl (st'.map (mm_tv ad)))) : W p l e R s m args below meth c H locs cells slots Q (F0 m pc sl (st.map (mm_tv ad))) := by
  unfold mm_s2 at hq
  split at hq
  · rename_i idx v a st0
    split at hq
    · rename_i ci k ty cj hf
      split at hq
      · rename_i ecj
        subst ecj
        split at hq
        · rename_i fs hobj
          split at hq
          · rename_i hkl
            split at hq
            · rename_i hfit
              cases hq
              obtain ⟨h100, C, T, N, ty0, hc, hkN, hin, hty, hnm, hty1, hfn, -⟩ := hfo _ _ _ _ _ hf
              obtain ⟨hdecl, hlink⟩ := hfin _ _ _ _ hf rfl C T N hc
              have he := mm_wd_at (cA := cA) (ad := ad) (mm_obj_ok hobj)
              rw [mm_tE_o h100] at he
              obtain ⟨hn, hfi⟩ := mm_fit_ok (mm_fit_tv (ad := ad) hfit)
              have hset : (mm_wd cA ad h).set a (ad a, .inr (ci, (fs.map (mm_tv ad)).set k (mm_tv ad v))) = mm_wd cA ad (h.set a (.inr (ci, fs.set k v))) := by
                rw [← mm_wd_set, mm_tE_o h100, List.map_set]
              exact va_putF hx hb hts hin ty0 hty hnm hown hK hP hD hS _ he hc k hkN (hts _ hlink) (fun _ h9 => h9) hfn (hini _ rfl) hdecl ((hty k hkN).trans (congrArg some hty1)) hn hfi (by rw [List.length_map]; exact hkl) (mm_d1 hd rfl (by decide)) (fun H1 locs1 a b c => kk H1 locs1 (by rw [← hset]; exact a) (by rw [← hset]; exact b) c)
            · cases hq
          · cases hq
        · cases hq
      · cases hq
    · cases hq
  · rename_i v i0 a st0
    split at hq
    · rename_i k t fs ci fs2 hk ha hv
      split at hq
      · rename_i hc
        cases hq
        obtain ⟨rfl, h100, har, hkl⟩ := hc
        obtain ⟨h0, rfl⟩ := mm_ix_ok hk
        obtain ⟨r, t0, hcl, ht⟩ := harc _ har
        have he := mm_wd_at (cA := cA) (ad := ad) ha
        rw [mm_tE_r (by omega)] at he
        have hev := mm_wd_at (cA := cA) (ad := ad) hv
        rw [mm_tE_o h100] at hev
        have hin : vp_in i0 fs.length := fun z => by
          rcases z with z | z
          · exact h0 z
          · omega
        have hset : (mm_wd cA ad h).set a (ad a, .inl (cA (100 + ci), fs.length, .inr (.inr (.inr (.inr (va_up (fun j => mm_rf ad (fs.getD j .null)) i0.toNatClampNeg (some (ad v)))))))) = mm_wd cA ad (h.set a (.inr (100 + ci, fs.set i0.toNatClampNeg (.ref v)))) := by
          rw [← mm_wd_set, mm_tE_r (by omega), mm_up_set hkl, List.length_set]
        exact va_astq hx hb hK hP hD hS _ t0 _ ci he ht hev hcl hin (mm_d1 hd rfl (by decide)) (fun H1 locs1 a b c => kk H1 locs1 (by rw [← hset]; exact a) (by rw [← hset]; exact b) c)
      · cases hq
    · cases hq
  · cases hq
end MMC

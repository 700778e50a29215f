/-! The steps that read and write cells -/
def mm_ix (i : Int32) : Option Nat := if i < 0 then none else some i.toNatClampNeg
def mm_obj (h : MH) (a ci : Nat) : Option (List Value) := match h[a]? with
  | some (.inr (cj, fs)) => if ci = cj then some fs else none
  | _ => none
def mm_arr (h : MH) (a t : Nat) : Option (List Int32) := match h[a]? with
  | some (.inl (t', L)) => if t = t' then some L else none
  | _ => none
/-- a row of references -/
def mm_row (h : MH) (a : Nat) : Option (List Value) := match h[a]? with
  | some (.inr (t, fs)) => if 100 ≤ t then some fs else none
  | _ => none
def mm_fit (ty : FieldType) (v : Value) : Bool := match ty, v with
  | .int, .int _ => true
  | .long, .long _ => true
  | .boolean, .int x => decide (x = 0) || decide (x = 1)
  | .object _, .ref _ => true
  | .array _, .ref _ => true
  | _, _ => false
def mm_gf (f : Option (Nat × Nat × FieldType × Bool)) (h : MH) (a : Nat) : Option Value := match f with
  | some (ci, k, _, _) => match mm_obj h a ci with
    | some fs => fs[k]?
    | none => none
  | none => none
def mm_pf (f : Option (Nat × Nat × FieldType × Bool)) (h : MH) (a : Nat) (v : Value) : Option MH := match f with
  | some (ci, k, ty, false) => match mm_obj h a ci with
    | some fs => if k < fs.length then if mm_fit ty v = true then some (h.set a (.inr (ci, fs.set k v))) else none else none
    | none => none
  | _ => none
def mm_ra (h : MH) (a t : Nat) (i : Int32) : Option Int32 := match mm_ix i with
  | some k => match mm_arr h a t with
    | some L => L[k]?
    | none => none
  | none => none
def mm_wa (h : MH) (a t : Nat) (i x : Int32) : Option MH := match mm_ix i with
  | some k => match mm_arr h a t with
    | some L => if k < L.length then some (h.set a (.inl (t, L.set k x))) else none
    | none => none
  | none => none
def mm_rr (h : MH) (a : Nat) (i : Int32) : Option Nat := match mm_ix i with
  | some k => match mm_row h a with
    | some fs => match fs[k]? with
      | some (.ref r) => some r
      | _ => none
    | none => none
  | none => none
def mm_al (h : MH) (a : Nat) : Option Nat := match h[a]? with
  | some (.inl (t, L)) => if t < 3 then some L.length else none
  | some (.inr (t, fs)) => if 100 ≤ t then some fs.length else none
  | none => none
def mm_isB (h : MH) (a : Nat) : Bool := match h[a]? with
  | some (.inl (1, _)) => true
  | _ => false
def mm_r1 (pc : Nat) (st : List Value) (h : MH) (v : Option Value) : Option (Nat × List Value × MH) := match v with
  | some v => some (pc, v :: st, h)
  | none => none
def mm_w1 (pc : Nat) (st : List Value) (h : Option MH) : Option (Nat × List Value × MH) := match h with
  | some h => some (pc, st, h)
  | none => none
def mm_s1 (fld : Nat → Option (Nat × Nat × FieldType × Bool)) (i : Instr) (pc : Nat) (st : List Value) (h : MH) : Option (Nat × List Value × MH) := match i, st with
  | .getfield idx, .ref a :: st => mm_r1 (pc + 3) st h (mm_gf (fld idx) h a)
  | .putfield idx, v :: .ref a :: st => mm_w1 (pc + 3) st (mm_pf (fld idx) h a v)
  | .iaload, .int i :: .ref a :: st => mm_r1 (pc + 1) st h ((mm_ra h a 0 i).map .int)
  | .baload, .int i :: .ref a :: st => match mm_isB h a with
    | true => mm_r1 (pc + 1) st h ((mm_ra h a 1 i).map .int)
    | false => mm_r1 (pc + 1) st h ((mm_ra h a 2 i).map .int)
  | .aaload, .int i :: .ref a :: st => mm_r1 (pc + 1) st h ((mm_rr h a i).map .ref)
  | .arraylength, .ref a :: st => mm_r1 (pc + 1) st h ((mm_al h a).map (fun n => .int (Int32.ofNat n)))
  | .iastore, .int x :: .int i :: .ref a :: st => mm_w1 (pc + 1) st (mm_wa h a 0 i x)
  | .bastore, .int x :: .int i :: .ref a :: st => match mm_isB h a with
    | true => if mm_fit .boolean (.int x) = true then mm_w1 (pc + 1) st (mm_wa h a 1 i x) else none
    | false => mm_w1 (pc + 1) st (mm_wa h a 2 i x.toInt8.toInt32)
  | _, _ => none
/-- the world of a list of cells -/
def mm_rf (ad : Nat → Nat) (v : Value) : Option Nat := match v with
  | .ref k => some (ad k)
  | _ => none
def mm_tE (cA : Nat → ClassId) (ad : Nat → Nat) (x : MC) : va_E := match x with
  | .inl (t, L) => .inl (cA t, L.length, .inl (fun j => L.getD j 0))
  | .inr (t, fs) => if t < 100 then .inr (t, fs.map (mm_tv ad)) else .inl (cA t, fs.length, .inr (.inr (.inr (.inr (fun j => mm_rf ad (fs.getD j .null))))))
def mm_wd (cA : Nat → ClassId) (ad : Nat → Nat) (h : MH) : va_W := h.mapIdx (fun k x => (ad k, mm_tE cA ad x))
theorem mm_wd_at {cA : Nat → ClassId} {ad : Nat → Nat} {h : MH} {k : Nat} {x : MC} (hx : h[k]? = some x) : (mm_wd cA ad h)[k]? = some (ad k, mm_tE cA ad x) := by
  unfold mm_wd
  rw [List.getElem?_mapIdx, hx]
  rfl
theorem mm_wd_of {cA : Nat → ClassId} {ad : Nat → Nat} {h : MH} {k : Nat} {q : Nat × va_E} (hq : (mm_wd cA ad h)[k]? = some q) : ∃ x, h[k]? = some x ∧ q = (ad k, mm_tE cA ad x) := by
  unfold mm_wd at hq
  rw [List.getElem?_mapIdx] at hq
  cases hx : h[k]? with
  | none => rw [hx] at hq; cases hq
  | some x => rw [hx] at hq; exact ⟨x, rfl, (Option.some.inj hq).symm⟩
theorem mm_wd_set {cA : Nat → ClassId} {ad : Nat → Nat} {h : MH} {k : Nat} {x : MC} : (mm_wd cA ad h).set k (ad k, mm_tE cA ad x) = mm_wd cA ad (h.set k x) := by
  apply List.ext_getElem?
  intro j
  unfold mm_wd
  rw [List.getElem?_set, List.getElem?_mapIdx, List.getElem?_mapIdx, List.getElem?_set, List.length_mapIdx]
  by_cases e : k = j
  · subst e
    by_cases l : k < h.length
    · simp [l]
    · simp [l]
  · simp [e]
theorem mm_obj_ok {h : MH} {a ci : Nat} {fs : List Value} (hq : mm_obj h a ci = some fs) : h[a]? = some (.inr (ci, fs)) := by
  unfold mm_obj at hq
  split at hq
  · rename_i e
    split at hq
    · rename_i e2
      cases hq
      subst e2
      exact e
    · cases hq
  · cases hq
theorem mm_arr_ok {h : MH} {a t : Nat} {L : List Int32} (hq : mm_arr h a t = some L) : h[a]? = some (.inl (t, L)) := by
  unfold mm_arr at hq
  split at hq
  · rename_i e
    split at hq
    · rename_i e2
      cases hq
      subst e2
      exact e
    · cases hq
  · cases hq
theorem mm_row_ok {h : MH} {a : Nat} {fs : List Value} (hq : mm_row h a = some fs) : ∃ t, 100 ≤ t ∧ h[a]? = some (.inr (t, fs)) := by
  unfold mm_row at hq
  split at hq
  · rename_i t _ e
    split at hq
    · rename_i e2
      cases hq
      exact ⟨t, e2, e⟩
    · cases hq
  · cases hq
theorem mm_ix_ok {i : Int32} {k : Nat} (h : mm_ix i = some k) : ¬ i < 0 ∧ i.toNatClampNeg = k := by
  unfold mm_ix at h
  split at h
  · cases h
  · rename_i e
    cases h
    exact ⟨e, rfl⟩
theorem mm_ra_ok {h : MH} {a t : Nat} {i x : Int32} (hq : mm_ra h a t i = some x) : ∃ L, h[a]? = some (.inl (t, L)) ∧ vp_in i L.length ∧ L.getD i.toNatClampNeg 0 = x := by
  unfold mm_ra at hq
  split at hq
  · rename_i k hk
    obtain ⟨h0, rfl⟩ := mm_ix_ok hk
    split at hq
    · rename_i L hL
      refine ⟨L, mm_arr_ok hL, fun z => ?_, ?_⟩
      · rcases z with z | z
        · exact h0 z
        · have := (List.getElem?_eq_some_iff.mp hq).1
          omega
      · rw [List.getD_eq_getElem?_getD, hq]; rfl
    · cases hq
  · cases hq
theorem mm_wa_ok {h h' : MH} {a t : Nat} {i x : Int32} (hq : mm_wa h a t i x = some h') : ∃ L, h[a]? = some (.inl (t, L)) ∧ vp_in i L.length ∧ h' = h.set a (.inl (t, L.set i.toNatClampNeg x)) := by
  unfold mm_wa at hq
  split at hq
  · rename_i k hk
    obtain ⟨h0, rfl⟩ := mm_ix_ok hk
    split at hq
    · rename_i L hL
      split at hq
      · rename_i hl
        cases hq
        refine ⟨L, mm_arr_ok hL, fun z => ?_, rfl⟩
        rcases z with z | z
        · exact h0 z
        · omega
      · cases hq
    · cases hq
  · cases hq
theorem mm_rr_ok {h : MH} {a r : Nat} {i : Int32} (hq : mm_rr h a i = some r) : ∃ t fs, 100 ≤ t ∧ h[a]? = some (.inr (t, fs)) ∧ vp_in i fs.length ∧ fs.getD i.toNatClampNeg .null = .ref r := by
  unfold mm_rr at hq
  split at hq
  · rename_i k hk
    obtain ⟨h0, rfl⟩ := mm_ix_ok hk
    split at hq
    · rename_i fs hL
      obtain ⟨t, ht, e⟩ := mm_row_ok hL
      split at hq
      · rename_i r0 hr
        cases hq
        refine ⟨t, fs, ht, e, fun z => ?_, ?_⟩
        · rcases z with z | z
          · exact h0 z
          · have := (List.getElem?_eq_some_iff.mp hr).1
            omega
        · rw [List.getD_eq_getElem?_getD, hr]; rfl
      · cases hq
    · cases hq
  · cases hq
theorem mm_upd_set {L : List Int32} {k : Nat} {x : Int32} (hk : k < L.length) : upd (fun j => L.getD j 0) k x = fun j => (L.set k x).getD j 0 := by
  funext j
  unfold upd
  show (if j = k then x else L.getD j 0) = _
  rw [List.getD_eq_getElem?_getD, List.getD_eq_getElem?_getD, List.getElem?_set]
  by_cases e : j = k
  · subst e
    simp [hk]
  · have e2 : ¬ k = j := fun q => e q.symm
    simp [e, e2]
theorem mm_fit_ok {ty : FieldType} {v : Value} (h : mm_fit ty v = true) : narrow ty v = v ∧ fits ty v = true := by
  unfold mm_fit at h
  split at h
  · exact ⟨rfl, rfl⟩
  · exact ⟨rfl, rfl⟩
  · rename_i x
    rw [Bool.or_eq_true, decide_eq_true_eq, decide_eq_true_eq] at h
    rcases h with rfl | rfl
    · exact ⟨by decide, by decide⟩
    · exact ⟨by decide, by decide⟩
  · exact ⟨rfl, rfl⟩
  · exact ⟨rfl, rfl⟩
  · cases h
theorem mm_nar_b {x : Int32} (h : mm_fit .boolean (.int x) = true) : vp_nar .boolean x = x := by
  have h1 := (mm_fit_ok h).1
  unfold vp_nar
  rw [h1]
/-- a field's row in the tables -/
def mm_FO (cl : List vw_C) (TB NW : List Cond) (own : String) (idx ci k : Nat) (ty : FieldType) (fin : Bool) : Prop := ci < 100 ∧ ∃ (C : String) (T : u_T) (N : Nat) (ty0 : Nat → FieldType), cl[ci]? = some (C, T, N) ∧ k < N ∧ (∀ w ∈ u_ws C T N, w ∈ TB) ∧ (∀ k, k < N → parseFieldDescriptor (T k).2.2.1 = some (ty0 k)) ∧ (∀ a, a < N → ∀ b, b < N → a ≠ b → (T a).2.1 ≠ (T b).2.1) ∧ ty0 k = ty ∧ (T k).2.2.2 = fin ∧ (Cond.fieldLink own idx (T k).1 (T k).2.1 (T k).2.2.1 ∈ TB ∨ ∃ host, Cond.fieldLinkNest own idx (T k).1 (T k).2.1 (T k).2.2.1 host ∈ NW)
/-- the rows' classes -/
def mm_AO (cA : Nat → ClassId) (tys : List (ClassId × FieldType)) : Prop := (∃ t0 : Nat, tys[t0]? = some (cA 0, FieldType.int)) ∧ (∃ t0 : Nat, tys[t0]? = some (cA 1, FieldType.boolean)) ∧ (∃ t0 : Nat, tys[t0]? = some (cA 2, FieldType.byte)) ∧ ∀ t : Nat, 100 ≤ t → ∃ (t0 : Nat) (ty : FieldType), tys[t0]? = some (cA t, ty) ∧ ty.isReference = true
section MM1
variable {p : Program} {l : Launch} {e : Env} {R : Room} {s : State} {m : MethodId} {args : Array Value} {below : List Frame} {meth : Method} {c : Code} {H H0 : Heap} {locs : List Loc} {cells slots : Nat} {Q : State → Prop} {cc : ByteArray} {D : va_G} {cl : List vw_C} {tys : List (ClassId × FieldType)} {A : Nat → Prop} {TB NW : List Cond} {own : String}
theorem mm_ald (hexec : p.tables.exec = Jvm.exec) (hb : c.code = cc) {ws : va_W} {a : Nat} {pc : Nat} {ls : Array Slot} {rest : List Value} (hK : va_K D cl tys s) (hP : va_P D cl ws H) (q0 t0 : Nat) {cA : ClassId} {n : Nat} {f : Nat → Option Nat} (ha : ws[q0]? = some (a, .inl (cA, n, .inr (.inr (.inr (.inr f)))))) {ty : FieldType} (hty : ty.isReference = true) (ht : tys[t0]? = some (cA, ty)) {i : Int32} (hin : vp_in i n) (hdg : decode cc pc = .ok (.aaload, 1))
    (kk : W p l e R s m args below meth c H locs cells slots Q (F0 m (pc + 1) ls (va_rf (f i.toNatClampNeg) :: rest))) : W p l e R s m args below meth c H locs cells slots Q (F0 m pc ls (.int i :: .ref a :: rest)) := by
  have hlt : i.toNatClampNeg < n := Nat.not_le.mp fun q => hin (Or.inr q)
  exact W.aald (v := va_rf (f i.toNatClampNeg)) (ty := ty) hexec hb (hP q0 _ ha) ((hK.2 t0 _ ht).1 n (fun j => va_rf (f j))) hty (fun q => by cases q) (by show ¬ (i < 0 ∨ (arrV _ _ _).slots.size ≤ _); rw [arrV_size]; exact hin) (by show (arrV _ _ _).slots[_]? = _; rw [arrV_read _ _ hlt]) rfl rfl hdg kk
theorem mm_r1_ok {pc pc' : Nat} {st st' : List Value} {h h' : MH} {v : Option Value} (hq : mm_r1 pc st h v = some (pc', st', h')) : ∃ w, v = some w ∧ pc' = pc ∧ st' = w :: st ∧ h' = h := by
  unfold mm_r1 at hq
  split at hq
  · cases hq; exact ⟨_, rfl, rfl, rfl, rfl⟩
  · cases hq
theorem mm_w1_ok {pc pc' : Nat} {st st' : List Value} {h' : MH} {h : Option MH} (hq : mm_w1 pc st h = some (pc', st', h')) : h = some h' ∧ pc' = pc ∧ st' = st := by
  unfold mm_w1 at hq
  split at hq
  · cases hq; exact ⟨rfl, rfl, rfl⟩
  · cases hq
theorem mm_tE_o {cA : Nat → ClassId} {ad : Nat → Nat} {ci : Nat} {fs : List Value} (h : ci < 100) : mm_tE cA ad (.inr (ci, fs)) = .inr (ci, fs.map (mm_tv ad)) := if_pos h
theorem mm_tE_r {cA : Nat → ClassId} {ad : Nat → Nat} {ci : Nat} {fs : List Value} (h : 100 ≤ ci) : mm_tE cA ad (.inr (ci, fs)) = .inl (cA ci, fs.length, .inr (.inr (.inr (.inr (fun j => mm_rf ad (fs.getD j .null)))))) := if_neg (Nat.not_lt.mpr h)
theorem mm_gf_ok {f : Option (Nat × Nat × FieldType × Bool)} {h : MH} {a : Nat} {v : Value} (hq : mm_gf f h a = some v) : ∃ ci k ty fin fs, f = some (ci, k, ty, fin) ∧ h[a]? = some (.inr (ci, fs)) ∧ fs[k]? = some v := by
  unfold mm_gf at hq
  split at hq
  · rename_i ci k ty fin
    split at hq
    · rename_i fs hf
      exact ⟨ci, k, ty, fin, fs, rfl, mm_obj_ok hf, hq⟩
    · cases hq
  · cases hq
theorem mm_pf_ok {f : Option (Nat × Nat × FieldType × Bool)} {h h' : MH} {a : Nat} {v : Value} (hq : mm_pf f h a v = some h') : ∃ ci k ty fs, f = some (ci, k, ty, false) ∧ h[a]? = some (.inr (ci, fs)) ∧ k < fs.length ∧ mm_fit ty v = true ∧ h' = h.set a (.inr (ci, fs.set k v)) := by
  unfold mm_pf at hq
  split at hq
  · rename_i ci k ty
    split at hq
    · rename_i fs hf
      split at hq
      · rename_i hl
        split at hq
        · rename_i hfit
          cases hq
          exact ⟨ci, k, ty, fs, rfl, mm_obj_ok hf, hl, hfit, rfl⟩
        · cases hq
      · cases hq
    · cases hq
  · cases hq
theorem mm_fit_tv {ad : Nat → Nat} {ty : FieldType} {v : Value} (h : mm_fit ty v = true) : mm_fit ty (mm_tv ad v) = true := by
  cases v <;> first | exact h | (cases ty <;> first | rfl | exact h)
set_option maxHeartbeats 4000000 in
theorem mm_s1_ok (hx : p.tables.exec = Jvm.exec) (hb : c.code = cc) {cA : Nat → ClassId} {ad : Nat → Nat} {fld : Nat → Option (Nat × Nat × FieldType × Bool)} (hown : s.vm.findClass own = some m.cls) (hts : ∀ w ∈ TB, w.before args s = true) (hns : ∀ w ∈ NW, w.before args s = true) (hfo : ∀ idx ci k ty fin, fld idx = some (ci, k, ty, fin) → mm_FO cl TB NW own idx ci k ty fin) (hAO : mm_AO cA tys) (hK : va_K D cl tys s)
    {i : Instr} {pc pc' : Nat} {st st' : List Value} {h h' : MH} {sl : Array Slot} (hd : mm_dec cc pc i) (hP : va_P D cl (mm_wd cA ad h) H) (hD : va_D A (mm_wd cA ad h)) (hS : va_S A H0 H locs) (hq : mm_s1 fld i pc st h = some (pc', st', h'))
    (kk : ∀ (H1 : Heap) (locs1 : List Loc), va_P D cl (mm_wd cA ad h') H1 → va_D A (mm_wd cA ad h') → va_S A H0 H1 locs1 → W p l e R s m args below meth c H1 locs1 cells slots Q (F0 m pc' sl (st'.map (mm_tv ad)))) : W p l e R s m args below meth c H locs cells slots Q (F0 m pc sl (st.map (mm_tv ad))) := by
  unfold mm_s1 at hq
  split at hq
  · -- getfield
    obtain ⟨v, hv, rfl, rfl, rfl⟩ := mm_r1_ok hq
    obtain ⟨ci, k, ty, fin, fs, hf, ha, hk⟩ := mm_gf_ok hv
    obtain ⟨h100, C, T, N, ty0, hc, hkN, hin, -, -, -, -, hlink⟩ := hfo _ _ _ _ _ hf
    have he := mm_wd_at (cA := cA) (ad := ad) ha
    rw [mm_tE_o h100] at he
    have hv2 : (fs.map (mm_tv ad))[k]? = some (mm_tv ad v) := by rw [List.getElem?_map, hk]; rfl
    rcases hlink with hlink | ⟨host, hlink⟩
    · exact va_get hx hb hts hin hown hK hP _ he hc k hkN (hts _ hlink) (fun _ h9 => h9) hv2 (mm_d1 hd rfl (by decide)) (kk _ _ hP hD hS)
    · exact va_getN hx hb hts hin hown hK hP _ he hc k hkN (hns _ hlink) (fun _ h9 => h9) hv2 (mm_d1 hd rfl (by decide)) (kk _ _ hP hD hS)
  · -- putfield
    obtain ⟨hw, rfl, rfl⟩ := mm_w1_ok hq
    obtain ⟨ci, k, ty, fs, hf, ha, hkl, hfit, rfl⟩ := mm_pf_ok hw
    obtain ⟨h100, C, T, N, ty0, hc, hkN, hin, hty, hnm, hty1, hfin, hlink⟩ := hfo _ _ _ _ _ hf
    have he := mm_wd_at (cA := cA) (ad := ad) ha
    rw [mm_tE_o h100] at he
    obtain ⟨hn, hfi⟩ := mm_fit_ok (mm_fit_tv (ad := ad) hfit)
    have hset : ∀ (a : Nat) (v : Value), (mm_wd cA ad h).set a (ad a, .inr (ci, (fs.map (mm_tv ad)).set k (mm_tv ad v))) = mm_wd cA ad (h.set a (.inr (ci, fs.set k v))) := by
      intro a v
      rw [← mm_wd_set, mm_tE_o h100, List.map_set]
    rcases hlink with hlink | ⟨host, hlink⟩
    · exact va_put hx hb hts hin ty0 hty hnm hown hK hP hD hS _ he hc k hkN (hts _ hlink) (fun _ h9 => h9) hfin ((hty k hkN).trans (congrArg some hty1)) hn hfi (by rw [List.length_map]; exact hkl) (mm_d1 hd rfl (by decide)) (fun H1 locs1 a b c => kk H1 locs1 (by rw [← hset]; exact a) (by rw [← hset]; exact b) c)
    · exact va_putN hx hb hts hin ty0 hty hnm hown hK hP hD hS _ he hc k hkN (hns _ hlink) (fun _ h9 => h9) hfin ((hty k hkN).trans (congrArg some hty1)) hn hfi (by rw [List.length_map]; exact hkl) (mm_d1 hd rfl (by decide)) (fun H1 locs1 a b c => kk H1 locs1 (by rw [← hset]; exact a) (by rw [← hset]; exact b) c)
  · -- iaload
    obtain ⟨v, hv, rfl, rfl, rfl⟩ := mm_r1_ok hq
    obtain ⟨x, hx2, rfl⟩ := Option.map_eq_some_iff.mp hv
    obtain ⟨L, ha, hin, rfl⟩ := mm_ra_ok hx2
    obtain ⟨t0, ht0⟩ := hAO.1
    exact va_iald hx hb hK hP _ t0 (mm_wd_at ha) ht0 hin (mm_d1 hd rfl (by decide)) (kk _ _ hP hD hS)
  · -- baload
    split at hq
    · obtain ⟨v, hv, rfl, rfl, rfl⟩ := mm_r1_ok hq
      obtain ⟨x, hx2, rfl⟩ := Option.map_eq_some_iff.mp hv
      obtain ⟨L, ha, hin, rfl⟩ := mm_ra_ok hx2
      obtain ⟨t0, ht0⟩ := hAO.2.1
      exact va_zald hx hb hK hP _ t0 (mm_wd_at ha) ht0 hin (mm_d1 hd rfl (by decide)) (kk _ _ hP hD hS)
    · obtain ⟨v, hv, rfl, rfl, rfl⟩ := mm_r1_ok hq
      obtain ⟨x, hx2, rfl⟩ := Option.map_eq_some_iff.mp hv
      obtain ⟨L, ha, hin, rfl⟩ := mm_ra_ok hx2
      obtain ⟨t0, ht0⟩ := hAO.2.2.1
      exact va_bald hx hb hK hP _ t0 (mm_wd_at ha) ht0 hin (mm_d1 hd rfl (by decide)) (kk _ _ hP hD hS)
  · -- aaload
    obtain ⟨v, hv, rfl, rfl, rfl⟩ := mm_r1_ok hq
    obtain ⟨r, hr, rfl⟩ := Option.map_eq_some_iff.mp hv
    obtain ⟨t, fs, ht, ha, hin, hg⟩ := mm_rr_ok hr
    obtain ⟨t0, ty, ht0, hty⟩ := hAO.2.2.2 t ht
    have he := mm_wd_at (cA := cA) (ad := ad) ha
    rw [mm_tE_r ht] at he
    refine mm_ald hx hb hK hP _ t0 he hty ht0 hin (mm_d1 hd rfl (by decide)) ?_
    rw [hg]
    exact kk _ _ hP hD hS
  · -- arraylength
    obtain ⟨v, hv, rfl, rfl, rfl⟩ := mm_r1_ok hq
    obtain ⟨n, hn, rfl⟩ := Option.map_eq_some_iff.mp hv
    unfold mm_al at hn
    split at hn
    · rename_i t L ha
      split at hn
      · rename_i ht
        cases hn
        have hh : ∃ (t0 : Nat) (ty : FieldType), tys[t0]? = some (cA t, ty) := by
          match t, ht with
          | 0, _ => obtain ⟨t0, h0⟩ := hAO.1; exact ⟨t0, _, h0⟩
          | 1, _ => obtain ⟨t0, h0⟩ := hAO.2.1; exact ⟨t0, _, h0⟩
          | 2, _ => obtain ⟨t0, h0⟩ := hAO.2.2.1; exact ⟨t0, _, h0⟩
        obtain ⟨t0, ty, h0⟩ := hh
        exact va_alen hx hb hK hP _ t0 (mm_wd_at ha) h0 rfl (mm_d1 hd rfl (by decide)) (kk _ _ hP hD hS)
      · cases hn
    · rename_i t fs ha
      split at hn
      · rename_i ht
        cases hn
        obtain ⟨t0, ty, ht0, hty⟩ := hAO.2.2.2 t ht
        have he := mm_wd_at (cA := cA) (ad := ad) ha
        rw [mm_tE_r ht] at he
        exact va_alen hx hb hK hP _ t0 he ht0 rfl (mm_d1 hd rfl (by decide)) (kk _ _ hP hD hS)
      · cases hn
    · cases hn
  · -- iastore
    obtain ⟨hw, rfl, rfl⟩ := mm_w1_ok hq
    obtain ⟨L, ha, hin, rfl⟩ := mm_wa_ok hw
    obtain ⟨t0, ht0⟩ := hAO.1
    have hlt : ∀ {i : Int32}, vp_in i L.length → i.toNatClampNeg < L.length := fun hi => Nat.not_le.mp fun q => hi (Or.inr q)
    refine va_iast hx hb hK hP hD hS _ t0 (mm_wd_at ha) ht0 hin (mm_d1 hd rfl (by decide)) (fun H1 locs1 a b c => kk H1 locs1 ?_ ?_ c)
    · rw [mm_upd_set (hlt hin)] at a
      rw [← mm_wd_set]
      show va_P D cl (List.set _ _ (_, .inl (cA 0, (L.set _ _).length, _))) H1
      rw [List.length_set]
      exact a
    · rw [mm_upd_set (hlt hin)] at b
      rw [← mm_wd_set]
      show va_D A (List.set _ _ (_, .inl (cA 0, (L.set _ _).length, _)))
      rw [List.length_set]
      exact b
  · -- bastore
    split at hq
    · split at hq
      · rename_i hfit
        obtain ⟨hw, rfl, rfl⟩ := mm_w1_ok hq
        obtain ⟨L, ha, hin, rfl⟩ := mm_wa_ok hw
        obtain ⟨t0, ht0⟩ := hAO.2.1
        have hlt : ∀ {i : Int32}, vp_in i L.length → i.toNatClampNeg < L.length := fun hi => Nat.not_le.mp fun q => hi (Or.inr q)
        refine va_zast hx hb hK hP hD hS _ t0 (mm_wd_at ha) ht0 hin (mm_d1 hd rfl (by decide)) (fun H1 locs1 a b c => kk H1 locs1 ?_ ?_ c)
        · rw [mm_nar_b hfit, mm_upd_set (hlt hin)] at a
          rw [← mm_wd_set]
          show va_P D cl (List.set _ _ (_, .inl (cA 1, (L.set _ _).length, _))) H1
          rw [List.length_set]
          exact a
        · rw [mm_nar_b hfit, mm_upd_set (hlt hin)] at b
          rw [← mm_wd_set]
          show va_D A (List.set _ _ (_, .inl (cA 1, (L.set _ _).length, _)))
          rw [List.length_set]
          exact b
      · cases hq
    · obtain ⟨hw, rfl, rfl⟩ := mm_w1_ok hq
      obtain ⟨L, ha, hin, rfl⟩ := mm_wa_ok hw
      obtain ⟨t0, ht0⟩ := hAO.2.2.1
      have hlt : ∀ {i : Int32}, vp_in i L.length → i.toNatClampNeg < L.length := fun hi => Nat.not_le.mp fun q => hi (Or.inr q)
      refine va_bast hx hb hK hP hD hS _ t0 (mm_wd_at ha) ht0 hin (mm_d1 hd rfl (by decide)) (fun H1 locs1 a b c => kk H1 locs1 ?_ ?_ c)
      · rw [vp_nar_byte, mm_upd_set (hlt hin)] at a
        rw [← mm_wd_set]
        show va_P D cl (List.set _ _ (_, .inl (cA 2, (L.set _ _).length, _))) H1
        rw [List.length_set]
        exact a
      · rw [vp_nar_byte, mm_upd_set (hlt hin)] at b
        rw [← mm_wd_set]
        show va_D A (List.set _ _ (_, .inl (cA 2, (L.set _ _).length, _)))
        rw [List.length_set]
        exact b
  · cases hq
end MM1

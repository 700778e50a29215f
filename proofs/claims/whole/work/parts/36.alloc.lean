/-! Steps that make cells -/
def mm_vv (n : Nat) (v : Value) : Bool := match v with
  | .ref k => Nat.blt k n || Nat.ble 1000000 k
  | _ => true
def mm_vO (n : Nat) (o : Option Value) : Bool := match o with
  | some v => mm_vv n v
  | none => true
def mm_vC (n : Nat) (x : MC) : Bool := match x with
  | .inl _ => true
  | .inr (_, fs) => fs.all (mm_vv n)
def mm_vS (n : Nat) (ls : ML) (st : List Value) (h : MH) : Bool := ls.all (mm_vO n) && st.all (mm_vv n) && h.all (mm_vC n)
/-- two namings that agree on what is named already -/
def mm_ag (n : Nat) (ad ad1 : Nat → Nat) : Prop := (∀ k, k < n → ad1 k = ad k) ∧ ∀ k, 1000000 ≤ k → ad1 k = ad k
theorem mm_ag_tv {n : Nat} {ad ad1 : Nat → Nat} (h : mm_ag n ad ad1) {v : Value} (hv : mm_vv n v = true) : mm_tv ad1 v = mm_tv ad v := by
  cases v with
  | ref k =>
    have hv2 : (Nat.blt k n || Nat.ble 1000000 k) = true := hv
    rw [Bool.or_eq_true] at hv2
    show Value.ref (ad1 k) = Value.ref (ad k)
    rcases hv2 with q | q
    · rw [h.1 k (Nat.le_of_ble_eq_true q)]
    · rw [h.2 k (Nat.le_of_ble_eq_true q)]
  | _ => rfl
theorem mm_ag_L {n : Nat} {ad ad1 : Nat → Nat} (h : mm_ag n ad ad1) {vs : List Value} (hv : vs.all (mm_vv n) = true) : vs.map (mm_tv ad1) = vs.map (mm_tv ad) := List.map_congr_left (fun v hm => mm_ag_tv h (List.all_eq_true.mp hv v hm))
theorem mm_ag_C {cA : Nat → ClassId} {n : Nat} {ad ad1 : Nat → Nat} (h : mm_ag n ad ad1) {x : MC} (hv : mm_vC n x = true) : mm_tE cA ad1 x = mm_tE cA ad x := by
  cases x with
  | inl x => rfl
  | inr x => exact mm_tE_congr (mm_ag_L h hv)
theorem mm_ag_as {n : Nat} {ad ad1 : Nat → Nat} (h : mm_ag n ad ad1) {ls : ML} (hv : ls.all (mm_vO n) = true) {sl : Array Slot} {m : Nat} (hl : lv_has sl m (mm_as ad ls)) : lv_has sl m (mm_as ad1 ls) := by
  refine ⟨hl.1, hl.2.1, fun q hq => ?_⟩
  obtain ⟨v, h1, h2⟩ := mm_as_mem.mp hq
  have h3 := List.all_eq_true.mp hv _ (List.mem_of_getElem? h1)
  refine hl.2.2 q (mm_as_mem.mpr ⟨v, h1, ?_⟩)
  rw [h2, mm_ag_tv h h3]
/-- the world of more cells -/
theorem mm_wd_ext {cA : Nat → ClassId} {ad ad1 : Nat → Nat} {h g : MH} (ha : mm_ag h.length ad ad1) (hv : h.all (mm_vC h.length) = true) : mm_wd cA ad1 (h ++ g) = mm_wd cA ad h ++ g.mapIdx (fun j x => (ad1 (h.length + j), mm_tE cA ad1 x)) := by
  apply List.ext_getElem?
  intro k
  unfold mm_wd
  rw [List.getElem?_mapIdx]
  by_cases hk : k < h.length
  · rw [List.getElem?_append_left hk, List.getElem?_append_left (by rw [List.length_mapIdx]; exact hk), List.getElem?_mapIdx, List.getElem?_eq_getElem hk]
    show some (ad1 k, mm_tE cA ad1 h[k]) = some (ad k, mm_tE cA ad h[k])
    rw [ha.1 k hk, mm_ag_C ha (List.all_eq_true.mp hv _ (List.getElem_mem hk))]
  · rw [List.getElem?_append_right (by omega), List.getElem?_append_right (by rw [List.length_mapIdx]; omega), List.getElem?_mapIdx, List.length_mapIdx]
    have e : h.length + (k - h.length) = k := by omega
    rw [e]
theorem mm_RA_one {U : State} {a b : ClassId} {ty : FieldType} (h1 : va_RA U a ty) (h2 : va_RA U b ty) : a = b := by
  cases ty with
  | object C =>
    obtain ⟨_, _, _, _, _, h3⟩ := h1
    obtain ⟨_, _, _, _, _, h4⟩ := h2
    exact Option.some.inj (h3.symm.trans h4)
  | _ => exact Option.some.inj (Eq.trans (Eq.symm h1) h2)
theorem mm_RA_K {D : va_G} {cl : List vw_C} {tys : List (ClassId × FieldType)} {U : State} {a b : ClassId} {ty : FieldType} {t0 : Nat} (hK : va_K D cl (tys ++ [(a, ty)]) U) (ht : tys[t0]? = some (b, ty)) : a = b := by
  have h1 := (hK.2 tys.length (a, ty) (by rw [List.getElem?_append_right (Nat.le_refl _), Nat.sub_self]; rfl)).2
  have hl := (List.getElem?_eq_some_iff.mp ht).1
  have h2 := (hK.2 t0 (b, ty) (by rw [List.getElem?_append_left hl]; exact ht)).2
  exact mm_RA_one h1 h2
/-- the new cells of an instruction -/
def mm_new (nwc : Nat → Option (Nat × List Value)) (anc : Nat → Option Nat) (mnc : Nat → Bool) (n : Nat) (i : Instr) (pc : Nat) (st : List Value) : Option (Nat × List Value × MH) := match i, st with
  | .new idx, st => match nwc idx with
    | some (ci, fs) => some (pc + 3, .ref n :: st, [.inr (ci, fs)])
    | none => none
  | .newarray .int, .int x :: st => match mm_ix x with
    | some k => if k ≤ 10000 then some (pc + 2, .ref n :: st, [.inl (0, List.replicate k 0)]) else none
    | none => none
  | .newarray .boolean, .int x :: st => match mm_ix x with
    | some k => if k ≤ 10000 then some (pc + 2, .ref n :: st, [.inl (1, List.replicate k 0)]) else none
    | none => none
  | .newarray .byte, .int x :: st => match mm_ix x with
    | some k => if k ≤ 10000 then some (pc + 2, .ref n :: st, [.inl (2, List.replicate k 0)]) else none
    | none => none
  | .anewarray idx, .int x :: st => match anc idx, mm_ix x with
    | some ci, some k => if k ≤ 10000 then some (pc + 3, .ref n :: st, [.inr (100 + ci, List.replicate k .null)]) else none
    | _, _ => none
  | .multianewarray idx 2, .int x :: .int y :: st => match mnc idx, mm_ix x, mm_ix y with
    | true, some k, some m => if k ≤ 10000 ∧ m ≤ 10000 then some (pc + 4, .ref n :: st, .inr (200, (List.range m).map (fun j => .ref (n + 1 + j))) :: List.replicate m (.inl (0, List.replicate k 0))) else none
    | _, _, _ => none
  | _, _ => none
def mm_sz (h : MH) : Nat := match h with
  | [] => 0
  | .inl x :: h => x.2.length + mm_sz h
  | .inr x :: h => x.2.length + mm_sz h
/-- the tables' rows of a class that is made -/
def mm_NO (cl : List vw_C) (TB : List Cond) (own : String) (idx ci : Nat) (fs : List Value) : Prop := ci < 100 ∧ ∃ (C : String) (T : u_T) (N : Nat) (ty0 : Nat → FieldType), cl[ci]? = some (C, T, N) ∧ (∀ w ∈ u_ws C T N, w ∈ TB) ∧ (∀ k, k < N → parseFieldDescriptor (T k).2.2.1 = some (ty0 k)) ∧ Cond.classLink own idx C ∈ TB ∧ Cond.instantiable C N ∈ TB ∧ Cond.initialized C ∈ TB ∧ (∀ j, j < N → defaultValue (ty0 j) = vp_V fs j) ∧ fs.all (mm_vv 0) = true ∧ fs.length = N ∧ (∀ ad, fs.map (mm_tv ad) = fs)
def mm_AN (cl : List vw_C) (tys : List (ClassId × FieldType)) (cA : Nat → ClassId) (TB : List Cond) (s00 : State) (own : String) (idx ci : Nat) : Prop := ∃ (C : String) (T : u_T) (N : Nat) (t0 : Nat), cl[ci]? = some (C, T, N) ∧ Cond.classLink own idx C ∈ TB ∧ va_AO C s00 ∧ tys[t0]? = some (cA (100 + ci), .object C)
def mm_MN (tys : List (ClassId × FieldType)) (cA : Nat → ClassId) (TB : List Cond) (s00 : State) (own : String) (idx : Nat) : Prop := ∃ t0 : Nat, Cond.classLink own idx "[[I" ∈ TB ∧ va_AOA .int s00 ∧ tys[t0]? = some (cA 200, .array .int)

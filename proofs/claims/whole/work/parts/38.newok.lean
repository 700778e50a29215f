/-- the names of rows of rows -/
def mm_adM (ad : Nat → Nat) (n m q : Nat) (r : Nat → Nat) : Nat → Nat := fun k => if k = n then q else if n < k ∧ k ≤ n + m then r (k - n - 1) else ad k
theorem mm_adM_ag {ad : Nat → Nat} {n m q : Nat} {r : Nat → Nat} (h : n + m < 1000000) : mm_ag n ad (mm_adM ad n m q r) := ⟨fun k hk => by unfold mm_adM; rw [if_neg (by omega), if_neg (by omega)], fun k hk => by unfold mm_adM; rw [if_neg (by omega), if_neg (by omega)]⟩
theorem mm_adM_0 {ad : Nat → Nat} {n m q : Nat} {r : Nat → Nat} : mm_adM ad n m q r n = q := if_pos rfl
theorem mm_adM_s {ad : Nat → Nat} {n m q j : Nat} {r : Nat → Nat} (h : j < m) : mm_adM ad n m q r (n + 1 + j) = r j := by
  unfold mm_adM
  rw [if_neg (by omega), if_pos (by omega)]
  congr 1
  omega
theorem mm_mul_wd {cA : Nat → ClassId} {ad : Nat → Nat} {h : MH} {m k q : Nat} {r : Nat → Nat} {f : Nat → va_E} (hl : h.length + m < 1000000) (hv : h.all (mm_vC h.length) = true) :
    mm_wd cA (mm_adM ad h.length m q r) (h ++ (.inr (200, (List.range m).map (fun j => Value.ref (h.length + 1 + j))) :: List.replicate m (.inl (0, List.replicate k 0)))) = (mm_wd cA ad h ++ [(q, .inl (cA 200, m, .inr (.inr (.inr (.inr (fun i => if i < m then some (r i) else none))))))]) ++ va_pl ([] ++ (List.range m).map r) (vr_up f ((List.range m).map r) (.inl (cA 0, k, .inl (fun _ => 0)))) := by
  rw [mm_wd_ext (mm_adM_ag hl) hv, List.append_assoc]
  congr 1
  have e1 : va_pl ([] ++ (List.range m).map r) (vr_up f ((List.range m).map r) (.inl (cA 0, k, .inl (fun _ => 0)))) = (List.range m).map (fun i => (r i, .inl (cA 0, k, .inl (fun _ => 0)))) := by
    unfold va_pl
    rw [List.nil_append, List.map_map]
    apply List.map_congr_left
    intro i hi
    show (r i, vr_up f _ _ (r i)) = _
    rw [vr_up_in (List.mem_map.mpr ⟨i, hi, rfl⟩)]
  rw [e1]
  apply List.ext_getElem?
  intro j
  rw [List.getElem?_mapIdx]
  cases j with
  | zero =>
    show some (mm_adM ad h.length m q r (h.length + 0), mm_tE cA _ _) = some _
    rw [Nat.add_zero, mm_adM_0, mm_tE_r (by decide), List.length_map, List.length_range]
    have e2 : (fun j => mm_rf (mm_adM ad h.length m q r) (((List.range m).map (fun j => Value.ref (h.length + 1 + j))).getD j .null)) = fun i => if i < m then some (r i) else none := by
      funext j
      rw [List.getD_eq_getElem?_getD, List.getElem?_map]
      by_cases hj : j < m
      · rw [List.getElem?_range hj, if_pos hj]
        show some (mm_adM ad h.length m q r (h.length + 1 + j)) = _
        rw [mm_adM_s hj]
      · rw [List.getElem?_eq_none (by rw [List.length_range]; omega), if_neg hj]
        rfl
    rw [e2]
  | succ j =>
    show Option.map _ ((List.replicate m (Sum.inl (0, List.replicate k (0 : Int32))) : MH)[j]?) = ((List.range m).map (fun i => (r i, Sum.inl (cA 0, k, Sum.inl (fun _ => 0)))))[j]?
    rw [List.getElem?_replicate, List.getElem?_map]
    by_cases hj : j < m
    · rw [if_pos hj, List.getElem?_range hj]
      show some (mm_adM ad h.length m q r (h.length + (j + 1)), mm_tE cA _ _) = some _
      rw [show h.length + (j + 1) = h.length + 1 + j by omega, mm_adM_s hj, mm_tE_new]
    · rw [if_neg hj, List.getElem?_eq_none (by rw [List.length_range]; omega)]
      rfl
theorem mm_sz_rep {m k t : Nat} : mm_sz (List.replicate m (.inl (t, List.replicate k 0))) = m * k := by
  induction m with
  | zero => exact (Nat.zero_mul k).symm
  | succ m ih =>
    show (List.replicate k (0 : Int32)).length + mm_sz (List.replicate m (.inl (t, List.replicate k 0))) = _
    rw [ih, List.length_replicate, Nat.succ_mul, Nat.add_comm]
section MMB
variable {p : Program} {l : Launch} {e : Env} {R : Room} {s : State} {m : MethodId} {args : Array Value} {below : List Frame} {meth : Method} {c : Code} {H H0 : Heap} {locs : List Loc} {cells slots : Nat} {Q : State → Prop} {cc : ByteArray} {D : va_G} {cl : List vw_C} {tys : List (ClassId × FieldType)} {A : Nat → Prop} {TB : List Cond} {own : String} {s00 : State} {cA : Nat → ClassId}
set_option maxHeartbeats 4000000 in
theorem mm_new_ok (hx : p.tables.exec = Jvm.exec) (hb : c.code = cc) {nwc : Nat → Option (Nat × List Value)} {anc : Nat → Option Nat} {mnc : Nat → Bool} (hown : s.vm.findClass own = some m.cls) (hts : ∀ w ∈ TB, w.before args s = true) (hK : va_K D cl tys s) (hal : s00.vm.Alike s.vm) (hAO : mm_AO cA tys) (hAC : Cond.arrayClass .int ∈ TB ∧ Cond.arrayClass .boolean ∈ TB ∧ Cond.arrayClass .byte ∈ TB)
    (hNO : ∀ idx ci fs, nwc idx = some (ci, fs) → mm_NO cl TB own idx ci fs) (hAN : ∀ idx ci, anc idx = some ci → mm_AN cl tys cA TB s00 own idx ci) (hMN : ∀ idx, mnc idx = true → mm_MN tys cA TB s00 own idx)
    {ad : Nat → Nat} {i : Instr} {pc pc' : Nat} {st st' : List Value} {h g : MH} {sl : Array Slot} (hd : mm_dec cc pc i) (hP : va_P D cl (mm_wd cA ad h) H) (hD : va_D A (mm_wd cA ad h)) (hS : va_S A H0 H locs) (hA : ∀ q, H0.size ≤ q → A q) (hq : mm_new nwc anc mnc h.length i pc st = some (pc', st', g)) (hl : h.length + g.length < 1000000) (hv : h.all (mm_vC h.length) = true) (hvs : st.all (mm_vv h.length) = true) (hcells : cells + g.length ≤ R.cells) (hslots : slots + mm_sz g ≤ R.slots)
    (kk : ∀ (ad1 : Nat → Nat) (H1 : Heap), mm_ag h.length ad ad1 → va_P D cl (mm_wd cA ad1 (h ++ g)) H1 → va_D A (mm_wd cA ad1 (h ++ g)) → va_S A H0 H1 locs → W p l e R s m args below meth c H1 locs (cells + g.length) (slots + mm_sz g) Q (F0 m pc' sl (st'.map (mm_tv ad1)))) : W p l e R s m args below meth c H locs cells slots Q (F0 m pc sl (st.map (mm_tv ad))) := by
  have hone : ∀ {x : MC}, g = [x] → h.length < 1000000 := fun e => by rw [e] at hl; simp at hl; omega
  unfold mm_new at hq
  split at hq
  · -- new
    split at hq
    · rename_i ci fs hnw
      cases hq
      obtain ⟨h100, C, T, N, ty0, hc, hin, hty, hcl, hins, hini, hdf, hvf, hfl, htv⟩ := hNO _ _ _ hnw
      have hl1 := hone rfl
      refine va_new (fs := fs) hx hb hts hin ty0 hty hown (hts _ hcl) (hts _ hins) (hts _ hini) hK hP hD hS hA hc hdf hcells (by have : slots + (fs.length + 0) ≤ R.slots := hslots; omega) (mm_d1 hd rfl (by decide)) (fun q H1 hP1 hD1 hS1 => ?_)
      have hw := mm_push (cA := cA) (ad := ad) (h := h) (x := .inr (ci, fs)) (q := q) (H1 := H1) hl1 hv (by rw [mm_tE_o h100, htv])
      have := kk (mm_ad1 ad h.length q) H1 (mm_ad1_ag hl1) (by rw [hw]; exact hP1) (by rw [hw]; exact hD1) hS1
      rw [List.map_cons, mm_ag_L (mm_ad1_ag hl1) hvs] at this
      have e : mm_tv (mm_ad1 ad h.length q) (.ref h.length) = .ref q := congrArg Value.ref mm_ad1_at
      have e2 : mm_sz [.inr (ci, fs)] = N := by show fs.length + 0 = N; omega
      rw [e, e2] at this
      exact this
    · cases hq
  · split at hq
    · rename_i k hk
      split at hq
      · rename_i hk1
        cases hq
        obtain ⟨t0, ht⟩ := hAO.1
        rw [List.all_cons, Bool.and_eq_true] at hvs
        have e2 : ∀ t, mm_sz [.inl (t, List.replicate k 0)] = k := fun t => by show (List.replicate k (0 : Int32)).length + 0 = k; rw [List.length_replicate]; rfl
        exact mm_newa (atype := .int) hx hb rfl (hts _ hAC.1) hK hP hD hS hA ht rfl (by decide) hk hk1 (hone rfl) hv hvs.2 hcells (by rw [e2] at hslots; exact hslots) (mm_d1 hd rfl (by decide)) (fun ad1 H1 a b c d => by have := kk ad1 H1 a b c d; rw [e2] at this; exact this)
      · cases hq
    · cases hq
  · split at hq
    · rename_i k hk
      split at hq
      · rename_i hk1
        cases hq
        obtain ⟨t0, ht⟩ := hAO.2.1
        rw [List.all_cons, Bool.and_eq_true] at hvs
        have e2 : ∀ t, mm_sz [.inl (t, List.replicate k 0)] = k := fun t => by show (List.replicate k (0 : Int32)).length + 0 = k; rw [List.length_replicate]; rfl
        exact mm_newa (atype := .boolean) hx hb rfl (hts _ hAC.2.1) hK hP hD hS hA ht rfl (by decide) hk hk1 (hone rfl) hv hvs.2 hcells (by rw [e2] at hslots; exact hslots) (mm_d1 hd rfl (by decide)) (fun ad1 H1 a b c d => by have := kk ad1 H1 a b c d; rw [e2] at this; exact this)
      · cases hq
    · cases hq
  · split at hq
    · rename_i k hk
      split at hq
      · rename_i hk1
        cases hq
        obtain ⟨t0, ht⟩ := hAO.2.2.1
        rw [List.all_cons, Bool.and_eq_true] at hvs
        have e2 : ∀ t, mm_sz [.inl (t, List.replicate k 0)] = k := fun t => by show (List.replicate k (0 : Int32)).length + 0 = k; rw [List.length_replicate]; rfl
        exact mm_newa (atype := .byte) hx hb rfl (hts _ hAC.2.2) hK hP hD hS hA ht rfl (by decide) hk hk1 (hone rfl) hv hvs.2 hcells (by rw [e2] at hslots; exact hslots) (mm_d1 hd rfl (by decide)) (fun ad1 H1 a b c d => by have := kk ad1 H1 a b c d; rw [e2] at this; exact this)
      · cases hq
    · cases hq
  · -- anewarray
    rename_i idx0 x0 st0
    split at hq
    · rename_i ci k hci hk
      split at hq
      · rename_i hk1
        cases hq
        obtain ⟨h0, rfl⟩ := mm_ix_ok hk
        obtain ⟨C, T, N, t0, hc, hcl, hov, ht⟩ := hAN _ _ hci
        rw [List.all_cons, Bool.and_eq_true] at hvs
        have hl1 := hone rfl
        have e2 : ∀ (n t : Nat), mm_sz [.inr (t, List.replicate n Value.null)] = n := fun n t => by show (List.replicate n Value.null).length + 0 = n; rw [List.length_replicate]; rfl
        rw [e2] at hslots
        refine va_newq hx hb hown (hts _ hcl) (hov.moved hal) hK hP hD hS hA h0 rfl (by omega) hcells hslots (mm_d1 hd rfl (by decide)) (fun q cA' H1 hK1 hP1 hD1 hS1 => ?_)
        have hcc := mm_RA_K hK1 ht
        subst hcc
        have hw := mm_push (cA := cA) (ad := ad) (h := h) (x := .inr (100 + ci, List.replicate x0.toNatClampNeg .null)) (q := q) (H1 := H1) hl1 hv (mm_tE_newq (cA := cA) (ad := mm_ad1 ad h.length q) (t := 100 + ci) (k := x0.toNatClampNeg) (by omega))
        have := kk (mm_ad1 ad h.length q) H1 (mm_ad1_ag hl1) (by rw [hw]; exact hP1) (by rw [hw]; exact hD1) hS1
        rw [List.map_cons, mm_ag_L (mm_ad1_ag hl1) hvs.2, e2] at this
        have e : mm_tv (mm_ad1 ad h.length q) (.ref h.length) = .ref q := congrArg Value.ref mm_ad1_at
        rw [e] at this
        exact this
      · cases hq
    · cases hq
  · -- rows of rows
    rename_i idx0 x y st0
    split at hq
    · rename_i k m0 hmn hk hm
      split at hq
      · rename_i hk1
        cases hq
        obtain ⟨h0, rfl⟩ := mm_ix_ok hk
        obtain ⟨h2, rfl⟩ := mm_ix_ok hm
        obtain ⟨t0, hcl, hov, ht⟩ := hMN _ hmn
        obtain ⟨t1, ht1⟩ := hAO.1
        have hcy : s.vm.findClass (FieldType.array .int).toString = some (cA 0) := (hK.2 t1 _ ht1).2
        rw [List.all_cons, Bool.and_eq_true, List.all_cons, Bool.and_eq_true] at hvs
        have hgl : (Sum.inr (200, (List.range y.toNatClampNeg).map (fun j => Value.ref (h.length + 1 + j))) :: List.replicate y.toNatClampNeg (Sum.inl (0, List.replicate x.toNatClampNeg 0)) : MH).length = 1 + y.toNatClampNeg := by rw [List.length_cons, List.length_replicate]; omega
        have hgs : mm_sz (Sum.inr (200, (List.range y.toNatClampNeg).map (fun j => Value.ref (h.length + 1 + j))) :: List.replicate y.toNatClampNeg (Sum.inl (0, List.replicate x.toNatClampNeg 0)) : MH) = y.toNatClampNeg + y.toNatClampNeg * x.toNatClampNeg := by
          show ((List.range y.toNatClampNeg).map _).length + mm_sz _ = _
          rw [List.length_map, List.length_range, mm_sz_rep]
        rw [hgl] at hl hcells
        rw [hgs] at hslots
        refine va_mna (X := mm_wd cA ad h) (L := []) (f := fun _ => .inr (0, [])) (ty := .int) (z := (x.toNatClampNeg, .inl (fun _ => 0))) hx hb hown (hts _ hcl) (hov.moved hal) (hts _ hAC.1) hcy hK (by rw [show va_pl [] _ = [] from rfl, List.append_nil]; exact hP) (by rw [show va_pl [] _ = [] from rfl, List.append_nil]; exact hD) hS hA h2 h0 rfl rfl (by omega) (Nat.le_trans (Nat.mul_le_mul hk1.1 (show componentBytes .int ≤ 8 by decide)) (by decide)) (by omega) rfl rfl hcells hslots (fun c => arrV_new c _ _) (mm_d1 hd rfl (by decide)) (fun q r cO H1 hinj hnot hK1 hP1 hD1 hS1 => ?_)
        have hcc := mm_RA_K hK1 ht
        subst hcc
        have hlm : h.length + y.toNatClampNeg < 1000000 := by omega
        have hw := mm_mul_wd (cA := cA) (ad := ad) (h := h) (m := y.toNatClampNeg) (k := x.toNatClampNeg) (q := q) (r := r) (f := fun _ => .inr (0, [])) hlm hv
        have := kk (mm_adM ad h.length y.toNatClampNeg q r) H1 (mm_adM_ag hlm) (by rw [hw]; exact hP1) (by rw [hw]; exact hD1) hS1
        rw [List.map_cons, mm_ag_L (mm_adM_ag hlm) hvs.2.2, hgl, hgs] at this
        have e : mm_tv (mm_adM ad h.length y.toNatClampNeg q r) (.ref h.length) = .ref q := congrArg Value.ref mm_adM_0
        rw [e, ← Nat.add_assoc, ← Nat.add_assoc] at this
        exact this
      · cases hq
    · cases hq
  · cases hq
end MMB

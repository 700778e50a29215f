/-! Views: a part of the cells under other names is the same world -/
/-- the callee's names -/
def mm_adV (ad : Nat → Nat) (V : List Nat) (j : Nat) : Nat := match V[j]? with
  | some k => ad k
  | none => ad j
theorem mm_adV_at {ad : Nat → Nat} {V : List Nat} {j k : Nat} (h : V[j]? = some k) : mm_adV ad V j = ad k := by
  unfold mm_adV
  rw [h]
theorem mm_adV_ext {ad exA : Nat → Nat} {V : List Nat} (hV : mm_vok V = true) (hex : ∀ k, 1000000 ≤ k → ad k = exA k) : ∀ k, 1000000 ≤ k → mm_adV ad V k = exA k := by
  intro k hk
  unfold mm_vok at hV
  rw [Bool.and_eq_true] at hV
  have hl := Nat.le_of_ble_eq_true hV.2
  unfold mm_adV
  rw [List.getElem?_eq_none (by omega)]
  exact hex k hk
theorem mm_idx_at {k : Nat} : ∀ (V : List Nat) (j0 j : Nat), mm_idx k V j0 = some j → ∃ i, j = j0 + i ∧ V[i]? = some k
  | [], j0, j, h => by cases h
  | v :: V, j0, j, h => by
    unfold mm_idx at h
    split at h
    · rename_i e
      cases h
      exact ⟨0, rfl, by rw [e]; rfl⟩
    · obtain ⟨i, h1, h2⟩ := mm_idx_at V (j0 + 1) j h
      exact ⟨i + 1, by omega, h2⟩
theorem mm_rnV_ok {ad : Nat → Nat} {V : List Nat} {v w : Value} (h : mm_rnV V v = some w) : mm_tv (mm_adV ad V) w = mm_tv ad v := by
  unfold mm_rnV at h
  split at h
  · rename_i k
    split at h
    · rename_i j hj
      cases h
      obtain ⟨i, h1, h2⟩ := mm_idx_at V 0 j hj
      have : j = i := by omega
      subst this
      show Value.ref (mm_adV ad V j) = Value.ref (ad k)
      rw [mm_adV_at h2]
    · cases h
  · rename_i hn
    cases h
    cases v <;> first | rfl | exact absurd rfl (hn _)
theorem mm_bkV_ok {ad : Nat → Nat} {V : List Nat} {v w : Value} (h : mm_bkV V v = some w) : mm_tv ad w = mm_tv (mm_adV ad V) v := by
  unfold mm_bkV at h
  split at h
  · rename_i j
    split at h
    · rename_i k hk
      cases h
      show Value.ref (ad k) = Value.ref (mm_adV ad V j)
      rw [mm_adV_at hk]
    · cases h
  · rename_i hn
    cases h
    cases v <;> first | rfl | exact absurd rfl (hn _)
theorem mm_rnL_ok {ad : Nat → Nat} {V : List Nat} : ∀ (vs ws : List Value), mm_rnL V vs = some ws → ws.map (mm_tv (mm_adV ad V)) = vs.map (mm_tv ad)
  | [], ws, h => by cases h; rfl
  | v :: vs, ws, h => by
    unfold mm_rnL at h
    split at h
    · rename_i w hw
      split at h
      · rename_i ws' hws
        cases h
        rw [List.map_cons, List.map_cons, mm_rnV_ok hw, mm_rnL_ok vs ws' hws]
      · cases h
    · cases h
theorem mm_bkL_ok {ad : Nat → Nat} {V : List Nat} : ∀ (vs ws : List Value), mm_bkL V vs = some ws → ws.map (mm_tv ad) = vs.map (mm_tv (mm_adV ad V))
  | [], ws, h => by cases h; rfl
  | v :: vs, ws, h => by
    unfold mm_bkL at h
    split at h
    · rename_i w hw
      split at h
      · rename_i ws' hws
        cases h
        rw [List.map_cons, List.map_cons, mm_bkV_ok hw, mm_bkL_ok vs ws' hws]
      · cases h
    · cases h
theorem mm_rf_tv {ad ad' : Nat → Nat} {v w : Value} (h : mm_tv ad v = mm_tv ad' w) : mm_rf ad v = mm_rf ad' w := by
  cases v <;> cases w <;> first | rfl | (cases h; done) | exact congrArg some (Value.ref.inj h)
theorem mm_tE_congr {cA : Nat → ClassId} {ad ad' : Nat → Nat} {t : Nat} {fs gs : List Value} (h : fs.map (mm_tv ad) = gs.map (mm_tv ad')) : mm_tE cA ad (.inr (t, fs)) = mm_tE cA ad' (.inr (t, gs)) := by
  by_cases ht : t < 100
  · rw [mm_tE_o ht, mm_tE_o ht, h]
  · have ht' : 100 ≤ t := by omega
    rw [mm_tE_r ht', mm_tE_r ht']
    have hl : fs.length = gs.length := by
      have := congrArg List.length h
      rwa [List.length_map, List.length_map] at this
    rw [hl]
    have hf : (fun j => mm_rf ad (fs.getD j .null)) = (fun j => mm_rf ad' (gs.getD j .null)) := by
      funext j
      apply mm_rf_tv
      have h2 : (fs.map (mm_tv ad))[j]? = (gs.map (mm_tv ad'))[j]? := by rw [h]
      rw [List.getElem?_map, List.getElem?_map] at h2
      rw [List.getD_eq_getElem?_getD, List.getD_eq_getElem?_getD]
      cases hf : fs[j]? with
      | none =>
        rw [hf] at h2
        cases hg : gs[j]? with
        | none => rfl
        | some g => rw [hg] at h2; cases h2
      | some f =>
        rw [hf] at h2
        cases hg : gs[j]? with
        | none => rw [hg] at h2; cases h2
        | some g => rw [hg] at h2; exact Option.some.inj h2
    rw [hf]
theorem mm_rnC_ok {cA : Nat → ClassId} {ad : Nat → Nat} {V : List Nat} {x y : MC} (h : mm_rnC V x = some y) : mm_tE cA (mm_adV ad V) y = mm_tE cA ad x := by
  unfold mm_rnC at h
  split at h
  · cases h; rfl
  · split at h
    · rename_i gs hg
      cases h
      exact mm_tE_congr (mm_rnL_ok _ _ hg)
    · cases h
theorem mm_bkC_ok {cA : Nat → ClassId} {ad : Nat → Nat} {V : List Nat} {x y : MC} (h : mm_bkC V x = some y) : mm_tE cA ad y = mm_tE cA (mm_adV ad V) x := by
  unfold mm_bkC at h
  split at h
  · cases h; rfl
  · split at h
    · rename_i gs hg
      cases h
      exact mm_tE_congr (mm_bkL_ok _ _ hg)
    · cases h
theorem mm_sub_at {V : List Nat} {h : MH} : ∀ (U : List Nat) (hs : MH), mm_sub V U h = some hs → hs.length = U.length ∧ ∀ (j : Nat) (y : MC), hs[j]? = some y → ∃ k x, U[j]? = some k ∧ h[k]? = some x ∧ mm_rnC V x = some y
  | [], hs, hq => by cases hq; exact ⟨rfl, fun j y hy => by cases hy⟩
  | k :: U, hs, hq => by
    unfold mm_sub at hq
    split at hq
    · rename_i x hx
      split at hq
      · rename_i y hy
        split at hq
        · rename_i ys hys
          cases hq
          obtain ⟨h1, h2⟩ := mm_sub_at U ys hys
          refine ⟨by rw [List.length_cons, List.length_cons, h1], fun j z hz => ?_⟩
          cases j with
          | zero => cases hz; exact ⟨k, x, rfl, hx, hy⟩
          | succ j => exact h2 j z hz
        · cases hq
      · cases hq
    · cases hq
theorem mm_bk_at {V : List Nat} : ∀ (U : List Nat) (hs h h' : MH), mm_bk V U hs h = some h' → ∀ (k : Nat) (y : MC), h'[k]? = some y → (∃ (j : Nat) (x : MC), U[j]? = some k ∧ hs[j]? = some x ∧ mm_bkC V x = some y) ∨ (k ∉ U ∧ h[k]? = some y)
  | [], [], h, h', hq, k, y, hy => by cases hq; exact Or.inr ⟨List.not_mem_nil, hy⟩
  | [], x :: hs, h, h', hq, _, _, _ => by cases hq
  | k :: U, [], h, h', hq, _, _, _ => by cases hq
  | k0 :: U, x0 :: hs, h, h', hq, k, y, hy => by
    unfold mm_bk at hq
    split at hq
    · rename_i y0 hy0
      rcases mm_bk_at U hs _ h' hq k y hy with ⟨j, x, h1, h2, h3⟩ | ⟨h1, h2⟩
      · exact Or.inl ⟨j + 1, x, h1, h2, h3⟩
      · rw [List.getElem?_set] at h2
        split at h2
        · rename_i e
          split at h2
          · cases h2
            exact Or.inl ⟨0, x0, by rw [e]; rfl, rfl, hy0⟩
          · cases h2
        · rename_i e
          refine Or.inr ⟨fun hm => ?_, h2⟩
          rcases List.mem_cons.mp hm with e2 | e2
          · exact e e2.symm
          · exact h1 e2
    · cases hq
/-! a callee's world inside the caller's -/
section MV
variable {D : va_G} {cl : List vw_C} {cA : Nat → ClassId} {ad : Nat → Nat} {h hs : MH} {V : List Nat} {H : Heap} {A : Nat → Prop}
theorem mm_subP (hq : mm_sub V V h = some hs) (hP : va_P D cl (mm_wd cA ad h) H) : va_P D cl (mm_wd cA (mm_adV ad V) hs) H := by
  intro j q hj
  obtain ⟨y, hy, rfl⟩ := mm_wd_of hj
  obtain ⟨k, x, h1, h2, h3⟩ := (mm_sub_at V hs hq).2 j y hy
  rw [mm_adV_at h1, mm_rnC_ok h3]
  exact hP k _ (mm_wd_at h2)
theorem mm_subD (hV : mm_vok V = true) (hq : mm_sub V V h = some hs) (hD : va_D A (mm_wd cA ad h)) : va_D A (mm_wd cA (mm_adV ad V) hs) := by
  unfold mm_vok at hV
  rw [Bool.and_eq_true] at hV
  refine ⟨fun i j p q hi hj e => ?_, fun j q hj => ?_⟩
  · obtain ⟨y1, hy1, rfl⟩ := mm_wd_of hi
    obtain ⟨y2, hy2, rfl⟩ := mm_wd_of hj
    obtain ⟨k1, x1, a1, a2, -⟩ := (mm_sub_at V hs hq).2 i y1 hy1
    obtain ⟨k2, x2, b1, b2, -⟩ := (mm_sub_at V hs hq).2 j y2 hy2
    have e2 : ad k1 = ad k2 := by
      have : mm_adV ad V i = mm_adV ad V j := e
      rwa [mm_adV_at a1, mm_adV_at b1] at this
    have e3 := hD.1 k1 k2 _ _ (mm_wd_at a2) (mm_wd_at b2) e2
    subst e3
    exact va_nd_inj V hV.1 i j k1 a1 b1
  · obtain ⟨y, hy, rfl⟩ := mm_wd_of hj
    obtain ⟨k, x, h1, h2, -⟩ := (mm_sub_at V hs hq).2 j y hy
    show A (mm_adV ad V j)
    rw [mm_adV_at h1]
    exact hD.2 k _ (mm_wd_at h2)
theorem mm_subA (hq : mm_sub V V h = some hs) (hD : va_D A (mm_wd cA ad h)) {sz q : Nat} (hA : ∀ q, sz ≤ q → A q) (ha : va_A (mm_wd cA (mm_adV ad V) hs) sz q) : A q := by
  rcases ha with ⟨j, e, hj⟩ | ha
  · obtain ⟨y, hy, e2⟩ := mm_wd_of hj
    obtain ⟨k, x, h1, h2, -⟩ := (mm_sub_at V hs hq).2 j y hy
    have e3 : q = mm_adV ad V j := congrArg Prod.fst e2
    rw [e3, mm_adV_at h1]
    exact hD.2 k _ (mm_wd_at h2)
  · exact hA q ha
theorem mm_bkP {hs' h' : MH} {H1 : Heap} (hq : mm_sub V V h = some hs) (hb : mm_bk V V hs' h = some h') (hP : va_P D cl (mm_wd cA ad h) H) (hD : va_D A (mm_wd cA ad h)) (hP1 : va_P D cl (mm_wd cA (mm_adV ad V) hs') H1) (hk : ∀ q : Nat, q < H.size → ¬ va_A (mm_wd cA (mm_adV ad V) hs) H.size q → H1[q]? = H[q]?) : va_P D cl (mm_wd cA ad h') H1 := by
  intro k q hkq
  obtain ⟨y, hy, rfl⟩ := mm_wd_of hkq
  rcases mm_bk_at V hs' h h' hb k y hy with ⟨j, x, h1, h2, h3⟩ | ⟨h1, h2⟩
  · have := hP1 j _ (mm_wd_at h2)
    rw [mm_adV_at h1, ← mm_bkC_ok h3] at this
    exact this
  · have hat := hP k _ (mm_wd_at h2)
    refine hat.kept (hk _ hat.lt (fun ha => ?_))
    rcases ha with ⟨j, e, hj⟩ | ha
    · obtain ⟨y2, hy2, e2⟩ := mm_wd_of hj
      obtain ⟨k2, x2, a1, a2, -⟩ := (mm_sub_at V hs hq).2 j y2 hy2
      have e3 : ad k = mm_adV ad V j := congrArg Prod.fst e2
      rw [mm_adV_at a1] at e3
      have e4 := hD.1 k k2 _ _ (mm_wd_at h2) (mm_wd_at a2) e3
      subst e4
      exact h1 (List.mem_of_getElem? a1)
    · exact absurd hat.lt (Nat.not_lt.mpr ha)
theorem mm_lenD {h' : MH} (hl : h'.length = h.length) (hD : va_D A (mm_wd cA ad h)) : va_D A (mm_wd cA ad h') := by
  have key : ∀ (k : Nat) (q : Nat × va_E), (mm_wd cA ad h')[k]? = some q → ∃ q0, (mm_wd cA ad h)[k]? = some q0 ∧ q0.1 = q.1 := by
    intro k q hk
    obtain ⟨y, hy, rfl⟩ := mm_wd_of hk
    have hlt := (List.getElem?_eq_some_iff.mp hy).1
    rw [hl] at hlt
    exact ⟨_, mm_wd_at (List.getElem?_eq_getElem hlt), rfl⟩
  refine ⟨fun i j x y hi hj hxy => ?_, fun k q hk => ?_⟩
  · obtain ⟨x0, h1, h2⟩ := key i x hi
    obtain ⟨y0, h3, h4⟩ := key j y hj
    exact hD.1 i j x0 y0 h1 h3 (h2.trans (hxy.trans h4.symm))
  · obtain ⟨q0, h1, h2⟩ := key k q hk
    rw [← h2]
    exact hD.2 k q0 h1
end MV
/-! a callee's locals -/
theorem mm_sl_at {ad : Nat → Nat} : ∀ (vs : List Value) (i0 i : Nat) (v : Value), (mm_sl vs)[i]? = some (some v) → (i0 + i, mm_tv ad v) ∈ lv_args i0 (vs.map (mm_tv ad))
  | [], i0, i, v, h => by cases h
  | w :: vs, i0, i, v, h => by
    have one : ∀ (hw : w.category ≠ 2) (hs : mm_sl (w :: vs) = some w :: mm_sl vs), (i0 + i, mm_tv ad v) ∈ lv_args i0 ((w :: vs).map (mm_tv ad)) := by
      intro hw hs
      rw [hs] at h
      rw [List.map_cons]
      unfold lv_args
      rw [mm_tv_cat, if_neg hw]
      cases i with
      | zero => cases h; exact List.mem_cons_self
      | succ i =>
        refine List.mem_cons_of_mem _ ?_
        have := mm_sl_at (ad := ad) vs (i0 + 1) i v h
        rwa [show i0 + 1 + i = i0 + (i + 1) by omega] at this
    have two : ∀ (hw : w.category = 2) (hs : mm_sl (w :: vs) = some w :: none :: mm_sl vs), (i0 + i, mm_tv ad v) ∈ lv_args i0 ((w :: vs).map (mm_tv ad)) := by
      intro hw hs
      rw [hs] at h
      rw [List.map_cons]
      unfold lv_args
      rw [mm_tv_cat, if_pos hw]
      match i, h with
      | 0, h => cases h; exact List.mem_cons_self
      | 1, h => cases h
      | i + 2, h =>
        refine List.mem_cons_of_mem _ ?_
        have := mm_sl_at (ad := ad) vs (i0 + 2) i v h
        rwa [show i0 + 2 + i = i0 + (i + 2) by omega] at this
    cases w with
    | long x => exact two rfl rfl
    | double x => exact two rfl rfl
    | int x => exact one (fun z => by cases z) rfl
    | float x => exact one (fun z => by cases z) rfl
    | null => exact one (fun z => by cases z) rfl
    | ref x => exact one (fun z => by cases z) rfl
    | retAddr x => exact one (fun z => by cases z) rfl
theorem mm_en_ok {ad : Nat → Nat} {vs : List Value} {n : Nat} {sl : Array Slot} (h : lv_has sl n (lv_args 0 (vs.map (mm_tv ad)))) : lv_has sl n (mm_as ad (mm_en n vs)) := by
  refine ⟨h.1, h.2.1, fun q hq => ?_⟩
  obtain ⟨v, hv, e⟩ := mm_as_mem.mp hq
  unfold mm_en at hv
  by_cases hl : q.1 < (mm_sl vs).length
  · rw [List.getElem?_append_left hl] at hv
    have := h.2.2 _ (mm_sl_at vs 0 q.1 v hv)
    rw [Nat.zero_add, ← e] at this
    exact this
  · rw [List.getElem?_append_right (by omega), List.getElem?_replicate] at hv
    split at hv <;> cases hv
theorem mm_en_len {vs : List Value} {n : Nat} (h : (mm_sl vs).length ≤ n) : (mm_en n vs).length = n := by
  unfold mm_en
  rw [List.length_append, List.length_replicate]
  omega
theorem mm_sl_lg {ad : Nat → Nat} : ∀ vs : List Value, (lg_sl (vs.map (mm_tv ad))).length = (mm_sl vs).length
  | [] => rfl
  | w :: vs => by
    have ih := mm_sl_lg (ad := ad) vs
    have e : lg_sl ((w :: vs).map (mm_tv ad)) = (if (mm_tv ad w).category = 2 then [.val (mm_tv ad w), .second] else [.val (mm_tv ad w)]) ++ lg_sl (vs.map (mm_tv ad)) := by
      unfold lg_sl
      rw [List.map_cons, List.flatMap_cons]
    rw [e, List.length_append, ih, mm_tv_cat]
    cases w with
    | long x => rw [if_pos (show Value.category _ = 2 from rfl)]; show 2 + _ = _ + 1 + 1; omega
    | double x => rw [if_pos (show Value.category _ = 2 from rfl)]; show 2 + _ = _ + 1 + 1; omega
    | int x => rw [if_neg (fun z => by cases z)]; show 1 + _ = _ + 1; omega
    | float x => rw [if_neg (fun z => by cases z)]; show 1 + _ = _ + 1; omega
    | null => rw [if_neg (fun z => by cases z)]; show 1 + _ = _ + 1; omega
    | ref x => rw [if_neg (fun z => by cases z)]; show 1 + _ = _ + 1; omega
    | retAddr x => rw [if_neg (fun z => by cases z)]; show 1 + _ = _ + 1; omega
theorem mm_sl_map {ad : Nat → Nat} : ∀ vs : List Value, (mm_sl (vs.map (mm_tv ad))).length = (mm_sl vs).length
  | [] => rfl
  | w :: vs => by
    have ih := mm_sl_map (ad := ad) vs
    cases w <;> simp [mm_sl, mm_tv, ih]
theorem mm_ct_ok {ad : Nat → Nat} : ∀ st : List Value, ((st.map (mm_tv ad)).map fun v => v.category).sum = mm_ct st
  | [] => rfl
  | w :: st => by
    have ih := mm_ct_ok (ad := ad) st
    rw [List.map_cons, List.map_cons, List.sum_cons, ih, mm_tv_cat]
    cases w <;> simp [mm_ct, Value.category] <;> omega

/-- consecutive cells put back -/
theorem put_seq {Q : MH} : ∀ (B A P : MH), A.length = B.length → putL (P ++ A ++ Q) ((List.range B.length).map (fun j => P.length + j)) B = P ++ B ++ Q
  | [], A, P, h => by
    have : A = [] := List.length_eq_zero_iff.mp h
    subst this
    rfl
  | b :: B, [], P, h => by cases h
  | b :: B, a :: A, P, h => by
    have e : (List.range (b :: B).length).map (fun j => P.length + j) = P.length :: (List.range B.length).map (fun j => (P ++ [b]).length + j) := by
      rw [List.length_cons, List.range_succ_eq_map, List.map_cons, List.map_map]
      congr 1
      apply List.map_congr_left
      intro j _
      show P.length + (j + 1) = (P ++ [b]).length + j
      rw [List.length_append]
      show P.length + (j + 1) = P.length + 1 + j
      omega
    rw [e]
    show putL ((P ++ a :: A ++ Q).set P.length b) _ B = _
    have e2 : (P ++ a :: A ++ Q).set P.length b = (P ++ [b]) ++ A ++ Q := by
      rw [List.append_assoc, List.cons_append, set_mid rfl]
      simp
    rw [e2, put_seq B A (P ++ [b]) (by simpa using h)]
    simp
theorem put_C {P Q : MH} {n : Nat} {K K' : CK} (hP : P.length = n) (hK : K.2.2.length = 6) (hK' : K'.2.2.length = 6) : putL (P ++ bH n K ++ Q) (vC n) (bH n K') = P ++ bH n K' ++ Q := by
  have h := put_seq (Q := Q) (bH n K') (bH n K) P (by rw [bH_len hK, bH_len hK'])
  rw [bH_len hK', hP] at h
  exact h
theorem has_C {P Q : MH} {n : Nat} {K : CK} (hP : P.length = n) (hK : K.2.2.length = 6) : HasC (P ++ bH n K ++ Q) n K := by
  refine ⟨hK, fun j hj => ?_⟩
  rw [List.append_assoc, List.getElem?_append_right (by omega), hP, Nat.add_sub_cancel_left, List.getElem?_append_left (by rw [bH_len hK]; exact hj)]
/-- two blocks -/
theorem vv_at0 {n m j : Nat} (h : j < 18) : (vC n ++ vC m)[0 + j]? = some (n + j) := by
  rw [Nat.zero_add, List.getElem?_append_left (by show j < 18; exact h)]
  exact vC_at h
theorem vv_at1 {n m j : Nat} (h : j < 18) : (vC n ++ vC m)[18 + j]? = some (m + j) := by
  rw [List.getElem?_append_right (by show 18 ≤ 18 + j; omega)]
  show (vC m)[18 + j - 18]? = _
  rw [Nat.add_sub_cancel_left]
  exact vC_at h
theorem sub_CC {h : MH} {n m : Nat} {K L : CK} (hK : HasC h n K) (hL : HasC h m L) (hn : va_nd (vC n ++ vC m) = true) : mm_sub (vC n ++ vC m) (vC n ++ vC m) h = some (bH 0 K ++ bH 18 L) := by
  refine mm_sub_of _ _ (by rw [List.length_append, List.length_append, bH_len hK.1, bH_len hL.1]; rfl) (fun j k y hj hy => ?_)
  by_cases hlt : j < 18
  · rw [List.getElem?_append_left (by rw [bH_len hK.1]; exact hlt)] at hy
    have e := vv_at0 (n := n) (m := m) hlt
    rw [Nat.zero_add] at e
    rw [e] at hj
    cases hj
    obtain ⟨x, hx⟩ : ∃ x, (bH n K)[j]? = some x := ⟨_, List.getElem?_eq_getElem (by rw [bH_len hK.1]; exact hlt)⟩
    obtain ⟨y2, h1, h2⟩ := rn_bH (V := vC n ++ vC m) (s := 0) hn (fun i hi => vv_at0 hi) hx
    rw [hy] at h1
    cases h1
    exact ⟨_, by rw [hK.2 j hlt]; exact hx, h2⟩
  · rw [List.getElem?_append_right (by rw [bH_len hK.1]; omega), bH_len hK.1] at hy
    have hl2 : j - 18 < 18 := by
      have := (List.getElem?_eq_some_iff.mp hy).1
      rw [bH_len hL.1] at this
      exact this
    have e := vv_at1 (n := n) (m := m) hl2
    rw [show 18 + (j - 18) = j by omega] at e
    rw [e] at hj
    cases hj
    obtain ⟨x, hx⟩ : ∃ x, (bH m L)[j - 18]? = some x := ⟨_, List.getElem?_eq_getElem (by rw [bH_len hL.1]; exact hl2)⟩
    obtain ⟨y2, h1, h2⟩ := rn_bH (V := vC n ++ vC m) (s := 18) hn (fun i hi => vv_at1 hi) hx
    rw [hy] at h1
    cases h1
    exact ⟨_, by rw [hL.2 _ hl2]; exact hx, h2⟩
theorem bk_CC {h : MH} {n m : Nat} {K L : CK} (hK : K.2.2.length = 6) (hL : L.2.2.length = 6) : mm_bk (vC n ++ vC m) (vC n ++ vC m) (bH 0 K ++ bH 18 L) h = some (putL h (vC n ++ vC m) (bH n K ++ bH m L)) := by
  refine mm_bk_of _ _ _ _ (by rw [List.length_append, List.length_append, bH_len hK, bH_len hL]; rfl) (by rw [List.length_append, List.length_append, bH_len hK, bH_len hL, bH_len hK, bH_len hL]) (fun j x y hx hy => ?_)
  by_cases hlt : j < 18
  · rw [List.getElem?_append_left (by rw [bH_len hK]; exact hlt)] at hx hy
    obtain ⟨y2, h1, h2⟩ := bk_bH (V := vC n ++ vC m) (n := n) (s := 0) (fun i hi => vv_at0 hi) hx
    rw [hy] at h1
    cases h1
    exact h2
  · rw [List.getElem?_append_right (by rw [bH_len hK]; omega), bH_len hK] at hx hy
    obtain ⟨y2, h1, h2⟩ := bk_bH (V := vC n ++ vC m) (n := m) (s := 18) (fun i hi => vv_at1 hi) hx
    rw [hy] at h1
    cases h1
    exact h2
/-- Canal.copy -/
def cpK (K L : CK) (B T2 S : Nat) : CK := ((L.1.1, L.1.2.1, L.1.2.2.1, nI B, nI T2, nI S, K.1.2.2.2.2.2.2.1, K.1.2.2.2.2.2.2.2), (cpI L.2.1.1 B K.2.1.1, cpI L.2.1.2.1 B K.2.1.2.1, cpI L.2.1.2.2.1 B K.2.1.2.2.1, cpI L.2.1.2.2.2.1 S K.2.1.2.2.2.1, cpI L.2.1.2.2.2.2.1 S K.2.1.2.2.2.2.1, cpI L.2.1.2.2.2.2.2.1 S K.2.1.2.2.2.2.2.1, K.2.1.2.2.2.2.2.2), cpT L.2.2 T2 K.2.2)
/-- the lengths of a Canal's rows -/
def CL (K : CK) : Prop := K.2.1.1.length = 5 ∧ K.2.1.2.1.length = 5 ∧ K.2.1.2.2.1.length = 5 ∧ K.2.1.2.2.2.1.length = 6 ∧ K.2.1.2.2.2.2.1.length = 6 ∧ K.2.1.2.2.2.2.2.1.length = 6 ∧ K.2.1.2.2.2.2.2.2.1.length = 5 ∧ K.2.1.2.2.2.2.2.2.2.1.length = 5 ∧ K.2.1.2.2.2.2.2.2.2.2.1.length = 5 ∧ K.2.1.2.2.2.2.2.2.2.2.2.length = 25 ∧ K.2.2.length = 6
theorem CL_cp {K L : CK} {B T2 S : Nat} (hB : B ≤ 5) (hT : T2 ≤ 6) (hS : S ≤ 6) (h : CL K) : CL (cpK K L B T2 S) := by
  obtain ⟨h1, h2, h3, h4, h5, h6, h7, h8, h9, h10, h11⟩ := h
  exact ⟨(up_len (by omega)).trans h1, (up_len (by omega)).trans h2, (up_len (by omega)).trans h3, (up_len (by omega)).trans h4, (up_len (by omega)).trans h5, (up_len (by omega)).trans h6, h7, h8, h9, h10, (up_len (by omega)).trans h11⟩
theorem sp_copyK (xs : List Int32) (d : Nat) (K L : CK) (B T2 S : Nat) (hB : B ≤ 5) (hT : T2 ≤ 6) (hS : S ≤ 6) (hK : CL K) (hL : CL L) (e1 : L.1.2.2.2.1 = nI B) (e2 : L.1.2.2.2.2.1 = nI T2) (e3 : L.1.2.2.2.2.2.1 = nI S) : Ev xs (d + 1) 2 0 [some (.ref 0), some (.ref 18), none] [] (bH 0 K ++ bH 18 L) none (bH 0 (cpK K L B T2 S) ++ bH 18 L) := by
  obtain ⟨⟨l1, l2, l3, l4, l5, l6, l7, l8⟩, ⟨r1, r2, r3, r4, r5, r6, r7, r8, r9, r10⟩, rw2⟩ := L
  dsimp only at e1 e2 e3
  subst e1
  subst e2
  subst e3
  obtain ⟨a1, a2, a3, a4, a5, a6, a7, a8, a9, a10, a11⟩ := hK
  obtain ⟨b1, b2, b3, b4, b5, b6, b7, b8, b9, b10, b11⟩ := hL
  exact sp_copy xs d K.1.1 K.1.2.1 K.1.2.2.1 K.1.2.2.2.1 K.1.2.2.2.2.1 K.1.2.2.2.2.2.1 K.1.2.2.2.2.2.2.1 K.1.2.2.2.2.2.2.2 K.2.1.1 K.2.1.2.1 K.2.1.2.2.1 K.2.1.2.2.2.1 K.2.1.2.2.2.2.1 K.2.1.2.2.2.2.2.1 K.2.1.2.2.2.2.2.2.1 K.2.1.2.2.2.2.2.2.2.1 K.2.1.2.2.2.2.2.2.2.2.1 K.2.1.2.2.2.2.2.2.2.2.2 K.2.2 l1 l2 l3 l7 l8 B T2 S r1 r2 r3 r4 r5 r6 r7 r8 r9 r10 rw2 hB hT hS a11 b11 a1 a2 a3 b1 b2 b3 a4 a5 a6 b4 b5 b6
/-- a call of Canal.copy -/
theorem ev_callCC {xs : List Int32} {d y pc idx n m : Nat} {ls : ML} {st0 : List Value} {h h' : MH} {r : Option Value} {K L : CK} (B T2 S : Nat) (hf : fetT y pc = some (.invokevirtual idx)) (hs : mm_stp fldT (prmT xs) (d + 2) y (.invokevirtual idx) pc ls (.ref m :: .ref n :: st0) h = none) (hm : mthT y idx = some (2, true)) (hk : Nat.ble (mm_ct st0) 8 = true) (hcK : HasC h n K) (hcL : HasC h m L) (hnd : va_nd (vC n ++ vC m) = true) (hB : B ≤ 5) (hT : T2 ≤ 6) (hS : S ≤ 6) (hK : CL K) (hL : CL L) (e1 : L.1.2.2.2.1 = nI B) (e2 : L.1.2.2.2.2.1 = nI T2) (e3 : L.1.2.2.2.2.2.1 = nI S)
    (hr : Ev xs (d + 2) y (pc + 3) ls st0 (putL h (vC n ++ vC m) (bH n (cpK K L B T2 S) ++ bH m L)) r h') : Ev xs (d + 2) y pc ls (.ref m :: .ref n :: st0) h r h' := by
  have hk := Nat.le_of_ble_eq_true hk
  have h0 : h[n]? = some (bO n K.1) := hcK.2 0 (by decide)
  have h1 : h[m]? = some (bO m L.1) := hcL.2 0 (by decide)
  have hcal : mm_cal mthT infT true y idx (.ref m :: .ref n :: st0) h = some (2, true) := by
    unfold mm_cal
    rw [hm]
    dsimp only
    have : mm_cok true (infT 2) (.ref m :: .ref n :: st0) h = true := by
      show (decide (2 ≤ st0.length + 1 + 1) && decide (mm_ct st0 ≤ 8) && true && (true && (mm_obj h n 0).isSome)) = true
      have hobj : (mm_obj h n 0).isSome = true := by
        unfold mm_obj
        rw [h0]
        rfl
      rw [hobj, decide_eq_true hk, decide_eq_true (by omega)]
      rfl
    rw [if_pos this]
  have bl : ∀ {k : Nat} {I : CI}, h[k]? = some (bO k I) → mm_blk bszT h (.ref k) = vC k := fun {k I} hz => by
    unfold mm_blk
    dsimp only
    rw [hz]
    rfl
  have hV : mm_view bszT h (((Value.ref m :: .ref n :: st0).take (infT 2).1).reverse) = vC n ++ vC m := by
    show mm_blk bszT h (.ref n) ++ (mm_blk bszT h (.ref m) ++ []) = _
    rw [bl h0, bl h1, List.append_nil]
  have hrn : mm_rnL (vC n ++ vC m) (((Value.ref m :: .ref n :: st0).take (infT 2).1).reverse) = some [.ref 0, .ref 18] :=
    rn_c (rn_ref hnd (vv_at0 (j := 0) (by decide))) (rn_c (rn_ref hnd (vv_at1 (j := 0) (by decide))) rfl)
  have hok : mm_vok (vC n ++ vC m) = true := by
    unfold mm_vok
    rw [hnd]
    rfl
  exact ev_callV hf rfl hs hcal hV (sub_CC hcK hcL hnd) hrn hok (sp_copyK xs d K L B T2 S hB hT hS hK hL e1 e2 e3) rfl (bk_CC (CL_cp hB hT hS hK).2.2.2.2.2.2.2.2.2.2 hL.2.2.2.2.2.2.2.2.2.2) hr

/-! Blocks of cells at any place -/
def shV (n : Nat) (v : Value) : Value := match v with
  | .ref k => .ref (n + k)
  | v => v
def sfC (n : Nat) (x : MC) : MC := match x with
  | .inl a => .inl a
  | .inr (t, fs) => .inr (t, fs.map (shV n))
def shH (n : Nat) (h : MH) : MH := h.map (sfC n)
def clV (L : Nat) (v : Value) : Bool := match v with
  | .ref k => Nat.blt k L
  | _ => true
def clC (L : Nat) (x : MC) : Bool := match x with
  | .inl _ => true
  | .inr (_, fs) => fs.all (clV L)
def clH (L : Nat) (h : MH) : Bool := h.all (clC L)
def vR (n L : Nat) : List Nat := (List.range L).map (fun j => n + j)
theorem shV_0 (v : Value) : shV 0 v = v := by
  cases v with
  | ref k =>
    show Value.ref (0 + k) = _
    rw [Nat.zero_add]
  | _ => rfl
theorem sfC_0 (x : MC) : sfC 0 x = x := by
  match x with
  | .inl a => rfl
  | .inr (t, fs) =>
    show Sum.inr (t, fs.map (shV 0)) = _
    rw [show shV 0 = id from funext shV_0, List.map_id]
theorem shH_0 (h : MH) : shH 0 h = h := by
  unfold shH
  rw [show sfC 0 = id from funext sfC_0, List.map_id]
theorem shH_len (n : Nat) (h : MH) : (shH n h).length = h.length := List.length_map _
theorem shH_app (n : Nat) (a b : MH) : shH n (a ++ b) = shH n a ++ shH n b := List.map_append
theorem vR_len (n L : Nat) : (vR n L).length = L := by
  unfold vR
  rw [List.length_map, List.length_range]
theorem vR_at {n L j : Nat} (h : j < L) : (vR n L)[j]? = some (n + j) := by
  unfold vR
  rw [List.getElem?_map, List.getElem?_range h]
  rfl
section BL
variable {V : List Nat} {n s L : Nat}
theorem rn_shV (hn : va_nd V = true) (hV : ∀ j, j < L → V[s + j]? = some (n + j)) {v : Value} (hv : clV L v = true) : mm_rnV V (shV n v) = some (shV s v) := by
  cases v with
  | ref k => exact rn_ref hn (hV k (Nat.le_of_ble_eq_true hv))
  | _ => rfl
theorem rn_shL (hn : va_nd V = true) (hV : ∀ j, j < L → V[s + j]? = some (n + j)) : ∀ fs : List Value, fs.all (clV L) = true → mm_rnL V (fs.map (shV n)) = some (fs.map (shV s))
  | [], _ => rfl
  | v :: fs, h => by
    rw [List.all_cons, Bool.and_eq_true] at h
    exact rn_c (rn_shV hn hV h.1) (rn_shL hn hV fs h.2)
theorem rn_sfC (hn : va_nd V = true) (hV : ∀ j, j < L → V[s + j]? = some (n + j)) {x : MC} (h : clC L x = true) : mm_rnC V (sfC n x) = some (sfC s x) := by
  match x, h with
  | .inl a, _ => rfl
  | .inr (t, fs), h => exact rn_o (rn_shL hn hV fs h)
theorem bk_shV (hV : ∀ j, j < L → V[s + j]? = some (n + j)) {v : Value} (hv : clV L v = true) : mm_bkV V (shV s v) = some (shV n v) := by
  cases v with
  | ref k => exact bk_ref (hV k (Nat.le_of_ble_eq_true hv))
  | _ => rfl
theorem bk_shL (hV : ∀ j, j < L → V[s + j]? = some (n + j)) : ∀ fs : List Value, fs.all (clV L) = true → mm_bkL V (fs.map (shV s)) = some (fs.map (shV n))
  | [], _ => rfl
  | v :: fs, h => by
    rw [List.all_cons, Bool.and_eq_true] at h
    exact bk_c (bk_shV hV h.1) (bk_shL hV fs h.2)
theorem bk_sfC (hV : ∀ j, j < L → V[s + j]? = some (n + j)) {x : MC} (h : clC L x = true) : mm_bkC V (sfC s x) = some (sfC n x) := by
  match x, h with
  | .inl a, _ => rfl
  | .inr (t, fs), h => exact bk_o (bk_shL hV fs h)
end BL
/-- a heap that has a block at n -/
def HasB (H : MH) (n : Nat) (h : MH) : Prop := ∀ j, j < h.length → H[n + j]? = (shH n h)[j]?
theorem hasB {P Q h : MH} {n : Nat} (hP : P.length = n) : HasB (P ++ shH n h ++ Q) n h := by
  intro j hj
  rw [List.append_assoc, List.getElem?_append_right (by omega), hP, Nat.add_sub_cancel_left, List.getElem?_append_left (by rw [shH_len]; exact hj)]
theorem putB {P Q h h' : MH} {n : Nat} (hP : P.length = n) (hl : h'.length = h.length) : putL (P ++ shH n h ++ Q) (vR n h'.length) (shH n h') = P ++ shH n h' ++ Q := by
  have := put_seq (Q := Q) (shH n h') (shH n h) P (by rw [shH_len, shH_len, hl])
  rw [shH_len, hP] at this
  exact this
theorem sub_B {H h : MH} {n : Nat} (hc : clH h.length h = true) (hb : HasB H n h) (hn : va_nd (vR n h.length) = true) : mm_sub (vR n h.length) (vR n h.length) H = some h := by
  refine mm_sub_of _ _ (vR_len _ _) (fun j k y hj hy => ?_)
  have hlt : j < h.length := (List.getElem?_eq_some_iff.mp hy).1
  rw [vR_at hlt] at hj
  cases hj
  refine ⟨sfC n y, ?_, ?_⟩
  · rw [hb j hlt]
    unfold shH
    rw [List.getElem?_map, hy]
    rfl
  · have h1 := rn_sfC (V := vR n h.length) (n := n) (s := 0) hn (fun i hi => by rw [Nat.zero_add]; exact vR_at hi) (List.all_eq_true.mp hc y (List.mem_of_getElem? hy))
    rw [sfC_0] at h1
    exact h1
theorem bk_B {H h : MH} {n : Nat} (hc : clH h.length h = true) : mm_bk (vR n h.length) (vR n h.length) h H = some (putL H (vR n h.length) (shH n h)) := by
  refine mm_bk_of _ _ _ _ (vR_len _ _) (shH_len _ _) (fun j x y hx hy => ?_)
  unfold shH at hy
  rw [List.getElem?_map, hx] at hy
  cases hy
  have h1 := bk_sfC (V := vR n h.length) (n := n) (s := 0) (fun i hi => by rw [Nat.zero_add]; exact vR_at hi) (List.all_eq_true.mp hc x (List.mem_of_getElem? hx))
  rw [sfC_0] at h1
  exact h1
def noRef (r : Option Value) : Bool := match r with
  | some (.ref _) => false
  | _ => true
theorem bkO_n {V : List Nat} {r : Option Value} (h : noRef r = true) : mm_bkO V r = some r := by
  cases r with
  | none => rfl
  | some v =>
    cases v with
    | ref k => cases h
    | _ => rfl
/-- a call of a method whose receiver is a block -/
theorem ev_callB {xs : List Int32} {d y pc y' idx n ci L : Nat} {ls : ML} {st As : List Value} {P Q hb hb' h' : MH} {r r1 : Option Value} {fs : List Value} (hf : fetT y pc = some (.invokevirtual idx)) (hs : mm_stp fldT (prmT xs) (d + 1) y (.invokevirtual idx) pc ls st (P ++ shH n hb ++ Q) = none) (hm : mthT y idx = some (y', true)) (hk : (decide ((infT y').1 ≤ st.length) && decide (mm_ct (st.drop (infT y').1) ≤ 8) && decide ((mm_sl ((st.take (infT y').1).reverse)).length ≤ (infT y').2.1) && !(infT y').2.2.2.2 && Nat.beq (infT y').2.2.2.1 ci) = true) (hst : (st.take (infT y').1).reverse = .ref n :: As) (hA : ∀ v ∈ As, ∃ x, v = Value.int x) (hP : P.length = n) (h0 : hb[0]? = some (.inr (ci, fs))) (hL : hb.length = L) (hz : bszT ci = L) (hc : clH L hb = true) (hnd : mm_vok (vR n L) = true) (hL' : hb'.length = L) (hc' : clH L hb' = true)
    (hv : Ev xs d y' 0 (mm_en (infT y').2.1 (.ref 0 :: As)) [] hb r1 hb') (hr1 : noRef r1 = true) (hr : Ev xs (d + 1) y (pc + 3) ls (r1.toList ++ st.drop (infT y').1) (P ++ shH n hb' ++ Q) r h') : Ev xs (d + 1) y pc ls st (P ++ shH n hb ++ Q) r h' := by
  rw [Bool.and_eq_true, Bool.and_eq_true, Bool.and_eq_true, Bool.and_eq_true] at hk
  obtain ⟨⟨⟨⟨k1, k2⟩, k3⟩, k4⟩, k5⟩ := hk
  have k5 := Nat.eq_of_beq_eq_true k5
  have hB : HasB (P ++ shH n hb ++ Q) n hb := hasB hP
  have hpos : 0 < hb.length := (List.getElem?_eq_some_iff.mp h0).1
  have e0 : (P ++ shH n hb ++ Q)[n]? = some (.inr (ci, fs.map (shV n))) := by
    have := hB 0 hpos
    rw [Nat.add_zero] at this
    rw [this]
    unfold shH
    rw [List.getElem?_map, h0]
    rfl
  have hnd2 : va_nd (vR n L) = true := by
    unfold mm_vok at hnd
    rw [Bool.and_eq_true] at hnd
    exact hnd.1
  have hobj : (mm_obj (P ++ shH n hb ++ Q) n ci).isSome = true := by
    rw [mm_obj_of e0]
    rfl
  have hcal : mm_cal mthT infT true y idx st (P ++ shH n hb ++ Q) = some (y', true) := by
    unfold mm_cal
    rw [hm]
    dsimp only
    have : mm_cok true (infT y') st (P ++ shH n hb ++ Q) = true := by
      unfold mm_cok
      rw [k1, k2, k3, hst]
      dsimp only
      rw [k4, k5, hobj]
      rfl
    rw [if_pos this]
  have hV : mm_view bszT (P ++ shH n hb ++ Q) ((st.take (infT y').1).reverse) = vR n L := by
    rw [hst]
    show mm_blk bszT (P ++ shH n hb ++ Q) (.ref n) ++ mm_view bszT (P ++ shH n hb ++ Q) As = vR n L
    rw [mm_view_i As hA, List.append_nil]
    unfold mm_blk
    dsimp only
    rw [e0]
    dsimp only
    rw [hz]
    rfl
  subst hL
  have hrn : mm_rnL (vR n hb.length) ((st.take (infT y').1).reverse) = some (.ref 0 :: As) := by
    rw [hst]
    exact rn_c (rn_ref hnd2 (vR_at (j := 0) hpos)) (mm_rnL_i As hA)
  have hbk := bk_B (H := P ++ shH n hb ++ Q) (n := n) (h := hb') (by rw [hL']; exact hc')
  rw [putB hP hL'] at hbk
  rw [hL'] at hbk
  exact ev_callV hf rfl hs hcal hV (sub_B hc hB hnd2) hrn hnd hv (bkO_n hr1) hbk hr
/-- two blocks: the first one's names come first, wherever it lies -/
theorem vv0 {n m L M j : Nat} (h : j < L) : (vR n L ++ vR m M)[0 + j]? = some (n + j) := by
  rw [Nat.zero_add, List.getElem?_append_left (by rw [vR_len]; exact h)]
  exact vR_at h
theorem vv1 {n m L M j : Nat} (h : j < M) : (vR n L ++ vR m M)[L + j]? = some (m + j) := by
  rw [List.getElem?_append_right (by rw [vR_len]; omega), vR_len, Nat.add_sub_cancel_left]
  exact vR_at h
theorem sub_BB {H a b : MH} {n m : Nat} (ha : clH a.length a = true) (hb : clH b.length b = true) (hA : HasB H n a) (hB : HasB H m b) (hn : va_nd (vR n a.length ++ vR m b.length) = true) : mm_sub (vR n a.length ++ vR m b.length) (vR n a.length ++ vR m b.length) H = some (a ++ shH a.length b) := by
  refine mm_sub_of _ _ (by rw [List.length_append, List.length_append, vR_len, vR_len, shH_len]) (fun j k y hj hy => ?_)
  by_cases hlt : j < a.length
  · rw [List.getElem?_append_left hlt] at hy
    have e := vv0 (n := n) (m := m) (L := a.length) (M := b.length) hlt
    rw [Nat.zero_add] at e
    rw [e] at hj
    cases hj
    refine ⟨sfC n y, ?_, ?_⟩
    · rw [hA j hlt]
      unfold shH
      rw [List.getElem?_map, hy]
      rfl
    · have h1 := rn_sfC (V := vR n a.length ++ vR m b.length) (n := n) (s := 0) hn (fun i hi => vv0 hi) (List.all_eq_true.mp ha y (List.mem_of_getElem? hy))
      rw [sfC_0] at h1
      exact h1
  · rw [List.getElem?_append_right (by omega)] at hy
    unfold shH at hy
    rw [List.getElem?_map] at hy
    obtain ⟨x, hx, rfl⟩ := Option.map_eq_some_iff.mp hy
    have hl2 : j - a.length < b.length := (List.getElem?_eq_some_iff.mp hx).1
    have e := vv1 (n := n) (m := m) (L := a.length) (M := b.length) hl2
    rw [show a.length + (j - a.length) = j by omega] at e
    rw [e] at hj
    cases hj
    refine ⟨sfC m x, ?_, rn_sfC (V := vR n a.length ++ vR m b.length) (n := m) (s := a.length) hn (fun i hi => vv1 hi) (List.all_eq_true.mp hb x (List.mem_of_getElem? hx))⟩
    rw [hB _ hl2]
    unfold shH
    rw [List.getElem?_map, hx]
    rfl
theorem bk_BB {H a b : MH} {n m : Nat} (ha : clH a.length a = true) (hb : clH b.length b = true) : mm_bk (vR n a.length ++ vR m b.length) (vR n a.length ++ vR m b.length) (a ++ shH a.length b) H = some (putL (putL H (vR n a.length) (shH n a)) (vR m b.length) (shH m b)) := by
  rw [← putL_app _ _ _ _ _ (by rw [vR_len, shH_len])]
  refine mm_bk_of _ _ _ _ (by rw [List.length_append, List.length_append, vR_len, vR_len, shH_len]) (by rw [List.length_append, List.length_append, shH_len, shH_len, shH_len]) (fun j x y hx hy => ?_)
  by_cases hlt : j < a.length
  · rw [List.getElem?_append_left hlt] at hx
    rw [List.getElem?_append_left (by rw [shH_len]; exact hlt)] at hy
    unfold shH at hy
    rw [List.getElem?_map, hx] at hy
    cases hy
    have h1 := bk_sfC (V := vR n a.length ++ vR m b.length) (n := n) (s := 0) (fun i hi => vv0 hi) (List.all_eq_true.mp ha x (List.mem_of_getElem? hx))
    rw [sfC_0] at h1
    exact h1
  · rw [List.getElem?_append_right (by omega)] at hx
    rw [List.getElem?_append_right (by rw [shH_len]; omega), shH_len] at hy
    unfold shH at hx hy
    rw [List.getElem?_map] at hx hy
    obtain ⟨w, hw, rfl⟩ := Option.map_eq_some_iff.mp hx
    rw [hw] at hy
    cases hy
    exact bk_sfC (V := vR n a.length ++ vR m b.length) (n := m) (s := a.length) (fun i hi => vv1 hi) (List.all_eq_true.mp hb w (List.mem_of_getElem? hw))
theorem tk_sh (n : Nat) (l : List TT) : shH n (l.map tkc) = l.map tkc := by
  unfold shH
  rw [List.map_map]
  rfl
theorem bH_sh (n m : Nat) (K : CK) : shH n (bH m K) = bH (n + m) K := by
  unfold bH
  rw [show ∀ (a b c e f g i j k l o p : MC) (t : MH), shH n (a :: b :: c :: e :: f :: g :: i :: j :: k :: l :: o :: p :: t) = sfC n a :: sfC n b :: sfC n c :: sfC n e :: sfC n f :: sfC n g :: sfC n i :: sfC n j :: sfC n k :: sfC n l :: sfC n o :: sfC n p :: shH n t from fun _ _ _ _ _ _ _ _ _ _ _ _ _ => rfl, tk_sh]
  rfl
theorem fgH_sh (n m : Nat) (f : FP) : shH n (fgH m f) = fgH (n + m) f := by
  unfold fgH
  rw [show ∀ (a b c e f : MC) (t : MH), shH n (a :: b :: c :: e :: f :: t) = sfC n a :: sfC n b :: sfC n c :: sfC n e :: sfC n f :: shH n t from fun _ _ _ _ _ _ => rfl, tk_sh]
  rfl

/-! Blocks of cells: a Canal at any place, as a callee sees it and as it comes back -/
theorem idx_of {k : Nat} : ∀ (V : List Nat) (i j0 : Nat), va_nd V = true → V[i]? = some k → mm_idx k V j0 = some (j0 + i)
  | [], i, j0, _, h => by cases h
  | v :: V, i, j0, hn, h => by
    unfold va_nd at hn
    rw [Bool.and_eq_true] at hn
    unfold mm_idx
    cases i with
    | zero =>
      cases h
      rw [if_pos rfl]
      rfl
    | succ i =>
      have h2 : V[i]? = some k := h
      have hm := List.mem_of_getElem? h2
      have hne : ¬ v = k := fun e => by
        subst e
        exact absurd hm (of_decide_eq_true hn.1)
      rw [if_neg hne, idx_of V i (j0 + 1) hn.2 h2]
      congr 1
      omega
theorem rn_ref {V : List Nat} {k i : Nat} (hn : va_nd V = true) (h : V[i]? = some k) : mm_rnV V (.ref k) = some (.ref i) := by
  unfold mm_rnV
  dsimp only
  rw [idx_of V i 0 hn h, Nat.zero_add]
theorem bk_ref {V : List Nat} {k i : Nat} (h : V[i]? = some k) : mm_bkV V (.ref i) = some (.ref k) := by
  unfold mm_bkV
  dsimp only
  rw [h]
theorem rn_c {V : List Nat} {v w : Value} {vs ws : List Value} (h : mm_rnV V v = some w) (hs : mm_rnL V vs = some ws) : mm_rnL V (v :: vs) = some (w :: ws) := by
  unfold mm_rnL
  rw [h, hs]
theorem bk_c {V : List Nat} {v w : Value} {vs ws : List Value} (h : mm_bkV V v = some w) (hs : mm_bkL V vs = some ws) : mm_bkL V (v :: vs) = some (w :: ws) := by
  unfold mm_bkL
  rw [h, hs]
theorem rn_o {V : List Nat} {t : Nat} {vs ws : List Value} (hs : mm_rnL V vs = some ws) : mm_rnC V (.inr (t, vs)) = some (.inr (t, ws)) := by
  unfold mm_rnC
  dsimp only
  rw [hs]
theorem bk_o {V : List Nat} {t : Nat} {vs ws : List Value} (hs : mm_bkL V vs = some ws) : mm_bkC V (.inr (t, vs)) = some (.inr (t, ws)) := by
  unfold mm_bkC
  dsimp only
  rw [hs]
theorem mm_sub_of {V : List Nat} {h : MH} : ∀ (U : List Nat) (hs : MH), U.length = hs.length → (∀ (j k : Nat) (y : MC), U[j]? = some k → hs[j]? = some y → ∃ x, h[k]? = some x ∧ mm_rnC V x = some y) → mm_sub V U h = some hs
  | [], [], _, _ => rfl
  | [], _ :: _, hl, _ => by cases hl
  | _ :: _, [], hl, _ => by cases hl
  | k :: U, y :: hs, hl, hq => by
    obtain ⟨x, h1, h2⟩ := hq 0 k y rfl rfl
    unfold mm_sub
    rw [h1]
    dsimp only
    rw [h2, mm_sub_of U hs (by simpa using hl) (fun j k y a b => hq (j + 1) k y a b)]
/-- cells put back in their places -/
def putL (h : MH) (U : List Nat) (ys : MH) : MH := match U, ys with
  | k :: U, y :: ys => putL (h.set k y) U ys
  | _, _ => h
theorem mm_bk_of {V : List Nat} : ∀ (U : List Nat) (hs ys h : MH), U.length = hs.length → ys.length = hs.length → (∀ (j : Nat) (x y : MC), hs[j]? = some x → ys[j]? = some y → mm_bkC V x = some y) → mm_bk V U hs h = some (putL h U ys)
  | [], [], [], _, _, _, _ => rfl
  | [], [], _ :: _, _, _, h2, _ => by cases h2
  | [], _ :: _, _, _, h1, _, _ => by cases h1
  | _ :: _, [], _, _, h1, _, _ => by cases h1
  | _ :: _, _ :: _, [], _, _, h2, _ => by cases h2
  | k :: U, x :: hs, y :: ys, h, h1, h2, hq => by
    unfold mm_bk
    rw [hq 0 x y rfl rfl]
    dsimp only
    rw [mm_bk_of U hs ys (h.set k y) (by simpa using h1) (by simpa using h2) (fun j x y a b => hq (j + 1) x y a b)]
    rfl
/-- the numbers of a Canal, its rows, its Talks -/
abbrev CI : Type := Int32 × Int32 × Int32 × Int32 × Int32 × Int32 × Int32 × Int32
abbrev CA : Type := List Int32 × List Int32 × List Int32 × List Int32 × List Int32 × List Int32 × List Int32 × List Int32 × List Int32 × List Int32
abbrev CK : Type := CI × CA × List TT
def bO (n : Nat) (I : CI) : MC := .inr (0, [.int I.1, .int I.2.1, .int I.2.2.1, .int I.2.2.2.1, .ref (n + 1), .ref (n + 2), .ref (n + 3), .int I.2.2.2.2.1, .ref (n + 4), .int I.2.2.2.2.2.1, .ref (n + 5), .ref (n + 6), .ref (n + 7), .ref (n + 8), .ref (n + 9), .ref (n + 10), .ref (n + 11), .int I.2.2.2.2.2.2.1, .int I.2.2.2.2.2.2.2])
def bR (n : Nat) : MC := .inr (102, [.ref (n + 12), .ref (n + 13), .ref (n + 14), .ref (n + 15), .ref (n + 16), .ref (n + 17)])
def bH (n : Nat) (K : CK) : MH := bO n K.1 :: .inl (0, K.2.1.1) :: .inl (0, K.2.1.2.1) :: .inl (0, K.2.1.2.2.1) :: bR n :: .inl (0, K.2.1.2.2.2.1) :: .inl (0, K.2.1.2.2.2.2.1) :: .inl (0, K.2.1.2.2.2.2.2.1) :: .inl (0, K.2.1.2.2.2.2.2.2.1) :: .inl (0, K.2.1.2.2.2.2.2.2.2.1) :: .inl (0, K.2.1.2.2.2.2.2.2.2.2.1) :: .inl (1, K.2.1.2.2.2.2.2.2.2.2.2) :: K.2.2.map tkc
def vC (n : Nat) : List Nat := (List.range 18).map (fun j => n + j)
theorem vC_at {n j : Nat} (h : j < 18) : (vC n)[j]? = some (n + j) := by
  unfold vC
  rw [List.getElem?_map, List.getElem?_range h]
  rfl
theorem bH_len {n : Nat} {K : CK} (h : K.2.2.length = 6) : (bH n K).length = 18 := by
  unfold bH
  simp [h]
theorem rn_bO {V : List Nat} {n s : Nat} {I : CI} (hn : va_nd V = true) (hV : ∀ j, j < 18 → V[s + j]? = some (n + j)) : mm_rnC V (bO n I) = some (bO s I) :=
  rn_o (rn_c rfl (rn_c rfl (rn_c rfl (rn_c rfl (rn_c (rn_ref hn (hV 1 (by decide))) (rn_c (rn_ref hn (hV 2 (by decide))) (rn_c (rn_ref hn (hV 3 (by decide))) (rn_c rfl (rn_c (rn_ref hn (hV 4 (by decide))) (rn_c rfl (rn_c (rn_ref hn (hV 5 (by decide))) (rn_c (rn_ref hn (hV 6 (by decide))) (rn_c (rn_ref hn (hV 7 (by decide))) (rn_c (rn_ref hn (hV 8 (by decide))) (rn_c (rn_ref hn (hV 9 (by decide))) (rn_c (rn_ref hn (hV 10 (by decide))) (rn_c (rn_ref hn (hV 11 (by decide))) (rn_c rfl (rn_c rfl rfl)))))))))))))))))))
theorem rn_bR {V : List Nat} {n s : Nat} (hn : va_nd V = true) (hV : ∀ j, j < 18 → V[s + j]? = some (n + j)) : mm_rnC V (bR n) = some (bR s) :=
  rn_o (rn_c (rn_ref hn (hV 12 (by decide))) (rn_c (rn_ref hn (hV 13 (by decide))) (rn_c (rn_ref hn (hV 14 (by decide))) (rn_c (rn_ref hn (hV 15 (by decide))) (rn_c (rn_ref hn (hV 16 (by decide))) (rn_c (rn_ref hn (hV 17 (by decide))) rfl))))))
theorem bk_bO {V : List Nat} {n s : Nat} {I : CI} (hV : ∀ j, j < 18 → V[s + j]? = some (n + j)) : mm_bkC V (bO s I) = some (bO n I) :=
  bk_o (bk_c rfl (bk_c rfl (bk_c rfl (bk_c rfl (bk_c (bk_ref (hV 1 (by decide))) (bk_c (bk_ref (hV 2 (by decide))) (bk_c (bk_ref (hV 3 (by decide))) (bk_c rfl (bk_c (bk_ref (hV 4 (by decide))) (bk_c rfl (bk_c (bk_ref (hV 5 (by decide))) (bk_c (bk_ref (hV 6 (by decide))) (bk_c (bk_ref (hV 7 (by decide))) (bk_c (bk_ref (hV 8 (by decide))) (bk_c (bk_ref (hV 9 (by decide))) (bk_c (bk_ref (hV 10 (by decide))) (bk_c (bk_ref (hV 11 (by decide))) (bk_c rfl (bk_c rfl rfl)))))))))))))))))))
theorem bk_bR {V : List Nat} {n s : Nat} (hV : ∀ j, j < 18 → V[s + j]? = some (n + j)) : mm_bkC V (bR s) = some (bR n) :=
  bk_o (bk_c (bk_ref (hV 12 (by decide))) (bk_c (bk_ref (hV 13 (by decide))) (bk_c (bk_ref (hV 14 (by decide))) (bk_c (bk_ref (hV 15 (by decide))) (bk_c (bk_ref (hV 16 (by decide))) (bk_c (bk_ref (hV 17 (by decide))) rfl))))))
/-- each cell of a Canal under a callee's names, and back -/
theorem rn_bH {V : List Nat} {n s : Nat} {K : CK} (hn : va_nd V = true) (hV : ∀ j, j < 18 → V[s + j]? = some (n + j)) {j : Nat} {x : MC} (h : (bH n K)[j]? = some x) : ∃ y, (bH s K)[j]? = some y ∧ mm_rnC V x = some y := by
  match j, h with
  | 0, h => cases h; exact ⟨_, rfl, rn_bO hn hV⟩
  | 1, h => cases h; exact ⟨_, rfl, rfl⟩
  | 2, h => cases h; exact ⟨_, rfl, rfl⟩
  | 3, h => cases h; exact ⟨_, rfl, rfl⟩
  | 4, h => cases h; exact ⟨_, rfl, rn_bR hn hV⟩
  | 5, h => cases h; exact ⟨_, rfl, rfl⟩
  | 6, h => cases h; exact ⟨_, rfl, rfl⟩
  | 7, h => cases h; exact ⟨_, rfl, rfl⟩
  | 8, h => cases h; exact ⟨_, rfl, rfl⟩
  | 9, h => cases h; exact ⟨_, rfl, rfl⟩
  | 10, h => cases h; exact ⟨_, rfl, rfl⟩
  | 11, h => cases h; exact ⟨_, rfl, rfl⟩
  | j + 12, h =>
    have h2 : (K.2.2.map tkc)[j]? = some x := h
    refine ⟨x, h2, ?_⟩
    rw [List.getElem?_map] at h2
    obtain ⟨T, -, rfl⟩ := Option.map_eq_some_iff.mp h2
    rfl
theorem bk_bH {V : List Nat} {n s : Nat} {K : CK} (hV : ∀ j, j < 18 → V[s + j]? = some (n + j)) {j : Nat} {x : MC} (h : (bH s K)[j]? = some x) : ∃ y, (bH n K)[j]? = some y ∧ mm_bkC V x = some y := by
  match j, h with
  | 0, h => cases h; exact ⟨_, rfl, bk_bO hV⟩
  | 1, h => cases h; exact ⟨_, rfl, rfl⟩
  | 2, h => cases h; exact ⟨_, rfl, rfl⟩
  | 3, h => cases h; exact ⟨_, rfl, rfl⟩
  | 4, h => cases h; exact ⟨_, rfl, bk_bR hV⟩
  | 5, h => cases h; exact ⟨_, rfl, rfl⟩
  | 6, h => cases h; exact ⟨_, rfl, rfl⟩
  | 7, h => cases h; exact ⟨_, rfl, rfl⟩
  | 8, h => cases h; exact ⟨_, rfl, rfl⟩
  | 9, h => cases h; exact ⟨_, rfl, rfl⟩
  | 10, h => cases h; exact ⟨_, rfl, rfl⟩
  | 11, h => cases h; exact ⟨_, rfl, rfl⟩
  | j + 12, h =>
    have h2 : (K.2.2.map tkc)[j]? = some x := h
    refine ⟨x, h2, ?_⟩
    rw [List.getElem?_map] at h2
    obtain ⟨T, -, rfl⟩ := Option.map_eq_some_iff.mp h2
    rfl
/-- a heap that has a Canal at n -/
def HasC (h : MH) (n : Nat) (K : CK) : Prop := K.2.2.length = 6 ∧ ∀ j, j < 18 → h[n + j]? = (bH n K)[j]?
theorem sub_C {h : MH} {n : Nat} {K : CK} (hc : HasC h n K) (hn : va_nd (vC n) = true) : mm_sub (vC n) (vC n) h = some (bH 0 K) := by
  refine mm_sub_of _ _ (by rw [bH_len hc.1]; rfl) (fun j k y hj hy => ?_)
  have hlt : j < 18 := by
    have := (List.getElem?_eq_some_iff.mp hy).1
    rw [bH_len hc.1] at this
    exact this
  rw [vC_at hlt] at hj
  cases hj
  obtain ⟨x, hx⟩ : ∃ x, (bH n K)[j]? = some x := ⟨_, List.getElem?_eq_getElem (by rw [bH_len hc.1]; exact hlt)⟩
  obtain ⟨y2, h1, h2⟩ := rn_bH (V := vC n) (s := 0) hn (fun i hi => by rw [Nat.zero_add]; exact vC_at hi) hx
  rw [hy] at h1
  cases h1
  exact ⟨_, by rw [hc.2 j hlt]; exact hx, h2⟩
theorem bk_C {h : MH} {n : Nat} {K : CK} (hK : K.2.2.length = 6) : mm_bk (vC n) (vC n) (bH 0 K) h = some (putL h (vC n) (bH n K)) := by
  refine mm_bk_of _ _ _ _ (by rw [bH_len hK]; rfl) (by rw [bH_len hK, bH_len hK]) (fun j x y hx hy => ?_)
  obtain ⟨y2, h1, h2⟩ := bk_bH (V := vC n) (n := n) (s := 0) (fun i hi => by rw [Nat.zero_add]; exact vC_at hi) hx
  rw [hy] at h1
  cases h1
  exact h2
/-- a call of a Canal's method -/
theorem ev_callC {xs : List Int32} {d y pc y' idx n : Nat} {ls : ML} {st As : List Value} {h h' : MH} {r r1 : Option Value} {K K' : CK} (hf : fetT y pc = some (.invokevirtual idx)) (hs : mm_stp fldT (prmT xs) (d + 1) y (.invokevirtual idx) pc ls st h = none) (hm : mthT y idx = some (y', true)) (hk : (decide ((infT y').1 ≤ st.length) && decide (mm_ct (st.drop (infT y').1) ≤ 8) && decide ((mm_sl ((st.take (infT y').1).reverse)).length ≤ (infT y').2.1) && !(infT y').2.2.2.2 && Nat.beq (infT y').2.2.2.1 0) = true) (hst : (st.take (infT y').1).reverse = .ref n :: As) (hA : ∀ v ∈ As, ∃ x, v = Value.int x) (hc : HasC h n K) (hnd : va_nd (vC n) = true) (hK' : K'.2.2.length = 6)
    (hv : Ev xs d y' 0 (mm_en (infT y').2.1 (.ref 0 :: As)) [] (bH 0 K) r1 (bH 0 K')) (hr1 : r1 = none ∨ ∃ x, r1 = some (.int x)) (hr : Ev xs (d + 1) y (pc + 3) ls (r1.toList ++ st.drop (infT y').1) (putL h (vC n) (bH n K')) r h') : Ev xs (d + 1) y pc ls st h r h' := by
  rw [Bool.and_eq_true, Bool.and_eq_true, Bool.and_eq_true, Bool.and_eq_true] at hk
  obtain ⟨⟨⟨⟨k1, k2⟩, k3⟩, k4⟩, k5⟩ := hk
  have k5 := Nat.eq_of_beq_eq_true k5
  have h0 : h[n]? = some (bO n K.1) := hc.2 0 (by decide)
  have hobj : (mm_obj h n 0).isSome = true := by
    unfold mm_obj
    rw [h0]
    rfl
  have hcal : mm_cal mthT infT true y idx st h = some (y', true) := by
    unfold mm_cal
    rw [hm]
    dsimp only
    have : mm_cok true (infT y') st h = true := by
      unfold mm_cok
      rw [k1, k2, k3, hst]
      dsimp only
      rw [k4, k5, hobj]
      rfl
    rw [if_pos this]
  have hV : mm_view bszT h ((st.take (infT y').1).reverse) = vC n := by
    rw [hst]
    show mm_blk bszT h (.ref n) ++ mm_view bszT h As = vC n
    rw [mm_view_i As hA, List.append_nil]
    unfold mm_blk
    dsimp only
    rw [h0]
    rfl
  have hrn : mm_rnL (vC n) ((st.take (infT y').1).reverse) = some (.ref 0 :: As) := by
    rw [hst]
    exact rn_c (rn_ref hnd (vC_at (j := 0) (by decide))) (mm_rnL_i As hA)
  have hok : mm_vok (vC n) = true := by
    unfold mm_vok
    rw [hnd]
    rfl
  exact ev_callV hf rfl hs hcal hV (sub_C hc hnd) hrn hok hv (mm_bkO_i hr1) (bk_C hK') hr

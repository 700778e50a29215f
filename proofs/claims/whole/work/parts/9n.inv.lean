/-! The invariant: a Canal of the class beside one of the reference -/
/-- a Talk within its bounds -/
def wTk (B : Nat) (T : TT) : Prop := bT B T ∧ ∃ nd sa si : Nat, 1 ≤ nd ∧ nd ≤ 20 ∧ sa < nd ∧ si ≤ 99 ∧ (sa = 0 → si = 0) ∧ T.2.2.1 = nI nd ∧ T.2.2.2.1 = nI sa ∧ T.2.2.2.2.1 = nI si
/-- the numbers of a barge -/
def wBg (K : CK) (L b : Nat) : Prop := ∃ k p c : Nat, k ≤ 3 ∧ p < 2 * L ∧ 1 ≤ c ∧ c ≤ 9 ∧ K.2.1.1.getD b 0 = nI k ∧ K.2.1.2.1.getD b 0 = nI p ∧ K.2.1.2.2.1.getD b 0 = nI c
def wK (K : CK) (B TN S : Nat) : Prop := CN K B TN S ∧ okM K.2.1.2.2.2.2.2.2.2.2.2 ∧ (∃ L : Nat, 2 ≤ L ∧ L ≤ 20 ∧ K.1.1 = nI L ∧ ∀ b, b < B → wBg K L b) ∧ (∃ m : Nat, 1 ≤ m ∧ m ≤ 99 ∧ K.1.2.1 = nI m) ∧ (∃ h : Nat, h ≤ 9999 ∧ K.1.2.2.1 = nI h) ∧ (∀ t, t < TN → wTk B (K.2.2.getD t dT)) ∧ okS K S
/-- the same is told -/
def eqK (B TN S : Nat) (K Ks : CK) : Prop := K.1.1 = Ks.1.1 ∧ K.1.2.1 = Ks.1.2.1 ∧ K.1.2.2.1 = Ks.1.2.2.1 ∧ (∀ b, b < B → K.2.1.1.getD b 0 = Ks.2.1.1.getD b 0 ∧ K.2.1.2.1.getD b 0 = Ks.2.1.2.1.getD b 0 ∧ K.2.1.2.2.1.getD b 0 = Ks.2.1.2.2.1.getD b 0) ∧ (∀ t, t < TN → T_clr (K.2.2.getD t dT) = T_clr (Ks.2.2.getD t dT)) ∧ ∀ i, i < S → K.2.1.2.2.2.1.getD i 0 = Ks.2.1.2.2.2.1.getD i 0 ∧ K.2.1.2.2.2.2.1.getD i 0 = Ks.2.1.2.2.2.2.1.getD i 0 ∧ K.2.1.2.2.2.2.2.1.getD i 0 = Ks.2.1.2.2.2.2.2.1.getD i 0
theorem bT_ok {B : Nat} {T : TT} (hB : B ≤ 5) (h : bT B T) : okT T := by
  obtain ⟨i, j, h1, h2, -, h4, h5⟩ := h
  exact ⟨i, j, by omega, by omega, h4, h5⟩
theorem take_all {TN : Nat} {l : List TT} {P : TT → Prop} (hl : TN ≤ l.length) (h : ∀ t, t < TN → P (l.getD t dT)) : ∀ T ∈ l.take TN, P T := by
  intro T hT
  obtain ⟨t, ht, e⟩ := mem_gd hl hT
  rw [← e]
  exact h t ht
theorem wK_CG {K : CK} {B TN S : Nat} (h : wK K B TN S) : CG K B TN S := by
  obtain ⟨hn, hM, ⟨L, h1, h2, h3, -⟩, -, -, hT, -⟩ := h
  obtain ⟨⟨g1, g2, g3, g4, g5, g6, g7, g8, g9, g10, g11⟩, e1, e2, e3, hB, hTN, hS⟩ := hn
  refine ⟨⟨⟨g1, g2, g3, g4, g5, g6, g7, g8, g9, g10, g11⟩, e1, e2, e3, hB, hTN, hS⟩, ⟨g2, g7, g8, g9, g10, g11, hM, take_all (show TN ≤ K.2.2.length by omega) (fun t ht => bT_ok hB (hT t ht).1)⟩, ?_⟩
  rw [h3, two_nI]
  exact nI_lt (a := 0) (by omega) (by omega)
theorem wTk_wT {B : Nat} {T : TT} (hB : B ≤ 5) (h : wTk B T) : wT T := by
  obtain ⟨h1, nd, sa, si, a1, a2, a3, a4, -, e1, e2, e3⟩ := h
  refine ⟨bT_ok hB h1, ?_, ?_⟩
  · rw [e1, e2]
    exact nI_neq (by omega) (by omega) (by omega)
  · rw [e1]
    exact nI_neq (a := 0) (by omega) (by omega) (by omega)
theorem wTk_clr {B : Nat} {T U : TT} (e : T_clr T = T_clr U) (h : wTk B T) : wTk B U := by
  obtain ⟨t1, t2, t3, t4, t5, t6, t7, t8, t9, t10⟩ := T
  obtain ⟨u1, u2, u3, u4, u5, u6, u7, u8, u9, u10⟩ := U
  unfold T_clr at e
  simp only [Prod.mk.injEq] at e
  obtain ⟨a1, a2, a3, a4, a5, a6, a7, a8, -⟩ := e
  subst a1 a2 a3 a4 a5 a6 a7 a8
  exact h
/-- the reference's Canal may go on too -/
theorem wK_VS {K Ks : CK} {B TN S : Nat} (h : wK K B TN S) (hs : CN Ks B TN S) (he : eqK B TN S K Ks) : VS Ks B TN S := by
  have hB := hs.2.2.2.2.1
  refine ⟨hs, ?_, take_all (by have := hs.2.2.2.2.2.1; have := CL6 hs.1; omega) (fun t ht => wTk_wT hB (wTk_clr (he.2.2.2.2.1 t ht) (h.2.2.2.2.2.1 t ht)))⟩
  rw [← he.1]
  exact (wK_CG h).2.2
theorem try_T {now trial : CK} {B TN S t : Nat} (hn : CN now B TN S) (ht : CL trial) (h : t < TN) : (tryK now trial B TN S).2.2.getD t dT = T_clr (now.2.2.getD t dT) := by
  have hTN := hn.2.2.2.2.2.1
  have h6 := CL6 hn.1
  have h6t := CL6 ht
  show (mapUp T_clr TN (cpT now.2.2 TN trial.2.2)).getD t dT = _
  rw [mapUp_gd h (by unfold cpT; rw [up_len (by omega)]; omega)]
  congr 1
  unfold cpT
  rw [List.getD_eq_getElem?_getD, up_lt h]
  rfl
theorem stA_gd {wa ms mt : List Int32} {Ks : CK} {t : Nat} (h6 : Ks.2.2.length = 6) (h : t < 6) : (stA wa ms mt Ks).2.2.getD t dT = T_clr (Ks.2.2.getD t dT) := by
  show (Ks.2.2.map T_clr).getD t dT = _
  rw [List.getD_eq_getElem?_getD, List.getElem?_map, getT_at (l := Ks.2.2) (k := t) (by omega)]
  rfl
/-- what is tried goes alike -/
theorem Lv_try {now trial Ks : CK} {B TN S : Nat} {wa ms mt : List Int32} (hn : CN now B TN S) (ht : CL trial) (hs : CN Ks B TN S) (he : eqK B TN S now Ks) : Lv B TN (tryK now trial B TN S) (stA wa ms mt Ks) := by
  have hTN := hn.2.2.2.2.2.1
  refine ⟨he.1, he.2.1, he.2.2.1, rfl, rfl, fun b hb => ?_, fun t htt => ?_⟩
  · obtain ⟨a1, a2, a3⟩ := he.2.2.2.1 b hb
    refine ⟨?_, ?_, ?_⟩
    · show (cpI now.2.1.1 B trial.2.1.1).getD b 0 = _
      rw [cpI_take b hb]
      exact a1
    · show (cpI now.2.1.2.1 B trial.2.1.2.1).getD b 0 = _
      rw [cpI_take b hb]
      exact a2
    · show (cpI now.2.1.2.2.1 B trial.2.1.2.2.1).getD b 0 = _
      rw [cpI_take b hb]
      exact a3
  · rw [try_T hn ht htt, stA_gd (CL6 hs.1) (by omega)]
    exact he.2.2.2.2.1 t htt
theorem bT_clr {B : Nat} {T : TT} (h : bT B T) : bT B (T_clr T) := bT_of h (T_clr_2 T)
theorem HV_try {now trial : CK} {B TN S : Nat} (hn : wK now B TN S) (ht : GS trial) : HV (tryK now trial B TN S) B TN S := by
  obtain ⟨hcn, hM, ⟨L, h1, h2, h3, h4⟩, -, -, hT, -⟩ := id hn
  refine ⟨CG_t (wK_CG hn) ht, ⟨L, by omega, h2, h3, fun b hb => ?_⟩, fun t htt => ?_⟩
  · obtain ⟨k, p, c, a1, a2, a3, a4, a5, a6, a7⟩ := h4 b hb
    refine ⟨p, c, a2, a4, ?_, ?_⟩
    · show (cpI now.2.1.2.1 B trial.2.1.2.1).getD b 0 = _
      rw [cpI_take b hb]
      exact a6
    · show (cpI now.2.1.2.2.1 B trial.2.1.2.2.1).getD b 0 = _
      rw [cpI_take b hb]
      exact a7
  · rw [try_T hcn ht.1 htt]
    exact bT_clr (hT t htt).1
/-- sums over the Talks that there are -/
theorem smT_take {k TN : Nat} {K Ks : CK} (h : ∀ t, t < TN → T_tell (K.2.2.getD t dT) k = T_tell (Ks.2.2.getD t dT) k) (h1 : TN ≤ K.2.2.length) (h2 : TN ≤ Ks.2.2.length) : smT k (K.2.2.take TN) = smT k (Ks.2.2.take TN) := by
  rw [take_gd h1, take_gd h2]
  unfold smT
  rw [List.foldl_map, List.foldl_map]
  have key : ∀ (l : List Nat) (a : Int32), (∀ t ∈ l, t < TN) → l.foldl (fun a t => a + T_tell (K.2.2.getD t dT) k) a = l.foldl (fun a t => a + T_tell (Ks.2.2.getD t dT) k) a := by
    intro l
    induction l with
    | nil => intro a _; rfl
    | cons t l ih =>
      intro a hl
      rw [List.foldl_cons, List.foldl_cons, h t (hl t List.mem_cons_self)]
      exact ih _ (fun u hu => hl u (List.mem_cons_of_mem _ hu))
  exact key _ 0 (fun t ht => List.mem_range.mp ht)
theorem clr_tell {T U : TT} {k : Nat} (hk : k ≤ 8) (e : T_clr T = T_clr U) : T_tell T k = T_tell U k := by
  obtain ⟨t1, t2, t3, t4, t5, t6, t7, t8, t9, t10⟩ := T
  obtain ⟨u1, u2, u3, u4, u5, u6, u7, u8, u9, u10⟩ := U
  unfold T_clr at e
  simp only [Prod.mk.injEq] at e
  obtain ⟨a1, a2, a3, a4, a5, a6, a7, a8, -⟩ := e
  subst a1 a2 a3 a4 a5 a6 a7 a8
  match k, hk with
  | 0, _ => rfl
  | 1, _ => rfl
  | 2, _ => rfl
  | 3, _ => rfl
  | 4, _ => rfl
  | 5, _ => rfl
  | 6, _ => rfl
  | 7, _ => rfl
  | 8, _ => rfl
/-! the whole state -/
/-- an image of the class beside one of the reference -/
def imI (kp : Bool) (im : CK) (I : List Int32) : Prop := GS im ∧ I.length = 87 ∧ (kp = true → ∃ (B TN S : Nat) (K : CK), I = flK K ∧ wK im B TN S ∧ CN K B TN S ∧ eqK B TN S im K)
/-- a sheet -/
def shI (r : RS) (z : ZT) (k : Nat) : Prop := (r.2.2.2.2.1 k).length = 40 ∧ ((r.2.2.2.2.2.2[k]? = some (-1) ∧ z.2.2.2.2.2.2.2.2.2.2.1[k]? = some (-4)) ∨ ∃ (s : Nat) (l : Int32), s ≤ 40 ∧ wiI l 0 2 = true ∧ r.2.2.2.2.2.2[k]? = some (nI s) ∧ z.2.2.2.2.2.2.2.2.2.2.2.1[k]? = some (nI s) ∧ r.2.2.2.2.2.1[k]? = some l ∧ z.2.2.2.2.2.2.2.2.2.2.1[k]? = some l ∧ ∀ i, i < s → (r.2.2.2.2.1 k)[i]? = z.2.2.2.2.2.2.2.2.2.2.2.2.1[40 * k + i]?)
def tpI (p : TP) (r : RS) (z : ZT) : Prop := r.2.1.length = 160 ∧ z.2.2.2.2.2.2.2.1.length = 160 ∧ p.2.2.2.2.2.2.2.1 = z.1.2.2.2.2.2.2.2.2.1 ∧ ∃ (L : Nat) (D : Nat → Nat), byD D L r.2.1 ∧ byD D L z.2.2.2.2.2.2.2.1 ∧ p.1 = nI L ∧ z.1.2.2.2.1 = nI L
/-- what is used again and again -/
def xI (f : FP) (r : RS) (z : ZT) : Prop := fgOK f ∧ (∀ v, v < 10 → (r.2.2.1 v).length = 126) ∧ r.2.2.2.1.length = 21 ∧ r.2.2.2.2.2.1.length = 4 ∧ r.2.2.2.2.2.2.length = 4 ∧ z.2.2.2.2.2.2.1.length = 87 ∧ z.2.2.2.2.2.2.2.2.1.length = 126 ∧ z.2.2.2.2.2.2.2.2.2.1.length = 1134 ∧ z.2.2.2.2.2.2.2.2.2.2.1.length = 4 ∧ z.2.2.2.2.2.2.2.2.2.2.2.1.length = 4 ∧ z.2.2.2.2.2.2.2.2.2.2.2.2.1.length = 160 ∧ z.2.2.2.2.2.2.2.2.2.2.2.2.2.length = 87
def rsI (im0 im1 : CK) (p : TP) (f : FP) (r : RS) (tr : Int32) (z : ZT) (I0 I1 : List Int32) : Prop := imI r.1.1 im0 I0 ∧ imI r.1.2 im1 I1 ∧ z.2.2.2.2.2.1 = [bI r.1.1, bI r.1.2] ∧ tpI p r z ∧ (∀ k, k < 4 → shI r z k) ∧ tr = z.2.2.1 ∧ xI f r z
def caI (B TN S : Nat) (now Ks : CK) : Prop := wK now B TN S ∧ CN Ks B TN S ∧ eqK B TN S now Ks
def Inv (hc hm : MH) : Prop := ∃ (now trial told im0 im1 : CK) (p : TP) (f : FP) (r : RS) (tr : Int32) (z : ZT) (Ks : CK) (I0 I1 nw eb wa ms mt : List Int32) (cc : C4) (B TN S : Nat), hc = hCl now trial told im0 im1 p f r tr ∧ hm = mH (zS z Ks (I0 ++ I1)) nw eb wa ms mt cc ∧ caI B TN S now Ks ∧ GS trial ∧ CL told ∧ mOK nw eb wa ms mt ∧ rsI im0 im1 p f r tr z I0 I1
/-- a call of both: the same answer, and all is as it should be -/
def callOK (y y' n : Nat) : Prop := ∀ (xs : List Int32) (d : Nat) (hc hm : MH) (as : List Int32), as.length = n → Inv hc hm → ∃ (v : Value) (hc' hm' : MH), (∀ k, v ≠ .ref k) ∧ Inv hc' hm' ∧ Ev xs (d + 20) y 0 (mm_en (infT y).2.1 (.ref 0 :: as.map .int)) [] hc (some v) hc' ∧ Ev xs (d + 20) y' 0 (mm_en (infT y').2.1 (.ref 0 :: as.map .int)) [] hm (some v) hm'
theorem int_nr (x : Int32) : ∀ k, Value.int x ≠ .ref k := fun _ q => by cases q
theorem long_nr (x : Int64) : ∀ k, Value.long x ≠ .ref k := fun _ q => by cases q

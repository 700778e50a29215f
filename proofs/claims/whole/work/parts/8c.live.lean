/-! What hours see of a Canal -/
def Lv (B TN : Nat) (K K' : CK) : Prop := K.1.1 = K'.1.1 ∧ K.1.2.1 = K'.1.2.1 ∧ K.1.2.2.1 = K'.1.2.2.1 ∧ K.1.2.2.2.2.2.2.1 = K'.1.2.2.2.2.2.2.1 ∧ K.1.2.2.2.2.2.2.2 = K'.1.2.2.2.2.2.2.2 ∧ (∀ b, b < B → K.2.1.1.getD b 0 = K'.2.1.1.getD b 0 ∧ K.2.1.2.1.getD b 0 = K'.2.1.2.1.getD b 0 ∧ K.2.1.2.2.1.getD b 0 = K'.2.1.2.2.1.getD b 0) ∧ ∀ t, t < TN → K.2.2.getD t dT = K'.2.2.getD t dT
def Lm (B : Nat) (K K' : CK) : Prop := (∀ i j, i < B → j < B → i ≠ j → K.2.1.2.2.2.2.2.2.2.2.2.getD (5 * i + j) 0 = K'.2.1.2.2.2.2.2.2.2.2.2.getD (5 * i + j) 0) ∧ ∀ i, i < B → K.2.1.2.2.2.2.2.2.2.2.1.getD i 0 = K'.2.1.2.2.2.2.2.2.2.2.1.getD i 0
theorem Lv_rf {B TN : Nat} {K : CK} : Lv B TN K K := ⟨rfl, rfl, rfl, rfl, rfl, fun _ _ => ⟨rfl, rfl, rfl⟩, fun _ _ => rfl⟩
theorem Lv_sy {B TN : Nat} {K K' : CK} (h : Lv B TN K K') : Lv B TN K' K := ⟨h.1.symm, h.2.1.symm, h.2.2.1.symm, h.2.2.2.1.symm, h.2.2.2.2.1.symm, fun b hb => ⟨(h.2.2.2.2.2.1 b hb).1.symm, (h.2.2.2.2.2.1 b hb).2.1.symm, (h.2.2.2.2.2.1 b hb).2.2.symm⟩, fun t ht => (h.2.2.2.2.2.2 t ht).symm⟩
theorem Lv_tr {B TN : Nat} {K L M : CK} (h : Lv B TN K L) (g : Lv B TN L M) : Lv B TN K M := ⟨h.1.trans g.1, h.2.1.trans g.2.1, h.2.2.1.trans g.2.2.1, h.2.2.2.1.trans g.2.2.2.1, h.2.2.2.2.1.trans g.2.2.2.2.1, fun b hb => ⟨(h.2.2.2.2.2.1 b hb).1.trans (g.2.2.2.2.2.1 b hb).1, (h.2.2.2.2.2.1 b hb).2.1.trans (g.2.2.2.2.2.1 b hb).2.1, (h.2.2.2.2.2.1 b hb).2.2.trans (g.2.2.2.2.2.1 b hb).2.2⟩, fun t ht => (h.2.2.2.2.2.2 t ht).trans (g.2.2.2.2.2.2 t ht)⟩
theorem Lm_sy {B : Nat} {K K' : CK} (h : Lm B K K') : Lm B K' K := ⟨fun i j a b c => (h.1 i j a b c).symm, fun i a => (h.2 i a).symm⟩
theorem Lm_tr {B : Nat} {K L M : CK} (h : Lm B K L) (g : Lm B L M) : Lm B K M := ⟨fun i j a b c => (h.1 i j a b c).trans (g.1 i j a b c), fun i a => (h.2 i a).trans (g.2 i a)⟩
/-- all is within its bounds -/
def rng (K : CK) (B : Nat) : Prop := ∃ L : Nat, 1 ≤ L ∧ L ≤ 20 ∧ K.1.1 = nI L ∧ ∀ b, b < B → ∃ p c : Nat, p < 2 * L ∧ c ≤ 9 ∧ K.2.1.2.1.getD b 0 = nI p ∧ K.2.1.2.2.1.getD b 0 = nI c
/-- a Talk of two barges that there are -/
def bT (B : Nat) (T : TT) : Prop := ∃ i j : Nat, i < B ∧ j < B ∧ i ≠ j ∧ T.1 = nI i ∧ T.2.1 = nI j
theorem bT_of {B : Nat} {T U : TT} (h : bT B T) (e : U.1 = T.1 ∧ U.2.1 = T.2.1) : bT B U := by
  obtain ⟨i, j, h1, h2, h3, h4, h5⟩ := h
  exact ⟨i, j, h1, h2, h3, e.1.trans h4, e.2.trans h5⟩
theorem two_nI {L : Nat} : (2 : Int32) * nI L = nI (2 * L) := nI_mulA (a := 2)
theorem nI_subN {a b : Nat} (h : b ≤ a) : nI a - nI b = nI (a - b) := by
  have e : nI a = nI (a - b) + nI b := by rw [nI_add]; congr 1; omega
  rw [e, Int32.add_sub_cancel]
theorem pl_nI {L p : Nat} (hL : L ≤ 20) (hp : p < 2 * L) : ∃ r, r ≤ 20 ∧ plI (nI L) (nI p) = nI r := by
  unfold plI
  by_cases c : p ≤ L
  · rw [if_pos (nI_le c (by omega))]
    exact ⟨p, by omega, rfl⟩
  · rw [if_neg (nI_ge (by omega) (by omega)), two_nI, nI_subN (by omega)]
    exact ⟨2 * L - p, by omega, rfl⟩
theorem fw_nI {L p c : Nat} (h1 : 1 ≤ L) (hL : L ≤ 20) (hp : p < 2 * L) (hc : c ≤ 9) : rmI (nI p + nI c) (2 * nI L) = nI ((p + c) % (2 * L)) := by
  rw [nI_add, two_nI]
  exact rmI_nI (by omega) (by omega) (by omega)
theorem sub_toInt {x y : Nat} (hx : x ≤ 20) (hy : y ≤ 20) : (nI x - nI y).toInt = (x : Int) - (y : Int) := by
  rw [Int32.toInt_sub, nI_toInt (by omega), nI_toInt (by omega)]
  exact Int.bmod_eq_of_le (by omega) (by omega)
theorem mtB_pm {x1 x2 y1 y2 : Nat} (h1 : x1 ≤ 20) (h2 : x2 ≤ 20) (h3 : y1 ≤ 20) (h4 : y2 ≤ 20) : mtB (nI x1 - nI x2) (nI y1 - nI y2) = pmB (nI x1) (nI x2) (nI y1) (nI y2) := by
  have a := sub_toInt h1 h2
  have b := sub_toInt h3 h4
  have z : (0 : Int32).toInt = 0 := rfl
  have n1 : (nI x1).toInt = x1 := nI_toInt (by omega)
  have n2 : (nI x2).toInt = x2 := nI_toInt (by omega)
  have n3 : (nI y1).toInt = y1 := nI_toInt (by omega)
  have n4 : (nI y2).toInt = y2 := nI_toInt (by omega)
  unfold mtB pmB
  have e1 : decide (nI y1 - nI y2 = 0) = decide (nI y1 = nI y2) := by
    rw [decide_eq_decide, ← Int32.toInt_inj, b, z, nI_eq (by omega) (by omega)]
    omega
  have e2 : decide (nI x1 - nI x2 < 0) = decide (nI x1 < nI x2) := by
    rw [decide_eq_decide, Int32.lt_iff_toInt_lt, Int32.lt_iff_toInt_lt, a, z, n1, n2]
    omega
  have e3 : decide (0 < nI y1 - nI y2) = decide (nI y2 < nI y1) := by
    rw [decide_eq_decide, Int32.lt_iff_toInt_lt, Int32.lt_iff_toInt_lt, b, z, n3, n4]
    omega
  have e4 : decide (0 < nI x1 - nI x2) = decide (nI x2 < nI x1) := by
    rw [decide_eq_decide, Int32.lt_iff_toInt_lt, Int32.lt_iff_toInt_lt, a, z, n1, n2]
    omega
  have e5 : decide (nI y1 - nI y2 < 0) = decide (nI y1 < nI y2) := by
    rw [decide_eq_decide, Int32.lt_iff_toInt_lt, Int32.lt_iff_toInt_lt, b, z, n3, n4]
    omega
  rw [e1, e2, e3, e4, e5]
theorem pmB_sy (a b c d : Int32) : pmB a b c d = pmB b a d c := by
  unfold pmB
  rw [show decide (c = d) = decide (d = c) from decide_eq_decide.mpr eq_comm]
  congr 1
  exact Bool.or_comm _ _
theorem up_gd {g : Nat → Int32} {B i : Nat} {l : List Int32} (h : i < B) : (up g B l).getD i 0 = g i := by
  rw [List.getD_eq_getElem?_getD, up_lt h]
  rfl
/-- a move: the class's beside the reference's -/
theorem Lv_mv {B TN S : Nat} {K K' : CK} (h : Lv B TN K K') (hn : CG K B TN S) (hn' : CG K' B TN S) (hr : rng K B) : Lv B TN (mvC K B) (gmK false K' B) ∧ Lm B (mvC K B) (gmK false K' B) := by
  obtain ⟨a1, a2, a3, a4, a5, a6, a7⟩ := h
  have hB := hn.1.2.2.2.2.1
  obtain ⟨L, hL1, hL2, eL, hb⟩ := hr
  obtain ⟨l1, l2, l3, l4, l5, l6, l7, l8, l9, l10, l11⟩ := hn.1.1
  obtain ⟨m1, m2, m3, m4, m5, m6, m7, m8, m9, m10, m11⟩ := hn'.1.1
  -- who meets whom
  have hq : ∀ i j, i < B → j < B → i ≠ j → nmQ false K'.1.1 (paU K'.1.1 K'.2.1.2.1 B K'.2.1.2.2.2.2.2.2.1) (phU K'.1.1 K'.2.1.2.1 K'.2.1.2.2.1 B) i j = mtB ((paU K.1.1 K.2.1.2.1 B K.2.1.2.2.2.2.2.2.1).getD i 0 - (paU K.1.1 K.2.1.2.1 B K.2.1.2.2.2.2.2.2.1).getD j 0) ((ptU K.1.1 K.2.1.2.1 K.2.1.2.2.1 B K.2.1.2.2.2.2.2.2.2.1).getD i 0 - (ptU K.1.1 K.2.1.2.1 K.2.1.2.2.1 B K.2.1.2.2.2.2.2.2.2.1).getD j 0) := by
    intro i j hi hj hij
    obtain ⟨p, c, g1, g2, g3, g4⟩ := hb i hi
    obtain ⟨p', c', g1', g2', g3', g4'⟩ := hb j hj
    obtain ⟨r, k1, k2⟩ := pl_nI hL2 g1
    obtain ⟨r', k1', k2'⟩ := pl_nI hL2 g1'
    obtain ⟨s, k3, k4⟩ := pl_nI (L := L) (p := (p + c) % (2 * L)) hL2 (Nat.mod_lt _ (by omega))
    obtain ⟨s', k3', k4'⟩ := pl_nI (L := L) (p := (p' + c') % (2 * L)) hL2 (Nat.mod_lt _ (by omega))
    unfold nmQ paU phU ptU
    rw [up_gd hi, up_gd hj, up_gd hi, up_gd hj, up_gd hi, up_gd hj, up_gd hi, up_gd hj, decide_eq_false hij]
    unfold fwI
    rw [← a1, ← (a6 i hi).2.1, ← (a6 j hj).2.1, ← (a6 i hi).2.2, ← (a6 j hj).2.2, eL, g3, g3', g4, g4', fw_nI hL1 hL2 g1 g2, fw_nI hL1 hL2 g1' g2', k2, k2', k4, k4', mtB_pm k1 k1' k3 k3']
    rfl
  have hpm : ∀ i j, i < B → j < B → i ≠ j → nmQ false K'.1.1 (paU K'.1.1 K'.2.1.2.1 B K'.2.1.2.2.2.2.2.2.1) (phU K'.1.1 K'.2.1.2.1 K'.2.1.2.2.1 B) j i = nmQ false K'.1.1 (paU K'.1.1 K'.2.1.2.1 B K'.2.1.2.2.2.2.2.2.1) (phU K'.1.1 K'.2.1.2.1 K'.2.1.2.2.1 B) i j := by
    intro i j hi hj hij
    unfold nmQ
    rw [decide_eq_false hij, decide_eq_false (fun e => hij e.symm), pmB_sy]
  have e0 : mvK3 K.1.1 B K.2.1.2.2.1 (ksK K) = nqO (fun i j => mtB ((paU K.1.1 K.2.1.2.1 B K.2.1.2.2.2.2.2.2.1).getD i 0 - (paU K.1.1 K.2.1.2.1 B K.2.1.2.2.2.2.2.2.1).getD j 0) ((ptU K.1.1 K.2.1.2.1 K.2.1.2.2.1 B K.2.1.2.2.2.2.2.2.2.1).getD i 0 - (ptU K.1.1 K.2.1.2.1 K.2.1.2.2.1 B K.2.1.2.2.2.2.2.2.2.1).getD j 0)) B B 0 (K.2.1.2.2.2.2.2.2.2.2.2, mtU B K.2.1.2.2.2.2.2.2.2.2.1, K.1.2.2.2.2.2.2.2) := nwO_q hB B 0 (K.2.1.2.2.2.2.2.2.2.2.2, mtU B K.2.1.2.2.2.2.2.2.2.2.1, K.1.2.2.2.2.2.2.2) (by omega) ((up_len (by rw [l9]; omega)).trans l9)
  obtain ⟨n1, n2, n3⟩ := nn_eq (q := fun i j => mtB ((paU K.1.1 K.2.1.2.1 B K.2.1.2.2.2.2.2.2.1).getD i 0 - (paU K.1.1 K.2.1.2.1 B K.2.1.2.2.2.2.2.2.1).getD j 0) ((ptU K.1.1 K.2.1.2.1 K.2.1.2.2.1 B K.2.1.2.2.2.2.2.2.2.1).getD i 0 - (ptU K.1.1 K.2.1.2.1 K.2.1.2.2.1 B K.2.1.2.2.2.2.2.2.2.1).getD j 0)) (f := nmQ false K'.1.1 (paU K'.1.1 K'.2.1.2.1 B K'.2.1.2.2.2.2.2.2.1) (phU K'.1.1 K'.2.1.2.1 K'.2.1.2.2.1 B)) (B := B) (fun i j h1 h2 => hq i j (by omega) h2 (by omega)) (fun i j h1 h2 => (hpm i j (by omega) h2 (by omega)).trans (hq i j (by omega) h2 (by omega))) (fun i => by unfold nmQ; rw [decide_eq_true rfl]; rfl) hB (g := K.1.2.2.2.2.2.2.2) l10 m10 l9 m9
  rw [← e0, a5] at n1 n2 n3
  refine ⟨⟨a1, a2, a3, a4, n3, fun b hb2 => ⟨(a6 b hb2).1, ?_, (a6 b hb2).2.2⟩, a7⟩, n1, n2⟩
  show (phU K.1.1 K.2.1.2.1 K.2.1.2.2.1 B).getD b 0 = (phU K'.1.1 K'.2.1.2.1 K'.2.1.2.2.1 B).getD b 0
  unfold phU
  rw [up_gd hb2, up_gd hb2]
  unfold fwI
  rw [a1, (a6 b hb2).2.1, (a6 b hb2).2.2]
theorem rng_mv {B : Nat} {K : CK} (h : rng K B) : rng (mvC K B) B := by
  obtain ⟨L, hL1, hL2, eL, hb⟩ := h
  refine ⟨L, hL1, hL2, eL, fun b hb2 => ?_⟩
  obtain ⟨p, c, g1, g2, g3, g4⟩ := hb b hb2
  refine ⟨(p + c) % (2 * L), c, Nat.mod_lt _ (by omega), g2, ?_, g4⟩
  show (phU K.1.1 K.2.1.2.1 K.2.1.2.2.1 B).getD b 0 = _
  unfold phU
  rw [up_gd hb2]
  unfold fwI
  rw [eL, g3, g4, fw_nI hL1 hL2 g1 g2]
theorem rng_lv {B TN : Nat} {K K' : CK} (h : Lv B TN K K') (hr : rng K B) : rng K' B := by
  obtain ⟨L, hL1, hL2, eL, hb⟩ := hr
  refine ⟨L, hL1, hL2, h.1.symm.trans eL, fun b hb2 => ?_⟩
  obtain ⟨p, c, g1, g2, g3, g4⟩ := hb b hb2
  exact ⟨p, c, g1, g2, (h.2.2.2.2.2.1 b hb2).2.1.symm.trans g3, (h.2.2.2.2.2.1 b hb2).2.2.symm.trans g4⟩
/-- a Talk's hour sees what there is -/
theorem hr_lv {B TN : Nat} {K K' : CK} {T : TT} (h : Lv B TN K K') (hm : Lm B K K') (hb : bT B T) (hB : B ≤ 5) : T_hr K.2.1.1 K.2.1.2.2.2.2.2.2.2.2.1 K.2.1.2.2.2.2.2.2.2.2.2 K.1.2.1 T = T_hr K'.2.1.1 K'.2.1.2.2.2.2.2.2.2.2.1 K'.2.1.2.2.2.2.2.2.2.2.2 K'.1.2.1 T := by
  obtain ⟨i, j, hi, hj, hij, e1, e2⟩ := hb
  have ht : ∃ w, w < B ∧ T_turn T = nI w := by
    unfold T_turn
    split
    · exact ⟨i, hi, e1⟩
    · exact ⟨j, hj, e2⟩
  obtain ⟨w, hw, ew⟩ := ht
  unfold T_hr
  rw [ew, e1, e2, nI_clamp (by omega), nI_clamp (by omega), nI_clamp (by omega), hm.1 i j hi hj hij, (h.2.2.2.2.2.1 w hw).1, hm.2 w hw, h.2.1]
theorem take_gd {l : List TT} {n : Nat} (h : n ≤ l.length) : l.take n = (List.range n).map (fun t => l.getD t dT) := by
  apply List.ext_getElem?
  intro j
  rw [List.getElem?_map, List.getElem?_take]
  by_cases hj : j < n
  · rw [if_pos hj, List.getElem?_range hj, getT_at (by omega)]
    rfl
  · rw [if_neg hj, List.getElem?_eq_none (by rw [List.length_range]; omega)]
    rfl
theorem take_lv {B TN : Nat} {K K' : CK} (h : Lv B TN K K') (h1 : TN ≤ K.2.2.length) (h2 : TN ≤ K'.2.2.length) : K.2.2.take TN = K'.2.2.take TN := by
  rw [take_gd h1, take_gd h2]
  exact List.map_congr_left (fun t ht => h.2.2.2.2.2.2 t (List.mem_range.mp ht))
theorem mapUp_gd {f : TT → TT} {n t : Nat} {l : List TT} (h : t < n) (hl : t < l.length) : (mapUp f n l).getD t dT = f (l.getD t dT) := by
  unfold mapUp
  rw [List.getD_eq_getElem?_getD, List.getElem?_append_left (by rw [List.length_map, List.length_take]; omega), List.getElem?_map, List.getElem?_take, if_pos h, getT_at hl]
  rfl
theorem fold_congr {f g : TT → Int32} : ∀ (l : List TT) (a : Int32), (∀ T ∈ l, f T = g T) → l.foldl (fun a T => a + f T) a = l.foldl (fun a T => a + g T) a
  | [], _, _ => rfl
  | T :: l, a, h => by
    show l.foldl _ (a + f T) = l.foldl _ (a + g T)
    rw [h T List.mem_cons_self]
    exact fold_congr l _ (fun U hU => h U (List.mem_cons_of_mem _ hU))
theorem mem_gd {l : List TT} {n : Nat} {T : TT} (h : n ≤ l.length) (hT : T ∈ l.take n) : ∃ t, t < n ∧ l.getD t dT = T := by
  rw [take_gd h] at hT
  obtain ⟨t, ht, e⟩ := List.mem_map.mp hT
  exact ⟨t, List.mem_range.mp ht, e⟩
theorem Lv_tk {B TN : Nat} {K K' : CK} (h : Lv B TN K K') (hm : Lm B K K') (hb : ∀ t, t < TN → bT B (K.2.2.getD t dT)) (hB : B ≤ 5) (h1 : TN ≤ K.2.2.length) (h2 : TN ≤ K'.2.2.length) : Lv B TN (tkC K TN) (tkC K' TN) := by
  have ht := take_lv h h1 h2
  obtain ⟨a1, a2, a3, a4, a5, a6, a7⟩ := h
  refine ⟨a1, a2, ?_, ?_, a5, a6, fun t htt => ?_⟩
  · show K.1.2.2.1 + 1 = K'.1.2.2.1 + 1
    rw [a3]
  · show T_wd K.2.1.1 K.2.1.2.2.2.2.2.2.2.2.1 K.2.1.2.2.2.2.2.2.2.2.2 K.1.2.1 K.1.2.2.2.2.2.2.1 (K.2.2.take TN) = T_wd K'.2.1.1 K'.2.1.2.2.2.2.2.2.2.2.1 K'.2.1.2.2.2.2.2.2.2.2.2 K'.1.2.1 K'.1.2.2.2.2.2.2.1 (K'.2.2.take TN)
    unfold T_wd
    rw [a4, ← ht]
    refine fold_congr (f := fun T => (T_hr K.2.1.1 K.2.1.2.2.2.2.2.2.2.2.1 K.2.1.2.2.2.2.2.2.2.2.2 K.1.2.1 T).1) (g := fun T => (T_hr K'.2.1.1 K'.2.1.2.2.2.2.2.2.2.2.1 K'.2.1.2.2.2.2.2.2.2.2.2 K'.1.2.1 T).1) _ _ (fun T hT => ?_)
    obtain ⟨t, h3, h4⟩ := mem_gd h1 hT
    rw [hr_lv ⟨a1, a2, a3, a4, a5, a6, a7⟩ hm (by rw [← h4]; exact hb t h3) hB]
  · show (mapUp (fun T => (T_hr K.2.1.1 K.2.1.2.2.2.2.2.2.2.2.1 K.2.1.2.2.2.2.2.2.2.2.2 K.1.2.1 T).2) TN K.2.2).getD t dT = (mapUp (fun T => (T_hr K'.2.1.1 K'.2.1.2.2.2.2.2.2.2.2.1 K'.2.1.2.2.2.2.2.2.2.2.2 K'.1.2.1 T).2) TN K'.2.2).getD t dT
    rw [mapUp_gd htt (by omega), mapUp_gd htt (by omega), ← a7 t htt]
    rw [hr_lv ⟨a1, a2, a3, a4, a5, a6, a7⟩ hm (hb t htt) hB]
theorem tk_bT {B TN : Nat} {K : CK} (hb : ∀ t, t < TN → bT B (K.2.2.getD t dT)) (h1 : TN ≤ K.2.2.length) : ∀ t, t < TN → bT B ((tkC K TN).2.2.getD t dT) := fun t ht => by
  show bT B ((mapUp (fun T => (T_hr K.2.1.1 K.2.1.2.2.2.2.2.2.2.2.1 K.2.1.2.2.2.2.2.2.2.2.2 K.1.2.1 T).2) TN K.2.2).getD t dT)
  rw [mapUp_gd ht (by omega)]
  exact bT_of (hb t ht) (T_pass_2 _ _ _ _ _)
theorem hrC_tk (K : CK) (B TN : Nat) : hrC K B TN = tkC (mvC K B) TN := rfl
/-- a Canal of the class, of the reference, whose hours go alike -/
def HV (K : CK) (B TN S : Nat) : Prop := CG K B TN S ∧ rng K B ∧ ∀ t, t < TN → bT B (K.2.2.getD t dT)
theorem HV_hr {K : CK} {B TN S : Nat} (h : HV K B TN S) : HV (hrC K B TN) B TN S := ⟨CG_hr h.1, rng_mv h.2.1, by
  rw [hrC_tk]
  exact tk_bT (K := mvC K B) h.2.2 (by have := CG6 (CG_mv h.1); have := h.1.1.2.2.2.2.2.1; omega)⟩
theorem Lv_hr {K K' : CK} {B TN S : Nat} (h : Lv B TN K K') (hn : HV K B TN S) (hn' : CG K' B TN S) : Lv B TN (hrC K B TN) (ghK false K' B TN) ∧ Lm B (hrC K B TN) (ghK false K' B TN) := by
  obtain ⟨a, b⟩ := Lv_mv h hn.1 hn' hn.2.1
  have h6 := hn.1.1.2.2.2.2.2.1
  exact ⟨Lv_tk a b hn.2.2 hn.1.1.2.2.2.2.1 (by have := CG6 (CG_mv hn.1); omega) (by have := CG6 (CG_gm false hn'); omega), b⟩
theorem CG_tk {K : CK} {B TN S : Nat} (h : CG K B TN S) : CG (tkC K TN) B TN S := CG_on h (KOK_tk h.2.1)
theorem CG_gh {K : CK} {B TN S : Nat} (fog : Bool) (h : CG K B TN S) : CG (ghK fog K B TN) B TN S := CG_tk (CG_gm fog h)
theorem itC_s (K : CK) (B TN n : Nat) : itC K B TN (n + 1) = itC (hrC K B TN) B TN n := rfl
theorem HV_it {B TN S : Nat} : ∀ (n : Nat) (K : CK), HV K B TN S → HV (itC K B TN n) B TN S
  | 0, _, h => h
  | n + 1, K, h => HV_it n _ (HV_hr h)
theorem Lv_it {B TN S : Nat} : ∀ (n : Nat) (K K' : CK), Lv B TN K K' → HV K B TN S → CG K' B TN S → Lv B TN (itC K B TN n) (ghN K' B TN n)
  | 0, _, _, h, _, _ => h
  | n + 1, K, K', h, hn, hn' => Lv_it n _ _ (Lv_hr h hn hn').1 (HV_hr hn) (CG_gh false hn')

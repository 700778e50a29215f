/-! The reference's cells; a Canal laid flat -/
/-- hasCut, hasMemory, highest, taped, pos, begun, sort, value, fault, wrongAt -/
abbrev PZ : Type := Bool × Bool × Int32 × Int32 × Int32 × Int32 × Int32 × Int32 × Int32 × Int32
/-- st, isKept, draft, tape, saidBy, byPace, lanes, sizes, cells, before -/
abbrev AZ : Type := List Int32 × List Int32 × List Int32 × List Int32 × List Int32 × List Int32 × List Int32 × List Int32 × List Int32 × List Int32
/-- all but what hours change: the reader's, (bestCode, bestMuch), torn, (openSum, wordSum, allWays), rows -/
abbrev ZT : Type := PZ × (Int32 × Int32) × Int32 × (Int64 × Int64 × Int64) × AZ
/-- endMany, lostMany, wordMany, pairMany -/
abbrev C4 : Type := Int32 × Int32 × Int32 × Int32
def mO (z : ZT) (c : C4) : MC := .inr (5, [.ref 1, .ref 2, .ref 3, .ref 4, .int (bI z.1.1), .int (bI z.1.2.1), .int z.1.2.2.1, .ref 5, .int z.1.2.2.2.1, .int z.1.2.2.2.2.1, .int z.1.2.2.2.2.2.1, .int z.1.2.2.2.2.2.2.1, .int z.1.2.2.2.2.2.2.2.1, .int z.1.2.2.2.2.2.2.2.2.1, .int z.1.2.2.2.2.2.2.2.2.2, .int c.1, .int c.2.1, .int c.2.2.1, .int c.2.2.2, .ref 6, .ref 7, .ref 8, .ref 9, .int z.2.1.1, .int z.2.1.2, .long z.2.2.2.1.1, .long z.2.2.2.1.2.1, .long z.2.2.2.1.2.2, .ref 10, .ref 11, .ref 12, .ref 13, .ref 14, .int z.2.2.1, .ref 15])
/-- 1 st, 2 now, 3 isKept, 4 draft, 5 tape, 6 endBy, 7 was, 8 meets, 9 others, 10 saidBy, 11 byPace, 12 lanes, 13 sizes, 14 cells, 15 before -/
def mH (z : ZT) (now eb wa ms mt : List Int32) (c : C4) : MH := [mO z c, .inl (0, z.2.2.2.2.1), .inl (0, now), .inl (1, z.2.2.2.2.2.1), .inl (0, z.2.2.2.2.2.2.1), .inl (0, z.2.2.2.2.2.2.2.1), .inl (0, eb), .inl (0, wa), .inl (0, ms), .inl (0, mt), .inl (0, z.2.2.2.2.2.2.2.2.1), .inl (0, z.2.2.2.2.2.2.2.2.2.1), .inl (0, z.2.2.2.2.2.2.2.2.2.2.1), .inl (0, z.2.2.2.2.2.2.2.2.2.2.2.1), .inl (0, z.2.2.2.2.2.2.2.2.2.2.2.2.1), .inl (0, z.2.2.2.2.2.2.2.2.2.2.2.2.2)]
theorem i64_lt {a b : Int32} : a.toInt64 < b.toInt64 ↔ a < b := by
  rw [Int64.lt_iff_toInt_lt, Int32.lt_iff_toInt_lt, Int32.toInt_toInt64, Int32.toInt_toInt64]
section IN
variable (xs : List Int32) (d : Nat) (h : MH)
set_option maxRecDepth 100000 in
theorem sp_in (v a b : Int32) : Ev xs d 110 0 [some (.long v.toInt64), none, some (.long a.toInt64), none, some (.long b.toInt64), none] [] h (some (.int (bI (wiI v a b)))) h := by
  unfold wiI
  refine ev_go 3 (fun _ => rfl) ?_
  by_cases c : v < a
  · rw [decide_eq_false (fun n => n c)]
    refine ev_if_lt rfl rfl (fun _ => ?_) (fun n => absurd ((lg_cmp_lt _ _).mpr (i64_lt.mpr c)) n)
    exact ev_end 2 rfl
  · rw [decide_eq_true c]
    refine ev_if_lt rfl rfl (fun n => absurd n (fun n => c (i64_lt.mp ((lg_cmp_lt _ _).mp n)))) (fun _ => ?_)
    refine ev_go 3 (fun _ => rfl) ?_
    by_cases c2 : b < v
    · rw [decide_eq_false (fun n => n c2)]
      refine ev_if_gt rfl rfl (fun _ => ?_) (fun n => absurd ((lg_cmp_gt _ _).mpr (i64_lt.mpr c2)) n)
      exact ev_end 2 rfl
    · rw [decide_eq_true c2]
      refine ev_if_gt rfl rfl (fun n => absurd n (fun n => c2 (i64_lt.mp ((lg_cmp_gt _ _).mp n)))) (fun _ => ?_)
      exact ev_end 3 rfl
theorem sp_flag (b : Bool) : Ev xs d 111 0 [some (.int (bI b))] [] h (some (.int (bI b))) h := by
  cases b with
  | true => exact ev_end 5 rfl
  | false => exact ev_end 4 rfl
theorem sp_upTo (v m : Int32) : Ev xs d 112 0 [some (.int v), some (.int m)] [] h (some (.int (mnI m v))) h := by
  unfold mnI
  refine ev_go 2 (fun _ => rfl) ?_
  by_cases c : v ≤ m
  · refine ev_ic_le rfl rfl (fun _ => ?_) (fun n => absurd (c) n)
    by_cases c2 : v < m
    · rw [if_pos c2]
      exact ev_end 2 rfl
    · rw [if_neg c2, show m = v from Int32.le_antisymm (i32_nlt c2) c]
      exact ev_end 2 rfl
  · refine ev_ic_le rfl rfl (fun n => absurd n (c)) (fun _ => ?_)
    rw [if_neg (fun n => c (Int32.le_of_lt n))]
    exact ev_end 3 rfl
theorem sp_part (v : Int32) : Ev xs (d + 1) 132 0 [some (.int v)] [] h (some (.int (bI (wiI v 0 1)))) h := by
  refine ev_go 4 (fun _ => rfl) ?_
  refine ev_call (y' := 110) rfl rfl rfl rfl (sp_in xs d h v 0 1) ?_
  cases wiI v 0 1 <;> exact ev_end 1 rfl
theorem sp_far (v : Int32) : Ev xs (d + 1) 161 0 [some (.int v)] [] h (some (.int (bI (wiI v 0 100)))) h := by
  refine ev_go 4 (fun _ => rfl) ?_
  refine ev_call (y' := 110) rfl rfl rfl rfl (sp_in xs d h v 0 100) ?_
  cases wiI v 0 100 <;> exact ev_end 1 rfl
end IN
/-! lists laid one behind another -/
theorem fm_len {f : Nat → List Int32} {m : Nat} (hf : ∀ j, (f j).length = m) : ∀ n, ((List.range n).flatMap f).length = m * n
  | 0 => rfl
  | n + 1 => by
    rw [List.range_succ, List.flatMap_append, List.length_append, fm_len hf n, List.flatMap_singleton, hf, Nat.mul_succ]
theorem fm_get {f : Nat → List Int32} {m i k : Nat} (hf : ∀ j, (f j).length = m) (hk : k < m) : ∀ n, i < n → ((List.range n).flatMap f)[m * i + k]? = (f i)[k]?
  | 0, h => by omega
  | n + 1, h => by
    rw [List.range_succ, List.flatMap_append, List.flatMap_singleton]
    by_cases c : i < n
    · have : m * i + k < m * n := Nat.lt_of_lt_of_le (Nat.add_lt_add_left hk _) (by rw [← Nat.mul_succ]; exact Nat.mul_le_mul_left m c)
      rw [List.getElem?_append_left (by rw [fm_len hf]; exact this)]
      exact fm_get hf hk n c
    · have e : i = n := by omega
      subst e
      rw [List.getElem?_append_right (by rw [fm_len hf]; omega), fm_len hf, Nat.add_sub_cancel_left]
theorem fm_congr {f g : Nat → List Int32} {n : Nat} (h : ∀ j, j < n → g j = f j) : (List.range n).flatMap g = (List.range n).flatMap f := by
  rw [List.flatMap_def, List.flatMap_def]
  congr 1
  exact List.map_congr_left (fun j hj => h j (List.mem_range.mp hj))
theorem fm_set {f g : Nat → List Int32} {m i k : Nat} {v : Int32} (hf : ∀ j, (f j).length = m) (hk : k < m) (hg : ∀ j, j ≠ i → g j = f j) (hi : g i = (f i).set k v) : ∀ n, i < n → ((List.range n).flatMap f).set (m * i + k) v = (List.range n).flatMap g
  | 0, h => by omega
  | n + 1, h => by
    rw [List.range_succ, List.flatMap_append, List.flatMap_singleton, List.flatMap_append, List.flatMap_singleton]
    by_cases c : i < n
    · have : m * i + k < m * n := Nat.lt_of_lt_of_le (Nat.add_lt_add_left hk _) (by rw [← Nat.mul_succ]; exact Nat.mul_le_mul_left m c)
      rw [List.set_append_left _ _ (by rw [fm_len hf]; exact this), fm_set hf hk hg hi n c, hg n (by omega)]
    · have e : i = n := by omega
      subst e
      rw [List.set_append_right _ _ (by rw [fm_len hf]; omega), fm_len hf, Nat.add_sub_cancel_left, hi, fm_congr (fun j hj => hg j (by omega))]
def fl3 (a b c : List Int32) (i : Nat) : List Int32 := [a.getD i 0, b.getD i 0, c.getD i 0]
def flT (T : TT) : List Int32 := [T.1, T.2.1, T.2.2.1, T.2.2.2.1, T.2.2.2.2.1, bI T.2.2.2.2.2.1, T.2.2.2.2.2.2.1, T.2.2.2.2.2.2.2.1]
def flR (l : List TT) (t : Nat) : List Int32 := flT (l.getD t dT)
def flA (I : CI) : List Int32 := [I.1, I.2.1, I.2.2.1]
def flB (A : CA) : List Int32 := (List.range 5).flatMap (fl3 A.1 A.2.1 A.2.2.1)
def flS (A : CA) : List Int32 := (List.range 6).flatMap (fl3 A.2.2.2.1 A.2.2.2.2.1 A.2.2.2.2.2.1)
def flW (l : List TT) : List Int32 := (List.range 6).flatMap (flR l)
def flK (K : CK) : List Int32 := flA K.1 ++ (flB K.2.1 ++ ([K.1.2.2.2.1] ++ (flW K.2.2 ++ ([K.1.2.2.2.2.1, K.1.2.2.2.2.2.1] ++ flS K.2.1))))
theorem flB_len (A : CA) : (flB A).length = 15 := fm_len (m := 3) (fun _ => rfl) 5
theorem flS_len (A : CA) : (flS A).length = 18 := fm_len (m := 3) (fun _ => rfl) 6
theorem flW_len (l : List TT) : (flW l).length = 48 := fm_len (m := 8) (fun _ => rfl) 6
theorem flK_len (K : CK) : (flK K).length = 87 := by
  unfold flK
  rw [List.length_append, List.length_append, List.length_append, List.length_append, List.length_append, flB_len, flW_len, flS_len]
  rfl
theorem ap_r {a b : List Int32} {n k : Nat} (h : a.length = n) : (a ++ b)[n + k]? = b[k]? := by
  rw [List.getElem?_append_right (by omega), h, Nat.add_sub_cancel_left]
theorem ap_l {a b : List Int32} {k : Nat} (h : k < a.length) : (a ++ b)[k]? = a[k]? := List.getElem?_append_left h
theorem st_r {a b : List Int32} {n k : Nat} {v : Int32} (h : a.length = n) : (a ++ b).set (n + k) v = a ++ b.set k v := by
  rw [List.set_append_right _ _ (by omega), h, Nat.add_sub_cancel_left]
theorem st_l {a b : List Int32} {k : Nat} {v : Int32} (h : k < a.length) : (a ++ b).set k v = a.set k v ++ b := List.set_append_left _ _ h
/-- what stands where -/
theorem fq_0 {K : CK} : (flK K)[0]? = some K.1.1 := rfl
theorem fq_1 {K : CK} : (flK K)[1]? = some K.1.2.1 := rfl
theorem fq_2 {K : CK} : (flK K)[2]? = some K.1.2.2.1 := rfl
theorem fq_B {K : CK} {b w : Nat} (hb : b < 5) (hw : w ≤ 2) : (flK K)[3 + 3 * b + w]? = some (gtK K w b) := by
  unfold flK
  rw [Nat.add_assoc, ap_r (n := 3) rfl, ap_l (by rw [flB_len]; omega)]
  unfold flB
  rw [fm_get (m := 3) (fun _ => rfl) (by omega) 5 hb]
  match w, hw with
  | 0, _ => rfl
  | 1, _ => rfl
  | 2, _ => rfl
theorem fq_18 {K : CK} : (flK K)[18]? = some K.1.2.2.2.1 := by
  unfold flK
  rw [show 18 = 3 + 15 from rfl, ap_r (n := 3) rfl, show 15 = 15 + 0 from rfl, ap_r (flB_len _)]
  rfl
theorem fq_T {K : CK} {t k : Nat} {T : TT} (hT : K.2.2[t]? = some T) (ht : t < 6) (hk : k < 8) : (flK K)[19 + 8 * t + k]? = (flT T)[k]? := by
  unfold flK
  rw [show 19 + 8 * t + k = 3 + (15 + (1 + (8 * t + k))) by omega, ap_r (n := 3) rfl, ap_r (flB_len _), ap_r (n := 1) rfl, ap_l (by rw [flW_len]; omega)]
  unfold flW
  rw [fm_get (m := 8) (fun _ => rfl) hk 6 ht]
  unfold flR
  rw [List.getD_eq_getElem?_getD, hT]
  rfl
theorem fq_67 {K : CK} : (flK K)[67]? = some K.1.2.2.2.2.1 := by
  unfold flK
  rw [show 67 = 3 + (15 + (1 + (48 + 0))) from rfl, ap_r (n := 3) rfl, ap_r (flB_len _), ap_r (n := 1) rfl, ap_r (flW_len _)]
  rfl
theorem fq_68 {K : CK} : (flK K)[68]? = some K.1.2.2.2.2.2.1 := by
  unfold flK
  rw [show 68 = 3 + (15 + (1 + (48 + 1))) from rfl, ap_r (n := 3) rfl, ap_r (flB_len _), ap_r (n := 1) rfl, ap_r (flW_len _)]
  rfl
theorem fq_S {K : CK} {i k : Nat} (hi : i < 6) (hk : k < 3) : (flK K)[69 + 3 * i + k]? = (fl3 K.2.1.2.2.2.1 K.2.1.2.2.2.2.1 K.2.1.2.2.2.2.2.1 i)[k]? := by
  unfold flK
  rw [show 69 + 3 * i + k = 3 + (15 + (1 + (48 + (2 + (3 * i + k))))) by omega, ap_r (n := 3) rfl, ap_r (flB_len _), ap_r (n := 1) rfl, ap_r (flW_len _), ap_r (n := 2) rfl]
  unfold flS
  rw [fm_get (m := 3) (fun _ => rfl) hk 6 hi]
/-- and what is put there -/
theorem fs_0 {K : CK} {v : Int32} : (flK K).set 0 v = flK ((v, K.1.2), K.2) := rfl
theorem fs_1 {K : CK} {v : Int32} : (flK K).set 1 v = flK ((K.1.1, v, K.1.2.2), K.2) := rfl
theorem fs_2 {K : CK} {v : Int32} : (flK K).set 2 v = flK ((K.1.1, K.1.2.1, v, K.1.2.2.2), K.2) := rfl
theorem fs_18 {K : CK} {v : Int32} : (flK K).set 18 v = flK ((K.1.1, K.1.2.1, K.1.2.2.1, v, K.1.2.2.2.2), K.2) := by
  unfold flK
  rw [show 18 = 3 + (15 + 0) from rfl, st_r (n := 3) rfl, st_r (flB_len _)]
  rfl
theorem fs_67 {K : CK} {v : Int32} : (flK K).set 67 v = flK ((K.1.1, K.1.2.1, K.1.2.2.1, K.1.2.2.2.1, v, K.1.2.2.2.2.2), K.2) := by
  unfold flK
  rw [show 67 = 3 + (15 + (1 + (48 + 0))) from rfl, st_r (n := 3) rfl, st_r (flB_len _), st_r (n := 1) rfl, st_r (flW_len _)]
  rfl
theorem fs_68 {K : CK} {v : Int32} : (flK K).set 68 v = flK ((K.1.1, K.1.2.1, K.1.2.2.1, K.1.2.2.2.1, K.1.2.2.2.2.1, v, K.1.2.2.2.2.2.2), K.2) := by
  unfold flK
  rw [show 68 = 3 + (15 + (1 + (48 + 1))) from rfl, st_r (n := 3) rfl, st_r (flB_len _), st_r (n := 1) rfl, st_r (flW_len _)]
  rfl
theorem gd_self {l : List Int32} {k : Nat} {v : Int32} (h : k < l.length) : (l.set k v).getD k 0 = v := by
  rw [List.getD_eq_getElem?_getD, List.getElem?_set_self h]
  rfl
theorem gd_ne {l : List Int32} {k j : Nat} {v : Int32} (h : k ≠ j) : (l.set k v).getD j 0 = l.getD j 0 := by
  rw [List.getD_eq_getElem?_getD, List.getElem?_set_ne h, ← List.getD_eq_getElem?_getD]
theorem fs_B {K : CK} {b w : Nat} {v : Int32} (hK : CL K) (hb : b < 5) (hw : w ≤ 2) : (flK K).set (3 + 3 * b + w) v = flK (putK K w b v) := by
  obtain ⟨l1, l2, l3, -⟩ := hK
  unfold flK
  rw [Nat.add_assoc, st_r (n := 3) rfl, st_l (by rw [flB_len]; omega)]
  match w, hw with
  | 0, _ =>
    have e : (flB K.2.1).set (3 * b + 0) v = flB (K.2.1.1.set b v, K.2.1.2) := by
      unfold flB
      refine fm_set (m := 3) (fun _ => rfl) (by omega) (fun j hj => ?_) ?_ 5 hb
      · unfold fl3
        rw [gd_ne (fun q => hj q.symm)]
      · unfold fl3
        rw [gd_self (by omega)]
        rfl
    rw [e]
    rfl
  | 1, _ =>
    have e : (flB K.2.1).set (3 * b + 1) v = flB (K.2.1.1, K.2.1.2.1.set b v, K.2.1.2.2) := by
      unfold flB
      refine fm_set (m := 3) (fun _ => rfl) (by omega) (fun j hj => ?_) ?_ 5 hb
      · unfold fl3
        rw [gd_ne (fun q => hj q.symm)]
      · unfold fl3
        rw [gd_self (by omega)]
        rfl
    rw [e]
    rfl
  | 2, _ =>
    have e : (flB K.2.1).set (3 * b + 2) v = flB (K.2.1.1, K.2.1.2.1, K.2.1.2.2.1.set b v, K.2.1.2.2.2) := by
      unfold flB
      refine fm_set (m := 3) (fun _ => rfl) (by omega) (fun j hj => ?_) ?_ 5 hb
      · unfold fl3
        rw [gd_ne (fun q => hj q.symm)]
      · unfold fl3
        rw [gd_self (by omega)]
        rfl
    rw [e]
    rfl
theorem fs_T {K : CK} {t k : Nat} {v : Int32} {T T' : TT} (hT : K.2.2[t]? = some T) (ht : t < 6) (hk : k < 8) (he : flT T' = (flT T).set k v) : (flK K).set (19 + 8 * t + k) v = flK (setR K t T') := by
  have hl := (List.getElem?_eq_some_iff.mp hT).1
  unfold flK
  rw [show 19 + 8 * t + k = 3 + (15 + (1 + (8 * t + k))) by omega, st_r (n := 3) rfl, st_r (flB_len _), st_r (n := 1) rfl, st_l (by rw [flW_len]; omega)]
  have e : (flW K.2.2).set (8 * t + k) v = flW (K.2.2.set t T') := by
    unfold flW
    refine fm_set (m := 8) (fun _ => rfl) hk (fun j hj => ?_) ?_ 6 ht
    · unfold flR
      rw [List.getD_eq_getElem?_getD, List.getElem?_set_ne (fun q => hj q.symm), ← List.getD_eq_getElem?_getD]
    · unfold flR
      rw [List.getD_eq_getElem?_getD, List.getElem?_set_self hl, List.getD_eq_getElem?_getD, hT]
      exact he
  rw [e]
  rfl

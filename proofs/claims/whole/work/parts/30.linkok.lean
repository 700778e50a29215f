/-! The link tables are the program's -/
def mt_cn : List String := [RX0, RX1, RX2, RX3, RX4, RX5, RJ6, RL]
set_option maxRecDepth 100000 in
theorem mt_cn_ok : mt_nm.map (fun m => m.cls) = mt_cl.map (fun c => mt_cn.getD c "") := by decide +kernel
theorem nmT_cls {y : Nat} (h : y < 203) : (nmT y).cls = mt_cn.getD (mt_cl.getD y 99) "" := by
  have h1 : mt_nm.length = 203 := by decide +kernel
  have h2 : mt_cl.length = 203 := by decide +kernel
  have e : (mt_nm.map (fun m => m.cls))[y]? = (mt_cl.map (fun c => mt_cn.getD c ""))[y]? := by rw [mt_cn_ok]
  rw [List.getElem?_map, List.getElem?_map, List.getElem?_eq_getElem (by omega), List.getElem?_eq_getElem (by omega)] at e
  have e2 := Option.some.inj e
  have a1 : nmT y = mt_nm[y] := by
    unfold nmT
    rw [List.getD_eq_getElem?_getD, List.getElem?_eq_getElem (by omega)]
    rfl
  have a2 : mt_cl.getD y 99 = mt_cl[y] := by
    rw [List.getD_eq_getElem?_getD, List.getElem?_eq_getElem (by omega)]
    rfl
  rw [a1, a2]
  exact e2
def tyC : List (Nat → FieldType) := [tyX0, tyX1, tyX2, tyX3, tyX4, tyX5]
def ck_w (l : List Cond) : Bool := l.all (fun w => decide (w ∈ lw_tbl) && goodWord w)
theorem ck_w_ok {l : List Cond} (h : ck_w l = true) : ∀ w ∈ l, w ∈ TBw := fun w hw => by
  have := List.all_eq_true.mp h w hw
  rw [Bool.and_eq_true] at this
  exact List.mem_filter.mpr ⟨of_decide_eq_true this.1, this.2⟩
theorem uw_0 : ck_w (u_ws RX0 TX0 19) = true := by decide +kernel
theorem uw_1 : ck_w (u_ws RX1 TX1 9) = true := by decide +kernel
theorem uw_2 : ck_w (u_ws RX2 TX2 10) = true := by decide +kernel
theorem uw_3 : ck_w (u_ws RX3 TX3 11) = true := by decide +kernel
theorem uw_4 : ck_w (u_ws RX4 TX4 12) = true := by decide +kernel
theorem uw_5 : ck_w (u_ws RX5 TX5 35) = true := by decide +kernel
theorem cls_ok {ci : Nat} {C : String} {T : u_T} {N : Nat} (h : vwCl[ci]? = some (C, T, N)) : (∀ w ∈ u_ws C T N, w ∈ TBw) ∧ (∀ k, k < N → parseFieldDescriptor (T k).2.2.1 = some ((tyC.getD ci (fun _ => .int)) k)) ∧ (∀ a, a < N → ∀ b, b < N → a ≠ b → (T a).2.1 ≠ (T b).2.1) := by
  match ci, h with
  | 0, h => cases h; exact ⟨ck_w_ok uw_0, tyX0_ok, nmX0⟩
  | 1, h => cases h; exact ⟨ck_w_ok uw_1, tyX1_ok, nmX1⟩
  | 2, h => cases h; exact ⟨ck_w_ok uw_2, tyX2_ok, nmX2⟩
  | 3, h => cases h; exact ⟨ck_w_ok uw_3, tyX3_ok, nmX3⟩
  | 4, h => cases h; exact ⟨ck_w_ok uw_4, tyX4_ok, nmX4⟩
  | 5, h => cases h; exact ⟨ck_w_ok uw_5, tyX5_ok, nmX5⟩
  | n + 6, h => cases h
def ck_f (own : String) (e : Nat × (Nat × Nat × FieldType × Bool) × Nat × Option String) : Bool := match vwCl[e.2.1.1]? with
  | some (C, T, N) => decide (e.2.1.1 < 100) && decide (e.2.1.2.1 < N) && decide ((tyC.getD e.2.1.1 (fun _ => .int)) e.2.1.2.1 = e.2.1.2.2.1) && decide ((T e.2.1.2.1).2.2.2 = e.2.1.2.2.2) && match e.2.2.2 with
    | none => ck_in e.2.2.1 (.fieldLink own e.1 (T e.2.1.2.1).1 (T e.2.1.2.1).2.1 (T e.2.1.2.1).2.2.1)
    | some host => ck_nw e.2.2.1 (.fieldLinkNest own e.1 (T e.2.1.2.1).1 (T e.2.1.2.1).2.1 (T e.2.1.2.1).2.2.1 host)
  | none => false
theorem ck_f_ok {own : String} {e : Nat × (Nat × Nat × FieldType × Bool) × Nat × Option String} (h : ck_f own e = true) : mm_FO vwCl TBw NWw own e.1 e.2.1.1 e.2.1.2.1 e.2.1.2.2.1 e.2.1.2.2.2 := by
  unfold ck_f at h
  split at h
  · rename_i C T N hc
    rw [Bool.and_eq_true, Bool.and_eq_true, Bool.and_eq_true, Bool.and_eq_true] at h
    obtain ⟨⟨⟨⟨h1, h2⟩, h3⟩, h4⟩, h5⟩ := h
    obtain ⟨g1, g2, g3⟩ := cls_ok hc
    refine ⟨of_decide_eq_true h1, C, T, N, _, hc, of_decide_eq_true h2, g1, g2, g3, of_decide_eq_true h3, of_decide_eq_true h4, ?_⟩
    split at h5
    · exact Or.inl (ck_in_ok h5)
    · rename_i host _
      exact Or.inr ⟨host, ck_nw_ok h5⟩
  · cases h
theorem fk_0 : (mt_fl.getD 0 []).all (ck_f RX0) = true := by decide +kernel
theorem fk_1 : (mt_fl.getD 1 []).all (ck_f RX1) = true := by decide +kernel
theorem fk_2 : (mt_fl.getD 2 []).all (ck_f RX2) = true := by decide +kernel
theorem fk_3 : (mt_fl.getD 3 []).all (ck_f RX3) = true := by decide +kernel
theorem fk_4 : (mt_fl.getD 4 []).all (ck_f RX4) = true := by decide +kernel
theorem fk_5 : (mt_fl.getD 5 []).all (ck_f RX5) = true := by decide +kernel
theorem fk_6 : (mt_fl.getD 6 []).all (ck_f RJ6) = true := by decide +kernel
theorem fk_7 : (mt_fl.getD 7 []).all (ck_f RL) = true := by decide +kernel
theorem fk_all : ∀ c, (mt_fl.getD c []).all (ck_f (mt_cn.getD c "")) = true := fun c => by
  match c with
  | 0 => exact fk_0
  | 1 => exact fk_1
  | 2 => exact fk_2
  | 3 => exact fk_3
  | 4 => exact fk_4
  | 5 => exact fk_5
  | 6 => exact fk_6
  | 7 => exact fk_7
  | n + 8 => rfl
theorem mt_cl_lt {y : Nat} (h : ¬ y < 203) : mt_cl.getD y 99 = 99 := by
  have h2 : mt_cl.length = 203 := by decide +kernel
  rw [List.getD_eq_getElem?_getD, List.getElem?_eq_none (by omega)]
  rfl
theorem fldT_ok (y idx ci k : Nat) (ty : FieldType) (fin : Bool) (h : fldT y idx = some (ci, k, ty, fin)) : mm_FO vwCl TBw NWw (nmT y).cls idx ci k ty fin := by
  unfold fldT at h
  split at h
  · rename_i q hq
    have hm := mm_lk_mem hq
    by_cases hy : y < 203
    · rw [nmT_cls hy]
      have := ck_f_ok (List.all_eq_true.mp (fk_all (mt_cl.getD y 99)) _ hm)
      have e := Option.some.inj h
      rw [e] at this
      exact this
    · rw [mt_cl_lt hy] at hm
      exact absurd hm List.not_mem_nil
  · cases h
def ck_m (y : Nat) : Bool := plainName (nmT y).cls && ck_in ((mt_pl.getD y []).getD 1 0) (.initialized (nmT y).cls) && decide ((nmT y).cls ≠ "java/lang/invoke/MethodHandle") && decide ((nmT y).cls ≠ "java/lang/invoke/VarHandle") && decide ((infT y).2.1 ≤ 21) && match (infT y).2.2.2.2 with
  | true => decide ((parseMethodDescriptor (nmT y).desc).map (fun d => d.parameters.length) = some (infT y).1) && ck_in ((mt_pl.getD y []).getD 2 0) (.static (nmT y))
  | false => decide ((parseMethodDescriptor (nmT y).desc).map (fun d => d.parameters.length + 1) = some (infT y).1) && ck_in ((mt_pl.getD y []).getD 2 0) (.instanceMethod (nmT y)) && ck_in ((mt_pl.getD y []).getD 3 0) (.selects (nmT y).cls (nmT y) (nmT y)) && decide ((infT y).2.2.2.1 < 100) && decide (vwCl[(infT y).2.2.2.1]?.map (fun q => q.1) = some (nmT y).cls)
/-- the constructors -/
def mt_ni : List Nat := [0, 25, 32, 42, 57, 109]
def ck_l (own : String) (e : Nat × (Nat × Bool) × Nat × Option String) : Bool := Nat.blt e.2.1.1 202 && !mt_ni.contains e.2.1.1 && match e.2.2.2 with
  | none => ck_in e.2.2.1 (.methodLink own e.1 (nmT e.2.1.1))
  | some host => ck_nw e.2.2.1 (.methodLinkNest own e.1 (nmT e.2.1.1) host)

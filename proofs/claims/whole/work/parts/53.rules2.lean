/-! More rules: rows by an index that is a variable, fields of a cell that is a variable, remainders -/
section RU
variable {xs : List Int32} {d y pc a k : Nat} {ls : ML} {st : List Value} {h h' : MH} {r : Option Value} {i x v : Int32} {L : List Int32}
theorem mm_arr_of {t : Nat} (ha : h[a]? = some (.inl (t, L))) : mm_arr h a t = some L := by
  unfold mm_arr
  rw [ha]
  exact if_pos rfl
theorem mm_obj_of {ci : Nat} {fs : List Value} (ha : h[a]? = some (.inr (ci, fs))) : mm_obj h a ci = some fs := by
  unfold mm_obj
  rw [ha]
  exact if_pos rfl
theorem mm_ra_of {t : Nat} (ha : h[a]? = some (.inl (t, L))) (hi : mm_ix i = some k) (hk : L[k]? = some v) : mm_ra h a t i = some v := by
  unfold mm_ra
  rw [hi]
  dsimp only
  rw [mm_arr_of ha]
  exact hk
theorem mm_wa_of {t : Nat} (ha : h[a]? = some (.inl (t, L))) (hi : mm_ix i = some k) (hk : k < L.length) : mm_wa h a t i x = some (h.set a (.inl (t, L.set k x))) := by
  unfold mm_wa
  rw [hi]
  dsimp only
  rw [mm_arr_of ha]
  exact if_pos hk
theorem mm_isB_1 (ha : h[a]? = some (.inl (1, L))) : mm_isB h a = true := by
  unfold mm_isB
  rw [ha]
  rfl
theorem mm_isB_2 (ha : h[a]? = some (.inl (2, L))) : mm_isB h a = false := by
  unfold mm_isB
  rw [ha]
  rfl
theorem ev_iald (hf : fetT y pc = some .iaload) (ha : h[a]? = some (.inl (0, L))) (hi : mm_ix i = some k) (hk : L[k]? = some v) (hv : Ev xs d y (pc + 1) ls (.int v :: st) h r h') : Ev xs d y pc ls (.int i :: .ref a :: st) h r h' := by
  refine ev_s1 hf rfl ?_ hv
  show mm_r1 (pc + 1) st h ((mm_ra h a 0 i).map .int) = _
  rw [mm_ra_of ha hi hk]
  rfl
theorem ev_iast (hf : fetT y pc = some .iastore) (ha : h[a]? = some (.inl (0, L))) (hi : mm_ix i = some k) (hk : k < L.length) (hv : Ev xs d y (pc + 1) ls st (h.set a (.inl (0, L.set k x))) r h') : Ev xs d y pc ls (.int x :: .int i :: .ref a :: st) h r h' := by
  refine ev_s1 hf rfl ?_ hv
  show mm_w1 (pc + 1) st (mm_wa h a 0 i x) = _
  rw [mm_wa_of ha hi hk]
  rfl
theorem ev_zald (hf : fetT y pc = some .baload) (ha : h[a]? = some (.inl (1, L))) (hi : mm_ix i = some k) (hk : L[k]? = some v) (hv : Ev xs d y (pc + 1) ls (.int v :: st) h r h') : Ev xs d y pc ls (.int i :: .ref a :: st) h r h' := by
  refine ev_s1 hf rfl ?_ hv
  unfold mm_s1
  dsimp only
  rw [mm_isB_1 ha, mm_ra_of ha hi hk]
  rfl
theorem ev_bald (hf : fetT y pc = some .baload) (ha : h[a]? = some (.inl (2, L))) (hi : mm_ix i = some k) (hk : L[k]? = some v) (hv : Ev xs d y (pc + 1) ls (.int v :: st) h r h') : Ev xs d y pc ls (.int i :: .ref a :: st) h r h' := by
  refine ev_s1 hf rfl ?_ hv
  unfold mm_s1
  dsimp only
  rw [mm_isB_2 ha, mm_ra_of ha hi hk]
  rfl
theorem ev_zast (hf : fetT y pc = some .bastore) (ha : h[a]? = some (.inl (1, L))) (hi : mm_ix i = some k) (hk : k < L.length) {b : Bool} (hv : Ev xs d y (pc + 1) ls st (h.set a (.inl (1, L.set k (bI b)))) r h') : Ev xs d y pc ls (.int (bI b) :: .int i :: .ref a :: st) h r h' := by
  refine ev_s1 hf rfl ?_ hv
  unfold mm_s1
  dsimp only
  rw [mm_isB_1 ha]
  dsimp only
  rw [mm_wa_of ha hi hk, if_pos (by cases b <;> decide)]
  rfl
theorem ev_bast (hf : fetT y pc = some .bastore) (ha : h[a]? = some (.inl (2, L))) (hi : mm_ix i = some k) (hk : k < L.length) (hv : Ev xs d y (pc + 1) ls st (h.set a (.inl (2, L.set k x.toInt8.toInt32))) r h') : Ev xs d y pc ls (.int x :: .int i :: .ref a :: st) h r h' := by
  refine ev_s1 hf rfl ?_ hv
  unfold mm_s1
  dsimp only
  rw [mm_isB_2 ha]
  dsimp only
  rw [mm_wa_of ha hi hk]
  rfl
theorem ev_aald {t q : Nat} {fs : List Value} (hf : fetT y pc = some .aaload) (ha : h[a]? = some (.inr (t, fs))) (ht : 100 ≤ t) (hi : mm_ix i = some k) (hk : fs[k]? = some (.ref q)) (hv : Ev xs d y (pc + 1) ls (.ref q :: st) h r h') : Ev xs d y pc ls (.int i :: .ref a :: st) h r h' := by
  refine ev_s1 hf rfl ?_ hv
  show mm_r1 (pc + 1) st h ((mm_rr h a i).map .ref) = _
  have : mm_rr h a i = some q := by
    unfold mm_rr
    rw [hi]
    dsimp only
    have e : mm_row h a = some fs := by
      unfold mm_row
      rw [ha]
      exact if_pos ht
    rw [e]
    dsimp only
    rw [hk]
  rw [this]
  rfl
theorem ev_gf {idx ci j : Nat} {ty : FieldType} {fin : Bool} {fs : List Value} {w : Value} (hf : fetT y pc = some (.getfield idx)) (hfl : fldT y idx = some (ci, j, ty, fin)) (ha : h[a]? = some (.inr (ci, fs))) (hj : fs[j]? = some w) (hv : Ev xs d y (pc + 3) ls (w :: st) h r h') : Ev xs d y pc ls (.ref a :: st) h r h' := by
  refine ev_s1 hf rfl ?_ hv
  show mm_r1 (pc + 3) st h (mm_gf (fldT y idx) h a) = _
  rw [hfl]
  unfold mm_gf
  dsimp only
  rw [mm_obj_of ha]
  dsimp only
  rw [hj]
  rfl
theorem ev_pf {idx ci j : Nat} {ty : FieldType} {fs : List Value} {w : Value} (hf : fetT y pc = some (.putfield idx)) (hfl : fldT y idx = some (ci, j, ty, false)) (ha : h[a]? = some (.inr (ci, fs))) (hj : j < fs.length) (hw : mm_fit ty w = true) (hv : Ev xs d y (pc + 3) ls st (h.set a (.inr (ci, fs.set j w))) r h') : Ev xs d y pc ls (w :: .ref a :: st) h r h' := by
  refine ev_s1 hf rfl ?_ hv
  show mm_w1 (pc + 3) st (mm_pf (fldT y idx) h a w) = _
  rw [hfl]
  unfold mm_pf
  dsimp only
  rw [mm_obj_of ha]
  dsimp only
  rw [if_pos hj, if_pos hw]
  rfl
/-- the remainder -/
def rmI (x z : Int32) : Int32 := x - x / z * z
theorem ev_irem {z : Int32} (hf : fetT y pc = some .irem) (hz : ¬ z = 0) (hv : Ev xs d y (pc + 1) ls (.int (rmI x z) :: st) h r h') : Ev xs d y pc ls (.int z :: .int x :: st) h r h' := by
  refine ev_s0 hf ?_ hv
  show (if z = 0 then none else some (pc + 1, ls, .int (x - x / z * z) :: st)) = _
  rw [if_neg hz]
  rfl
end RU
theorem mm_ix_nI {n : Nat} (h : n < 2 ^ 31) : mm_ix (nI n) = some n := by
  unfold mm_ix
  rw [if_neg (nI_pos h), nI_clamp h]
/-- tell -/
def T_tell (T : TT) (k : Nat) : Int32 := match k with
  | 0 => T.1
  | 1 => T.2.1
  | 2 => T.2.2.1
  | 3 => T.2.2.2.1
  | 4 => T.2.2.2.2.1
  | 5 => T.2.2.2.2.2.2.1
  | 6 => T.2.2.2.2.2.2.2.1
  | 7 => T_turn T
  | 8 => bI T.2.2.2.2.2.1
  | 9 => T.2.2.2.2.2.2.2.2.1
  | _ => T.2.2.2.2.2.2.2.2.2
set_option maxRecDepth 100000 in
theorem sp_tell (xs : List Int32) (d : Nat) (T : TT) (k : Nat) (hk : k ≤ 10) : Ev xs (d + 1) 35 0 [some (.ref 0), some (.int (nI k))] [] [tkc T] (some (.int (T_tell T k))) [tkc T] := by
  match k, hk with
  | 0, _ => exact ev_end 5 rfl
  | 1, _ => exact ev_end 5 rfl
  | 2, _ => exact ev_end 5 rfl
  | 3, _ => exact ev_end 5 rfl
  | 4, _ => exact ev_end 5 rfl
  | 5, _ => exact ev_end 5 rfl
  | 6, _ => exact ev_end 5 rfl
  | 7, _ =>
    refine ev_go 3 (fun _ => rfl) ?_
    refine ev_call (y' := 36) rfl rfl rfl rfl (sp_turn xs d T) ?_
    exact ev_end 1 rfl
  | 8, _ =>
    obtain ⟨a, b, nd, sa, si, no, en, lo, es, ls⟩ := T
    cases no with
    | false => exact ev_end 8 rfl
    | true => exact ev_end 8 rfl
  | 9, _ => exact ev_end 5 rfl
  | 10, _ => exact ev_end 5 rfl
  | n + 11, h => exact absurd h (by omega)

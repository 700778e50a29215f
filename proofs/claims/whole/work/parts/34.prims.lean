/-! What the small machine answers itself, the machine answers -/
def ck_ki (own : String) (e : Nat × Int32 × Nat) : Bool := ck_in e.2.2 (.constant own e.1 e.2.1)
def ck_kl (own : String) (e : Nat × Int64 × Nat) : Bool := ck_in e.2.2 (.constantLong own e.1 e.2.1)
def ck_mx (own : String) (e : Nat × Bool × Nat) : Bool := match e.2.1 with
  | true => ck_in e.2.2 (.methodLink own e.1 Lib.Math.max.name)
  | false => ck_in e.2.2 (.methodLink own e.1 Lib.Math.min.name)
theorem ki_all : ∀ c, (mt_ki.getD c []).all (ck_ki (mt_cn.getD c "")) = true := fun c => by
  match c with
  | 0 => decide +kernel
  | 1 => decide +kernel
  | 2 => decide +kernel
  | 3 => decide +kernel
  | 4 => decide +kernel
  | 5 => decide +kernel
  | 6 => decide +kernel
  | 7 => decide +kernel
  | n + 8 => rfl
theorem kl_all : ∀ c, (mt_kl.getD c []).all (ck_kl (mt_cn.getD c "")) = true := fun c => by
  match c with
  | 0 => decide +kernel
  | 1 => decide +kernel
  | 2 => decide +kernel
  | 3 => decide +kernel
  | 4 => decide +kernel
  | 5 => decide +kernel
  | 6 => decide +kernel
  | 7 => decide +kernel
  | n + 8 => rfl
theorem mx_all : ∀ c, (mt_mx.getD c []).all (ck_mx (mt_cn.getD c "")) = true := fun c => by
  match c with
  | 0 => decide +kernel
  | 1 => decide +kernel
  | 2 => decide +kernel
  | 3 => decide +kernel
  | 4 => decide +kernel
  | 5 => decide +kernel
  | 6 => decide +kernel
  | 7 => decide +kernel
  | n + 8 => rfl
theorem mathW : ck_w [.static Lib.Math.max.name, .static Lib.Math.min.name, .initialized "java/lang/Math"] = true := by decide +kernel
theorem mathC1 : Cond.code Lib.Math.max.name Lib.Math.max.code 2 (some .int) ∈ TBw := List.mem_filter.mpr ⟨List.mem_of_getElem? (i := 754) (by decide +kernel), rfl⟩
theorem mathC2 : Cond.code Lib.Math.min.name Lib.Math.min.code 2 (some .int) ∈ TBw := List.mem_filter.mpr ⟨List.mem_of_getElem? (i := 669) (by decide +kernel), rfl⟩
theorem lk_own {α : Type} {T : List (List (Nat × α))} {f : String → Nat × α → Bool} {y idx : Nat} {a : α} (hall : ∀ c, (T.getD c []).all (f (mt_cn.getD c "")) = true) (hT : T.getD 99 [] = []) (h : mm_lk (T.getD (mt_cl.getD y 99) []) idx = some a) : f (nmT y).cls (idx, a) = true := by
  have hm := mm_lk_mem h
  by_cases hy : y < 203
  · rw [nmT_cls hy]
    exact List.all_eq_true.mp (hall (mt_cl.getD y 99)) _ hm
  · rw [mt_cl_lt hy, hT] at hm
    exact absurd hm List.not_mem_nil
set_option maxHeartbeats 4000000 in
theorem prm0T_ok {l : Launch} {D : va_G} {tys : List (ClassId × FieldType)} {s00 : State} {lo : Nat} {exA : Nat → Nat} {xs : List Int32} (hX : va_X (exA 1000000) xs.length (fun j => xs.getD j 0) s00 s00.heap) (hlo : exA 1000000 < lo) : mm_PO fetT infT (prm0T xs) l D vwCl tys s00 lo exA TBw NWw nmT codeT := by
  intro y d i st n st' hq p e s m args below meth c H locs R cells slots Q A ad pc sl C hR hex hS hsl hf kk
  obtain ⟨hx, hb, hml, hr, hlocks, hown, hts, hK, hA, hAlo, hSt⟩ := C
  have hd := fetT_ok _ _ _ hf
  have hXs : va_X (exA 1000000) xs.length (fun j => xs.getD j 0) s s.heap := (hX.moved hSt.2.2.1).kept (hSt.2.1 _ hlo)
  have hbl : exA 1000000 < s.heap.size := Nat.lt_of_lt_of_le hlo hSt.1
  have hbA : ¬ A (exA 1000000) := fun z => absurd (hAlo _ z) (Nat.not_le.mpr hlo)
  unfold prm0T at hq
  split at hq
  · split at hq
    · rename_i a0 b0 st0 pl hl hc
      cases hq
      have hw := lk_own (T := mt_mx) (f := ck_mx) mx_all rfl hl
      have hct := Nat.le_of_ble_eq_true hc
      refine va_mmax hx hb (hml.trans hsl.symm) hown (hts _ (ck_in_ok hw)) (hts _ (ck_w_ok mathW _ (by simp))) (hts _ (ck_w_ok mathW _ (by simp))) (hts _ mathC1) (by omega) ?_ hR.2.2.1 hR.2.2.2 (mm_d1 hd rfl (by decide)) kk
      rw [mm_ct_ok]
      omega
    · rename_i a0 b0 st0 pl hl hc
      cases hq
      have hw := lk_own (T := mt_mx) (f := ck_mx) mx_all rfl hl
      have hct := Nat.le_of_ble_eq_true hc
      refine va_mmin hx hb (hml.trans hsl.symm) hown (hts _ (ck_in_ok hw)) (hts _ (ck_w_ok mathW _ (by simp))) (hts _ (ck_w_ok mathW _ (by simp))) (hts _ mathC2) (by omega) ?_ hR.2.2.1 hR.2.2.2 (mm_d1 hd rfl (by decide)) kk
      rw [mm_ct_ok]
      omega
    · cases hq
  · split at hq
    · rename_i hl
      cases hq
      exact lv_ldc hx hb hown (hts _ (ck_in_ok (lk_own (T := mt_ki) (f := ck_ki) ki_all rfl hl))) (mm_d1 hd rfl (by decide)) kk
    · cases hq
  · split at hq
    · rename_i hl
      cases hq
      exact lv_ldcw hx hb hown (hts _ (ck_in_ok (lk_own (T := mt_ki) (f := ck_ki) ki_all rfl hl))) (mm_d1 hd rfl (by decide)) kk
    · cases hq
  · split at hq
    · rename_i hl
      cases hq
      exact lv_ldc2 hx hb hown (hts _ (ck_in_ok (lk_own (T := mt_kl) (f := ck_kl) kl_all rfl hl))) (mm_d1 hd rfl (by decide)) kk
    · cases hq
  · rename_i i0 k0 st0
    split at hq
    · rename_i e0
      subst e0
      split at hq
      · rename_i j hj
        obtain ⟨h0, rfl⟩ := mm_ix_ok hj
        split at hq
        · rename_i x hx2
          cases hq
          have hlt := (List.getElem?_eq_some_iff.mp hx2).1
          have hin : vp_in i0 xs.length := fun z => by
            rcases z with z | z
            · exact h0 z
            · omega
          show W p l e R s m args below meth c H locs cells slots Q (F0 m pc sl (.int i0 :: .ref (ad 1000000) :: st0.map (mm_tv ad)))
          rw [hex _ (Nat.le_refl _)]
          refine va_sld hx hb hXs hbl hbA hS hin (mm_d1 hd rfl (by decide)) ?_
          rw [List.getD_eq_getElem?_getD, hx2]
          exact kk
        · cases hq
      · cases hq
    · cases hq
  · split at hq
    · rename_i e0
      subst e0
      cases hq
      rename_i st0
      show W p l e R s m args below meth c H locs cells slots Q (F0 m pc sl (.ref (ad 1000000) :: st0.map (mm_tv ad)))
      rw [hex _ (Nat.le_refl _)]
      exact va_slen hx hb hXs hbl hbA hS (mm_d1 hd rfl (by decide)) kk
    · cases hq
  · cases hq
theorem prmT_ok {l : Launch} {D : va_G} {tys : List (ClassId × FieldType)} {s00 : State} {lo : Nat} {exA : Nat → Nat} {xs : List Int32} (h0 : mm_PO fetT infT (prm0T xs) l D vwCl tys s00 lo exA TBw NWw nmT codeT) (hs : mm_PO fetT infT prmS l D vwCl tys s00 lo exA TBw NWw nmT codeT) : mm_PO fetT infT (prmT xs) l D vwCl tys s00 lo exA TBw NWw nmT codeT := by
  intro y d i st n st' hq
  unfold prmT at hq
  split at hq
  · rename_i q hq0
    cases hq
    exact h0 y d i st n st' hq0
  · exact hs y d i st n st' hq

theorem mm_rep {k j : Nat} : (List.replicate k (0 : Int32)).getD j 0 = 0 := by
  rw [List.getD_eq_getElem?_getD, List.getElem?_replicate]
  split <;> rfl
theorem mm_repN {k j : Nat} : (List.replicate k Value.null).getD j .null = .null := by
  rw [List.getD_eq_getElem?_getD, List.getElem?_replicate]
  split <;> rfl
theorem mm_tE_new {cA : Nat → ClassId} {ad : Nat → Nat} {t k : Nat} : mm_tE cA ad (.inl (t, List.replicate k 0)) = .inl (cA t, k, .inl (fun _ => 0)) := by
  show Sum.inl (cA t, (List.replicate k (0 : Int32)).length, Sum.inl (fun j => (List.replicate k (0 : Int32)).getD j 0)) = _
  rw [List.length_replicate]
  have : (fun j => (List.replicate k (0 : Int32)).getD j 0) = fun _ => 0 := funext fun j => mm_rep
  rw [this]
theorem mm_tE_newq {cA : Nat → ClassId} {ad : Nat → Nat} {t k : Nat} (ht : 100 ≤ t) : mm_tE cA ad (.inr (t, List.replicate k .null)) = .inl (cA t, k, .inr (.inr (.inr (.inr (fun _ => none))))) := by
  rw [mm_tE_r ht, List.length_replicate]
  have : (fun j => mm_rf ad ((List.replicate k Value.null).getD j .null)) = fun _ => none := funext fun j => by rw [mm_repN]; rfl
  rw [this]
/-- one more name -/
def mm_ad1 (ad : Nat → Nat) (n q : Nat) : Nat → Nat := fun k => if k = n then q else ad k
theorem mm_ad1_ag {ad : Nat → Nat} {n q : Nat} (h : n < 1000000) : mm_ag n ad (mm_ad1 ad n q) := ⟨fun k hk => if_neg (by omega), fun k hk => if_neg (by omega)⟩
theorem mm_ad1_at {ad : Nat → Nat} {n q : Nat} : mm_ad1 ad n q n = q := if_pos rfl
theorem va_AOA.moved {ty : FieldType} {u U : State} (hvm : u.vm.Alike U.vm) (h : va_AOA ty u) : va_AOA ty U := by
  unfold va_AOA Cond.before at h ⊢
  simp only [Cond.holds, Cond.value, beq_iff_eq] at h ⊢
  cases hc : u.vm.findClass (FieldType.array ty).toString with
  | none => simp [hc] at h
  | some comp =>
    rw [hc] at h
    rw [hvm.findClass, hc]
    simp only [Option.bind_some, Option.bind_eq_some_iff, Option.map_eq_some_iff] at h ⊢
    obtain ⟨c, hi, k, hk, hb⟩ := h
    obtain ⟨k', hk', he⟩ := hvm.2.2 _ _ hk
    refine ⟨c, ?_, k', hk', ?_⟩
    · rw [Vm.Alike.findIdx?_eq hvm _ (fun k => rfl)]
      exact hi
    · have hkind : k'.kind = k.kind := by rw [he]
      rw [hkind, hvm.findClass]
      exact hb
section MMA
variable {p : Program} {l : Launch} {e : Env} {R : Room} {s : State} {m : MethodId} {args : Array Value} {below : List Frame} {meth : Method} {c : Code} {H H0 : Heap} {locs : List Loc} {cells slots : Nat} {Q : State → Prop} {cc : ByteArray} {D : va_G} {cl : List vw_C} {tys : List (ClassId × FieldType)} {A : Nat → Prop} {TB : List Cond} {own : String} {s00 : State} {cA : Nat → ClassId}
theorem mm_push {ad : Nat → Nat} {h : MH} {x : MC} {q : Nat} {E : va_E} {H1 : Heap} (hl : h.length < 1000000) (hv : h.all (mm_vC h.length) = true) (hE : mm_tE cA (mm_ad1 ad h.length q) x = E) : mm_wd cA (mm_ad1 ad h.length q) (h ++ [x]) = mm_wd cA ad h ++ [(q, E)] := by
  rw [mm_wd_ext (mm_ad1_ag hl) hv]
  show _ ++ [(mm_ad1 ad h.length q (h.length + 0), _)] = _
  rw [Nat.add_zero, mm_ad1_at, hE]
theorem mm_newa {ad : Nat → Nat} (hx : p.tables.exec = Jvm.exec) (hb : c.code = cc) {atype : ArrayType} {ty : FieldType} (hty : newarray.typeOf atype = ty) (harr : (Cond.arrayClass (newarray.typeOf atype)).before args s = true) (hK : va_K D cl tys s) {h : MH} {sl : Array Slot} {pc : Nat} {st : List Value} (hP : va_P D cl (mm_wd cA ad h) H) (hD : va_D A (mm_wd cA ad h)) (hS : va_S A H0 H locs) (hA : ∀ q, H0.size ≤ q → A q) {t t0 : Nat} (ht : tys[t0]? = some (cA t, ty)) (hdv : defaultValue ty = .int 0) (hcb : componentBytes ty ≤ 8) {x : Int32} {k : Nat} (hix : mm_ix x = some k) (hk : k ≤ 10000) (hl : h.length < 1000000) (hv : h.all (mm_vC h.length) = true) (hvs : st.all (mm_vv h.length) = true) (hcells : cells + 1 ≤ R.cells) (hslots : slots + k ≤ R.slots) (hd : decode cc pc = .ok (.newarray atype, 2))
    (kk : ∀ (ad1 : Nat → Nat) (H1 : Heap), mm_ag h.length ad ad1 → va_P D cl (mm_wd cA ad1 (h ++ [.inl (t, List.replicate k 0)])) H1 → va_D A (mm_wd cA ad1 (h ++ [.inl (t, List.replicate k 0)])) → va_S A H0 H1 locs → W p l e R s m args below meth c H1 locs (cells + 1) (slots + k) Q (F0 m (pc + 2) sl ((Value.ref h.length :: st).map (mm_tv ad1)))) : W p l e R s m args below meth c H locs cells slots Q (F0 m pc sl ((Value.int x :: st).map (mm_tv ad))) := by
  obtain ⟨h0, rfl⟩ := mm_ix_ok hix
  refine va_newa (atype := atype) (a0 := (x.toNatClampNeg, .inl (fun _ => 0))) hx hb harr hty hK hP hD hS hA (fun cA => by rw [hdv]; rfl) h0 rfl (Nat.le_trans (Nat.mul_le_mul hk hcb) (by decide)) hcells hslots hd (fun q cA' H1 hK1 hP1 hD1 hS1 => ?_)
  have hc := mm_RA_K hK1 ht
  subst hc
  have hw := mm_push (cA := cA) (ad := ad) (h := h) (x := .inl (t, List.replicate x.toNatClampNeg 0)) (q := q) (H1 := H1) hl hv mm_tE_new
  have := kk (mm_ad1 ad h.length q) H1 (mm_ad1_ag hl) (by rw [hw]; exact hP1) (by rw [hw]; exact hD1) hS1
  rw [List.map_cons, mm_ag_L (mm_ad1_ag hl) hvs] at this
  have e : mm_tv (mm_ad1 ad h.length q) (.ref h.length) = .ref q := congrArg Value.ref mm_ad1_at
  rw [e] at this
  exact this
end MMA

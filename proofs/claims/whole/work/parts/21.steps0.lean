/-! The steps that touch no cell are the machine's -/
section MM0
variable {p : Program} {l : Launch} {e : Env} {R : Room} {s : State} {m : MethodId} {args : Array Value} {below : List Frame} {meth : Method} {c : Code} {H : Heap} {locs : List Loc} {cells slots : Nat} {Q : State → Prop} {cc : ByteArray}
theorem mm_d1 {pc : Nat} {i : Instr} {n : Nat} (h : mm_dec cc pc i) (hn : mm_len i = n) (h0 : n ≠ 0) : decode cc pc = .ok (i, n) := by
  obtain ⟨len, h1, h2⟩ := h
  rcases h2 with h2 | h2
  · exact absurd (hn.symm.trans h2) h0
  · rw [h1, h2, hn]
theorem mm_ld_ok (hx : p.tables.exec = Jvm.exec) (hb : c.code = cc) {ad : Nat → Nat} {pc pc' n nL : Nat} {ls ls' : ML} {st st' : List Value} {sl : Array Slot} {v : Option Value} (h : mm_ld pc ls st v n = some (pc', ls', st')) : ∃ x, v = some (.int x) ∧ pc' = pc + n ∧ ls' = ls ∧ st' = .int x :: st := by
  unfold mm_ld at h
  split at h
  · cases h; exact ⟨_, rfl, rfl, rfl, rfl⟩
  · cases h
theorem mm_ldl_ok {pc pc' n : Nat} {ls ls' : ML} {st st' : List Value} {v : Option Value} (h : mm_ldl pc ls st v n = some (pc', ls', st')) : ∃ x, v = some (.long x) ∧ pc' = pc + n ∧ ls' = ls ∧ st' = .long x :: st := by
  unfold mm_ldl at h
  split at h
  · cases h; exact ⟨_, rfl, rfl, rfl, rfl⟩
  · cases h
theorem mm_lda_ok {pc pc' n : Nat} {ls ls' : ML} {st st' : List Value} {v : Option Value} (h : mm_lda pc ls st v n = some (pc', ls', st')) : ∃ x, v = some (.ref x) ∧ pc' = pc + n ∧ ls' = ls ∧ st' = .ref x :: st := by
  unfold mm_lda at h
  split at h
  · cases h; exact ⟨_, rfl, rfl, rfl, rfl⟩
  · cases h
theorem mm_sto_ok {pc pc' n i : Nat} {ls ls' : ML} {st st' : List Value} {v : Value} (h : mm_sto pc ls st i v n = some (pc', ls', st')) : i < ls.length ∧ pc' = pc + n ∧ ls' = mm_st1 ls i v ∧ st' = st := by
  unfold mm_sto at h
  split at h
  · cases h; exact ⟨by assumption, rfl, rfl, rfl⟩
  · cases h
theorem mm_sto2_ok {pc pc' n i : Nat} {ls ls' : ML} {st st' : List Value} {v : Value} (h : mm_sto2 pc ls st i v n = some (pc', ls', st')) : i + 1 < ls.length ∧ pc' = pc + n ∧ ls' = mm_st2 ls i v ∧ st' = st := by
  unfold mm_sto2 at h
  split at h
  · cases h; exact ⟨by assumption, rfl, rfl, rfl⟩
  · cases h
theorem mm_go_ok {ls ls' : ML} {st st' : List Value} {t : Option Nat} {pc' : Nat} (h : mm_go ls st t = some (pc', ls', st')) : t = some pc' ∧ ls' = ls ∧ st' = st := by
  unfold mm_go at h
  split at h
  · cases h; exact ⟨rfl, rfl, rfl⟩
  · cases h
theorem mm_br_ok {pc pc' : Nat} {ls ls' : ML} {st st' : List Value} {off : Int} {P : Prop} {hP : Decidable P} (h : mm_br pc ls st off (decide P) = some (pc', ls', st')) : ∃ t, mm_to pc off = some t ∧ ls' = ls ∧ st' = st ∧ ((P ∧ pc' = t) ∨ (¬ P ∧ pc' = pc + 3)) := by
  unfold mm_br at h
  split at h
  · rename_i t ht
    by_cases hp : P
    · rw [decide_eq_true hp] at h
      cases h
      exact ⟨_, ht, rfl, rfl, Or.inl ⟨hp, rfl⟩⟩
    · rw [decide_eq_false hp] at h
      cases h
      exact ⟨_, ht, rfl, rfl, Or.inr ⟨hp, rfl⟩⟩
  · cases h
theorem mm_iinc_ok {pc pc' i : Nat} {n : Int} {ls ls' : ML} {st st' : List Value} (h : mm_iinc pc ls st i n = some (pc', ls', st')) : ∃ x, ls.getD i none = some (.int x) ∧ pc' = pc + 3 ∧ ls' = mm_st1 ls i (.int (x + Int32.ofInt n)) ∧ st' = st := by
  unfold mm_iinc at h
  split at h
  · rename_i x hx
    cases h; exact ⟨x, hx, rfl, rfl, rfl⟩
  · cases h
theorem mm_getlt {ls : ML} {i : Nat} {v : Value} (h : ls.getD i none = some v) : i < ls.length := by
  rw [List.getD_eq_getElem?_getD] at h
  cases hl : ls[i]? with
  | none => rw [hl] at h; cases h
  | some w => exact (List.getElem?_eq_some_iff.mp hl).1
set_option maxHeartbeats 4000000 in
theorem mm_s0_ok (hx : p.tables.exec = Jvm.exec) (hb : c.code = cc) {ad : Nat → Nat} {i : Instr} {pc pc' : Nat} {ls ls' : ML} {st st' : List Value} {sl : Array Slot} (hd : mm_dec cc pc i) (hl : lv_has sl ls.length (mm_as ad ls)) (h : mm_s0 i pc ls st = some (pc', ls', st'))
    (kk : ∀ sl' : Array Slot, ls'.length = ls.length → lv_has sl' ls'.length (mm_as ad ls') → W p l e R s m args below meth c H locs cells slots Q (F0 m pc' sl' (st'.map (mm_tv ad)))) : W p l e R s m args below meth c H locs cells slots Q (F0 m pc sl (st.map (mm_tv ad))) := by
  unfold mm_s0 at h
  split at h
  · cases h; exact lv_iconst hx hb (mm_d1 hd rfl (by decide)) rfl (kk _ rfl hl)
  · cases h; exact lv_bipush hx hb (mm_d1 hd rfl (by decide)) rfl (kk _ rfl hl)
  · cases h; exact lv_sipush hx hb (mm_d1 hd rfl (by decide)) rfl (kk _ rfl hl)
  · cases h; exact lv_lconst hx hb (mm_d1 hd rfl (by decide)) rfl (kk _ rfl hl)
  · obtain ⟨x, hv, rfl, rfl, rfl⟩ := mm_ld_ok hx hb (ad := ad) (nL := 0) (sl := sl) h
    exact lv_iload_n hx hb (mm_d1 hd rfl (by decide)) rfl (mm_get hl hv) (kk _ rfl hl)
  · obtain ⟨x, hv, rfl, rfl, rfl⟩ := mm_ld_ok hx hb (ad := ad) (nL := 0) (sl := sl) h
    exact lv_iload hx hb (mm_d1 hd rfl (by decide)) (mm_get hl hv) (kk _ rfl hl)
  · obtain ⟨x, hv, rfl, rfl, rfl⟩ := mm_ldl_ok h
    exact lv_lload_n hx hb (mm_d1 hd rfl (by decide)) rfl (mm_get hl hv) (kk _ rfl hl)
  · obtain ⟨x, hv, rfl, rfl, rfl⟩ := mm_ldl_ok h
    exact lv_lload hx hb (mm_d1 hd rfl (by decide)) (mm_get hl hv) (kk _ rfl hl)
  · obtain ⟨x, hv, rfl, rfl, rfl⟩ := mm_lda_ok h
    exact lv_aload_n hx hb (mm_d1 hd rfl (by decide)) rfl (mm_get hl hv) (kk _ rfl hl)
  · obtain ⟨x, hv, rfl, rfl, rfl⟩ := mm_lda_ok h
    exact lv_aload hx hb (mm_d1 hd rfl (by decide)) (mm_get hl hv) (kk _ rfl hl)
  · obtain ⟨hi, rfl, rfl, rfl⟩ := mm_sto_ok h
    exact lv_istore_n hx hb (mm_d1 hd rfl (by decide)) rfl hl hi rfl (fun sl' h' => kk sl' mm_st1_len (by rw [mm_st1_len]; exact mm_put h'))
  · obtain ⟨hi, rfl, rfl, rfl⟩ := mm_sto_ok h
    exact lv_istore hx hb (mm_d1 hd rfl (by decide)) hl hi rfl (fun sl' h' => kk sl' mm_st1_len (by rw [mm_st1_len]; exact mm_put h'))
  · obtain ⟨hi, rfl, rfl, rfl⟩ := mm_sto_ok h
    exact lv_astore_n hx hb (mm_d1 hd rfl (by decide)) rfl hl hi rfl (fun sl' h' => kk sl' mm_st1_len (by rw [mm_st1_len]; exact mm_put h'))
  · obtain ⟨hi, rfl, rfl, rfl⟩ := mm_sto_ok h
    exact lv_astore hx hb (mm_d1 hd rfl (by decide)) hl hi rfl (fun sl' h' => kk sl' mm_st1_len (by rw [mm_st1_len]; exact mm_put h'))
  · obtain ⟨hi, rfl, rfl, rfl⟩ := mm_sto2_ok h
    exact lv_lstore_n hx hb (mm_d1 hd rfl (by decide)) rfl hl hi rfl (fun sl' h' => kk sl' (by unfold mm_st2; rw [List.length_set, mm_st1_len]) (by unfold mm_st2; rw [List.length_set, mm_st1_len]; exact mm_put2 h'))
  · obtain ⟨hi, rfl, rfl, rfl⟩ := mm_sto2_ok h
    exact lv_lstore hx hb (mm_d1 hd rfl (by decide)) hl hi rfl (fun sl' h' => kk sl' (by unfold mm_st2; rw [List.length_set, mm_st1_len]) (by unfold mm_st2; rw [List.length_set, mm_st1_len]; exact mm_put2 h'))
  · obtain ⟨x, hv, rfl, rfl, rfl⟩ := mm_iinc_ok h
    obtain ⟨k, hk⟩ : ∃ k : Nat, (mm_as ad ls)[k]? = some (_, Value.int x) := List.getElem?_of_mem (mm_as_mem.mpr ⟨.int x, by
      rw [List.getD_eq_getElem?_getD] at hv
      rename_i k0 n0 st0
      show ls[k0]? = some (some (.int x))
      cases hl9 : ls[k0]? with
      | none => rw [hl9] at hv; cases hv
      | some w => rw [hl9] at hv; exact congrArg some hv, rfl⟩)
    exact lv_iinc hx hb (mm_d1 hd rfl (by decide)) hl hk rfl (mm_getlt hv) rfl (fun sl' h' => kk sl' mm_st1_len (by rw [mm_st1_len]; exact mm_put h'))
  · cases h; exact lv_iadd hx hb (mm_d1 hd rfl (by decide)) (kk _ rfl hl)
  · cases h; exact lv_isub hx hb (mm_d1 hd rfl (by decide)) (kk _ rfl hl)
  · cases h; exact lv_imul hx hb (mm_d1 hd rfl (by decide)) (kk _ rfl hl)
  · split at h
    · cases h
    · rename_i hne
      cases h; exact lv_idiv hx hb (mm_d1 hd rfl (by decide)) hne (kk _ rfl hl)
  · split at h
    · cases h
    · rename_i hne
      cases h; exact lv_irem hx hb (mm_d1 hd rfl (by decide)) hne (kk _ rfl hl)
  · cases h; exact lv_ineg hx hb (mm_d1 hd rfl (by decide)) (kk _ rfl hl)
  · cases h; exact lv_iand hx hb (mm_d1 hd rfl (by decide)) (kk _ rfl hl)
  · cases h; exact lv_ior hx hb (mm_d1 hd rfl (by decide)) (kk _ rfl hl)
  · cases h; exact lv_ishl hx hb (mm_d1 hd rfl (by decide)) (kk _ rfl hl)
  · cases h; exact lv_ishr hx hb (mm_d1 hd rfl (by decide)) (kk _ rfl hl)
  · cases h; exact lv_iushr hx hb (mm_d1 hd rfl (by decide)) rfl (kk _ rfl hl)
  · cases h; exact lv_ladd hx hb (mm_d1 hd rfl (by decide)) (kk _ rfl hl)
  · cases h; exact lv_lmul hx hb (mm_d1 hd rfl (by decide)) (kk _ rfl hl)
  · split at h
    · cases h
    · rename_i hne
      cases h; exact lv_ldiv hx hb (mm_d1 hd rfl (by decide)) hne (kk _ rfl hl)
  · split at h
    · cases h
    · rename_i hne
      cases h; exact lv_lrem hx hb (mm_d1 hd rfl (by decide)) hne (kk _ rfl hl)
  · cases h; exact W.lcmp hx hb (mm_d1 hd rfl (by decide)) (kk _ rfl hl)
  · cases h; exact lv_i2l hx hb (mm_d1 hd rfl (by decide)) rfl (kk _ rfl hl)
  · cases h; exact lv_l2i hx hb (mm_d1 hd rfl (by decide)) rfl (kk _ rfl hl)
  · cases h; exact lv_i2b hx hb (mm_d1 hd rfl (by decide)) rfl (kk _ rfl hl)
  · cases h; exact lv_i2s hx hb (mm_d1 hd rfl (by decide)) rfl (kk _ rfl hl)
  · cases h; exact lv_dup hx hb (mm_d1 hd rfl (by decide)) rfl (kk _ rfl hl)
  · cases h; exact lv_dup hx hb (mm_d1 hd rfl (by decide)) rfl (kk _ rfl hl)
  · cases h; exact lv_pop hx hb (mm_d1 hd rfl (by decide)) rfl (kk _ rfl hl)
  · cases h; exact lv_pop hx hb (mm_d1 hd rfl (by decide)) rfl (kk _ rfl hl)
  · cases h; exact lv_dup2_11 hx hb (mm_d1 hd rfl (by decide)) rfl rfl (kk _ rfl hl)
  · obtain ⟨a, rfl, rfl⟩ := mm_go_ok h
    exact lv_goto hx hb (mm_d1 hd rfl (by decide)) (mm_to_ok a) (kk _ rfl hl)
  · obtain ⟨t, b, rfl, rfl, hq⟩ := mm_br_ok h
    rcases hq with ⟨a, rfl⟩ | ⟨a, rfl⟩
    · exact lv_if_eq hx hb (mm_d1 hd rfl (by decide)) (mm_to_ok b) (fun _ => kk _ rfl hl) (fun z => absurd a z)
    · exact lv_if_eq hx hb (mm_d1 hd rfl (by decide)) (mm_to_ok b) (fun z => absurd z a) (fun _ => kk _ rfl hl)
  · obtain ⟨t, b, rfl, rfl, hq⟩ := mm_br_ok h
    rcases hq with ⟨a, rfl⟩ | ⟨a, rfl⟩
    · exact lv_if_ne hx hb (mm_d1 hd rfl (by decide)) (mm_to_ok b) (fun _ => kk _ rfl hl) (fun z => absurd z a)
    · exact lv_if_ne hx hb (mm_d1 hd rfl (by decide)) (mm_to_ok b) (fun z => absurd z a) (fun _ => kk _ rfl hl)
  · obtain ⟨t, b, rfl, rfl, hq⟩ := mm_br_ok h
    rcases hq with ⟨a, rfl⟩ | ⟨a, rfl⟩
    · exact lv_if_lt hx hb (mm_d1 hd rfl (by decide)) (mm_to_ok b) (fun _ => kk _ rfl hl) (fun z => absurd a z)
    · exact lv_if_lt hx hb (mm_d1 hd rfl (by decide)) (mm_to_ok b) (fun z => absurd z a) (fun _ => kk _ rfl hl)
  · obtain ⟨t, b, rfl, rfl, hq⟩ := mm_br_ok h
    rcases hq with ⟨a, rfl⟩ | ⟨a, rfl⟩
    · exact lv_if_ge hx hb (mm_d1 hd rfl (by decide)) (mm_to_ok b) (fun _ => kk _ rfl hl) (fun z => absurd a z)
    · exact lv_if_ge hx hb (mm_d1 hd rfl (by decide)) (mm_to_ok b) (fun z => absurd z a) (fun _ => kk _ rfl hl)
  · obtain ⟨t, b, rfl, rfl, hq⟩ := mm_br_ok h
    rcases hq with ⟨a, rfl⟩ | ⟨a, rfl⟩
    · exact lv_if_gt hx hb (mm_d1 hd rfl (by decide)) (mm_to_ok b) (fun _ => kk _ rfl hl) (fun z => absurd a z)
    · exact lv_if_gt hx hb (mm_d1 hd rfl (by decide)) (mm_to_ok b) (fun z => absurd z a) (fun _ => kk _ rfl hl)
  · obtain ⟨t, b, rfl, rfl, hq⟩ := mm_br_ok h
    rcases hq with ⟨a, rfl⟩ | ⟨a, rfl⟩
    · exact lv_if_le hx hb (mm_d1 hd rfl (by decide)) (mm_to_ok b) (fun _ => kk _ rfl hl) (fun z => absurd a z)
    · exact lv_if_le hx hb (mm_d1 hd rfl (by decide)) (mm_to_ok b) (fun z => absurd z a) (fun _ => kk _ rfl hl)
  · obtain ⟨t, b, rfl, rfl, hq⟩ := mm_br_ok h
    rcases hq with ⟨a, rfl⟩ | ⟨a, rfl⟩
    · exact lv_icmp_eq hx hb (mm_d1 hd rfl (by decide)) (mm_to_ok b) (fun _ => kk _ rfl hl) (fun z => absurd a z)
    · exact lv_icmp_eq hx hb (mm_d1 hd rfl (by decide)) (mm_to_ok b) (fun z => absurd z a) (fun _ => kk _ rfl hl)
  · obtain ⟨t, b, rfl, rfl, hq⟩ := mm_br_ok h
    rcases hq with ⟨a, rfl⟩ | ⟨a, rfl⟩
    · exact lv_icmp_ne hx hb (mm_d1 hd rfl (by decide)) (mm_to_ok b) (fun _ => kk _ rfl hl) (fun z => absurd z a)
    · exact lv_icmp_ne hx hb (mm_d1 hd rfl (by decide)) (mm_to_ok b) (fun z => absurd z a) (fun _ => kk _ rfl hl)
  · obtain ⟨t, b, rfl, rfl, hq⟩ := mm_br_ok h
    rcases hq with ⟨a, rfl⟩ | ⟨a, rfl⟩
    · exact lv_icmp_lt hx hb (mm_d1 hd rfl (by decide)) (mm_to_ok b) (fun _ => kk _ rfl hl) (fun z => absurd a z)
    · exact lv_icmp_lt hx hb (mm_d1 hd rfl (by decide)) (mm_to_ok b) (fun z => absurd z a) (fun _ => kk _ rfl hl)
  · obtain ⟨t, b, rfl, rfl, hq⟩ := mm_br_ok h
    rcases hq with ⟨a, rfl⟩ | ⟨a, rfl⟩
    · exact lv_icmp_ge hx hb (mm_d1 hd rfl (by decide)) (mm_to_ok b) (fun _ => kk _ rfl hl) (fun z => absurd a z)
    · exact lv_icmp_ge hx hb (mm_d1 hd rfl (by decide)) (mm_to_ok b) (fun z => absurd z a) (fun _ => kk _ rfl hl)
  · obtain ⟨t, b, rfl, rfl, hq⟩ := mm_br_ok h
    rcases hq with ⟨a, rfl⟩ | ⟨a, rfl⟩
    · exact lv_icmp_gt hx hb (mm_d1 hd rfl (by decide)) (mm_to_ok b) (fun _ => kk _ rfl hl) (fun z => absurd a z)
    · exact lv_icmp_gt hx hb (mm_d1 hd rfl (by decide)) (mm_to_ok b) (fun z => absurd z a) (fun _ => kk _ rfl hl)
  · obtain ⟨t, b, rfl, rfl, hq⟩ := mm_br_ok h
    rcases hq with ⟨a, rfl⟩ | ⟨a, rfl⟩
    · exact lv_icmp_le hx hb (mm_d1 hd rfl (by decide)) (mm_to_ok b) (fun _ => kk _ rfl hl) (fun z => absurd a z)
    · exact lv_icmp_le hx hb (mm_d1 hd rfl (by decide)) (mm_to_ok b) (fun z => absurd z a) (fun _ => kk _ rfl hl)
  · rename_i dflt lo hi offs x st0
    obtain ⟨len, hd1, -⟩ := hd
    split at h
    · rename_i h1
      obtain ⟨a, rfl, rfl⟩ := mm_go_ok h
      exact lv_tableOut hx hb hd1 (Or.inl h1) (mm_to_ok a) (kk _ rfl hl)
    · rename_i h1
      split at h
      · rename_i h2
        obtain ⟨a, rfl, rfl⟩ := mm_go_ok h
        exact lv_tableOut hx hb hd1 (Or.inr h2) (mm_to_ok a) (kk _ rfl hl)
      · rename_i h2
        split at h
        · rename_i off ho
          obtain ⟨a, rfl, rfl⟩ := mm_go_ok h
          exact lv_tableIn hx hb hd1 h1 h2 ho (mm_to_ok a) (kk _ rfl hl)
        · cases h
  · cases h
end MM0

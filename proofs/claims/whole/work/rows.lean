section
/-! THE SMALL MACHINE: pure steps of the bytecode over a list of cells whose places are their names. -/
/-- a cell: a row of numbers (0 ints, 1 booleans, 2 bytes), or an object (its class's number below 100) or a row of references (100 and on) -/
abbrev MC : Type := (Nat × List Int32) ⊕ (Nat × List Value)
abbrev MH : Type := List MC
abbrev ML : Type := List (Option Value)
/-- a local set to a value of one word, of two words -/
def mm_st1 (ls : ML) (i : Nat) (v : Value) : ML := match i with
  | 0 => ls.set 0 (some v)
  | j + 1 => match ls.getD j none with
    | some (.long _) => (ls.set j none).set (j + 1) (some v)
    | some (.double _) => (ls.set j none).set (j + 1) (some v)
    | _ => ls.set (j + 1) (some v)
def mm_st2 (ls : ML) (i : Nat) (v : Value) : ML := (mm_st1 ls i v).set (i + 1) none
/-- where a jump goes -/
def mm_to (pc : Nat) (off : Int) : Option Nat := match (pc : Int) + off with
  | .ofNat t => some t
  | .negSucc _ => none
def mm_ld (pc : Nat) (ls : ML) (st : List Value) (v : Option Value) (n : Nat) : Option (Nat × ML × List Value) := match v with
  | some (.int x) => some (pc + n, ls, .int x :: st)
  | _ => none
def mm_ldl (pc : Nat) (ls : ML) (st : List Value) (v : Option Value) (n : Nat) : Option (Nat × ML × List Value) := match v with
  | some (.long x) => some (pc + n, ls, .long x :: st)
  | _ => none
def mm_lda (pc : Nat) (ls : ML) (st : List Value) (v : Option Value) (n : Nat) : Option (Nat × ML × List Value) := match v with
  | some (.ref x) => some (pc + n, ls, .ref x :: st)
  | _ => none
def mm_sto (pc : Nat) (ls : ML) (st : List Value) (i : Nat) (v : Value) (n : Nat) : Option (Nat × ML × List Value) := if i < ls.length then some (pc + n, mm_st1 ls i v, st) else none
def mm_sto2 (pc : Nat) (ls : ML) (st : List Value) (i : Nat) (v : Value) (n : Nat) : Option (Nat × ML × List Value) := if i + 1 < ls.length then some (pc + n, mm_st2 ls i v, st) else none
def mm_go (ls : ML) (st : List Value) (t : Option Nat) : Option (Nat × ML × List Value) := match t with
  | some t => some (t, ls, st)
  | none => none
def mm_br (pc : Nat) (ls : ML) (st : List Value) (off : Int) (b : Bool) : Option (Nat × ML × List Value) := match mm_to pc off with
  | some t => match b with
    | true => some (t, ls, st)
    | false => some (pc + 3, ls, st)
  | none => none
def mm_iinc (pc : Nat) (ls : ML) (st : List Value) (i : Nat) (n : Int) : Option (Nat × ML × List Value) := match ls.getD i none with
  | some (.int x) => some (pc + 3, mm_st1 ls i (.int (x + Int32.ofInt n)), st)
  | _ => none
/-- the steps that touch no cell -/
def mm_s0 (i : Instr) (pc : Nat) (ls : ML) (st : List Value) : Option (Nat × ML × List Value) := match i, st with
  | .iconst n, st => some (pc + 1, ls, .int (Int32.ofInt n) :: st)
  | .bipush n, st => some (pc + 2, ls, .int ((Int8.ofInt n).toInt32) :: st)
  | .sipush n, st => some (pc + 3, ls, .int ((Int16.ofInt n).toInt32) :: st)
  | .lconst n, st => some (pc + 1, ls, .long (Int64.ofNat n) :: st)
  | .iload_n k, st => mm_ld pc ls st (ls.getD k none) 1
  | .iload k, st => mm_ld pc ls st (ls.getD k none) 2
  | .lload_n k, st => mm_ldl pc ls st (ls.getD k none) 1
  | .lload k, st => mm_ldl pc ls st (ls.getD k none) 2
  | .aload_n k, st => mm_lda pc ls st (ls.getD k none) 1
  | .aload k, st => mm_lda pc ls st (ls.getD k none) 2
  | .istore_n k, .int x :: st => mm_sto pc ls st k (.int x) 1
  | .istore k, .int x :: st => mm_sto pc ls st k (.int x) 2
  | .astore_n k, .ref x :: st => mm_sto pc ls st k (.ref x) 1
  | .astore k, .ref x :: st => mm_sto pc ls st k (.ref x) 2
  | .lstore_n k, .long x :: st => mm_sto2 pc ls st k (.long x) 1
  | .lstore k, .long x :: st => mm_sto2 pc ls st k (.long x) 2
  | .iinc k n, st => mm_iinc pc ls st k n
  | .iadd, .int y :: .int x :: st => some (pc + 1, ls, .int (x + y) :: st)
  | .isub, .int y :: .int x :: st => some (pc + 1, ls, .int (x - y) :: st)
  | .imul, .int y :: .int x :: st => some (pc + 1, ls, .int (x * y) :: st)
  | .idiv, .int y :: .int x :: st => if y = 0 then none else some (pc + 1, ls, .int (x / y) :: st)
  | .irem, .int y :: .int x :: st => if y = 0 then none else some (pc + 1, ls, .int (x - x / y * y) :: st)
  | .ineg, .int x :: st => some (pc + 1, ls, .int (-x) :: st)
  | .iand, .int y :: .int x :: st => some (pc + 1, ls, .int (x &&& y) :: st)
  | .ior, .int y :: .int x :: st => some (pc + 1, ls, .int (x ||| y) :: st)
  | .ishl, .int y :: .int x :: st => some (pc + 1, ls, .int (x <<< (y &&& 31)) :: st)
  | .ishr, .int y :: .int x :: st => some (pc + 1, ls, .int (x >>> (y &&& 31)) :: st)
  | .iushr, .int y :: .int x :: st => some (pc + 1, ls, .int ((x.toUInt32 >>> (y.toUInt32 &&& Int32.toUInt32 31)).toInt32) :: st)
  | .ladd, .long y :: .long x :: st => some (pc + 1, ls, .long (x + y) :: st)
  | .lmul, .long y :: .long x :: st => some (pc + 1, ls, .long (x * y) :: st)
  | .ldiv, .long y :: .long x :: st => if y = 0 then none else some (pc + 1, ls, .long (x / y) :: st)
  | .lrem, .long y :: .long x :: st => if y = 0 then none else some (pc + 1, ls, .long (x - x / y * y) :: st)
  | .lcmp, .long y :: .long x :: st => some (pc + 1, ls, .int (lg_cmp x y) :: st)
  | .i2l, .int x :: st => some (pc + 1, ls, .long x.toInt64 :: st)
  | .l2i, .long x :: st => some (pc + 1, ls, .int x.toInt32 :: st)
  | .i2b, .int x :: st => some (pc + 1, ls, .int x.toInt8.toInt32 :: st)
  | .i2s, .int x :: st => some (pc + 1, ls, .int x.toInt16.toInt32 :: st)
  | .dup, .int x :: st => some (pc + 1, ls, .int x :: .int x :: st)
  | .dup, .ref x :: st => some (pc + 1, ls, .ref x :: .ref x :: st)
  | .pop, .int _ :: st => some (pc + 1, ls, st)
  | .pop, .ref _ :: st => some (pc + 1, ls, st)
  | .dup2, .int y :: .ref x :: st => some (pc + 1, ls, .int y :: .ref x :: .int y :: .ref x :: st)
  | .goto off, st => mm_go ls st (mm_to pc off)
  | .ifCond .eq off, .int x :: st => mm_br pc ls st off (decide (x = 0))
  | .ifCond .ne off, .int x :: st => mm_br pc ls st off (decide (¬ x = 0))
  | .ifCond .lt off, .int x :: st => mm_br pc ls st off (decide (x < 0))
  | .ifCond .ge off, .int x :: st => mm_br pc ls st off (decide (0 ≤ x))
  | .ifCond .gt off, .int x :: st => mm_br pc ls st off (decide (0 < x))
  | .ifCond .le off, .int x :: st => mm_br pc ls st off (decide (x ≤ 0))
  | .if_icmp .eq off, .int y :: .int x :: st => mm_br pc ls st off (decide (x = y))
  | .if_icmp .ne off, .int y :: .int x :: st => mm_br pc ls st off (decide (¬ x = y))
  | .if_icmp .lt off, .int y :: .int x :: st => mm_br pc ls st off (decide (x < y))
  | .if_icmp .ge off, .int y :: .int x :: st => mm_br pc ls st off (decide (y ≤ x))
  | .if_icmp .gt off, .int y :: .int x :: st => mm_br pc ls st off (decide (y < x))
  | .if_icmp .le off, .int y :: .int x :: st => mm_br pc ls st off (decide (x ≤ y))
  | .tableswitch dflt lo hi offs, .int x :: st => if x.toInt < lo then mm_go ls st (mm_to pc dflt) else if hi < x.toInt then mm_go ls st (mm_to pc dflt) else match offs[(x.toInt - lo).toNat]? with
    | some off => mm_go ls st (mm_to pc off)
    | none => none
  | _, _ => none
/-- how long an instruction is, where its step needs it -/
def mm_len (i : Instr) : Nat := match i with
  | .bipush _ => 2
  | .iload _ => 2
  | .lload _ => 2
  | .aload _ => 2
  | .istore _ => 2
  | .lstore _ => 2
  | .astore _ => 2
  | .newarray _ => 2
  | .ldc _ => 2
  | .sipush _ => 3
  | .iinc _ _ => 3
  | .goto _ => 3
  | .ifCond _ _ => 3
  | .if_icmp _ _ => 3
  | .getfield _ => 3
  | .putfield _ => 3
  | .getstatic _ => 3
  | .invokevirtual _ => 3
  | .invokestatic _ => 3
  | .invokespecial _ => 3
  | .new _ => 3
  | .anewarray _ => 3
  | .ldc_w _ => 3
  | .ldc2_w _ => 3
  | .multianewarray _ _ => 4
  | .tableswitch _ _ _ _ => 0
  | _ => 1
/-- what a decoded instruction is worth -/
def mm_dec (cc : ByteArray) (pc : Nat) (i : Instr) : Prop := ∃ len, decode cc pc = .ok (i, len) ∧ (mm_len i = 0 ∨ len = mm_len i)
/-- a name as an address, a value, a local -/
def mm_tv (ad : Nat → Nat) (v : Value) : Value := match v with
  | .ref k => .ref (ad k)
  | v => v
def mm_as (ad : Nat → Nat) (ls : ML) : List (Nat × Value) := (List.range ls.length).filterMap (fun i => (ls.getD i none).map (fun v => (i, mm_tv ad v)))
theorem mm_as_mem {ad : Nat → Nat} {ls : ML} {q : Nat × Value} : q ∈ mm_as ad ls ↔ ∃ v, ls[q.1]? = some (some v) ∧ q.2 = mm_tv ad v := by
  unfold mm_as
  rw [List.mem_filterMap]
  constructor
  · rintro ⟨i, hi, h⟩
    rw [Option.map_eq_some_iff] at h
    obtain ⟨v, hv, rfl⟩ := h
    refine ⟨v, ?_, rfl⟩
    rw [List.getD_eq_getElem?_getD] at hv
    have hl := List.mem_range.mp hi
    show ls[i]? = some (some v)
    rw [List.getElem?_eq_getElem hl] at hv ⊢
    exact congrArg some hv
  · rintro ⟨v, hv, hq⟩
    refine ⟨q.1, List.mem_range.mpr (List.getElem?_eq_some_iff.mp hv).1, ?_⟩
    rw [List.getD_eq_getElem?_getD, hv]
    show some (q.1, mm_tv ad v) = some q
    rw [← hq]
theorem mm_get {ad : Nat → Nat} {ls : ML} {sl : Array Slot} {n i : Nat} {v : Value} (h : lv_has sl n (mm_as ad ls)) (hv : ls.getD i none = some v) : sl[i]? = some (.val (mm_tv ad v)) := by
  refine h.2.2 (i, mm_tv ad v) (mm_as_mem.mpr ⟨v, ?_, rfl⟩)
  rw [List.getD_eq_getElem?_getD] at hv
  show ls[i]? = some (some v)
  cases hl : ls[i]? with
  | none => rw [hl] at hv; cases hv
  | some w => rw [hl] at hv; exact congrArg some hv
theorem mm_tv_cat {ad : Nat → Nat} (v : Value) : (mm_tv ad v).category = v.category := by cases v <;> rfl
theorem mm_st1_len {ls : ML} {i : Nat} {v : Value} : (mm_st1 ls i v).length = ls.length := by
  unfold mm_st1
  split
  · simp
  · split <;> simp
theorem mm_st1_at {ls : ML} {i j : Nat} {v w : Value} (h : (mm_st1 ls i v)[j]? = some (some w)) : (j = i ∧ w = v) ∨ (j ≠ i ∧ ls[j]? = some (some w) ∧ ¬ (j + 1 = i ∧ w.category = 2)) := by
  unfold mm_st1 at h
  split at h
  · rw [List.getElem?_set] at h
    split at h
    · rename_i e
      split at h
      · cases h; exact Or.inl ⟨e.symm, rfl⟩
      · cases h
    · rename_i e
      exact Or.inr ⟨fun q => e q.symm, h, fun q => by omega⟩
  · rename_i k
    have key : ∀ ls' : ML, (ls'.set (k + 1) (some v))[j]? = some (some w) → (j = k + 1 ∧ w = v) ∨ (j ≠ k + 1 ∧ ls'[j]? = some (some w)) := by
      intro ls' h
      rw [List.getElem?_set] at h
      split at h
      · rename_i e
        split at h
        · cases h; exact Or.inl ⟨e.symm, rfl⟩
        · cases h
      · rename_i e
        exact Or.inr ⟨fun q => e q.symm, h⟩
    have kill : ∀ {x : ML}, x = ls.set k none → x[j]? = some (some w) → j ≠ k ∧ ls[j]? = some (some w) := by
      intro x e h
      subst e
      rw [List.getElem?_set] at h
      split at h
      · split at h <;> cases h
      · rename_i e
        exact ⟨fun q => e q.symm, h⟩
    split at h
    · rcases key _ h with q | ⟨a, b⟩
      · exact Or.inl q
      · obtain ⟨c, d⟩ := kill rfl b
        exact Or.inr ⟨a, d, fun q => by omega⟩
    · rcases key _ h with q | ⟨a, b⟩
      · exact Or.inl q
      · obtain ⟨c, d⟩ := kill rfl b
        exact Or.inr ⟨a, d, fun q => by omega⟩
    · rename_i n1 n2
      rcases key _ h with q | ⟨a, b⟩
      · exact Or.inl q
      · refine Or.inr ⟨a, b, fun q => ?_⟩
        have e : j = k := by omega
        subst e
        have g : ls.getD j none = some w := by rw [List.getD_eq_getElem?_getD, b]; rfl
        cases w with
        | long x => exact n1 x g
        | double x => exact n2 x g
        | _ => cases q.2
/-- a local set, as the kit's rows have it -/
theorem mm_put {ad : Nat → Nat} {ls : ML} {sl : Array Slot} {n i : Nat} {v : Value} (h : lv_has sl n ((i, mm_tv ad v) :: (mm_as ad ls).filter (fun q => !(q.1 == i) && !(q.1 + 1 == i && q.2.category == 2)))) : lv_has sl n (mm_as ad (mm_st1 ls i v)) := by
  refine ⟨h.1, h.2.1, fun q hq => ?_⟩
  obtain ⟨w, hw, e⟩ := mm_as_mem.mp hq
  rcases mm_st1_at hw with ⟨a, b⟩ | ⟨a, b, c⟩
  · refine h.2.2 q ?_
    have e2 : q = (i, mm_tv ad v) := by rw [← b, ← e, ← a]
    rw [e2]
    exact List.mem_cons_self
  · refine h.2.2 q (List.mem_cons_of_mem _ (List.mem_filter.mpr ⟨mm_as_mem.mpr ⟨w, b, e⟩, ?_⟩))
    have c2 : q.2.category = w.category := by rw [e]; exact mm_tv_cat w
    have a2 : (q.1 == i) = false := by simpa using a
    rw [a2]
    show (!(q.1 + 1 == i && q.2.category == 2)) = true
    rw [c2]
    by_cases hj : q.1 + 1 = i
    · have : ¬ w.category = 2 := fun z => c ⟨hj, z⟩
      simp [this]
    · simp [hj]
theorem mm_put2 {ad : Nat → Nat} {ls : ML} {sl : Array Slot} {n i : Nat} {v : Value} (h : lv_has sl n ((i, mm_tv ad v) :: (mm_as ad ls).filter (fun q => !(q.1 == i) && (!(q.1 == i + 1) && !(q.1 + 1 == i && q.2.category == 2))))) : lv_has sl n (mm_as ad (mm_st2 ls i v)) := by
  refine ⟨h.1, h.2.1, fun q hq => ?_⟩
  obtain ⟨w, hw, e⟩ := mm_as_mem.mp hq
  unfold mm_st2 at hw
  rw [List.getElem?_set] at hw
  split at hw
  · split at hw <;> cases hw
  · rename_i hne
    rcases mm_st1_at hw with ⟨a, b⟩ | ⟨a, b, c⟩
    · refine h.2.2 q ?_
      have e2 : q = (i, mm_tv ad v) := by rw [← b, ← e, ← a]
      rw [e2]
      exact List.mem_cons_self
    · refine h.2.2 q (List.mem_cons_of_mem _ (List.mem_filter.mpr ⟨mm_as_mem.mpr ⟨w, b, e⟩, ?_⟩))
      have c2 : q.2.category = w.category := by rw [e]; exact mm_tv_cat w
      have a2 : (q.1 == i) = false := by simpa using a
      have a3 : (q.1 == i + 1) = false := by simp; omega
      rw [a2, a3]
      show (!(q.1 + 1 == i && q.2.category == 2)) = true
      rw [c2]
      by_cases hj : q.1 + 1 = i
      · have : ¬ w.category = 2 := fun z => c ⟨hj, z⟩
        simp [this]
      · simp [hj]
theorem mm_to_ok {pc t : Nat} {off : Int} (h : mm_to pc off = some t) : (pc : Int) + off = (t : Int) := by
  unfold mm_to at h
  split at h
  · rename_i e
    cases h
    exact e
  · cases h
end
section
/-! The steps that touch no cell are the machine's -/
section MM0
variable {p : Program} {l : Launch} {e : Env} {R : Room} {s : State} {m : MethodId} {args : Array Value} {below : List Frame} {meth : Method} {c : Code} {H : Heap} {locs : List Loc} {cells slots : Nat} {Q : State → Prop} {cc : ByteArray}
theorem mm_d1 {pc : Nat} {i : Instr} {n : Nat} (h : mm_dec cc pc i) (hn : mm_len i = n) (h0 : n ≠ 0) : decode cc pc = .ok (i, n) := by
  obtain ⟨len, h1, h2⟩ := h
  rcases h2 with h2 | h2
  · exact absurd (hn.symm.trans h2) h0
  · rw [h1, h2, hn]
theorem mm_ld_ok (hx : p.tables.exec = Jvm.exec) (hb : c.code = cc) {ad : Nat → Nat} {pc pc' n nL : Nat} {ls ls' : ML} {st st' : List Value} {sl : Array Slot} {v : Option Value} (h : mm_ld pc ls st v n = some (pc', ls', st')) : ∃ x, v = some (.int x) ∧ pc' = pc + n ∧ ls' = ls ∧ st' = .int x :: st := by
  unfold mm_ld at h
  split at h
  · cases h; exact ⟨_, rfl, rfl, rfl, rfl⟩
  · cases h
theorem mm_ldl_ok {pc pc' n : Nat} {ls ls' : ML} {st st' : List Value} {v : Option Value} (h : mm_ldl pc ls st v n = some (pc', ls', st')) : ∃ x, v = some (.long x) ∧ pc' = pc + n ∧ ls' = ls ∧ st' = .long x :: st := by
  unfold mm_ldl at h
  split at h
  · cases h; exact ⟨_, rfl, rfl, rfl, rfl⟩
  · cases h
theorem mm_lda_ok {pc pc' n : Nat} {ls ls' : ML} {st st' : List Value} {v : Option Value} (h : mm_lda pc ls st v n = some (pc', ls', st')) : ∃ x, v = some (.ref x) ∧ pc' = pc + n ∧ ls' = ls ∧ st' = .ref x :: st := by
  unfold mm_lda at h
  split at h
  · cases h; exact ⟨_, rfl, rfl, rfl, rfl⟩
  · cases h
theorem mm_sto_ok {pc pc' n i : Nat} {ls ls' : ML} {st st' : List Value} {v : Value} (h : mm_sto pc ls st i v n = some (pc', ls', st')) : i < ls.length ∧ pc' = pc + n ∧ ls' = mm_st1 ls i v ∧ st' = st := by
  unfold mm_sto at h
  split at h
  · cases h; exact ⟨by assumption, rfl, rfl, rfl⟩
  · cases h
theorem mm_sto2_ok {pc pc' n i : Nat} {ls ls' : ML} {st st' : List Value} {v : Value} (h : mm_sto2 pc ls st i v n = some (pc', ls', st')) : i + 1 < ls.length ∧ pc' = pc + n ∧ ls' = mm_st2 ls i v ∧ st' = st := by
  unfold mm_sto2 at h
  split at h
  · cases h; exact ⟨by assumption, rfl, rfl, rfl⟩
  · cases h
theorem mm_go_ok {ls ls' : ML} {st st' : List Value} {t : Option Nat} {pc' : Nat} (h : mm_go ls st t = some (pc', ls', st')) : t = some pc' ∧ ls' = ls ∧ st' = st := by
  unfold mm_go at h
  split at h
  · cases h; exact ⟨rfl, rfl, rfl⟩
  · cases h
theorem mm_br_ok {pc pc' : Nat} {ls ls' : ML} {st st' : List Value} {off : Int} {P : Prop} {hP : Decidable P} (h : mm_br pc ls st off (decide P) = some (pc', ls', st')) : ∃ t, mm_to pc off = some t ∧ ls' = ls ∧ st' = st ∧ ((P ∧ pc' = t) ∨ (¬ P ∧ pc' = pc + 3)) := by
  unfold mm_br at h
  split at h
  · rename_i t ht
    by_cases hp : P
    · rw [decide_eq_true hp] at h
      cases h
      exact ⟨_, ht, rfl, rfl, Or.inl ⟨hp, rfl⟩⟩
    · rw [decide_eq_false hp] at h
      cases h
      exact ⟨_, ht, rfl, rfl, Or.inr ⟨hp, rfl⟩⟩
  · cases h
theorem mm_iinc_ok {pc pc' i : Nat} {n : Int} {ls ls' : ML} {st st' : List Value} (h : mm_iinc pc ls st i n = some (pc', ls', st')) : ∃ x, ls.getD i none = some (.int x) ∧ pc' = pc + 3 ∧ ls' = mm_st1 ls i (.int (x + Int32.ofInt n)) ∧ st' = st := by
  unfold mm_iinc at h
  split at h
  · rename_i x hx
    cases h; exact ⟨x, hx, rfl, rfl, rfl⟩
  · cases h
theorem mm_getlt {ls : ML} {i : Nat} {v : Value} (h : ls.getD i none = some v) : i < ls.length := by
  rw [List.getD_eq_getElem?_getD] at h
  cases hl : ls[i]? with
  | none => rw [hl] at h; cases h
  | some w => exact (List.getElem?_eq_some_iff.mp hl).1
set_option maxHeartbeats 4000000 in
theorem mm_s0_ok (hx : p.tables.exec = Jvm.exec) (hb : c.code = cc) {ad : Nat → Nat} {i : Instr} {pc pc' : Nat} {ls ls' : ML} {st st' : List Value} {sl : Array Slot} (hd : mm_dec cc pc i) (hl : lv_has sl ls.length (mm_as ad ls)) (h : mm_s0 i pc ls st = some (pc', ls', st'))
    (kk : ∀ sl' : Array Slot, ls'.length = ls.length → lv_has sl' ls'.length (mm_as ad ls') → W p l e R s m args below meth c H locs cells slots Q (F0 m pc' sl' (st'.map (mm_tv ad)))) : W p l e R s m args below meth c H locs cells slots Q (F0 m pc sl (st.map (mm_tv ad))) := by
  unfold mm_s0 at h
  split at h
  · cases h; exact lv_iconst hx hb (mm_d1 hd rfl (by decide)) rfl (kk _ rfl hl)
  · cases h; exact lv_bipush hx hb (mm_d1 hd rfl (by decide)) rfl (kk _ rfl hl)
  · cases h; exact lv_sipush hx hb (mm_d1 hd rfl (by decide)) rfl (kk _ rfl hl)
  · cases h; exact lv_lconst hx hb (mm_d1 hd rfl (by decide)) rfl (kk _ rfl hl)
  · obtain ⟨x, hv, rfl, rfl, rfl⟩ := mm_ld_ok hx hb (ad := ad) (nL := 0) (sl := sl) h
    exact lv_iload_n hx hb (mm_d1 hd rfl (by decide)) rfl (mm_get hl hv) (kk _ rfl hl)
  · obtain ⟨x, hv, rfl, rfl, rfl⟩ := mm_ld_ok hx hb (ad := ad) (nL := 0) (sl := sl) h
    exact lv_iload hx hb (mm_d1 hd rfl (by decide)) (mm_get hl hv) (kk _ rfl hl)
  · obtain ⟨x, hv, rfl, rfl, rfl⟩ := mm_ldl_ok h
    exact lv_lload_n hx hb (mm_d1 hd rfl (by decide)) rfl (mm_get hl hv) (kk _ rfl hl)
  · obtain ⟨x, hv, rfl, rfl, rfl⟩ := mm_ldl_ok h
    exact lv_lload hx hb (mm_d1 hd rfl (by decide)) (mm_get hl hv) (kk _ rfl hl)
  · obtain ⟨x, hv, rfl, rfl, rfl⟩ := mm_lda_ok h
    exact lv_aload_n hx hb (mm_d1 hd rfl (by decide)) rfl (mm_get hl hv) (kk _ rfl hl)
  · obtain ⟨x, hv, rfl, rfl, rfl⟩ := mm_lda_ok h
    exact lv_aload hx hb (mm_d1 hd rfl (by decide)) (mm_get hl hv) (kk _ rfl hl)
  · obtain ⟨hi, rfl, rfl, rfl⟩ := mm_sto_ok h
    exact lv_istore_n hx hb (mm_d1 hd rfl (by decide)) rfl hl hi rfl (fun sl' h' => kk sl' mm_st1_len (by rw [mm_st1_len]; exact mm_put h'))
  · obtain ⟨hi, rfl, rfl, rfl⟩ := mm_sto_ok h
    exact lv_istore hx hb (mm_d1 hd rfl (by decide)) hl hi rfl (fun sl' h' => kk sl' mm_st1_len (by rw [mm_st1_len]; exact mm_put h'))
  · obtain ⟨hi, rfl, rfl, rfl⟩ := mm_sto_ok h
    exact lv_astore_n hx hb (mm_d1 hd rfl (by decide)) rfl hl hi rfl (fun sl' h' => kk sl' mm_st1_len (by rw [mm_st1_len]; exact mm_put h'))
  · obtain ⟨hi, rfl, rfl, rfl⟩ := mm_sto_ok h
    exact lv_astore hx hb (mm_d1 hd rfl (by decide)) hl hi rfl (fun sl' h' => kk sl' mm_st1_len (by rw [mm_st1_len]; exact mm_put h'))
  · obtain ⟨hi, rfl, rfl, rfl⟩ := mm_sto2_ok h
    exact lv_lstore_n hx hb (mm_d1 hd rfl (by decide)) rfl hl hi rfl (fun sl' h' => kk sl' (by unfold mm_st2; rw [List.length_set, mm_st1_len]) (by unfold mm_st2; rw [List.length_set, mm_st1_len]; exact mm_put2 h'))
  · obtain ⟨hi, rfl, rfl, rfl⟩ := mm_sto2_ok h
    exact lv_lstore hx hb (mm_d1 hd rfl (by decide)) hl hi rfl (fun sl' h' => kk sl' (by unfold mm_st2; rw [List.length_set, mm_st1_len]) (by unfold mm_st2; rw [List.length_set, mm_st1_len]; exact mm_put2 h'))
  · obtain ⟨x, hv, rfl, rfl, rfl⟩ := mm_iinc_ok h
    obtain ⟨k, hk⟩ : ∃ k : Nat, (mm_as ad ls)[k]? = some (_, Value.int x) := List.getElem?_of_mem (mm_as_mem.mpr ⟨.int x, by
      rw [List.getD_eq_getElem?_getD] at hv
      rename_i k0 n0 st0
      show ls[k0]? = some (some (.int x))
      cases hl9 : ls[k0]? with
      | none => rw [hl9] at hv; cases hv
      | some w => rw [hl9] at hv; exact congrArg some hv, rfl⟩)
    exact lv_iinc hx hb (mm_d1 hd rfl (by decide)) hl hk rfl (mm_getlt hv) rfl (fun sl' h' => kk sl' mm_st1_len (by rw [mm_st1_len]; exact mm_put h'))
  · cases h; exact lv_iadd hx hb (mm_d1 hd rfl (by decide)) (kk _ rfl hl)
  · cases h; exact lv_isub hx hb (mm_d1 hd rfl (by decide)) (kk _ rfl hl)
  · cases h; exact lv_imul hx hb (mm_d1 hd rfl (by decide)) (kk _ rfl hl)
  · split at h
    · cases h
    · rename_i hne
      cases h; exact lv_idiv hx hb (mm_d1 hd rfl (by decide)) hne (kk _ rfl hl)
  · split at h
    · cases h
    · rename_i hne
      cases h; exact lv_irem hx hb (mm_d1 hd rfl (by decide)) hne (kk _ rfl hl)
  · cases h; exact lv_ineg hx hb (mm_d1 hd rfl (by decide)) (kk _ rfl hl)
  · cases h; exact lv_iand hx hb (mm_d1 hd rfl (by decide)) (kk _ rfl hl)
  · cases h; exact lv_ior hx hb (mm_d1 hd rfl (by decide)) (kk _ rfl hl)
  · cases h; exact lv_ishl hx hb (mm_d1 hd rfl (by decide)) (kk _ rfl hl)
  · cases h; exact lv_ishr hx hb (mm_d1 hd rfl (by decide)) (kk _ rfl hl)
  · cases h; exact lv_iushr hx hb (mm_d1 hd rfl (by decide)) rfl (kk _ rfl hl)
  · cases h; exact lv_ladd hx hb (mm_d1 hd rfl (by decide)) (kk _ rfl hl)
  · cases h; exact lv_lmul hx hb (mm_d1 hd rfl (by decide)) (kk _ rfl hl)
  · split at h
    · cases h
    · rename_i hne
      cases h; exact lv_ldiv hx hb (mm_d1 hd rfl (by decide)) hne (kk _ rfl hl)
  · split at h
    · cases h
    · rename_i hne
      cases h; exact lv_lrem hx hb (mm_d1 hd rfl (by decide)) hne (kk _ rfl hl)
  · cases h; exact W.lcmp hx hb (mm_d1 hd rfl (by decide)) (kk _ rfl hl)
  · cases h; exact lv_i2l hx hb (mm_d1 hd rfl (by decide)) rfl (kk _ rfl hl)
  · cases h; exact lv_l2i hx hb (mm_d1 hd rfl (by decide)) rfl (kk _ rfl hl)
  · cases h; exact lv_i2b hx hb (mm_d1 hd rfl (by decide)) rfl (kk _ rfl hl)
  · cases h; exact lv_i2s hx hb (mm_d1 hd rfl (by decide)) rfl (kk _ rfl hl)
  · cases h; exact lv_dup hx hb (mm_d1 hd rfl (by decide)) rfl (kk _ rfl hl)
  · cases h; exact lv_dup hx hb (mm_d1 hd rfl (by decide)) rfl (kk _ rfl hl)
  · cases h; exact lv_pop hx hb (mm_d1 hd rfl (by decide)) rfl (kk _ rfl hl)
  · cases h; exact lv_pop hx hb (mm_d1 hd rfl (by decide)) rfl (kk _ rfl hl)
  · cases h; exact lv_dup2_11 hx hb (mm_d1 hd rfl (by decide)) rfl rfl (kk _ rfl hl)
  · obtain ⟨a, rfl, rfl⟩ := mm_go_ok h
    exact lv_goto hx hb (mm_d1 hd rfl (by decide)) (mm_to_ok a) (kk _ rfl hl)
  · obtain ⟨t, b, rfl, rfl, hq⟩ := mm_br_ok h
    rcases hq with ⟨a, rfl⟩ | ⟨a, rfl⟩
    · exact lv_if_eq hx hb (mm_d1 hd rfl (by decide)) (mm_to_ok b) (fun _ => kk _ rfl hl) (fun z => absurd a z)
    · exact lv_if_eq hx hb (mm_d1 hd rfl (by decide)) (mm_to_ok b) (fun z => absurd z a) (fun _ => kk _ rfl hl)
  · obtain ⟨t, b, rfl, rfl, hq⟩ := mm_br_ok h
    rcases hq with ⟨a, rfl⟩ | ⟨a, rfl⟩
    · exact lv_if_ne hx hb (mm_d1 hd rfl (by decide)) (mm_to_ok b) (fun _ => kk _ rfl hl) (fun z => absurd z a)
    · exact lv_if_ne hx hb (mm_d1 hd rfl (by decide)) (mm_to_ok b) (fun z => absurd z a) (fun _ => kk _ rfl hl)
  · obtain ⟨t, b, rfl, rfl, hq⟩ := mm_br_ok h
    rcases hq with ⟨a, rfl⟩ | ⟨a, rfl⟩
    · exact lv_if_lt hx hb (mm_d1 hd rfl (by decide)) (mm_to_ok b) (fun _ => kk _ rfl hl) (fun z => absurd a z)
    · exact lv_if_lt hx hb (mm_d1 hd rfl (by decide)) (mm_to_ok b) (fun z => absurd z a) (fun _ => kk _ rfl hl)
  · obtain ⟨t, b, rfl, rfl, hq⟩ := mm_br_ok h
    rcases hq with ⟨a, rfl⟩ | ⟨a, rfl⟩
    · exact lv_if_ge hx hb (mm_d1 hd rfl (by decide)) (mm_to_ok b) (fun _ => kk _ rfl hl) (fun z => absurd a z)
    · exact lv_if_ge hx hb (mm_d1 hd rfl (by decide)) (mm_to_ok b) (fun z => absurd z a) (fun _ => kk _ rfl hl)
  · obtain ⟨t, b, rfl, rfl, hq⟩ := mm_br_ok h
    rcases hq with ⟨a, rfl⟩ | ⟨a, rfl⟩
    · exact lv_if_gt hx hb (mm_d1 hd rfl (by decide)) (mm_to_ok b) (fun _ => kk _ rfl hl) (fun z => absurd a z)
    · exact lv_if_gt hx hb (mm_d1 hd rfl (by decide)) (mm_to_ok b) (fun z => absurd z a) (fun _ => kk _ rfl hl)
  · obtain ⟨t, b, rfl, rfl, hq⟩ := mm_br_ok h
    rcases hq with ⟨a, rfl⟩ | ⟨a, rfl⟩
    · exact lv_if_le hx hb (mm_d1 hd rfl (by decide)) (mm_to_ok b) (fun _ => kk _ rfl hl) (fun z => absurd a z)
    · exact lv_if_le hx hb (mm_d1 hd rfl (by decide)) (mm_to_ok b) (fun z => absurd z a) (fun _ => kk _ rfl hl)
  · obtain ⟨t, b, rfl, rfl, hq⟩ := mm_br_ok h
    rcases hq with ⟨a, rfl⟩ | ⟨a, rfl⟩
    · exact lv_icmp_eq hx hb (mm_d1 hd rfl (by decide)) (mm_to_ok b) (fun _ => kk _ rfl hl) (fun z => absurd a z)
    · exact lv_icmp_eq hx hb (mm_d1 hd rfl (by decide)) (mm_to_ok b) (fun z => absurd z a) (fun _ => kk _ rfl hl)
  · obtain ⟨t, b, rfl, rfl, hq⟩ := mm_br_ok h
    rcases hq with ⟨a, rfl⟩ | ⟨a, rfl⟩
    · exact lv_icmp_ne hx hb (mm_d1 hd rfl (by decide)) (mm_to_ok b) (fun _ => kk _ rfl hl) (fun z => absurd z a)
    · exact lv_icmp_ne hx hb (mm_d1 hd rfl (by decide)) (mm_to_ok b) (fun z => absurd z a) (fun _ => kk _ rfl hl)
  · obtain ⟨t, b, rfl, rfl, hq⟩ := mm_br_ok h
    rcases hq with ⟨a, rfl⟩ | ⟨a, rfl⟩
    · exact lv_icmp_lt hx hb (mm_d1 hd rfl (by decide)) (mm_to_ok b) (fun _ => kk _ rfl hl) (fun z => absurd a z)
    · exact lv_icmp_lt hx hb (mm_d1 hd rfl (by decide)) (mm_to_ok b) (fun z => absurd z a) (fun _ => kk _ rfl hl)
  · obtain ⟨t, b, rfl, rfl, hq⟩ := mm_br_ok h
    rcases hq with ⟨a, rfl⟩ | ⟨a, rfl⟩
    · exact lv_icmp_ge hx hb (mm_d1 hd rfl (by decide)) (mm_to_ok b) (fun _ => kk _ rfl hl) (fun z => absurd a z)
    · exact lv_icmp_ge hx hb (mm_d1 hd rfl (by decide)) (mm_to_ok b) (fun z => absurd z a) (fun _ => kk _ rfl hl)
  · obtain ⟨t, b, rfl, rfl, hq⟩ := mm_br_ok h
    rcases hq with ⟨a, rfl⟩ | ⟨a, rfl⟩
    · exact lv_icmp_gt hx hb (mm_d1 hd rfl (by decide)) (mm_to_ok b) (fun _ => kk _ rfl hl) (fun z => absurd a z)
    · exact lv_icmp_gt hx hb (mm_d1 hd rfl (by decide)) (mm_to_ok b) (fun z => absurd z a) (fun _ => kk _ rfl hl)
  · obtain ⟨t, b, rfl, rfl, hq⟩ := mm_br_ok h
    rcases hq with ⟨a, rfl⟩ | ⟨a, rfl⟩
    · exact lv_icmp_le hx hb (mm_d1 hd rfl (by decide)) (mm_to_ok b) (fun _ => kk _ rfl hl) (fun z => absurd a z)
    · exact lv_icmp_le hx hb (mm_d1 hd rfl (by decide)) (mm_to_ok b) (fun z => absurd z a) (fun _ => kk _ rfl hl)
  · rename_i dflt lo hi offs x st0
    obtain ⟨len, hd1, -⟩ := hd
    split at h
    · rename_i h1
      obtain ⟨a, rfl, rfl⟩ := mm_go_ok h
      exact lv_tableOut hx hb hd1 (Or.inl h1) (mm_to_ok a) (kk _ rfl hl)
    · rename_i h1
      split at h
      · rename_i h2
        obtain ⟨a, rfl, rfl⟩ := mm_go_ok h
        exact lv_tableOut hx hb hd1 (Or.inr h2) (mm_to_ok a) (kk _ rfl hl)
      · rename_i h2
        split at h
        · rename_i off ho
          obtain ⟨a, rfl, rfl⟩ := mm_go_ok h
          exact lv_tableIn hx hb hd1 h1 h2 ho (mm_to_ok a) (kk _ rfl hl)
        · cases h
  · cases h
end MM0
end

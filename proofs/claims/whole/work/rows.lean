section
/-! THE SMALL MACHINE: pure steps of the bytecode over a list of cells whose places are their names. -/
/-- a cell: a row of numbers (0 ints, 1 booleans, 2 bytes), or an object (its class's number below 100) or a row of references (100 and on) -/
abbrev MC : Type := (Nat × List Int32) ⊕ (Nat × List Value)
abbrev MH : Type := List MC
abbrev ML : Type := List (Option Value)
/-- a local set to a value of one word, of two words -/
def mm_st1 (ls : ML) (i : Nat) (v : Value) : ML := match i with
  | 0 => ls.set 0 (some v)
  | j + 1 => match ls.getD j none with
    | some (.long _) => (ls.set j none).set (j + 1) (some v)
    | some (.double _) => (ls.set j none).set (j + 1) (some v)
    | _ => ls.set (j + 1) (some v)
def mm_st2 (ls : ML) (i : Nat) (v : Value) : ML := (mm_st1 ls i v).set (i + 1) none
/-- where a jump goes -/
def mm_to (pc : Nat) (off : Int) : Option Nat := match (pc : Int) + off with
  | .ofNat t => some t
  | .negSucc _ => none
def mm_ld (pc : Nat) (ls : ML) (st : List Value) (v : Option Value) (n : Nat) : Option (Nat × ML × List Value) := match v with
  | some (.int x) => some (pc + n, ls, .int x :: st)
  | _ => none
def mm_ldl (pc : Nat) (ls : ML) (st : List Value) (v : Option Value) (n : Nat) : Option (Nat × ML × List Value) := match v with
  | some (.long x) => some (pc + n, ls, .long x :: st)
  | _ => none
def mm_lda (pc : Nat) (ls : ML) (st : List Value) (v : Option Value) (n : Nat) : Option (Nat × ML × List Value) := match v with
  | some (.ref x) => some (pc + n, ls, .ref x :: st)
  | _ => none
def mm_sto (pc : Nat) (ls : ML) (st : List Value) (i : Nat) (v : Value) (n : Nat) : Option (Nat × ML × List Value) := if i < ls.length then some (pc + n, mm_st1 ls i v, st) else none
def mm_sto2 (pc : Nat) (ls : ML) (st : List Value) (i : Nat) (v : Value) (n : Nat) : Option (Nat × ML × List Value) := if i + 1 < ls.length then some (pc + n, mm_st2 ls i v, st) else none
def mm_go (ls : ML) (st : List Value) (t : Option Nat) : Option (Nat × ML × List Value) := match t with
  | some t => some (t, ls, st)
  | none => none
def mm_br (pc : Nat) (ls : ML) (st : List Value) (off : Int) (b : Bool) : Option (Nat × ML × List Value) := match mm_to pc off with
  | some t => match b with
    | true => some (t, ls, st)
    | false => some (pc + 3, ls, st)
  | none => none
def mm_iinc (pc : Nat) (ls : ML) (st : List Value) (i : Nat) (n : Int) : Option (Nat × ML × List Value) := match ls.getD i none with
  | some (.int x) => some (pc + 3, mm_st1 ls i (.int (x + Int32.ofInt n)), st)
  | _ => none
/-- the steps that touch no cell -/
def mm_s0 (i : Instr) (pc : Nat) (ls : ML) (st : List Value) : Option (Nat × ML × List Value) := match i, st with
  | .iconst n, st => some (pc + 1, ls, .int (Int32.ofInt n) :: st)
  | .bipush n, st => some (pc + 2, ls, .int ((Int8.ofInt n).toInt32) :: st)
  | .sipush n, st => some (pc + 3, ls, .int ((Int16.ofInt n).toInt32) :: st)
  | .lconst n, st => some (pc + 1, ls, .long (Int64.ofNat n) :: st)
  | .iload_n k, st => mm_ld pc ls st (ls.getD k none) 1
  | .iload k, st => mm_ld pc ls st (ls.getD k none) 2
  | .lload_n k, st => mm_ldl pc ls st (ls.getD k none) 1
  | .lload k, st => mm_ldl pc ls st (ls.getD k none) 2
  | .aload_n k, st => mm_lda pc ls st (ls.getD k none) 1
  | .aload k, st => mm_lda pc ls st (ls.getD k none) 2
  | .istore_n k, .int x :: st => mm_sto pc ls st k (.int x) 1
  | .istore k, .int x :: st => mm_sto pc ls st k (.int x) 2
  | .astore_n k, .ref x :: st => mm_sto pc ls st k (.ref x) 1
  | .astore k, .ref x :: st => mm_sto pc ls st k (.ref x) 2
  | .lstore_n k, .long x :: st => mm_sto2 pc ls st k (.long x) 1
  | .lstore k, .long x :: st => mm_sto2 pc ls st k (.long x) 2
  | .iinc k n, st => mm_iinc pc ls st k n
  | .iadd, .int y :: .int x :: st => some (pc + 1, ls, .int (x + y) :: st)
  | .isub, .int y :: .int x :: st => some (pc + 1, ls, .int (x - y) :: st)
  | .imul, .int y :: .int x :: st => some (pc + 1, ls, .int (x * y) :: st)
  | .idiv, .int y :: .int x :: st => if y = 0 then none else some (pc + 1, ls, .int (x / y) :: st)
  | .irem, .int y :: .int x :: st => if y = 0 then none else some (pc + 1, ls, .int (x - x / y * y) :: st)
  | .ineg, .int x :: st => some (pc + 1, ls, .int (-x) :: st)
  | .iand, .int y :: .int x :: st => some (pc + 1, ls, .int (x &&& y) :: st)
  | .ior, .int y :: .int x :: st => some (pc + 1, ls, .int (x ||| y) :: st)
  | .ishl, .int y :: .int x :: st => some (pc + 1, ls, .int (x <<< (y &&& 31)) :: st)
  | .ishr, .int y :: .int x :: st => some (pc + 1, ls, .int (x >>> (y &&& 31)) :: st)
  | .iushr, .int y :: .int x :: st => some (pc + 1, ls, .int ((x.toUInt32 >>> (y.toUInt32 &&& Int32.toUInt32 31)).toInt32) :: st)
  | .ladd, .long y :: .long x :: st => some (pc + 1, ls, .long (x + y) :: st)
  | .lmul, .long y :: .long x :: st => some (pc + 1, ls, .long (x * y) :: st)
  | .ldiv, .long y :: .long x :: st => if y = 0 then none else some (pc + 1, ls, .long (x / y) :: st)
  | .lrem, .long y :: .long x :: st => if y = 0 then none else some (pc + 1, ls, .long (x - x / y * y) :: st)
  | .lcmp, .long y :: .long x :: st => some (pc + 1, ls, .int (lg_cmp x y) :: st)
  | .i2l, .int x :: st => some (pc + 1, ls, .long x.toInt64 :: st)
  | .l2i, .long x :: st => some (pc + 1, ls, .int x.toInt32 :: st)
  | .i2b, .int x :: st => some (pc + 1, ls, .int x.toInt8.toInt32 :: st)
  | .i2s, .int x :: st => some (pc + 1, ls, .int x.toInt16.toInt32 :: st)
  | .dup, .int x :: st => some (pc + 1, ls, .int x :: .int x :: st)
  | .dup, .ref x :: st => some (pc + 1, ls, .ref x :: .ref x :: st)
  | .pop, .int _ :: st => some (pc + 1, ls, st)
  | .pop, .ref _ :: st => some (pc + 1, ls, st)
  | .dup2, .int y :: .ref x :: st => some (pc + 1, ls, .int y :: .ref x :: .int y :: .ref x :: st)
  | .goto off, st => mm_go ls st (mm_to pc off)
  | .ifCond .eq off, .int x :: st => mm_br pc ls st off (decide (x = 0))
  | .ifCond .ne off, .int x :: st => mm_br pc ls st off (decide (¬ x = 0))
  | .ifCond .lt off, .int x :: st => mm_br pc ls st off (decide (x < 0))
  | .ifCond .ge off, .int x :: st => mm_br pc ls st off (decide (0 ≤ x))
  | .ifCond .gt off, .int x :: st => mm_br pc ls st off (decide (0 < x))
  | .ifCond .le off, .int x :: st => mm_br pc ls st off (decide (x ≤ 0))
  | .if_icmp .eq off, .int y :: .int x :: st => mm_br pc ls st off (decide (x = y))
  | .if_icmp .ne off, .int y :: .int x :: st => mm_br pc ls st off (decide (¬ x = y))
  | .if_icmp .lt off, .int y :: .int x :: st => mm_br pc ls st off (decide (x < y))
  | .if_icmp .ge off, .int y :: .int x :: st => mm_br pc ls st off (decide (y ≤ x))
  | .if_icmp .gt off, .int y :: .int x :: st => mm_br pc ls st off (decide (y < x))
  | .if_icmp .le off, .int y :: .int x :: st => mm_br pc ls st off (decide (x ≤ y))
  | .tableswitch dflt lo hi offs, .int x :: st => if x.toInt < lo then mm_go ls st (mm_to pc dflt) else if hi < x.toInt then mm_go ls st (mm_to pc dflt) else match offs[(x.toInt - lo).toNat]? with
    | some off => mm_go ls st (mm_to pc off)
    | none => none
  | _, _ => none
/-- how long an instruction is, where its step needs it -/
def mm_len (i : Instr) : Nat := match i with
  | .bipush _ => 2
  | .iload _ => 2
  | .lload _ => 2
  | .aload _ => 2
  | .istore _ => 2
  | .lstore _ => 2
  | .astore _ => 2
  | .newarray _ => 2
  | .ldc _ => 2
  | .sipush _ => 3
  | .iinc _ _ => 3
  | .goto _ => 3
  | .ifCond _ _ => 3
  | .if_icmp _ _ => 3
  | .getfield _ => 3
  | .putfield _ => 3
  | .getstatic _ => 3
  | .invokevirtual _ => 3
  | .invokestatic _ => 3
  | .invokespecial _ => 3
  | .new _ => 3
  | .anewarray _ => 3
  | .ldc_w _ => 3
  | .ldc2_w _ => 3
  | .multianewarray _ _ => 4
  | .tableswitch _ _ _ _ => 0
  | _ => 1
/-- what a decoded instruction is worth -/
def mm_dec (cc : ByteArray) (pc : Nat) (i : Instr) : Prop := ∃ len, decode cc pc = .ok (i, len) ∧ (mm_len i = 0 ∨ len = mm_len i)
/-- a name as an address, a value, a local -/
def mm_tv (ad : Nat → Nat) (v : Value) : Value := match v with
  | .ref k => .ref (ad k)
  | v => v
def mm_as (ad : Nat → Nat) (ls : ML) : List (Nat × Value) := (List.range ls.length).filterMap (fun i => (ls.getD i none).map (fun v => (i, mm_tv ad v)))
theorem mm_as_mem {ad : Nat → Nat} {ls : ML} {q : Nat × Value} : q ∈ mm_as ad ls ↔ ∃ v, ls[q.1]? = some (some v) ∧ q.2 = mm_tv ad v := by
  unfold mm_as
  rw [List.mem_filterMap]
  constructor
  · rintro ⟨i, hi, h⟩
    rw [Option.map_eq_some_iff] at h
    obtain ⟨v, hv, rfl⟩ := h
    refine ⟨v, ?_, rfl⟩
    rw [List.getD_eq_getElem?_getD] at hv
    have hl := List.mem_range.mp hi
    show ls[i]? = some (some v)
    rw [List.getElem?_eq_getElem hl] at hv ⊢
    exact congrArg some hv
  · rintro ⟨v, hv, hq⟩
    refine ⟨q.1, List.mem_range.mpr (List.getElem?_eq_some_iff.mp hv).1, ?_⟩
    rw [List.getD_eq_getElem?_getD, hv]
    show some (q.1, mm_tv ad v) = some q
    rw [← hq]
theorem mm_get {ad : Nat → Nat} {ls : ML} {sl : Array Slot} {n i : Nat} {v : Value} (h : lv_has sl n (mm_as ad ls)) (hv : ls.getD i none = some v) : sl[i]? = some (.val (mm_tv ad v)) := by
  refine h.2.2 (i, mm_tv ad v) (mm_as_mem.mpr ⟨v, ?_, rfl⟩)
  rw [List.getD_eq_getElem?_getD] at hv
  show ls[i]? = some (some v)
  cases hl : ls[i]? with
  | none => rw [hl] at hv; cases hv
  | some w => rw [hl] at hv; exact congrArg some hv
theorem mm_tv_cat {ad : Nat → Nat} (v : Value) : (mm_tv ad v).category = v.category := by cases v <;> rfl
theorem mm_st1_len {ls : ML} {i : Nat} {v : Value} : (mm_st1 ls i v).length = ls.length := by
  unfold mm_st1
  split
  · simp
  · split <;> simp
theorem mm_st1_at {ls : ML} {i j : Nat} {v w : Value} (h : (mm_st1 ls i v)[j]? = some (some w)) : (j = i ∧ w = v) ∨ (j ≠ i ∧ ls[j]? = some (some w) ∧ ¬ (j + 1 = i ∧ w.category = 2)) := by
  unfold mm_st1 at h
  split at h
  · rw [List.getElem?_set] at h
    split at h
    · rename_i e
      split at h
      · cases h; exact Or.inl ⟨e.symm, rfl⟩
      · cases h
    · rename_i e
      exact Or.inr ⟨fun q => e q.symm, h, fun q => by omega⟩
  · rename_i k
    have key : ∀ ls' : ML, (ls'.set (k + 1) (some v))[j]? = some (some w) → (j = k + 1 ∧ w = v) ∨ (j ≠ k + 1 ∧ ls'[j]? = some (some w)) := by
      intro ls' h
      rw [List.getElem?_set] at h
      split at h
      · rename_i e
        split at h
        · cases h; exact Or.inl ⟨e.symm, rfl⟩
        · cases h
      · rename_i e
        exact Or.inr ⟨fun q => e q.symm, h⟩
    have kill : ∀ {x : ML}, x = ls.set k none → x[j]? = some (some w) → j ≠ k ∧ ls[j]? = some (some w) := by
      intro x e h
      subst e
      rw [List.getElem?_set] at h
      split at h
      · split at h <;> cases h
      · rename_i e
        exact ⟨fun q => e q.symm, h⟩
    split at h
    · rcases key _ h with q | ⟨a, b⟩
      · exact Or.inl q
      · obtain ⟨c, d⟩ := kill rfl b
        exact Or.inr ⟨a, d, fun q => by omega⟩
    · rcases key _ h with q | ⟨a, b⟩
      · exact Or.inl q
      · obtain ⟨c, d⟩ := kill rfl b
        exact Or.inr ⟨a, d, fun q => by omega⟩
    · rename_i n1 n2
      rcases key _ h with q | ⟨a, b⟩
      · exact Or.inl q
      · refine Or.inr ⟨a, b, fun q => ?_⟩
        have e : j = k := by omega
        subst e
        have g : ls.getD j none = some w := by rw [List.getD_eq_getElem?_getD, b]; rfl
        cases w with
        | long x => exact n1 x g
        | double x => exact n2 x g
        | _ => cases q.2
/-- a local set, as the kit's rows have it -/
theorem mm_put {ad : Nat → Nat} {ls : ML} {sl : Array Slot} {n i : Nat} {v : Value} (h : lv_has sl n ((i, mm_tv ad v) :: (mm_as ad ls).filter (fun q => !(q.1 == i) && !(q.1 + 1 == i && q.2.category == 2)))) : lv_has sl n (mm_as ad (mm_st1 ls i v)) := by
  refine ⟨h.1, h.2.1, fun q hq => ?_⟩
  obtain ⟨w, hw, e⟩ := mm_as_mem.mp hq
  rcases mm_st1_at hw with ⟨a, b⟩ | ⟨a, b, c⟩
  · refine h.2.2 q ?_
    have e2 : q = (i, mm_tv ad v) := by rw [← b, ← e, ← a]
    rw [e2]
    exact List.mem_cons_self
  · refine h.2.2 q (List.mem_cons_of_mem _ (List.mem_filter.mpr ⟨mm_as_mem.mpr ⟨w, b, e⟩, ?_⟩))
    have c2 : q.2.category = w.category := by rw [e]; exact mm_tv_cat w
    have a2 : (q.1 == i) = false := by simpa using a
    rw [a2]
    show (!(q.1 + 1 == i && q.2.category == 2)) = true
    rw [c2]
    by_cases hj : q.1 + 1 = i
    · have : ¬ w.category = 2 := fun z => c ⟨hj, z⟩
      simp [this]
    · simp [hj]
theorem mm_put2 {ad : Nat → Nat} {ls : ML} {sl : Array Slot} {n i : Nat} {v : Value} (h : lv_has sl n ((i, mm_tv ad v) :: (mm_as ad ls).filter (fun q => !(q.1 == i) && (!(q.1 == i + 1) && !(q.1 + 1 == i && q.2.category == 2))))) : lv_has sl n (mm_as ad (mm_st2 ls i v)) := by
  refine ⟨h.1, h.2.1, fun q hq => ?_⟩
  obtain ⟨w, hw, e⟩ := mm_as_mem.mp hq
  unfold mm_st2 at hw
  rw [List.getElem?_set] at hw
  split at hw
  · split at hw <;> cases hw
  · rename_i hne
    rcases mm_st1_at hw with ⟨a, b⟩ | ⟨a, b, c⟩
    · refine h.2.2 q ?_
      have e2 : q = (i, mm_tv ad v) := by rw [← b, ← e, ← a]
      rw [e2]
      exact List.mem_cons_self
    · refine h.2.2 q (List.mem_cons_of_mem _ (List.mem_filter.mpr ⟨mm_as_mem.mpr ⟨w, b, e⟩, ?_⟩))
      have c2 : q.2.category = w.category := by rw [e]; exact mm_tv_cat w
      have a2 : (q.1 == i) = false := by simpa using a
      have a3 : (q.1 == i + 1) = false := by simp; omega
      rw [a2, a3]
      show (!(q.1 + 1 == i && q.2.category == 2)) = true
      rw [c2]
      by_cases hj : q.1 + 1 = i
      · have : ¬ w.category = 2 := fun z => c ⟨hj, z⟩
        simp [this]
      · simp [hj]
theorem mm_to_ok {pc t : Nat} {off : Int} (h : mm_to pc off = some t) : (pc : Int) + off = (t : Int) := by
  unfold mm_to at h
  split at h
  · rename_i e
    cases h
    exact e
  · cases h
end
section
/-! The steps that touch no cell are the machine's -/
section MM0
variable {p : Program} {l : Launch} {e : Env} {R : Room} {s : State} {m : MethodId} {args : Array Value} {below : List Frame} {meth : Method} {c : Code} {H : Heap} {locs : List Loc} {cells slots : Nat} {Q : State → Prop} {cc : ByteArray}
theorem mm_d1 {pc : Nat} {i : Instr} {n : Nat} (h : mm_dec cc pc i) (hn : mm_len i = n) (h0 : n ≠ 0) : decode cc pc = .ok (i, n) := by
  obtain ⟨len, h1, h2⟩ := h
  rcases h2 with h2 | h2
  · exact absurd (hn.symm.trans h2) h0
  · rw [h1, h2, hn]
theorem mm_ld_ok (hx : p.tables.exec = Jvm.exec) (hb : c.code = cc) {ad : Nat → Nat} {pc pc' n nL : Nat} {ls ls' : ML} {st st' : List Value} {sl : Array Slot} {v : Option Value} (h : mm_ld pc ls st v n = some (pc', ls', st')) : ∃ x, v = some (.int x) ∧ pc' = pc + n ∧ ls' = ls ∧ st' = .int x :: st := by
  unfold mm_ld at h
  split at h
  · cases h; exact ⟨_, rfl, rfl, rfl, rfl⟩
  · cases h
theorem mm_ldl_ok {pc pc' n : Nat} {ls ls' : ML} {st st' : List Value} {v : Option Value} (h : mm_ldl pc ls st v n = some (pc', ls', st')) : ∃ x, v = some (.long x) ∧ pc' = pc + n ∧ ls' = ls ∧ st' = .long x :: st := by
  unfold mm_ldl at h
  split at h
  · cases h; exact ⟨_, rfl, rfl, rfl, rfl⟩
  · cases h
theorem mm_lda_ok {pc pc' n : Nat} {ls ls' : ML} {st st' : List Value} {v : Option Value} (h : mm_lda pc ls st v n = some (pc', ls', st')) : ∃ x, v = some (.ref x) ∧ pc' = pc + n ∧ ls' = ls ∧ st' = .ref x :: st := by
  unfold mm_lda at h
  split at h
  · cases h; exact ⟨_, rfl, rfl, rfl, rfl⟩
  · cases h
theorem mm_sto_ok {pc pc' n i : Nat} {ls ls' : ML} {st st' : List Value} {v : Value} (h : mm_sto pc ls st i v n = some (pc', ls', st')) : i < ls.length ∧ pc' = pc + n ∧ ls' = mm_st1 ls i v ∧ st' = st := by
  unfold mm_sto at h
  split at h
  · cases h; exact ⟨by assumption, rfl, rfl, rfl⟩
  · cases h
theorem mm_sto2_ok {pc pc' n i : Nat} {ls ls' : ML} {st st' : List Value} {v : Value} (h : mm_sto2 pc ls st i v n = some (pc', ls', st')) : i + 1 < ls.length ∧ pc' = pc + n ∧ ls' = mm_st2 ls i v ∧ st' = st := by
  unfold mm_sto2 at h
  split at h
  · cases h; exact ⟨by assumption, rfl, rfl, rfl⟩
  · cases h
theorem mm_go_ok {ls ls' : ML} {st st' : List Value} {t : Option Nat} {pc' : Nat} (h : mm_go ls st t = some (pc', ls', st')) : t = some pc' ∧ ls' = ls ∧ st' = st := by
  unfold mm_go at h
  split at h
  · cases h; exact ⟨rfl, rfl, rfl⟩
  · cases h
theorem mm_br_ok {pc pc' : Nat} {ls ls' : ML} {st st' : List Value} {off : Int} {P : Prop} {hP : Decidable P} (h : mm_br pc ls st off (decide P) = some (pc', ls', st')) : ∃ t, mm_to pc off = some t ∧ ls' = ls ∧ st' = st ∧ ((P ∧ pc' = t) ∨ (¬ P ∧ pc' = pc + 3)) := by
  unfold mm_br at h
  split at h
  · rename_i t ht
    by_cases hp : P
    · rw [decide_eq_true hp] at h
      cases h
      exact ⟨_, ht, rfl, rfl, Or.inl ⟨hp, rfl⟩⟩
    · rw [decide_eq_false hp] at h
      cases h
      exact ⟨_, ht, rfl, rfl, Or.inr ⟨hp, rfl⟩⟩
  · cases h
theorem mm_iinc_ok {pc pc' i : Nat} {n : Int} {ls ls' : ML} {st st' : List Value} (h : mm_iinc pc ls st i n = some (pc', ls', st')) : ∃ x, ls.getD i none = some (.int x) ∧ pc' = pc + 3 ∧ ls' = mm_st1 ls i (.int (x + Int32.ofInt n)) ∧ st' = st := by
  unfold mm_iinc at h
  split at h
  · rename_i x hx
    cases h; exact ⟨x, hx, rfl, rfl, rfl⟩
  · cases h
theorem mm_getlt {ls : ML} {i : Nat} {v : Value} (h : ls.getD i none = some v) : i < ls.length := by
  rw [List.getD_eq_getElem?_getD] at h
  cases hl : ls[i]? with
  | none => rw [hl] at h; cases h
  | some w => exact (List.getElem?_eq_some_iff.mp hl).1
set_option maxHeartbeats 4000000 in
theorem mm_s0_ok (hx : p.tables.exec = Jvm.exec) (hb : c.code = cc) {ad : Nat → Nat} {i : Instr} {pc pc' : Nat} {ls ls' : ML} {st st' : List Value} {sl : Array Slot} (hd : mm_dec cc pc i) (hl : lv_has sl ls.length (mm_as ad ls)) (h : mm_s0 i pc ls st = some (pc', ls', st'))
    (kk : ∀ sl' : Array Slot, ls'.length = ls.length → lv_has sl' ls'.length (mm_as ad ls') → W p l e R s m args below meth c H locs cells slots Q (F0 m pc' sl' (st'.map (mm_tv ad)))) : W p l e R s m args below meth c H locs cells slots Q (F0 m pc sl (st.map (mm_tv ad))) := by
  unfold mm_s0 at h
  split at h
  · cases h; exact lv_iconst hx hb (mm_d1 hd rfl (by decide)) rfl (kk _ rfl hl)
  · cases h; exact lv_bipush hx hb (mm_d1 hd rfl (by decide)) rfl (kk _ rfl hl)
  · cases h; exact lv_sipush hx hb (mm_d1 hd rfl (by decide)) rfl (kk _ rfl hl)
  · cases h; exact lv_lconst hx hb (mm_d1 hd rfl (by decide)) rfl (kk _ rfl hl)
  · obtain ⟨x, hv, rfl, rfl, rfl⟩ := mm_ld_ok hx hb (ad := ad) (nL := 0) (sl := sl) h
    exact lv_iload_n hx hb (mm_d1 hd rfl (by decide)) rfl (mm_get hl hv) (kk _ rfl hl)
  · obtain ⟨x, hv, rfl, rfl, rfl⟩ := mm_ld_ok hx hb (ad := ad) (nL := 0) (sl := sl) h
    exact lv_iload hx hb (mm_d1 hd rfl (by decide)) (mm_get hl hv) (kk _ rfl hl)
  · obtain ⟨x, hv, rfl, rfl, rfl⟩ := mm_ldl_ok h
    exact lv_lload_n hx hb (mm_d1 hd rfl (by decide)) rfl (mm_get hl hv) (kk _ rfl hl)
  · obtain ⟨x, hv, rfl, rfl, rfl⟩ := mm_ldl_ok h
    exact lv_lload hx hb (mm_d1 hd rfl (by decide)) (mm_get hl hv) (kk _ rfl hl)
  · obtain ⟨x, hv, rfl, rfl, rfl⟩ := mm_lda_ok h
    exact lv_aload_n hx hb (mm_d1 hd rfl (by decide)) rfl (mm_get hl hv) (kk _ rfl hl)
  · obtain ⟨x, hv, rfl, rfl, rfl⟩ := mm_lda_ok h
    exact lv_aload hx hb (mm_d1 hd rfl (by decide)) (mm_get hl hv) (kk _ rfl hl)
  · obtain ⟨hi, rfl, rfl, rfl⟩ := mm_sto_ok h
    exact lv_istore_n hx hb (mm_d1 hd rfl (by decide)) rfl hl hi rfl (fun sl' h' => kk sl' mm_st1_len (by rw [mm_st1_len]; exact mm_put h'))
  · obtain ⟨hi, rfl, rfl, rfl⟩ := mm_sto_ok h
    exact lv_istore hx hb (mm_d1 hd rfl (by decide)) hl hi rfl (fun sl' h' => kk sl' mm_st1_len (by rw [mm_st1_len]; exact mm_put h'))
  · obtain ⟨hi, rfl, rfl, rfl⟩ := mm_sto_ok h
    exact lv_astore_n hx hb (mm_d1 hd rfl (by decide)) rfl hl hi rfl (fun sl' h' => kk sl' mm_st1_len (by rw [mm_st1_len]; exact mm_put h'))
  · obtain ⟨hi, rfl, rfl, rfl⟩ := mm_sto_ok h
    exact lv_astore hx hb (mm_d1 hd rfl (by decide)) hl hi rfl (fun sl' h' => kk sl' mm_st1_len (by rw [mm_st1_len]; exact mm_put h'))
  · obtain ⟨hi, rfl, rfl, rfl⟩ := mm_sto2_ok h
    exact lv_lstore_n hx hb (mm_d1 hd rfl (by decide)) rfl hl hi rfl (fun sl' h' => kk sl' (by unfold mm_st2; rw [List.length_set, mm_st1_len]) (by unfold mm_st2; rw [List.length_set, mm_st1_len]; exact mm_put2 h'))
  · obtain ⟨hi, rfl, rfl, rfl⟩ := mm_sto2_ok h
    exact lv_lstore hx hb (mm_d1 hd rfl (by decide)) hl hi rfl (fun sl' h' => kk sl' (by unfold mm_st2; rw [List.length_set, mm_st1_len]) (by unfold mm_st2; rw [List.length_set, mm_st1_len]; exact mm_put2 h'))
  · obtain ⟨x, hv, rfl, rfl, rfl⟩ := mm_iinc_ok h
    obtain ⟨k, hk⟩ : ∃ k : Nat, (mm_as ad ls)[k]? = some (_, Value.int x) := List.getElem?_of_mem (mm_as_mem.mpr ⟨.int x, by
      rw [List.getD_eq_getElem?_getD] at hv
      rename_i k0 n0 st0
      show ls[k0]? = some (some (.int x))
      cases hl9 : ls[k0]? with
      | none => rw [hl9] at hv; cases hv
      | some w => rw [hl9] at hv; exact congrArg some hv, rfl⟩)
    exact lv_iinc hx hb (mm_d1 hd rfl (by decide)) hl hk rfl (mm_getlt hv) rfl (fun sl' h' => kk sl' mm_st1_len (by rw [mm_st1_len]; exact mm_put h'))
  · cases h; exact lv_iadd hx hb (mm_d1 hd rfl (by decide)) (kk _ rfl hl)
  · cases h; exact lv_isub hx hb (mm_d1 hd rfl (by decide)) (kk _ rfl hl)
  · cases h; exact lv_imul hx hb (mm_d1 hd rfl (by decide)) (kk _ rfl hl)
  · split at h
    · cases h
    · rename_i hne
      cases h; exact lv_idiv hx hb (mm_d1 hd rfl (by decide)) hne (kk _ rfl hl)
  · split at h
    · cases h
    · rename_i hne
      cases h; exact lv_irem hx hb (mm_d1 hd rfl (by decide)) hne (kk _ rfl hl)
  · cases h; exact lv_ineg hx hb (mm_d1 hd rfl (by decide)) (kk _ rfl hl)
  · cases h; exact lv_iand hx hb (mm_d1 hd rfl (by decide)) (kk _ rfl hl)
  · cases h; exact lv_ior hx hb (mm_d1 hd rfl (by decide)) (kk _ rfl hl)
  · cases h; exact lv_ishl hx hb (mm_d1 hd rfl (by decide)) (kk _ rfl hl)
  · cases h; exact lv_ishr hx hb (mm_d1 hd rfl (by decide)) (kk _ rfl hl)
  · cases h; exact lv_iushr hx hb (mm_d1 hd rfl (by decide)) rfl (kk _ rfl hl)
  · cases h; exact lv_ladd hx hb (mm_d1 hd rfl (by decide)) (kk _ rfl hl)
  · cases h; exact lv_lmul hx hb (mm_d1 hd rfl (by decide)) (kk _ rfl hl)
  · split at h
    · cases h
    · rename_i hne
      cases h; exact lv_ldiv hx hb (mm_d1 hd rfl (by decide)) hne (kk _ rfl hl)
  · split at h
    · cases h
    · rename_i hne
      cases h; exact lv_lrem hx hb (mm_d1 hd rfl (by decide)) hne (kk _ rfl hl)
  · cases h; exact W.lcmp hx hb (mm_d1 hd rfl (by decide)) (kk _ rfl hl)
  · cases h; exact lv_i2l hx hb (mm_d1 hd rfl (by decide)) rfl (kk _ rfl hl)
  · cases h; exact lv_l2i hx hb (mm_d1 hd rfl (by decide)) rfl (kk _ rfl hl)
  · cases h; exact lv_i2b hx hb (mm_d1 hd rfl (by decide)) rfl (kk _ rfl hl)
  · cases h; exact lv_i2s hx hb (mm_d1 hd rfl (by decide)) rfl (kk _ rfl hl)
  · cases h; exact lv_dup hx hb (mm_d1 hd rfl (by decide)) rfl (kk _ rfl hl)
  · cases h; exact lv_dup hx hb (mm_d1 hd rfl (by decide)) rfl (kk _ rfl hl)
  · cases h; exact lv_pop hx hb (mm_d1 hd rfl (by decide)) rfl (kk _ rfl hl)
  · cases h; exact lv_pop hx hb (mm_d1 hd rfl (by decide)) rfl (kk _ rfl hl)
  · cases h; exact lv_dup2_11 hx hb (mm_d1 hd rfl (by decide)) rfl rfl (kk _ rfl hl)
  · obtain ⟨a, rfl, rfl⟩ := mm_go_ok h
    exact lv_goto hx hb (mm_d1 hd rfl (by decide)) (mm_to_ok a) (kk _ rfl hl)
  · obtain ⟨t, b, rfl, rfl, hq⟩ := mm_br_ok h
    rcases hq with ⟨a, rfl⟩ | ⟨a, rfl⟩
    · exact lv_if_eq hx hb (mm_d1 hd rfl (by decide)) (mm_to_ok b) (fun _ => kk _ rfl hl) (fun z => absurd a z)
    · exact lv_if_eq hx hb (mm_d1 hd rfl (by decide)) (mm_to_ok b) (fun z => absurd z a) (fun _ => kk _ rfl hl)
  · obtain ⟨t, b, rfl, rfl, hq⟩ := mm_br_ok h
    rcases hq with ⟨a, rfl⟩ | ⟨a, rfl⟩
    · exact lv_if_ne hx hb (mm_d1 hd rfl (by decide)) (mm_to_ok b) (fun _ => kk _ rfl hl) (fun z => absurd z a)
    · exact lv_if_ne hx hb (mm_d1 hd rfl (by decide)) (mm_to_ok b) (fun z => absurd z a) (fun _ => kk _ rfl hl)
  · obtain ⟨t, b, rfl, rfl, hq⟩ := mm_br_ok h
    rcases hq with ⟨a, rfl⟩ | ⟨a, rfl⟩
    · exact lv_if_lt hx hb (mm_d1 hd rfl (by decide)) (mm_to_ok b) (fun _ => kk _ rfl hl) (fun z => absurd a z)
    · exact lv_if_lt hx hb (mm_d1 hd rfl (by decide)) (mm_to_ok b) (fun z => absurd z a) (fun _ => kk _ rfl hl)
  · obtain ⟨t, b, rfl, rfl, hq⟩ := mm_br_ok h
    rcases hq with ⟨a, rfl⟩ | ⟨a, rfl⟩
    · exact lv_if_ge hx hb (mm_d1 hd rfl (by decide)) (mm_to_ok b) (fun _ => kk _ rfl hl) (fun z => absurd a z)
    · exact lv_if_ge hx hb (mm_d1 hd rfl (by decide)) (mm_to_ok b) (fun z => absurd z a) (fun _ => kk _ rfl hl)
  · obtain ⟨t, b, rfl, rfl, hq⟩ := mm_br_ok h
    rcases hq with ⟨a, rfl⟩ | ⟨a, rfl⟩
    · exact lv_if_gt hx hb (mm_d1 hd rfl (by decide)) (mm_to_ok b) (fun _ => kk _ rfl hl) (fun z => absurd a z)
    · exact lv_if_gt hx hb (mm_d1 hd rfl (by decide)) (mm_to_ok b) (fun z => absurd z a) (fun _ => kk _ rfl hl)
  · obtain ⟨t, b, rfl, rfl, hq⟩ := mm_br_ok h
    rcases hq with ⟨a, rfl⟩ | ⟨a, rfl⟩
    · exact lv_if_le hx hb (mm_d1 hd rfl (by decide)) (mm_to_ok b) (fun _ => kk _ rfl hl) (fun z => absurd a z)
    · exact lv_if_le hx hb (mm_d1 hd rfl (by decide)) (mm_to_ok b) (fun z => absurd z a) (fun _ => kk _ rfl hl)
  · obtain ⟨t, b, rfl, rfl, hq⟩ := mm_br_ok h
    rcases hq with ⟨a, rfl⟩ | ⟨a, rfl⟩
    · exact lv_icmp_eq hx hb (mm_d1 hd rfl (by decide)) (mm_to_ok b) (fun _ => kk _ rfl hl) (fun z => absurd a z)
    · exact lv_icmp_eq hx hb (mm_d1 hd rfl (by decide)) (mm_to_ok b) (fun z => absurd z a) (fun _ => kk _ rfl hl)
  · obtain ⟨t, b, rfl, rfl, hq⟩ := mm_br_ok h
    rcases hq with ⟨a, rfl⟩ | ⟨a, rfl⟩
    · exact lv_icmp_ne hx hb (mm_d1 hd rfl (by decide)) (mm_to_ok b) (fun _ => kk _ rfl hl) (fun z => absurd z a)
    · exact lv_icmp_ne hx hb (mm_d1 hd rfl (by decide)) (mm_to_ok b) (fun z => absurd z a) (fun _ => kk _ rfl hl)
  · obtain ⟨t, b, rfl, rfl, hq⟩ := mm_br_ok h
    rcases hq with ⟨a, rfl⟩ | ⟨a, rfl⟩
    · exact lv_icmp_lt hx hb (mm_d1 hd rfl (by decide)) (mm_to_ok b) (fun _ => kk _ rfl hl) (fun z => absurd a z)
    · exact lv_icmp_lt hx hb (mm_d1 hd rfl (by decide)) (mm_to_ok b) (fun z => absurd z a) (fun _ => kk _ rfl hl)
  · obtain ⟨t, b, rfl, rfl, hq⟩ := mm_br_ok h
    rcases hq with ⟨a, rfl⟩ | ⟨a, rfl⟩
    · exact lv_icmp_ge hx hb (mm_d1 hd rfl (by decide)) (mm_to_ok b) (fun _ => kk _ rfl hl) (fun z => absurd a z)
    · exact lv_icmp_ge hx hb (mm_d1 hd rfl (by decide)) (mm_to_ok b) (fun z => absurd z a) (fun _ => kk _ rfl hl)
  · obtain ⟨t, b, rfl, rfl, hq⟩ := mm_br_ok h
    rcases hq with ⟨a, rfl⟩ | ⟨a, rfl⟩
    · exact lv_icmp_gt hx hb (mm_d1 hd rfl (by decide)) (mm_to_ok b) (fun _ => kk _ rfl hl) (fun z => absurd a z)
    · exact lv_icmp_gt hx hb (mm_d1 hd rfl (by decide)) (mm_to_ok b) (fun z => absurd z a) (fun _ => kk _ rfl hl)
  · obtain ⟨t, b, rfl, rfl, hq⟩ := mm_br_ok h
    rcases hq with ⟨a, rfl⟩ | ⟨a, rfl⟩
    · exact lv_icmp_le hx hb (mm_d1 hd rfl (by decide)) (mm_to_ok b) (fun _ => kk _ rfl hl) (fun z => absurd a z)
    · exact lv_icmp_le hx hb (mm_d1 hd rfl (by decide)) (mm_to_ok b) (fun z => absurd z a) (fun _ => kk _ rfl hl)
  · rename_i dflt lo hi offs x st0
    obtain ⟨len, hd1, -⟩ := hd
    split at h
    · rename_i h1
      obtain ⟨a, rfl, rfl⟩ := mm_go_ok h
      exact lv_tableOut hx hb hd1 (Or.inl h1) (mm_to_ok a) (kk _ rfl hl)
    · rename_i h1
      split at h
      · rename_i h2
        obtain ⟨a, rfl, rfl⟩ := mm_go_ok h
        exact lv_tableOut hx hb hd1 (Or.inr h2) (mm_to_ok a) (kk _ rfl hl)
      · rename_i h2
        split at h
        · rename_i off ho
          obtain ⟨a, rfl, rfl⟩ := mm_go_ok h
          exact lv_tableIn hx hb hd1 h1 h2 ho (mm_to_ok a) (kk _ rfl hl)
        · cases h
  · cases h
end MM0
end
section
/-! The steps that read and write cells -/
def mm_ix (i : Int32) : Option Nat := if i < 0 then none else some i.toNatClampNeg
def mm_obj (h : MH) (a ci : Nat) : Option (List Value) := match h[a]? with
  | some (.inr (cj, fs)) => if ci = cj then some fs else none
  | _ => none
def mm_arr (h : MH) (a t : Nat) : Option (List Int32) := match h[a]? with
  | some (.inl (t', L)) => if t = t' then some L else none
  | _ => none
/-- a row of references -/
def mm_row (h : MH) (a : Nat) : Option (List Value) := match h[a]? with
  | some (.inr (t, fs)) => if 100 ≤ t then some fs else none
  | _ => none
def mm_fit (ty : FieldType) (v : Value) : Bool := match ty, v with
  | .int, .int _ => true
  | .long, .long _ => true
  | .boolean, .int x => decide (x = 0) || decide (x = 1)
  | .object _, .ref _ => true
  | .array _, .ref _ => true
  | _, _ => false
def mm_gf (f : Option (Nat × Nat × FieldType × Bool)) (h : MH) (a : Nat) : Option Value := match f with
  | some (ci, k, _, _) => match mm_obj h a ci with
    | some fs => fs[k]?
    | none => none
  | none => none
def mm_pf (f : Option (Nat × Nat × FieldType × Bool)) (h : MH) (a : Nat) (v : Value) : Option MH := match f with
  | some (ci, k, ty, false) => match mm_obj h a ci with
    | some fs => if k < fs.length then if mm_fit ty v = true then some (h.set a (.inr (ci, fs.set k v))) else none else none
    | none => none
  | _ => none
def mm_ra (h : MH) (a t : Nat) (i : Int32) : Option Int32 := match mm_ix i with
  | some k => match mm_arr h a t with
    | some L => L[k]?
    | none => none
  | none => none
def mm_wa (h : MH) (a t : Nat) (i x : Int32) : Option MH := match mm_ix i with
  | some k => match mm_arr h a t with
    | some L => if k < L.length then some (h.set a (.inl (t, L.set k x))) else none
    | none => none
  | none => none
def mm_rr (h : MH) (a : Nat) (i : Int32) : Option Nat := match mm_ix i with
  | some k => match mm_row h a with
    | some fs => match fs[k]? with
      | some (.ref r) => some r
      | _ => none
    | none => none
  | none => none
def mm_al (h : MH) (a : Nat) : Option Nat := match h[a]? with
  | some (.inl (t, L)) => if t < 3 then some L.length else none
  | some (.inr (t, fs)) => if 100 ≤ t then some fs.length else none
  | none => none
def mm_isB (h : MH) (a : Nat) : Bool := match h[a]? with
  | some (.inl (1, _)) => true
  | _ => false
def mm_r1 (pc : Nat) (st : List Value) (h : MH) (v : Option Value) : Option (Nat × List Value × MH) := match v with
  | some v => some (pc, v :: st, h)
  | none => none
def mm_w1 (pc : Nat) (st : List Value) (h : Option MH) : Option (Nat × List Value × MH) := match h with
  | some h => some (pc, st, h)
  | none => none
def mm_s1 (fld : Nat → Option (Nat × Nat × FieldType × Bool)) (i : Instr) (pc : Nat) (st : List Value) (h : MH) : Option (Nat × List Value × MH) := match i, st with
  | .getfield idx, .ref a :: st => mm_r1 (pc + 3) st h (mm_gf (fld idx) h a)
  | .putfield idx, v :: .ref a :: st => mm_w1 (pc + 3) st (mm_pf (fld idx) h a v)
  | .iaload, .int i :: .ref a :: st => mm_r1 (pc + 1) st h ((mm_ra h a 0 i).map .int)
  | .baload, .int i :: .ref a :: st => match mm_isB h a with
    | true => mm_r1 (pc + 1) st h ((mm_ra h a 1 i).map .int)
    | false => mm_r1 (pc + 1) st h ((mm_ra h a 2 i).map .int)
  | .aaload, .int i :: .ref a :: st => mm_r1 (pc + 1) st h ((mm_rr h a i).map .ref)
  | .arraylength, .ref a :: st => mm_r1 (pc + 1) st h ((mm_al h a).map (fun n => .int (Int32.ofNat n)))
  | .iastore, .int x :: .int i :: .ref a :: st => mm_w1 (pc + 1) st (mm_wa h a 0 i x)
  | .bastore, .int x :: .int i :: .ref a :: st => match mm_isB h a with
    | true => if mm_fit .boolean (.int x) = true then mm_w1 (pc + 1) st (mm_wa h a 1 i x) else none
    | false => mm_w1 (pc + 1) st (mm_wa h a 2 i x.toInt8.toInt32)
  | _, _ => none
/-- the world of a list of cells -/
def mm_rf (ad : Nat → Nat) (v : Value) : Option Nat := match v with
  | .ref k => some (ad k)
  | _ => none
def mm_tE (cA : Nat → ClassId) (ad : Nat → Nat) (x : MC) : va_E := match x with
  | .inl (t, L) => .inl (cA t, L.length, .inl (fun j => L.getD j 0))
  | .inr (t, fs) => if t < 100 then .inr (t, fs.map (mm_tv ad)) else .inl (cA t, fs.length, .inr (.inr (.inr (.inr (fun j => mm_rf ad (fs.getD j .null))))))
def mm_wd (cA : Nat → ClassId) (ad : Nat → Nat) (h : MH) : va_W := h.mapIdx (fun k x => (ad k, mm_tE cA ad x))
theorem mm_wd_at {cA : Nat → ClassId} {ad : Nat → Nat} {h : MH} {k : Nat} {x : MC} (hx : h[k]? = some x) : (mm_wd cA ad h)[k]? = some (ad k, mm_tE cA ad x) := by
  unfold mm_wd
  rw [List.getElem?_mapIdx, hx]
  rfl
theorem mm_wd_of {cA : Nat → ClassId} {ad : Nat → Nat} {h : MH} {k : Nat} {q : Nat × va_E} (hq : (mm_wd cA ad h)[k]? = some q) : ∃ x, h[k]? = some x ∧ q = (ad k, mm_tE cA ad x) := by
  unfold mm_wd at hq
  rw [List.getElem?_mapIdx] at hq
  cases hx : h[k]? with
  | none => rw [hx] at hq; cases hq
  | some x => rw [hx] at hq; exact ⟨x, rfl, (Option.some.inj hq).symm⟩
theorem mm_wd_set {cA : Nat → ClassId} {ad : Nat → Nat} {h : MH} {k : Nat} {x : MC} : (mm_wd cA ad h).set k (ad k, mm_tE cA ad x) = mm_wd cA ad (h.set k x) := by
  apply List.ext_getElem?
  intro j
  unfold mm_wd
  rw [List.getElem?_set, List.getElem?_mapIdx, List.getElem?_mapIdx, List.getElem?_set, List.length_mapIdx]
  by_cases e : k = j
  · subst e
    by_cases l : k < h.length
    · simp [l]
    · simp [l]
  · simp [e]
theorem mm_obj_ok {h : MH} {a ci : Nat} {fs : List Value} (hq : mm_obj h a ci = some fs) : h[a]? = some (.inr (ci, fs)) := by
  unfold mm_obj at hq
  split at hq
  · rename_i e
    split at hq
    · rename_i e2
      cases hq
      subst e2
      exact e
    · cases hq
  · cases hq
theorem mm_arr_ok {h : MH} {a t : Nat} {L : List Int32} (hq : mm_arr h a t = some L) : h[a]? = some (.inl (t, L)) := by
  unfold mm_arr at hq
  split at hq
  · rename_i e
    split at hq
    · rename_i e2
      cases hq
      subst e2
      exact e
    · cases hq
  · cases hq
theorem mm_row_ok {h : MH} {a : Nat} {fs : List Value} (hq : mm_row h a = some fs) : ∃ t, 100 ≤ t ∧ h[a]? = some (.inr (t, fs)) := by
  unfold mm_row at hq
  split at hq
  · rename_i t _ e
    split at hq
    · rename_i e2
      cases hq
      exact ⟨t, e2, e⟩
    · cases hq
  · cases hq
theorem mm_ix_ok {i : Int32} {k : Nat} (h : mm_ix i = some k) : ¬ i < 0 ∧ i.toNatClampNeg = k := by
  unfold mm_ix at h
  split at h
  · cases h
  · rename_i e
    cases h
    exact ⟨e, rfl⟩
theorem mm_ra_ok {h : MH} {a t : Nat} {i x : Int32} (hq : mm_ra h a t i = some x) : ∃ L, h[a]? = some (.inl (t, L)) ∧ vp_in i L.length ∧ L.getD i.toNatClampNeg 0 = x := by
  unfold mm_ra at hq
  split at hq
  · rename_i k hk
    obtain ⟨h0, rfl⟩ := mm_ix_ok hk
    split at hq
    · rename_i L hL
      refine ⟨L, mm_arr_ok hL, fun z => ?_, ?_⟩
      · rcases z with z | z
        · exact h0 z
        · have := (List.getElem?_eq_some_iff.mp hq).1
          omega
      · rw [List.getD_eq_getElem?_getD, hq]; rfl
    · cases hq
  · cases hq
theorem mm_wa_ok {h h' : MH} {a t : Nat} {i x : Int32} (hq : mm_wa h a t i x = some h') : ∃ L, h[a]? = some (.inl (t, L)) ∧ vp_in i L.length ∧ h' = h.set a (.inl (t, L.set i.toNatClampNeg x)) := by
  unfold mm_wa at hq
  split at hq
  · rename_i k hk
    obtain ⟨h0, rfl⟩ := mm_ix_ok hk
    split at hq
    · rename_i L hL
      split at hq
      · rename_i hl
        cases hq
        refine ⟨L, mm_arr_ok hL, fun z => ?_, rfl⟩
        rcases z with z | z
        · exact h0 z
        · omega
      · cases hq
    · cases hq
  · cases hq
theorem mm_rr_ok {h : MH} {a r : Nat} {i : Int32} (hq : mm_rr h a i = some r) : ∃ t fs, 100 ≤ t ∧ h[a]? = some (.inr (t, fs)) ∧ vp_in i fs.length ∧ fs.getD i.toNatClampNeg .null = .ref r := by
  unfold mm_rr at hq
  split at hq
  · rename_i k hk
    obtain ⟨h0, rfl⟩ := mm_ix_ok hk
    split at hq
    · rename_i fs hL
      obtain ⟨t, ht, e⟩ := mm_row_ok hL
      split at hq
      · rename_i r0 hr
        cases hq
        refine ⟨t, fs, ht, e, fun z => ?_, ?_⟩
        · rcases z with z | z
          · exact h0 z
          · have := (List.getElem?_eq_some_iff.mp hr).1
            omega
        · rw [List.getD_eq_getElem?_getD, hr]; rfl
      · cases hq
    · cases hq
  · cases hq
theorem mm_upd_set {L : List Int32} {k : Nat} {x : Int32} (hk : k < L.length) : upd (fun j => L.getD j 0) k x = fun j => (L.set k x).getD j 0 := by
  funext j
  unfold upd
  show (if j = k then x else L.getD j 0) = _
  rw [List.getD_eq_getElem?_getD, List.getD_eq_getElem?_getD, List.getElem?_set]
  by_cases e : j = k
  · subst e
    simp [hk]
  · have e2 : ¬ k = j := fun q => e q.symm
    simp [e, e2]
theorem mm_fit_ok {ty : FieldType} {v : Value} (h : mm_fit ty v = true) : narrow ty v = v ∧ fits ty v = true := by
  unfold mm_fit at h
  split at h
  · exact ⟨rfl, rfl⟩
  · exact ⟨rfl, rfl⟩
  · rename_i x
    rw [Bool.or_eq_true, decide_eq_true_eq, decide_eq_true_eq] at h
    rcases h with rfl | rfl
    · exact ⟨by decide, by decide⟩
    · exact ⟨by decide, by decide⟩
  · exact ⟨rfl, rfl⟩
  · exact ⟨rfl, rfl⟩
  · cases h
theorem mm_nar_b {x : Int32} (h : mm_fit .boolean (.int x) = true) : vp_nar .boolean x = x := by
  have h1 := (mm_fit_ok h).1
  unfold vp_nar
  rw [h1]
/-- a field's row in the tables -/
def mm_FO (cl : List vw_C) (TB : List Cond) (own : String) (idx ci k : Nat) (ty : FieldType) (fin : Bool) : Prop := ci < 100 ∧ ∃ (C : String) (T : u_T) (N : Nat) (ty0 : Nat → FieldType), cl[ci]? = some (C, T, N) ∧ k < N ∧ (∀ w ∈ u_ws C T N, w ∈ TB) ∧ (∀ k, k < N → parseFieldDescriptor (T k).2.2.1 = some (ty0 k)) ∧ (∀ a, a < N → ∀ b, b < N → a ≠ b → (T a).2.1 ≠ (T b).2.1) ∧ ty0 k = ty ∧ (T k).2.2.2 = fin ∧ (Cond.fieldLink own idx (T k).1 (T k).2.1 (T k).2.2.1 ∈ TB ∨ ∃ host, Cond.fieldLinkNest own idx (T k).1 (T k).2.1 (T k).2.2.1 host ∈ TB)
/-- the rows' classes -/
def mm_AO (cA : Nat → ClassId) (tys : List (ClassId × FieldType)) : Prop := (∃ t0 : Nat, tys[t0]? = some (cA 0, FieldType.int)) ∧ (∃ t0 : Nat, tys[t0]? = some (cA 1, FieldType.boolean)) ∧ (∃ t0 : Nat, tys[t0]? = some (cA 2, FieldType.byte)) ∧ ∀ t : Nat, 100 ≤ t → ∃ (t0 : Nat) (ty : FieldType), tys[t0]? = some (cA t, ty) ∧ ty.isReference = true
section MM1
variable {p : Program} {l : Launch} {e : Env} {R : Room} {s : State} {m : MethodId} {args : Array Value} {below : List Frame} {meth : Method} {c : Code} {H H0 : Heap} {locs : List Loc} {cells slots : Nat} {Q : State → Prop} {cc : ByteArray} {D : va_G} {cl : List vw_C} {tys : List (ClassId × FieldType)} {A : Nat → Prop} {TB : List Cond} {own : String}
theorem mm_ald (hexec : p.tables.exec = Jvm.exec) (hb : c.code = cc) {ws : va_W} {a : Nat} {pc : Nat} {ls : Array Slot} {rest : List Value} (hK : va_K D cl tys s) (hP : va_P D cl ws H) (q0 t0 : Nat) {cA : ClassId} {n : Nat} {f : Nat → Option Nat} (ha : ws[q0]? = some (a, .inl (cA, n, .inr (.inr (.inr (.inr f)))))) {ty : FieldType} (hty : ty.isReference = true) (ht : tys[t0]? = some (cA, ty)) {i : Int32} (hin : vp_in i n) (hdg : decode cc pc = .ok (.aaload, 1))
    (kk : W p l e R s m args below meth c H locs cells slots Q (F0 m (pc + 1) ls (va_rf (f i.toNatClampNeg) :: rest))) : W p l e R s m args below meth c H locs cells slots Q (F0 m pc ls (.int i :: .ref a :: rest)) := by
  have hlt : i.toNatClampNeg < n := Nat.not_le.mp fun q => hin (Or.inr q)
  exact W.aald (v := va_rf (f i.toNatClampNeg)) (ty := ty) hexec hb (hP q0 _ ha) ((hK.2 t0 _ ht).1 n (fun j => va_rf (f j))) hty (fun q => by cases q) (by show ¬ (i < 0 ∨ (arrV _ _ _).slots.size ≤ _); rw [arrV_size]; exact hin) (by show (arrV _ _ _).slots[_]? = _; rw [arrV_read _ _ hlt]) rfl rfl hdg kk
theorem mm_r1_ok {pc pc' : Nat} {st st' : List Value} {h h' : MH} {v : Option Value} (hq : mm_r1 pc st h v = some (pc', st', h')) : ∃ w, v = some w ∧ pc' = pc ∧ st' = w :: st ∧ h' = h := by
  unfold mm_r1 at hq
  split at hq
  · cases hq; exact ⟨_, rfl, rfl, rfl, rfl⟩
  · cases hq
theorem mm_w1_ok {pc pc' : Nat} {st st' : List Value} {h' : MH} {h : Option MH} (hq : mm_w1 pc st h = some (pc', st', h')) : h = some h' ∧ pc' = pc ∧ st' = st := by
  unfold mm_w1 at hq
  split at hq
  · cases hq; exact ⟨rfl, rfl, rfl⟩
  · cases hq
theorem mm_tE_o {cA : Nat → ClassId} {ad : Nat → Nat} {ci : Nat} {fs : List Value} (h : ci < 100) : mm_tE cA ad (.inr (ci, fs)) = .inr (ci, fs.map (mm_tv ad)) := if_pos h
theorem mm_tE_r {cA : Nat → ClassId} {ad : Nat → Nat} {ci : Nat} {fs : List Value} (h : 100 ≤ ci) : mm_tE cA ad (.inr (ci, fs)) = .inl (cA ci, fs.length, .inr (.inr (.inr (.inr (fun j => mm_rf ad (fs.getD j .null)))))) := if_neg (Nat.not_lt.mpr h)
theorem mm_gf_ok {f : Option (Nat × Nat × FieldType × Bool)} {h : MH} {a : Nat} {v : Value} (hq : mm_gf f h a = some v) : ∃ ci k ty fin fs, f = some (ci, k, ty, fin) ∧ h[a]? = some (.inr (ci, fs)) ∧ fs[k]? = some v := by
  unfold mm_gf at hq
  split at hq
  · rename_i ci k ty fin
    split at hq
    · rename_i fs hf
      exact ⟨ci, k, ty, fin, fs, rfl, mm_obj_ok hf, hq⟩
    · cases hq
  · cases hq
theorem mm_pf_ok {f : Option (Nat × Nat × FieldType × Bool)} {h h' : MH} {a : Nat} {v : Value} (hq : mm_pf f h a v = some h') : ∃ ci k ty fs, f = some (ci, k, ty, false) ∧ h[a]? = some (.inr (ci, fs)) ∧ k < fs.length ∧ mm_fit ty v = true ∧ h' = h.set a (.inr (ci, fs.set k v)) := by
  unfold mm_pf at hq
  split at hq
  · rename_i ci k ty
    split at hq
    · rename_i fs hf
      split at hq
      · rename_i hl
        split at hq
        · rename_i hfit
          cases hq
          exact ⟨ci, k, ty, fs, rfl, mm_obj_ok hf, hl, hfit, rfl⟩
        · cases hq
      · cases hq
    · cases hq
  · cases hq
theorem mm_fit_tv {ad : Nat → Nat} {ty : FieldType} {v : Value} (h : mm_fit ty v = true) : mm_fit ty (mm_tv ad v) = true := by
  cases v <;> first | exact h | (cases ty <;> first | rfl | exact h)
set_option maxHeartbeats 4000000 in
theorem mm_s1_ok (hx : p.tables.exec = Jvm.exec) (hb : c.code = cc) {cA : Nat → ClassId} {ad : Nat → Nat} {fld : Nat → Option (Nat × Nat × FieldType × Bool)} (hown : s.vm.findClass own = some m.cls) (hts : ∀ w ∈ TB, w.before args s = true) (hfo : ∀ idx ci k ty fin, fld idx = some (ci, k, ty, fin) → mm_FO cl TB own idx ci k ty fin) (hAO : mm_AO cA tys) (hK : va_K D cl tys s)
    {i : Instr} {pc pc' : Nat} {st st' : List Value} {h h' : MH} {sl : Array Slot} (hd : mm_dec cc pc i) (hP : va_P D cl (mm_wd cA ad h) H) (hD : va_D A (mm_wd cA ad h)) (hS : va_S A H0 H locs) (hq : mm_s1 fld i pc st h = some (pc', st', h'))
    (kk : ∀ (H1 : Heap) (locs1 : List Loc), va_P D cl (mm_wd cA ad h') H1 → va_D A (mm_wd cA ad h') → va_S A H0 H1 locs1 → W p l e R s m args below meth c H1 locs1 cells slots Q (F0 m pc' sl (st'.map (mm_tv ad)))) : W p l e R s m args below meth c H locs cells slots Q (F0 m pc sl (st.map (mm_tv ad))) := by
  unfold mm_s1 at hq
  split at hq
  · -- getfield
    obtain ⟨v, hv, rfl, rfl, rfl⟩ := mm_r1_ok hq
    obtain ⟨ci, k, ty, fin, fs, hf, ha, hk⟩ := mm_gf_ok hv
    obtain ⟨h100, C, T, N, ty0, hc, hkN, hin, -, -, -, -, hlink⟩ := hfo _ _ _ _ _ hf
    have he := mm_wd_at (cA := cA) (ad := ad) ha
    rw [mm_tE_o h100] at he
    have hv2 : (fs.map (mm_tv ad))[k]? = some (mm_tv ad v) := by rw [List.getElem?_map, hk]; rfl
    rcases hlink with hlink | ⟨host, hlink⟩
    · exact va_get hx hb hts hin hown hK hP _ he hc k hkN (hts _ hlink) (fun _ h9 => h9) hv2 (mm_d1 hd rfl (by decide)) (kk _ _ hP hD hS)
    · exact va_getN hx hb hts hin hown hK hP _ he hc k hkN (hts _ hlink) (fun _ h9 => h9) hv2 (mm_d1 hd rfl (by decide)) (kk _ _ hP hD hS)
  · -- putfield
    obtain ⟨hw, rfl, rfl⟩ := mm_w1_ok hq
    obtain ⟨ci, k, ty, fs, hf, ha, hkl, hfit, rfl⟩ := mm_pf_ok hw
    obtain ⟨h100, C, T, N, ty0, hc, hkN, hin, hty, hnm, hty1, hfin, hlink⟩ := hfo _ _ _ _ _ hf
    have he := mm_wd_at (cA := cA) (ad := ad) ha
    rw [mm_tE_o h100] at he
    obtain ⟨hn, hfi⟩ := mm_fit_ok (mm_fit_tv (ad := ad) hfit)
    have hset : ∀ (a : Nat) (v : Value), (mm_wd cA ad h).set a (ad a, .inr (ci, (fs.map (mm_tv ad)).set k (mm_tv ad v))) = mm_wd cA ad (h.set a (.inr (ci, fs.set k v))) := by
      intro a v
      rw [← mm_wd_set, mm_tE_o h100, List.map_set]
    rcases hlink with hlink | ⟨host, hlink⟩
    · exact va_put hx hb hts hin ty0 hty hnm hown hK hP hD hS _ he hc k hkN (hts _ hlink) (fun _ h9 => h9) hfin ((hty k hkN).trans (congrArg some hty1)) hn hfi (by rw [List.length_map]; exact hkl) (mm_d1 hd rfl (by decide)) (fun H1 locs1 a b c => kk H1 locs1 (by rw [← hset]; exact a) (by rw [← hset]; exact b) c)
    · exact va_putN hx hb hts hin ty0 hty hnm hown hK hP hD hS _ he hc k hkN (hts _ hlink) (fun _ h9 => h9) hfin ((hty k hkN).trans (congrArg some hty1)) hn hfi (by rw [List.length_map]; exact hkl) (mm_d1 hd rfl (by decide)) (fun H1 locs1 a b c => kk H1 locs1 (by rw [← hset]; exact a) (by rw [← hset]; exact b) c)
  · -- iaload
    obtain ⟨v, hv, rfl, rfl, rfl⟩ := mm_r1_ok hq
    obtain ⟨x, hx2, rfl⟩ := Option.map_eq_some_iff.mp hv
    obtain ⟨L, ha, hin, rfl⟩ := mm_ra_ok hx2
    obtain ⟨t0, ht0⟩ := hAO.1
    exact va_iald hx hb hK hP _ t0 (mm_wd_at ha) ht0 hin (mm_d1 hd rfl (by decide)) (kk _ _ hP hD hS)
  · -- baload
    split at hq
    · obtain ⟨v, hv, rfl, rfl, rfl⟩ := mm_r1_ok hq
      obtain ⟨x, hx2, rfl⟩ := Option.map_eq_some_iff.mp hv
      obtain ⟨L, ha, hin, rfl⟩ := mm_ra_ok hx2
      obtain ⟨t0, ht0⟩ := hAO.2.1
      exact va_zald hx hb hK hP _ t0 (mm_wd_at ha) ht0 hin (mm_d1 hd rfl (by decide)) (kk _ _ hP hD hS)
    · obtain ⟨v, hv, rfl, rfl, rfl⟩ := mm_r1_ok hq
      obtain ⟨x, hx2, rfl⟩ := Option.map_eq_some_iff.mp hv
      obtain ⟨L, ha, hin, rfl⟩ := mm_ra_ok hx2
      obtain ⟨t0, ht0⟩ := hAO.2.2.1
      exact va_bald hx hb hK hP _ t0 (mm_wd_at ha) ht0 hin (mm_d1 hd rfl (by decide)) (kk _ _ hP hD hS)
  · -- aaload
    obtain ⟨v, hv, rfl, rfl, rfl⟩ := mm_r1_ok hq
    obtain ⟨r, hr, rfl⟩ := Option.map_eq_some_iff.mp hv
    obtain ⟨t, fs, ht, ha, hin, hg⟩ := mm_rr_ok hr
    obtain ⟨t0, ty, ht0, hty⟩ := hAO.2.2.2 t ht
    have he := mm_wd_at (cA := cA) (ad := ad) ha
    rw [mm_tE_r ht] at he
    refine mm_ald hx hb hK hP _ t0 he hty ht0 hin (mm_d1 hd rfl (by decide)) ?_
    rw [hg]
    exact kk _ _ hP hD hS
  · -- arraylength
    obtain ⟨v, hv, rfl, rfl, rfl⟩ := mm_r1_ok hq
    obtain ⟨n, hn, rfl⟩ := Option.map_eq_some_iff.mp hv
    unfold mm_al at hn
    split at hn
    · rename_i t L ha
      split at hn
      · rename_i ht
        cases hn
        have hh : ∃ (t0 : Nat) (ty : FieldType), tys[t0]? = some (cA t, ty) := by
          match t, ht with
          | 0, _ => obtain ⟨t0, h0⟩ := hAO.1; exact ⟨t0, _, h0⟩
          | 1, _ => obtain ⟨t0, h0⟩ := hAO.2.1; exact ⟨t0, _, h0⟩
          | 2, _ => obtain ⟨t0, h0⟩ := hAO.2.2.1; exact ⟨t0, _, h0⟩
        obtain ⟨t0, ty, h0⟩ := hh
        exact va_alen hx hb hK hP _ t0 (mm_wd_at ha) h0 rfl (mm_d1 hd rfl (by decide)) (kk _ _ hP hD hS)
      · cases hn
    · rename_i t fs ha
      split at hn
      · rename_i ht
        cases hn
        obtain ⟨t0, ty, ht0, hty⟩ := hAO.2.2.2 t ht
        have he := mm_wd_at (cA := cA) (ad := ad) ha
        rw [mm_tE_r ht] at he
        exact va_alen hx hb hK hP _ t0 he ht0 rfl (mm_d1 hd rfl (by decide)) (kk _ _ hP hD hS)
      · cases hn
    · cases hn
  · -- iastore
    obtain ⟨hw, rfl, rfl⟩ := mm_w1_ok hq
    obtain ⟨L, ha, hin, rfl⟩ := mm_wa_ok hw
    obtain ⟨t0, ht0⟩ := hAO.1
    have hlt : ∀ {i : Int32}, vp_in i L.length → i.toNatClampNeg < L.length := fun hi => Nat.not_le.mp fun q => hi (Or.inr q)
    refine va_iast hx hb hK hP hD hS _ t0 (mm_wd_at ha) ht0 hin (mm_d1 hd rfl (by decide)) (fun H1 locs1 a b c => kk H1 locs1 ?_ ?_ c)
    · rw [mm_upd_set (hlt hin)] at a
      rw [← mm_wd_set]
      show va_P D cl (List.set _ _ (_, .inl (cA 0, (L.set _ _).length, _))) H1
      rw [List.length_set]
      exact a
    · rw [mm_upd_set (hlt hin)] at b
      rw [← mm_wd_set]
      show va_D A (List.set _ _ (_, .inl (cA 0, (L.set _ _).length, _)))
      rw [List.length_set]
      exact b
  · -- bastore
    split at hq
    · split at hq
      · rename_i hfit
        obtain ⟨hw, rfl, rfl⟩ := mm_w1_ok hq
        obtain ⟨L, ha, hin, rfl⟩ := mm_wa_ok hw
        obtain ⟨t0, ht0⟩ := hAO.2.1
        have hlt : ∀ {i : Int32}, vp_in i L.length → i.toNatClampNeg < L.length := fun hi => Nat.not_le.mp fun q => hi (Or.inr q)
        refine va_zast hx hb hK hP hD hS _ t0 (mm_wd_at ha) ht0 hin (mm_d1 hd rfl (by decide)) (fun H1 locs1 a b c => kk H1 locs1 ?_ ?_ c)
        · rw [mm_nar_b hfit, mm_upd_set (hlt hin)] at a
          rw [← mm_wd_set]
          show va_P D cl (List.set _ _ (_, .inl (cA 1, (L.set _ _).length, _))) H1
          rw [List.length_set]
          exact a
        · rw [mm_nar_b hfit, mm_upd_set (hlt hin)] at b
          rw [← mm_wd_set]
          show va_D A (List.set _ _ (_, .inl (cA 1, (L.set _ _).length, _)))
          rw [List.length_set]
          exact b
      · cases hq
    · obtain ⟨hw, rfl, rfl⟩ := mm_w1_ok hq
      obtain ⟨L, ha, hin, rfl⟩ := mm_wa_ok hw
      obtain ⟨t0, ht0⟩ := hAO.2.2.1
      have hlt : ∀ {i : Int32}, vp_in i L.length → i.toNatClampNeg < L.length := fun hi => Nat.not_le.mp fun q => hi (Or.inr q)
      refine va_bast hx hb hK hP hD hS _ t0 (mm_wd_at ha) ht0 hin (mm_d1 hd rfl (by decide)) (fun H1 locs1 a b c => kk H1 locs1 ?_ ?_ c)
      · rw [vp_nar_byte, mm_upd_set (hlt hin)] at a
        rw [← mm_wd_set]
        show va_P D cl (List.set _ _ (_, .inl (cA 2, (L.set _ _).length, _))) H1
        rw [List.length_set]
        exact a
      · rw [vp_nar_byte, mm_upd_set (hlt hin)] at b
        rw [← mm_wd_set]
        show va_D A (List.set _ _ (_, .inl (cA 2, (L.set _ _).length, _)))
        rw [List.length_set]
        exact b
  · cases hq
end MM1
end
section
/-! A method's run, calls among them; a callee may run on a part of the cells, named anew (its view) -/
/-- (arguments with the receiver, locals, answer, the receiver's class, static) -/
abbrev MI : Type := Nat × Nat × Option FieldType × Nat × Bool
def mm_sl (vs : List Value) : ML := match vs with
  | [] => []
  | .long x :: vs => some (.long x) :: none :: mm_sl vs
  | .double x :: vs => some (.double x) :: none :: mm_sl vs
  | v :: vs => some v :: mm_sl vs
def mm_en (n : Nat) (vs : List Value) : ML := mm_sl vs ++ List.replicate (n - (mm_sl vs).length) none
def mm_ct (st : List Value) : Nat := match st with
  | [] => 0
  | .long _ :: st => mm_ct st + 2
  | .double _ :: st => mm_ct st + 2
  | _ :: st => mm_ct st + 1
/-- the cells that a callee may see: the block of each argument -/
def mm_blk (bsz : Nat → Nat) (h : MH) (v : Value) : List Nat := match v with
  | .ref k => match h[k]? with
    | some (.inr (ci, _)) => (List.range (bsz ci)).map (fun j => k + j)
    | some (.inl _) => [k]
    | none => []
  | _ => []
def mm_view (bsz : Nat → Nat) (h : MH) (vs : List Value) : List Nat := match vs with
  | [] => []
  | v :: vs => mm_blk bsz h v ++ mm_view bsz h vs
def mm_idx (k : Nat) (V : List Nat) (j : Nat) : Option Nat := match V with
  | [] => none
  | v :: V => if v = k then some j else mm_idx k V (j + 1)
def mm_rnV (V : List Nat) (v : Value) : Option Value := match v with
  | .ref k => match mm_idx k V 0 with
    | some j => some (.ref j)
    | none => none
  | v => some v
def mm_rnL (V : List Nat) (vs : List Value) : Option (List Value) := match vs with
  | [] => some []
  | v :: vs => match mm_rnV V v with
    | some w => match mm_rnL V vs with
      | some ws => some (w :: ws)
      | none => none
    | none => none
def mm_rnC (V : List Nat) (x : MC) : Option MC := match x with
  | .inl x => some (.inl x)
  | .inr (t, fs) => match mm_rnL V fs with
    | some gs => some (.inr (t, gs))
    | none => none
def mm_sub (V U : List Nat) (h : MH) : Option MH := match U with
  | [] => some []
  | k :: U => match h[k]? with
    | some x => match mm_rnC V x with
      | some y => match mm_sub V U h with
        | some ys => some (y :: ys)
        | none => none
      | none => none
    | none => none
def mm_bkV (V : List Nat) (v : Value) : Option Value := match v with
  | .ref j => match V[j]? with
    | some k => some (.ref k)
    | none => none
  | v => some v
def mm_bkL (V : List Nat) (vs : List Value) : Option (List Value) := match vs with
  | [] => some []
  | v :: vs => match mm_bkV V v with
    | some w => match mm_bkL V vs with
      | some ws => some (w :: ws)
      | none => none
    | none => none
def mm_bkC (V : List Nat) (x : MC) : Option MC := match x with
  | .inl x => some (.inl x)
  | .inr (t, fs) => match mm_bkL V fs with
    | some gs => some (.inr (t, gs))
    | none => none
def mm_bk (V U : List Nat) (hs h : MH) : Option MH := match U, hs with
  | [], [] => some h
  | k :: U, x :: hs => match mm_bkC V x with
    | some y => mm_bk V U hs (h.set k y)
    | none => none
  | _, _ => none
def mm_bkO (V : List Nat) (r : Option Value) : Option (Option Value) := match r with
  | none => some none
  | some v => match mm_bkV V v with
    | some w => some (some w)
    | none => none
def mm_vok (V : List Nat) : Bool := va_nd V && Nat.ble V.length 1000
def mm_rok (ret : Option FieldType) (v : Value) : Bool := match ret with
  | some ty => mm_fit ty v
  | none => false
def mm_ret (i : Instr) (ret : Option FieldType) (st : List Value) (h : MH) : Option (Option Value × MH) := match i, st with
  | .ireturn, [.int v] => if mm_rok ret (.int v) = true then some (some (.int v), h) else none
  | .lreturn, [.long v] => if mm_rok ret (.long v) = true then some (some (.long v), h) else none
  | .areturn, [.ref v] => if mm_rok ret (.ref v) = true then some (some (.ref v), h) else none
  | .return_, [] => match ret with
    | none => some (none, h)
    | some _ => none
  | _, _ => none
/-- may the call be made: enough on the stack, few words below, the receiver of the class -/
def mm_cok (virt : Bool) (f : MI) (st : List Value) (h : MH) : Bool := decide (f.1 ≤ st.length) && decide (mm_ct (st.drop f.1) ≤ 8) && decide ((mm_sl ((st.take f.1).reverse)).length ≤ f.2.1) && match virt with
  | true => !f.2.2.2.2 && match (st.take f.1).reverse with
    | .ref a :: _ => (mm_obj h a f.2.2.2.1).isSome
    | _ => false
  | false => f.2.2.2.2
section MMR
variable (fet : Nat → Nat → Option Instr) (fld : Nat → Nat → Option (Nat × Nat × FieldType × Bool)) (mth : Nat → Nat → Option (Nat × Bool)) (inf : Nat → MI) (prm : Nat → Nat → Instr → List Value → Option (Nat × List Value)) (bsz : Nat → Nat)
def mm_stp (d y : Nat) (i : Instr) (pc : Nat) (ls : ML) (st : List Value) (h : MH) : Option (Nat × ML × List Value × MH) := match mm_s0 i pc ls st with
  | some (pc', ls', st') => some (pc', ls', st', h)
  | none => match mm_s1 (fld y) i pc st h with
    | some (pc', st', h') => some (pc', ls, st', h')
    | none => match prm y d i st with
      | some (n, st') => some (pc + n, ls, st', h)
      | none => none
def mm_cal (virt : Bool) (y idx : Nat) (st : List Value) (h : MH) : Option (Nat × Bool) := match mth y idx with
  | some (y', vw) => if mm_cok virt (inf y') st h = true then some (y', vw) else none
  | none => none
def mm_isI (i : Instr) : Option (Bool × Nat) := match i with
  | .invokevirtual idx => some (true, idx)
  | .invokestatic idx => some (false, idx)
  | _ => none
def mm_run (n d y pc : Nat) (ls : ML) (st : List Value) (h : MH) : Option (Option Value × MH) := match n with
  | 0 => none
  | n + 1 => match fet y pc with
    | none => none
    | some i => match mm_stp fld prm d y i pc ls st h with
      | some (pc', ls', st', h') => mm_run n d y pc' ls' st' h'
      | none => match mm_isI i with
        | none => mm_ret i (inf y).2.2.1 st h
        | some (virt, idx) => match mm_cal mth inf virt y idx st h with
          | none => none
          | some (y', vw) => match d with
            | 0 => none
            | d' + 1 => match vw with
              | false => match mm_run n d' y' 0 (mm_en (inf y').2.1 ((st.take (inf y').1).reverse)) [] h with
                | some (r, h') => mm_run n (d' + 1) y (pc + 3) ls (r.toList ++ st.drop (inf y').1) h'
                | none => none
              | true => match mm_sub (mm_view bsz h ((st.take (inf y').1).reverse)) (mm_view bsz h ((st.take (inf y').1).reverse)) h, mm_rnL (mm_view bsz h ((st.take (inf y').1).reverse)) ((st.take (inf y').1).reverse), mm_vok (mm_view bsz h ((st.take (inf y').1).reverse)) with
                | some hs, some vs, true => match mm_run n d' y' 0 (mm_en (inf y').2.1 vs) [] hs with
                  | some (r, hs') => match mm_bkO (mm_view bsz h ((st.take (inf y').1).reverse)) r, mm_bk (mm_view bsz h ((st.take (inf y').1).reverse)) (mm_view bsz h ((st.take (inf y').1).reverse)) hs' h with
                    | some r', some h' => mm_run n (d' + 1) y (pc + 3) ls (r'.toList ++ st.drop (inf y').1) h'
                    | _, _ => none
                  | none => none
                | _, _, _ => none
end MMR
/-! lengths stay -/
theorem mm_s1_len {fld : Nat → Option (Nat × Nat × FieldType × Bool)} {i : Instr} {pc pc' : Nat} {st st' : List Value} {h h' : MH} (hq : mm_s1 fld i pc st h = some (pc', st', h')) : h'.length = h.length := by
  unfold mm_s1 at hq
  split at hq
  · obtain ⟨v, -, -, -, rfl⟩ := mm_r1_ok hq; rfl
  · obtain ⟨hw, -, -⟩ := mm_w1_ok hq
    obtain ⟨ci, k, ty, fs, -, -, -, -, rfl⟩ := mm_pf_ok hw
    exact List.length_set
  · obtain ⟨v, -, -, -, rfl⟩ := mm_r1_ok hq; rfl
  · split at hq
    · obtain ⟨v, -, -, -, rfl⟩ := mm_r1_ok hq; rfl
    · obtain ⟨v, -, -, -, rfl⟩ := mm_r1_ok hq; rfl
  · obtain ⟨v, -, -, -, rfl⟩ := mm_r1_ok hq; rfl
  · obtain ⟨v, -, -, -, rfl⟩ := mm_r1_ok hq; rfl
  · obtain ⟨hw, -, -⟩ := mm_w1_ok hq
    obtain ⟨L, -, -, rfl⟩ := mm_wa_ok hw
    exact List.length_set
  · split at hq
    · split at hq
      · obtain ⟨hw, -, -⟩ := mm_w1_ok hq
        obtain ⟨L, -, -, rfl⟩ := mm_wa_ok hw
        exact List.length_set
      · cases hq
    · obtain ⟨hw, -, -⟩ := mm_w1_ok hq
      obtain ⟨L, -, -, rfl⟩ := mm_wa_ok hw
      exact List.length_set
  · cases hq
theorem mm_bk_len {V : List Nat} : ∀ (U : List Nat) (hs h h' : MH), mm_bk V U hs h = some h' → h'.length = h.length ∧ hs.length = U.length
  | [], [], h, h', hq => by cases hq; exact ⟨rfl, rfl⟩
  | [], x :: hs, h, h', hq => by cases hq
  | k :: U, [], h, h', hq => by cases hq
  | k :: U, x :: hs, h, h', hq => by
    unfold mm_bk at hq
    split at hq
    · obtain ⟨a, b⟩ := mm_bk_len U hs _ h' hq
      exact ⟨a.trans List.length_set, by rw [List.length_cons, List.length_cons, b]⟩
    · cases hq
end
section
/-! Views: a part of the cells under other names is the same world -/
/-- the callee's names -/
def mm_adV (ad : Nat → Nat) (V : List Nat) (j : Nat) : Nat := match V[j]? with
  | some k => ad k
  | none => ad j
theorem mm_adV_at {ad : Nat → Nat} {V : List Nat} {j k : Nat} (h : V[j]? = some k) : mm_adV ad V j = ad k := by
  unfold mm_adV
  rw [h]
theorem mm_adV_ext {ad exA : Nat → Nat} {V : List Nat} (hV : mm_vok V = true) (hex : ∀ k, 1000000 ≤ k → ad k = exA k) : ∀ k, 1000000 ≤ k → mm_adV ad V k = exA k := by
  intro k hk
  unfold mm_vok at hV
  rw [Bool.and_eq_true] at hV
  have hl := Nat.le_of_ble_eq_true hV.2
  unfold mm_adV
  rw [List.getElem?_eq_none (by omega)]
  exact hex k hk
theorem mm_idx_at {k : Nat} : ∀ (V : List Nat) (j0 j : Nat), mm_idx k V j0 = some j → ∃ i, j = j0 + i ∧ V[i]? = some k
  | [], j0, j, h => by cases h
  | v :: V, j0, j, h => by
    unfold mm_idx at h
    split at h
    · rename_i e
      cases h
      exact ⟨0, rfl, by rw [e]; rfl⟩
    · obtain ⟨i, h1, h2⟩ := mm_idx_at V (j0 + 1) j h
      exact ⟨i + 1, by omega, h2⟩
theorem mm_rnV_ok {ad : Nat → Nat} {V : List Nat} {v w : Value} (h : mm_rnV V v = some w) : mm_tv (mm_adV ad V) w = mm_tv ad v := by
  unfold mm_rnV at h
  split at h
  · rename_i k
    split at h
    · rename_i j hj
      cases h
      obtain ⟨i, h1, h2⟩ := mm_idx_at V 0 j hj
      have : j = i := by omega
      subst this
      show Value.ref (mm_adV ad V j) = Value.ref (ad k)
      rw [mm_adV_at h2]
    · cases h
  · rename_i hn
    cases h
    cases v <;> first | rfl | exact absurd rfl (hn _)
theorem mm_bkV_ok {ad : Nat → Nat} {V : List Nat} {v w : Value} (h : mm_bkV V v = some w) : mm_tv ad w = mm_tv (mm_adV ad V) v := by
  unfold mm_bkV at h
  split at h
  · rename_i j
    split at h
    · rename_i k hk
      cases h
      show Value.ref (ad k) = Value.ref (mm_adV ad V j)
      rw [mm_adV_at hk]
    · cases h
  · rename_i hn
    cases h
    cases v <;> first | rfl | exact absurd rfl (hn _)
theorem mm_rnL_ok {ad : Nat → Nat} {V : List Nat} : ∀ (vs ws : List Value), mm_rnL V vs = some ws → ws.map (mm_tv (mm_adV ad V)) = vs.map (mm_tv ad)
  | [], ws, h => by cases h; rfl
  | v :: vs, ws, h => by
    unfold mm_rnL at h
    split at h
    · rename_i w hw
      split at h
      · rename_i ws' hws
        cases h
        rw [List.map_cons, List.map_cons, mm_rnV_ok hw, mm_rnL_ok vs ws' hws]
      · cases h
    · cases h
theorem mm_bkL_ok {ad : Nat → Nat} {V : List Nat} : ∀ (vs ws : List Value), mm_bkL V vs = some ws → ws.map (mm_tv ad) = vs.map (mm_tv (mm_adV ad V))
  | [], ws, h => by cases h; rfl
  | v :: vs, ws, h => by
    unfold mm_bkL at h
    split at h
    · rename_i w hw
      split at h
      · rename_i ws' hws
        cases h
        rw [List.map_cons, List.map_cons, mm_bkV_ok hw, mm_bkL_ok vs ws' hws]
      · cases h
    · cases h
theorem mm_rf_tv {ad ad' : Nat → Nat} {v w : Value} (h : mm_tv ad v = mm_tv ad' w) : mm_rf ad v = mm_rf ad' w := by
  cases v <;> cases w <;> first | rfl | (cases h; done) | exact congrArg some (Value.ref.inj h)
theorem mm_tE_congr {cA : Nat → ClassId} {ad ad' : Nat → Nat} {t : Nat} {fs gs : List Value} (h : fs.map (mm_tv ad) = gs.map (mm_tv ad')) : mm_tE cA ad (.inr (t, fs)) = mm_tE cA ad' (.inr (t, gs)) := by
  by_cases ht : t < 100
  · rw [mm_tE_o ht, mm_tE_o ht, h]
  · have ht' : 100 ≤ t := by omega
    rw [mm_tE_r ht', mm_tE_r ht']
    have hl : fs.length = gs.length := by
      have := congrArg List.length h
      rwa [List.length_map, List.length_map] at this
    rw [hl]
    have hf : (fun j => mm_rf ad (fs.getD j .null)) = (fun j => mm_rf ad' (gs.getD j .null)) := by
      funext j
      apply mm_rf_tv
      have h2 : (fs.map (mm_tv ad))[j]? = (gs.map (mm_tv ad'))[j]? := by rw [h]
      rw [List.getElem?_map, List.getElem?_map] at h2
      rw [List.getD_eq_getElem?_getD, List.getD_eq_getElem?_getD]
      cases hf : fs[j]? with
      | none =>
        rw [hf] at h2
        cases hg : gs[j]? with
        | none => rfl
        | some g => rw [hg] at h2; cases h2
      | some f =>
        rw [hf] at h2
        cases hg : gs[j]? with
        | none => rw [hg] at h2; cases h2
        | some g => rw [hg] at h2; exact Option.some.inj h2
    rw [hf]
theorem mm_rnC_ok {cA : Nat → ClassId} {ad : Nat → Nat} {V : List Nat} {x y : MC} (h : mm_rnC V x = some y) : mm_tE cA (mm_adV ad V) y = mm_tE cA ad x := by
  unfold mm_rnC at h
  split at h
  · cases h; rfl
  · split at h
    · rename_i gs hg
      cases h
      exact mm_tE_congr (mm_rnL_ok _ _ hg)
    · cases h
theorem mm_bkC_ok {cA : Nat → ClassId} {ad : Nat → Nat} {V : List Nat} {x y : MC} (h : mm_bkC V x = some y) : mm_tE cA ad y = mm_tE cA (mm_adV ad V) x := by
  unfold mm_bkC at h
  split at h
  · cases h; rfl
  · split at h
    · rename_i gs hg
      cases h
      exact mm_tE_congr (mm_bkL_ok _ _ hg)
    · cases h
theorem mm_sub_at {V : List Nat} {h : MH} : ∀ (U : List Nat) (hs : MH), mm_sub V U h = some hs → hs.length = U.length ∧ ∀ (j : Nat) (y : MC), hs[j]? = some y → ∃ k x, U[j]? = some k ∧ h[k]? = some x ∧ mm_rnC V x = some y
  | [], hs, hq => by cases hq; exact ⟨rfl, fun j y hy => by cases hy⟩
  | k :: U, hs, hq => by
    unfold mm_sub at hq
    split at hq
    · rename_i x hx
      split at hq
      · rename_i y hy
        split at hq
        · rename_i ys hys
          cases hq
          obtain ⟨h1, h2⟩ := mm_sub_at U ys hys
          refine ⟨by rw [List.length_cons, List.length_cons, h1], fun j z hz => ?_⟩
          cases j with
          | zero => cases hz; exact ⟨k, x, rfl, hx, hy⟩
          | succ j => exact h2 j z hz
        · cases hq
      · cases hq
    · cases hq
theorem mm_bk_at {V : List Nat} : ∀ (U : List Nat) (hs h h' : MH), mm_bk V U hs h = some h' → ∀ (k : Nat) (y : MC), h'[k]? = some y → (∃ (j : Nat) (x : MC), U[j]? = some k ∧ hs[j]? = some x ∧ mm_bkC V x = some y) ∨ (k ∉ U ∧ h[k]? = some y)
  | [], [], h, h', hq, k, y, hy => by cases hq; exact Or.inr ⟨List.not_mem_nil, hy⟩
  | [], x :: hs, h, h', hq, _, _, _ => by cases hq
  | k :: U, [], h, h', hq, _, _, _ => by cases hq
  | k0 :: U, x0 :: hs, h, h', hq, k, y, hy => by
    unfold mm_bk at hq
    split at hq
    · rename_i y0 hy0
      rcases mm_bk_at U hs _ h' hq k y hy with ⟨j, x, h1, h2, h3⟩ | ⟨h1, h2⟩
      · exact Or.inl ⟨j + 1, x, h1, h2, h3⟩
      · rw [List.getElem?_set] at h2
        split at h2
        · rename_i e
          split at h2
          · cases h2
            exact Or.inl ⟨0, x0, by rw [e]; rfl, rfl, hy0⟩
          · cases h2
        · rename_i e
          refine Or.inr ⟨fun hm => ?_, h2⟩
          rcases List.mem_cons.mp hm with e2 | e2
          · exact e e2.symm
          · exact h1 e2
    · cases hq
/-! a callee's world inside the caller's -/
section MV
variable {D : va_G} {cl : List vw_C} {cA : Nat → ClassId} {ad : Nat → Nat} {h hs : MH} {V : List Nat} {H : Heap} {A : Nat → Prop}
theorem mm_subP (hq : mm_sub V V h = some hs) (hP : va_P D cl (mm_wd cA ad h) H) : va_P D cl (mm_wd cA (mm_adV ad V) hs) H := by
  intro j q hj
  obtain ⟨y, hy, rfl⟩ := mm_wd_of hj
  obtain ⟨k, x, h1, h2, h3⟩ := (mm_sub_at V hs hq).2 j y hy
  rw [mm_adV_at h1, mm_rnC_ok h3]
  exact hP k _ (mm_wd_at h2)
theorem mm_subD (hV : mm_vok V = true) (hq : mm_sub V V h = some hs) (hD : va_D A (mm_wd cA ad h)) : va_D A (mm_wd cA (mm_adV ad V) hs) := by
  unfold mm_vok at hV
  rw [Bool.and_eq_true] at hV
  refine ⟨fun i j p q hi hj e => ?_, fun j q hj => ?_⟩
  · obtain ⟨y1, hy1, rfl⟩ := mm_wd_of hi
    obtain ⟨y2, hy2, rfl⟩ := mm_wd_of hj
    obtain ⟨k1, x1, a1, a2, -⟩ := (mm_sub_at V hs hq).2 i y1 hy1
    obtain ⟨k2, x2, b1, b2, -⟩ := (mm_sub_at V hs hq).2 j y2 hy2
    have e2 : ad k1 = ad k2 := by
      have : mm_adV ad V i = mm_adV ad V j := e
      rwa [mm_adV_at a1, mm_adV_at b1] at this
    have e3 := hD.1 k1 k2 _ _ (mm_wd_at a2) (mm_wd_at b2) e2
    subst e3
    exact va_nd_inj V hV.1 i j k1 a1 b1
  · obtain ⟨y, hy, rfl⟩ := mm_wd_of hj
    obtain ⟨k, x, h1, h2, -⟩ := (mm_sub_at V hs hq).2 j y hy
    show A (mm_adV ad V j)
    rw [mm_adV_at h1]
    exact hD.2 k _ (mm_wd_at h2)
theorem mm_subA (hq : mm_sub V V h = some hs) (hD : va_D A (mm_wd cA ad h)) {sz q : Nat} (hA : ∀ q, sz ≤ q → A q) (ha : va_A (mm_wd cA (mm_adV ad V) hs) sz q) : A q := by
  rcases ha with ⟨j, e, hj⟩ | ha
  · obtain ⟨y, hy, e2⟩ := mm_wd_of hj
    obtain ⟨k, x, h1, h2, -⟩ := (mm_sub_at V hs hq).2 j y hy
    have e3 : q = mm_adV ad V j := congrArg Prod.fst e2
    rw [e3, mm_adV_at h1]
    exact hD.2 k _ (mm_wd_at h2)
  · exact hA q ha
theorem mm_bkP {hs' h' : MH} {H1 : Heap} (hq : mm_sub V V h = some hs) (hb : mm_bk V V hs' h = some h') (hP : va_P D cl (mm_wd cA ad h) H) (hD : va_D A (mm_wd cA ad h)) (hP1 : va_P D cl (mm_wd cA (mm_adV ad V) hs') H1) (hk : ∀ q : Nat, q < H.size → ¬ va_A (mm_wd cA (mm_adV ad V) hs) H.size q → H1[q]? = H[q]?) : va_P D cl (mm_wd cA ad h') H1 := by
  intro k q hkq
  obtain ⟨y, hy, rfl⟩ := mm_wd_of hkq
  rcases mm_bk_at V hs' h h' hb k y hy with ⟨j, x, h1, h2, h3⟩ | ⟨h1, h2⟩
  · have := hP1 j _ (mm_wd_at h2)
    rw [mm_adV_at h1, ← mm_bkC_ok h3] at this
    exact this
  · have hat := hP k _ (mm_wd_at h2)
    refine hat.kept (hk _ hat.lt (fun ha => ?_))
    rcases ha with ⟨j, e, hj⟩ | ha
    · obtain ⟨y2, hy2, e2⟩ := mm_wd_of hj
      obtain ⟨k2, x2, a1, a2, -⟩ := (mm_sub_at V hs hq).2 j y2 hy2
      have e3 : ad k = mm_adV ad V j := congrArg Prod.fst e2
      rw [mm_adV_at a1] at e3
      have e4 := hD.1 k k2 _ _ (mm_wd_at h2) (mm_wd_at a2) e3
      subst e4
      exact h1 (List.mem_of_getElem? a1)
    · exact absurd hat.lt (Nat.not_lt.mpr ha)
theorem mm_lenD {h' : MH} (hl : h'.length = h.length) (hD : va_D A (mm_wd cA ad h)) : va_D A (mm_wd cA ad h') := by
  have key : ∀ (k : Nat) (q : Nat × va_E), (mm_wd cA ad h')[k]? = some q → ∃ q0, (mm_wd cA ad h)[k]? = some q0 ∧ q0.1 = q.1 := by
    intro k q hk
    obtain ⟨y, hy, rfl⟩ := mm_wd_of hk
    have hlt := (List.getElem?_eq_some_iff.mp hy).1
    rw [hl] at hlt
    exact ⟨_, mm_wd_at (List.getElem?_eq_getElem hlt), rfl⟩
  refine ⟨fun i j x y hi hj hxy => ?_, fun k q hk => ?_⟩
  · obtain ⟨x0, h1, h2⟩ := key i x hi
    obtain ⟨y0, h3, h4⟩ := key j y hj
    exact hD.1 i j x0 y0 h1 h3 (h2.trans (hxy.trans h4.symm))
  · obtain ⟨q0, h1, h2⟩ := key k q hk
    rw [← h2]
    exact hD.2 k q0 h1
end MV
/-! a callee's locals -/
theorem mm_sl_at {ad : Nat → Nat} : ∀ (vs : List Value) (i0 i : Nat) (v : Value), (mm_sl vs)[i]? = some (some v) → (i0 + i, mm_tv ad v) ∈ lv_args i0 (vs.map (mm_tv ad))
  | [], i0, i, v, h => by cases h
  | w :: vs, i0, i, v, h => by
    have one : ∀ (hw : w.category ≠ 2) (hs : mm_sl (w :: vs) = some w :: mm_sl vs), (i0 + i, mm_tv ad v) ∈ lv_args i0 ((w :: vs).map (mm_tv ad)) := by
      intro hw hs
      rw [hs] at h
      rw [List.map_cons]
      unfold lv_args
      rw [mm_tv_cat, if_neg hw]
      cases i with
      | zero => cases h; exact List.mem_cons_self
      | succ i =>
        refine List.mem_cons_of_mem _ ?_
        have := mm_sl_at (ad := ad) vs (i0 + 1) i v h
        rwa [show i0 + 1 + i = i0 + (i + 1) by omega] at this
    have two : ∀ (hw : w.category = 2) (hs : mm_sl (w :: vs) = some w :: none :: mm_sl vs), (i0 + i, mm_tv ad v) ∈ lv_args i0 ((w :: vs).map (mm_tv ad)) := by
      intro hw hs
      rw [hs] at h
      rw [List.map_cons]
      unfold lv_args
      rw [mm_tv_cat, if_pos hw]
      match i, h with
      | 0, h => cases h; exact List.mem_cons_self
      | 1, h => cases h
      | i + 2, h =>
        refine List.mem_cons_of_mem _ ?_
        have := mm_sl_at (ad := ad) vs (i0 + 2) i v h
        rwa [show i0 + 2 + i = i0 + (i + 2) by omega] at this
    cases w with
    | long x => exact two rfl rfl
    | double x => exact two rfl rfl
    | int x => exact one (fun z => by cases z) rfl
    | float x => exact one (fun z => by cases z) rfl
    | null => exact one (fun z => by cases z) rfl
    | ref x => exact one (fun z => by cases z) rfl
    | retAddr x => exact one (fun z => by cases z) rfl
theorem mm_en_ok {ad : Nat → Nat} {vs : List Value} {n : Nat} {sl : Array Slot} (h : lv_has sl n (lv_args 0 (vs.map (mm_tv ad)))) : lv_has sl n (mm_as ad (mm_en n vs)) := by
  refine ⟨h.1, h.2.1, fun q hq => ?_⟩
  obtain ⟨v, hv, e⟩ := mm_as_mem.mp hq
  unfold mm_en at hv
  by_cases hl : q.1 < (mm_sl vs).length
  · rw [List.getElem?_append_left hl] at hv
    have := h.2.2 _ (mm_sl_at vs 0 q.1 v hv)
    rw [Nat.zero_add, ← e] at this
    exact this
  · rw [List.getElem?_append_right (by omega), List.getElem?_replicate] at hv
    split at hv <;> cases hv
theorem mm_en_len {vs : List Value} {n : Nat} (h : (mm_sl vs).length ≤ n) : (mm_en n vs).length = n := by
  unfold mm_en
  rw [List.length_append, List.length_replicate]
  omega
theorem mm_sl_lg {ad : Nat → Nat} : ∀ vs : List Value, (lg_sl (vs.map (mm_tv ad))).length = (mm_sl vs).length
  | [] => rfl
  | w :: vs => by
    have ih := mm_sl_lg (ad := ad) vs
    have e : lg_sl ((w :: vs).map (mm_tv ad)) = (if (mm_tv ad w).category = 2 then [.val (mm_tv ad w), .second] else [.val (mm_tv ad w)]) ++ lg_sl (vs.map (mm_tv ad)) := by
      unfold lg_sl
      rw [List.map_cons, List.flatMap_cons]
    rw [e, List.length_append, ih, mm_tv_cat]
    cases w with
    | long x => rw [if_pos (show Value.category _ = 2 from rfl)]; show 2 + _ = _ + 1 + 1; omega
    | double x => rw [if_pos (show Value.category _ = 2 from rfl)]; show 2 + _ = _ + 1 + 1; omega
    | int x => rw [if_neg (fun z => by cases z)]; show 1 + _ = _ + 1; omega
    | float x => rw [if_neg (fun z => by cases z)]; show 1 + _ = _ + 1; omega
    | null => rw [if_neg (fun z => by cases z)]; show 1 + _ = _ + 1; omega
    | ref x => rw [if_neg (fun z => by cases z)]; show 1 + _ = _ + 1; omega
    | retAddr x => rw [if_neg (fun z => by cases z)]; show 1 + _ = _ + 1; omega
theorem mm_sl_map {ad : Nat → Nat} : ∀ vs : List Value, (mm_sl (vs.map (mm_tv ad))).length = (mm_sl vs).length
  | [] => rfl
  | w :: vs => by
    have ih := mm_sl_map (ad := ad) vs
    cases w <;> simp [mm_sl, mm_tv, ih]
theorem mm_ct_ok {ad : Nat → Nat} : ∀ st : List Value, ((st.map (mm_tv ad)).map fun v => v.category).sum = mm_ct st
  | [] => rfl
  | w :: st => by
    have ih := mm_ct_ok (ad := ad) st
    rw [List.map_cons, List.map_cons, List.sum_cons, ih, mm_tv_cat]
    cases w <;> simp [mm_ct, Value.category] <;> omega
end
section
/-! WHAT THE SMALL MACHINE RUNS, THE MACHINE RUNS -/
section MMS
variable (fet : Nat → Nat → Option Instr) (fld : Nat → Nat → Option (Nat × Nat × FieldType × Bool)) (mth : Nat → Nat → Option (Nat × Bool)) (inf : Nat → MI) (prm : Nat → Nat → Instr → List Value → Option (Nat × List Value)) (bsz : Nat → Nat)
variable (l : Launch) (D : va_G) (cl : List vw_C) (tys : List (ClassId × FieldType)) (cA : Nat → ClassId) (s00 : State) (lo : Nat) (exA : Nat → Nat) (TB : List Cond) (nm : Nat → MethodName) (code : Nat → ByteArray)
def mm_ww (y : Nat) : List Cond := Cond.code (nm y) (code y) (inf y).2.1 (inf y).2.2.1 :: TB
def mm_rm (d : Nat) : Room := { frames := d + 1, cells := 0, slots := 0, locals := 40 * (d + 1) }
/-- what every later state keeps of the start -/
def mm_St (U : State) : Prop := lo ≤ U.heap.size ∧ (∀ q : Nat, q < lo → U.heap[q]? = s00.heap[q]?) ∧ s00.vm.Alike U.vm
def mm_Pc (ad : Nat → Nat) (vs : List Value) (h : MH) (sz : Nat) : Array Value → State → Prop := va_Pc (vs.map (mm_tv ad)) (fun U => U.heap.size = sz ∧ va_P D cl (mm_wd cA ad h) U.heap ∧ mm_St s00 lo U)
def mm_Qc (ad : Nat → Nat) (A : Nat → Prop) (r : Option Value) (h' : MH) : Array Value → State → Outcome → State → Prop := fun _ st oc t => oc = .returned (r.map (mm_tv ad)) ∧ va_P D cl (mm_wd cA ad h') t.heap ∧ va_F A st t
def mm_Met (d y : Nat) (vs : List Value) (h : MH) (r : Option Value) (h' : MH) : Prop := ∀ (ad : Nat → Nat) (sz : Nat), (∀ k, 1000000 ≤ k → ad k = exA k) → va_D (fun q => lo ≤ q) (mm_wd cA ad h) → lo ≤ sz → Met l (nm y) (mm_ww inf TB nm code y) (mm_rm d) (mm_Pc D cl cA s00 lo ad vs h sz) (mm_Qc D cl cA ad (va_A (mm_wd cA ad h) sz) r h') 0 0 (va_A (mm_wd cA ad h) sz)
/-- a method's frame -/
def mm_Cx (p : Program) (s : State) (m : MethodId) (args : Array Value) (meth : Method) (c : Code) (A : Nat → Prop) (y : Nat) : Prop :=
  p.tables.exec = Jvm.exec ∧ c.code = code y ∧ c.maxLocals = (inf y).2.1 ∧ meth.sig.returnType = (inf y).2.2.1 ∧ meth.locks = false ∧ s.vm.findClass (nm y).cls = some m.cls ∧ (∀ w ∈ TB, w.before args s = true) ∧ va_K D cl tys s ∧ (∀ q, s.heap.size ≤ q → A q) ∧ (∀ q, A q → lo ≤ q) ∧ mm_St s00 lo s
/-- what the tables say of a method that is called -/
def mm_MO (own : String) (idx y' : Nat) : Prop :=
  plainName (nm y').cls = true ∧ Cond.code (nm y') (code y') (inf y').2.1 (inf y').2.2.1 ∈ TB ∧ Cond.initialized (nm y').cls ∈ TB ∧ ((nm y').cls ≠ "java/lang/invoke/MethodHandle" ∧ (nm y').cls ≠ "java/lang/invoke/VarHandle") ∧ (inf y').2.1 ≤ 21 ∧
  (Cond.methodLink own idx (nm y') ∈ TB ∨ ∃ host, Cond.methodLinkNest own idx (nm y') host ∈ TB) ∧
  ((inf y').2.2.2.2 = true → (parseMethodDescriptor (nm y').desc).map (fun d => d.parameters.length) = some (inf y').1 ∧ Cond.static (nm y') ∈ TB) ∧
  ((inf y').2.2.2.2 = false → ∃ n T N, (inf y').1 = n + 1 ∧ (parseMethodDescriptor (nm y').desc).map (fun d => d.parameters.length) = some n ∧ Cond.instanceMethod (nm y') ∈ TB ∧ Cond.selects (nm y').cls (nm y') (nm y') ∈ TB ∧ (inf y').2.2.2.1 < 100 ∧ cl[(inf y').2.2.2.1]? = some ((nm y').cls, T, N))
/-- what the tables say of all -/
def mm_TO : Prop := (∀ w ∈ TB, goodWord w = true) ∧ mm_AO cA tys ∧ (∀ y pc i, fet y pc = some i → mm_dec (code y) pc i) ∧ (∀ y idx ci k ty fin, fld y idx = some (ci, k, ty, fin) → mm_FO cl TB (nm y).cls idx ci k ty fin) ∧ (∀ y idx y' vw, mth y idx = some (y', vw) → mm_MO inf cl TB nm code (nm y).cls idx y') ∧ va_K D cl tys s00
/-- and of the calls that the small machine answers itself -/
def mm_PO : Prop := ∀ (y d : Nat) (i : Instr) (st : List Value) (n : Nat) (st' : List Value), prm y d i st = some (n, st') → ∀ (p : Program) (e : Env) (s : State) (m : MethodId) (args : Array Value) (below : List Frame) (meth : Method) (c : Code) (H : Heap) (locs : List Loc) (R : Room) (cells slots : Nat) (Q : State → Prop) (A : Nat → Prop) (ad : Nat → Nat) (pc : Nat) (sl : Array Slot), mm_Cx inf D cl tys s00 lo TB nm code p s m args meth c A y → (d + 1 ≤ R.frames ∧ 40 * (d + 1) ≤ R.locals ∧ cells ≤ R.cells ∧ slots ≤ R.slots) → (∀ k, 1000000 ≤ k → ad k = exA k) → va_S A s.heap H locs → sl.size = (inf y).2.1 → fet y pc = some i → W p l e R s m args below meth c H locs cells slots Q (F0 m (pc + n) sl (st'.map (mm_tv ad))) → W p l e R s m args below meth c H locs cells slots Q (F0 m pc sl (st.map (mm_tv ad)))
end MMS
section MMT
variable {fet : Nat → Nat → Option Instr} {fld : Nat → Nat → Option (Nat × Nat × FieldType × Bool)} {mth : Nat → Nat → Option (Nat × Bool)} {inf : Nat → MI} {prm : Nat → Nat → Instr → List Value → Option (Nat × List Value)} {bsz : Nat → Nat}
variable {l : Launch} {D : va_G} {cl : List vw_C} {tys : List (ClassId × FieldType)} {cA : Nat → ClassId} {s00 : State} {lo : Nat} {exA : Nat → Nat} {TB : List Cond} {nm : Nat → MethodName} {code : Nat → ByteArray}
theorem mm_good {y : Nat} (hg : ∀ w ∈ TB, goodWord w = true) (hc : Cond.code (nm y) (code y) (inf y).2.1 (inf y).2.2.1 ∈ TB) : GoodIn TB (mm_ww inf TB nm code y) := by
  intro w hw
  have : w ∈ TB := by
    rcases List.mem_cons.mp hw with rfl | h
    · exact hc
    · exact h
  exact ⟨this, good_of_word (hg w this)⟩
theorem mm_blind {ad : Nat → Nat} {vs : List Value} {h : MH} {sz : Nat} : FrameBlind (mm_Pc D cl cA s00 lo ad vs h sz) := fun _ _ _ _ q => q
/-- behind a call -/
theorem mm_after {p : Program} {e : Env} {R : Room} {s : State} {m : MethodId} {args : Array Value} {below : List Frame} {meth : Method} {c : Code} {H : Heap} {locs : List Loc} {cells slots : Nat} {Q : State → Prop} {pc : Nat} {sl : Array Slot} {st0 rest : List Value} {a : Array Value} {ad : Nat → Nat} {A A1 : Nat → Prop} {r : Option Value} {h' : MH}
    (hr : va_Run p l e R s m args below meth c H locs cells slots 0 0 (F0 m pc sl st0) rest (mm_Qc D cl cA ad A1 r h' a) A1) (hS : va_S A s.heap H locs) (hA : ∀ q, A1 q → A q)
    (kk : ∀ (H1 : Heap) (locs1 : List Loc), va_P D cl (mm_wd cA ad h') H1 → (∀ q : Nat, q < H.size → ¬ A1 q → H1[q]? = H[q]?) → va_S A s.heap H1 locs1 → W p l e R s m args below meth c H1 locs1 cells slots Q (F0 m (pc + 3) sl ((r.map (mm_tv ad)).toList ++ rest))) : W p l e R s m args below meth c H locs cells slots Q (F0 m pc sl st0) := by
  intro T hT X
  obtain ⟨v, st₀, t, T', L, h0, X', hL, e1, e2, ⟨hv, hp, hz, hk⟩, st⟩ := hr T hT X
  cases hv
  rw [h0] at hz hk
  obtain ⟨t2, a1, b1⟩ := kk T'.heap (locs ++ L) (by rw [e1]; exact hp) (fun q h1 h2 => by rw [e1]; exact hk q h1 h2)
    ⟨Nat.le_trans hS.1 (by rw [e1]; exact hz), fun q h1 h2 => by rw [e1, hk q (Nat.lt_of_lt_of_le h1 hS.1) (fun z => h2 (hA q z))]; exact hS.2.1 q h1 h2, fun q hq => by
      rcases List.mem_append.mp hq with h | h
      · exact hS.2.2 q h
      · exact hA _ (hL q h)⟩ T' rfl X'
  exact ⟨t2, st t2 a1, b1⟩
/-- the claim of a run, from any place of a method -/
def mm_WS (inf : Nat → MI) (l : Launch) (D : va_G) (cl : List vw_C) (tys : List (ClassId × FieldType)) (cA : Nat → ClassId) (s00 : State) (lo : Nat) (exA : Nat → Nat) (TB : List Cond) (nm : Nat → MethodName) (code : Nat → ByteArray) (d y pc : Nat) (ls : ML) (st : List Value) (h : MH) (r : Option Value) (h' : MH) : Prop :=
  ∀ (p : Program) (e : Env) (s : State) (m : MethodId) (args : Array Value) (below : List Frame) (meth : Method) (c : Code) (H : Heap) (locs : List Loc) (A : Nat → Prop) (ad : Nat → Nat) (sl : Array Slot), mm_Cx inf D cl tys s00 lo TB nm code p s m args meth c A y → (∀ k, 1000000 ≤ k → ad k = exA k) → va_P D cl (mm_wd cA ad h) H → va_D A (mm_wd cA ad h) → va_S A s.heap H locs → lv_has sl ls.length (mm_as ad ls) → ls.length = (inf y).2.1 →
    W p l e (mm_rm d) s m args below meth c H locs 0 0 (MQ below (mm_Qc D cl cA ad A r h') args s 0 0 A) (F0 m pc sl (st.map (mm_tv ad)))
/-- a method's contract out of its run -/
theorem mm_Met_of {d y : Nat} {vs : List Value} {h : MH} {r : Option Value} {h' : MH} (hT : va_K D cl tys s00) (hy : plainName (nm y).cls = true) (hl : (mm_sl vs).length ≤ (inf y).2.1) (hW : mm_WS inf l D cl tys cA s00 lo exA TB nm code d y 0 (mm_en (inf y).2.1 vs) [] h r h') : mm_Met inf l D cl cA s00 lo exA TB nm code d y vs h r h' := by
  intro ad sz hex hD hlo
  refine Met.ofW (cc := code y) (maxL := (inf y).2.1) (ret := (inf y).2.2.1) hy rfl ?_
  intro p e s m args below meth c s₁ B hml hv
  obtain ⟨rfl, hsz, hP, hSt⟩ := hv
  have hts := atoms_spec (ws := mm_ww inf TB nm code y) B.pre
  have hlen : (mm_en (inf y).2.1 vs).length = (inf y).2.1 := mm_en_len hl
  have hent := lv_entry (vs.map (mm_tv ad)) (n := (inf y).2.1) (by rw [mm_sl_lg]; exact hl)
  rw [lg_entry_eq]
  refine hW p e s m _ below meth c s.heap [] (va_A (mm_wd cA ad h) sz) ad _ ⟨B.exec, B.bytes, hml, B.returns, B.notSynchronized, findClass_of_methodNamed B.named, fun w hw => hts w (List.mem_cons_of_mem _ hw), va_K.moved hSt.2.2 hT, fun q hq => Or.inr (by rw [← hsz]; exact hq), fun q hq => ?_, hSt⟩ hex hP hD.self va_S.rf ?_ hlen
  · rcases hq with ⟨k, x, hk⟩ | hq
    · exact hD.2 k _ hk
    · exact Nat.le_trans hlo hq
  · rw [hlen]
    exact mm_en_ok hent
end MMT
end
section
section MMU
variable {fet : Nat → Nat → Option Instr} {fld : Nat → Nat → Option (Nat × Nat × FieldType × Bool)} {mth : Nat → Nat → Option (Nat × Bool)} {inf : Nat → MI} {prm : Nat → Nat → Instr → List Value → Option (Nat × List Value)} {bsz : Nat → Nat}
variable {l : Launch} {D : va_G} {cl : List vw_C} {tys : List (ClassId × FieldType)} {cA : Nat → ClassId} {s00 : State} {lo : Nat} {exA : Nat → Nat} {TB : List Cond} {nm : Nat → MethodName} {code : Nat → ByteArray}
theorem mm_St_of {s U : State} {H : Heap} {locs : List Loc} {A : Nat → Prop} (hSt : mm_St s00 lo s) (hAlo : ∀ q, A q → lo ≤ q) (hS : va_S A s.heap H locs) (hU : U.heap = H) (hW : s.WarmedH U.vm) : mm_St s00 lo U := by
  subst hU
  refine ⟨Nat.le_trans hSt.1 hS.1, fun q hq => ?_, hSt.2.2.trans hW.alike⟩
  rw [hS.2.1 q (Nat.lt_of_lt_of_le hq hSt.1) (fun z => absurd (hAlo q z) (Nat.not_le.mpr hq))]
  exact hSt.2.1 q hq
theorem mm_cok_ok {virt : Bool} {f : MI} {st : List Value} {h : MH} (hq : mm_cok virt f st h = true) : f.1 ≤ st.length ∧ mm_ct (st.drop f.1) ≤ 8 ∧ (mm_sl ((st.take f.1).reverse)).length ≤ f.2.1 ∧ (virt = true → f.2.2.2.2 = false ∧ ∃ a As fs, (st.take f.1).reverse = .ref a :: As ∧ mm_obj h a f.2.2.2.1 = some fs) ∧ (virt = false → f.2.2.2.2 = true) := by
  unfold mm_cok at hq
  rw [Bool.and_eq_true, Bool.and_eq_true, Bool.and_eq_true] at hq
  obtain ⟨⟨⟨h1, h2⟩, h3⟩, h4⟩ := hq
  refine ⟨of_decide_eq_true h1, of_decide_eq_true h2, of_decide_eq_true h3, fun hv => ?_, fun hv => ?_⟩
  · subst hv
    dsimp only at h4
    rw [Bool.and_eq_true] at h4
    refine ⟨by simpa using h4.1, ?_⟩
    have h5 := h4.2
    split at h5
    · rename_i a As e
      obtain ⟨fs, hfs⟩ := Option.isSome_iff_exists.mp h5
      exact ⟨a, As, fs, e, hfs⟩
    · cases h5
  · subst hv
    exact h4
theorem mm_callRun {p : Program} {e : Env} {s : State} {m : MethodId} {args : Array Value} {below : List Frame} {meth : Method} {c : Code} {H : Heap} {locs : List Loc} {A : Nat → Prop} {ad ad' : Nat → Nat} {sl : Array Slot} {d y y' idx pc : Nat} {virt : Bool} {i : Instr} {st vs' : List Value} {h hs hs' : MH} {r : Option Value}
    (hg : ∀ w ∈ TB, goodWord w = true) (C : mm_Cx inf D cl tys s00 lo TB nm code p s m args meth c A y) (hP : va_P D cl (mm_wd cA ad h) H) (hS : va_S A s.heap H locs) (hsl : sl.size = (inf y).2.1) (hd : mm_dec (code y) pc i) (hi : mm_isI i = some (virt, idx)) (hcok : mm_cok virt (inf y') st h = true) (hMO : mm_MO inf cl TB nm code (nm y).cls idx y')
    (hM : mm_Met inf l D cl cA s00 lo exA TB nm code d y' vs' hs r hs') (hex : ∀ k, 1000000 ≤ k → ad' k = exA k) (hD' : va_D (fun q => lo ≤ q) (mm_wd cA ad' hs)) (hP' : va_P D cl (mm_wd cA ad' hs) H) (hvs : vs'.map (mm_tv ad') = ((st.take (inf y').1).reverse).map (mm_tv ad)) :
    ∃ a : Array Value, va_Run p l e (mm_rm (d + 1)) s m args below meth c H locs 0 0 0 0 (F0 m pc sl (st.map (mm_tv ad))) ((st.drop (inf y').1).map (mm_tv ad)) (mm_Qc D cl cA ad' (va_A (mm_wd cA ad' hs) H.size) r hs' a) (va_A (mm_wd cA ad' hs) H.size) := by
  obtain ⟨hx, hb, hml, hr, hlocks, hown, hts, hK, hA, hAlo, hSt⟩ := C
  obtain ⟨hnp, hct, hsl', hvirt, hstat⟩ := mm_cok_ok hcok
  obtain ⟨hpl, hcode, hini, hnames, hmax, hlink, hst1, hst2⟩ := hMO
  have hlo : lo ≤ H.size := Nat.le_trans hSt.1 hS.1
  have hMet := hM ad' H.size hex hD' hlo
  have hpre : ∀ U : State, U.heap = H → s.WarmedH U.vm → mm_Pc D cl cA s00 lo ad' vs' hs H.size (((st.take (inf y').1).reverse).map (mm_tv ad)).toArray U := fun U hU hW => ⟨by rw [hvs], by rw [hU], by rw [hU]; exact hP', mm_St_of hSt hAlo hS hU hW⟩
  have hroom : (mm_rm d).frames + 1 ≤ (mm_rm (d + 1)).frames ∧ 8 + ((inf y').2.1 + 11) + (mm_rm d).locals ≤ (mm_rm (d + 1)).locals := by
    refine ⟨Nat.le_refl _, ?_⟩
    show 8 + ((inf y').2.1 + 11) + 40 * (d + 1) ≤ 40 * (d + 1 + 1)
    omega
  have hrest : 2 * (F0 m pc sl (st.map (mm_tv ad))).monitorRoom + ((((st.drop (inf y').1).map (mm_tv ad))).map fun v => v.category).sum ≤ 8 := lv_room (by rw [mm_ct_ok]; exact hct)
  have hstk : st = ((st.take (inf y').1).reverse).reverse ++ st.drop (inf y').1 := by rw [List.reverse_reverse, List.take_append_drop]
  have hlen : ((st.take (inf y').1).reverse).length = (inf y').1 := by rw [List.length_reverse, List.length_take]; omega
  have hf : 0 + 0 ≤ (mm_rm (d + 1)).cells ∧ 0 + 0 ≤ (mm_rm (d + 1)).slots := ⟨Nat.le_refl _, Nat.le_refl _⟩
  cases virt with
  | true =>
    have hii : i = .invokevirtual idx := by
      unfold mm_isI at hi
      split at hi
      · cases hi; rfl
      · cases hi
      · cases hi
    subst hii
    obtain ⟨hs0, a, As, fs, hav, hobj⟩ := hvirt rfl
    obtain ⟨n, T, N, hn, hdesc, hinst, hsel, h100, hcl⟩ := hst2 hs0
    rw [hav] at hlen hstk hpre
    have he := mm_wd_at (cA := cA) (ad := ad) (mm_obj_ok hobj)
    rw [mm_tE_o h100] at he
    have hrec := va_recv hK hP hcl he
    have hstack : st.map (mm_tv ad) = (As.map (mm_tv ad)).reverse ++ .ref (ad a) :: (st.drop (inf y').1).map (mm_tv ad) := by
      conv => lhs; rw [hstk]
      rw [List.map_append, List.map_reverse, List.map_cons, List.reverse_cons, List.append_assoc]
      rfl
    have hnl : (As.map (mm_tv ad)).length = n := by
      rw [List.length_map]
      rw [List.length_cons] at hlen
      omega
    refine ⟨(Value.ref (ad a) :: As.map (mm_tv ad)).toArray, ?_⟩
    rcases hlink with hlink | ⟨host, hlink⟩
    · exact va_runV (As := As.map (mm_tv ad)) (b := ad a) ⟨hx, hb, hml, hown, hts⟩ hMet ⟨callB_of n hts (mm_good hg hcode) rfl rfl rfl (hts _ hini) (hts _ hlink) ⟨hnames.1, hnames.2, hdesc⟩ hroom, hts _ hinst, hts _ hsel⟩ ⟨mm_blind, hrec, hpre⟩ rfl hnl hsl hstack hrest (mm_d1 hd rfl (by decide)) hf
    · exact va_runVN (As := As.map (mm_tv ad)) (b := ad a) ⟨hx, hb, hml, hown, hts⟩ hMet ⟨va_cnB n hts (mm_good hg hcode) rfl rfl rfl (hts _ hlink) (hts _ hini) ⟨hnames.1, hnames.2, hdesc⟩ hroom, hts _ hinst, hts _ hsel⟩ ⟨mm_blind, hrec, hpre⟩ rfl hnl hsl hstack hrest (mm_d1 hd rfl (by decide)) hf
  | false =>
    have hii : i = .invokestatic idx := by
      unfold mm_isI at hi
      split at hi
      · cases hi
      · cases hi; rfl
      · cases hi
    subst hii
    obtain ⟨hdesc, hsta⟩ := hst1 (hstat rfl)
    have hstack : st.map (mm_tv ad) = (((st.take (inf y').1).reverse).map (mm_tv ad)).reverse ++ (st.drop (inf y').1).map (mm_tv ad) := by
      conv => lhs; rw [hstk]
      rw [List.map_append, List.map_reverse]
    have hnl : (((st.take (inf y').1).reverse).map (mm_tv ad)).length = (inf y').1 := by rw [List.length_map]; exact hlen
    refine ⟨(((st.take (inf y').1).reverse).map (mm_tv ad)).toArray, ?_⟩
    rcases hlink with hlink | ⟨host, hlink⟩
    · exact va_runS (As := ((st.take (inf y').1).reverse).map (mm_tv ad)) ⟨hx, hb, hml, hown, hts⟩ hMet ⟨callB_of _ hts (mm_good hg hcode) rfl rfl rfl (hts _ hini) (hts _ hlink) ⟨hnames.1, hnames.2, hdesc⟩ hroom, hts _ hsta⟩ ⟨mm_blind, hpre⟩ rfl hnl hsl hstack hrest (mm_d1 hd rfl (by decide)) hf
    · exact va_runSN (As := ((st.take (inf y').1).reverse).map (mm_tv ad)) ⟨hx, hb, hml, hown, hts⟩ hMet ⟨va_cnB _ hts (mm_good hg hcode) rfl rfl rfl (hts _ hlink) (hts _ hini) ⟨hnames.1, hnames.2, hdesc⟩ hroom, hts _ hsta, trivial⟩ ⟨mm_blind, hpre⟩ rfl hnl hsl hstack hrest (mm_d1 hd rfl (by decide)) hf
theorem mm_bkO_ok {ad : Nat → Nat} {V : List Nat} {r r' : Option Value} (h : mm_bkO V r = some r') : r'.map (mm_tv ad) = r.map (mm_tv (mm_adV ad V)) := by
  unfold mm_bkO at h
  split at h
  · cases h; rfl
  · split at h
    · rename_i w hw
      cases h
      show some _ = some _
      rw [mm_bkV_ok hw]
    · cases h
theorem mm_toL {ad : Nat → Nat} (r : Option Value) (rest : List Value) : (r.toList ++ rest).map (mm_tv ad) = (r.map (mm_tv ad)).toList ++ rest.map (mm_tv ad) := by
  rw [List.map_append]
  cases r <;> rfl
set_option maxHeartbeats 4000000 in
theorem mm_run_ok (hTO : mm_TO fet fld mth inf D cl tys cA s00 TB nm code) (hPO : mm_PO fet inf prm l D cl tys s00 lo exA TB nm code) : ∀ (n d y pc : Nat) (ls : ML) (st : List Value) (h : MH) (r : Option Value) (h' : MH), mm_run fet fld mth inf prm bsz n d y pc ls st h = some (r, h') → mm_WS inf l D cl tys cA s00 lo exA TB nm code d y pc ls st h r h' ∧ h'.length = h.length := by
  obtain ⟨hg, hAO, hfet, hfld, hmth, hK0⟩ := id hTO
  intro n
  induction n with
  | zero => intro d y pc ls st h r h' hq; cases hq
  | succ n ih =>
    intro d y pc ls st h r h' hq
    unfold mm_run at hq
    split at hq
    · cases hq
    · rename_i i hi
      have hd := hfet _ _ _ hi
      split at hq
      · -- a step
        rename_i pc1 ls1 st1 h1 hstp
        obtain ⟨ihW, ihL⟩ := ih _ _ _ _ _ _ _ _ hq
        unfold mm_stp at hstp
        split at hstp
        · rename_i h0
          cases hstp
          refine ⟨?_, ihL⟩
          intro p e s m args below meth c H locs A ad sl C hex hP hD hS hl hll
          exact mm_s0_ok C.1 C.2.1 hd hl h0 (fun sl' e2 hl' => ihW p e s m args below meth c H locs A ad sl' C hex hP hD hS hl' (e2.trans hll))
        · split at hstp
          · rename_i h0
            cases hstp
            refine ⟨?_, ihL.trans (mm_s1_len h0)⟩
            intro p e s m args below meth c H locs A ad sl C hex hP hD hS hl hll
            obtain ⟨hx, hb, hml, hr, hlocks, hown, hts, hK, hA, hAlo, hSt⟩ := id C
            exact mm_s1_ok hx hb hown hts (hfld y) hAO hK hd hP hD hS h0 (fun H1 locs1 hP1 hD1 hS1 => ihW p e s m args below meth c H1 locs1 A ad sl C hex hP1 hD1 hS1 hl hll)
          · split at hstp
            · rename_i h0
              cases hstp
              refine ⟨?_, ihL⟩
              intro p e s m args below meth c H locs A ad sl C hex hP hD hS hl hll
              exact hPO _ _ _ _ _ _ h0 p e s m args below meth c H locs (mm_rm d) 0 0 _ A ad pc sl C ⟨Nat.le_refl _, Nat.le_refl _, Nat.le_refl _, Nat.le_refl _⟩ hex hS (hl.1.trans hll) hi (ihW p e s m args below meth c H locs A ad sl C hex hP hD hS hl hll)
            · cases hstp
      · split at hq
        · -- the end
          unfold mm_ret at hq
          split at hq
          · split at hq
            · rename_i hok
              cases hq
              refine ⟨?_, rfl⟩
              intro p e s m args below meth c H locs A ad sl C hex hP hD hS hl hll
              obtain ⟨hx, hb, hml, hr, hlocks, hown, hts, hK, hA, hAlo, hSt⟩ := id C
              unfold mm_rok at hok
              split at hok
              · rename_i ty hty
                exact W.zret hx hb (hr.trans hty) (mm_fit_ok hok).1 (fun t ht hW => ⟨rfl, by rw [ht]; exact hP, hS.F ht⟩) hS.2.2 (mm_d1 hd rfl (by decide)) hlocks
              · cases hok
            · cases hq
          · split at hq
            · rename_i hok
              cases hq
              refine ⟨?_, rfl⟩
              intro p e s m args below meth c H locs A ad sl C hex hP hD hS hl hll
              obtain ⟨hx, hb, hml, hr, hlocks, hown, hts, hK, hA, hAlo, hSt⟩ := id C
              unfold mm_rok at hok
              split at hok
              · rename_i ty hty
                have hty2 : ty = .long := by
                  cases ty <;> first | rfl | cases hok
                subst hty2
                exact W.lret hx hb (hr.trans hty) (fun t ht hW => ⟨rfl, by rw [ht]; exact hP, hS.F ht⟩) hS.2.2 (mm_d1 hd rfl (by decide)) hlocks
              · cases hok
            · cases hq
          · split at hq
            · rename_i hok
              cases hq
              refine ⟨?_, rfl⟩
              intro p e s m args below meth c H locs A ad sl C hex hP hD hS hl hll
              obtain ⟨hx, hb, hml, hr, hlocks, hown, hts, hK, hA, hAlo, hSt⟩ := id C
              unfold mm_rok at hok
              split at hok
              · rename_i ty hty
                have hty2 : (∃ n, ty = .object n) ∨ ∃ t, ty = .array t := by
                  cases ty <;> first | exact Or.inl ⟨_, rfl⟩ | exact Or.inr ⟨_, rfl⟩ | cases hok
                exact W.aret hx hb (hr.trans hty) hty2 (Or.inr ⟨_, rfl⟩) (fun t ht hW => ⟨rfl, by rw [ht]; exact hP, hS.F ht⟩) hS.2.2 (mm_d1 hd rfl (by decide)) hlocks
              · cases hok
            · cases hq
          · split at hq
            · rename_i hret
              cases hq
              refine ⟨?_, rfl⟩
              intro p e s m args below meth c H locs A ad sl C hex hP hD hS hl hll
              obtain ⟨hx, hb, hml, hr, hlocks, hown, hts, hK, hA, hAlo, hSt⟩ := id C
              exact W.vret hx hb (hr.trans hret) (fun t ht hW => ⟨rfl, by rw [ht]; exact hP, hS.F ht⟩) hS.2.2 (mm_d1 hd rfl (by decide)) hlocks
            · cases hq
          · cases hq
        · -- a call
          rename_i virt idx hI
          split at hq
          · cases hq
          · rename_i y' vw hcal
            unfold mm_cal at hcal
            split at hcal
            · rename_i y2 vw2 hm
              split at hcal
              · rename_i hcok
                cases hcal
                have hMO := hmth _ _ _ _ hm
                obtain ⟨-, -, hsl', -, -⟩ := mm_cok_ok hcok
                split at hq
                · cases hq
                · rename_i d'
                  split at hq
                  · -- on all cells
                    split at hq
                    · rename_i r1 h1 hrun
                      obtain ⟨W1, L1⟩ := ih _ _ _ _ _ _ _ _ hrun
                      obtain ⟨W2, L2⟩ := ih _ _ _ _ _ _ _ _ hq
                      have hM := mm_Met_of hK0 hMO.1 hsl' W1
                      refine ⟨?_, L2.trans L1⟩
                      intro p e s m args below meth c H locs A ad sl C hex hP hD hS hl hll
                      obtain ⟨a, hR⟩ := mm_callRun (e := e) (below := below) hg C hP hS (hl.1.trans hll) hd hI hcok hMO hM hex (hD.weaken (fun k q hk z => C.2.2.2.2.2.2.2.2.2.1 _ z)) hP rfl
                      refine mm_after hR hS (fun q hq => ?_) (fun H1 locs1 hP1 hk1 hS1 => ?_)
                      · rcases hq with ⟨k, x, hk⟩ | hq
                        · exact hD.2 k _ hk
                        · exact C.2.2.2.2.2.2.2.2.1 q (Nat.le_trans hS.1 hq)
                      · rw [← mm_toL]
                        exact W2 p e s m args below meth c H1 locs1 A ad sl C hex hP1 (mm_lenD L1 hD) hS1 hl hll
                    · cases hq
                  · -- on a view
                    split at hq
                    · rename_i hs vs hsub hrn hV
                      split at hq
                      · rename_i r1 hs1 hrun
                        split at hq
                        · rename_i r2 h2 hbO hbk
                          obtain ⟨W1, L1⟩ := ih _ _ _ _ _ _ _ _ hrun
                          obtain ⟨W2, L2⟩ := ih _ _ _ _ _ _ _ _ hq
                          have hlv : (mm_sl vs).length ≤ (inf y').2.1 := by
                            have e1 := mm_rnL_ok (ad := fun k => k) _ _ hrn
                            have e2 : (mm_sl vs).length = (mm_sl ((st.take (inf y').1).reverse)).length := by
                              rw [← mm_sl_map (ad := mm_adV (fun k => k) (mm_view bsz h ((st.take (inf y').1).reverse))), e1, mm_sl_map]
                            rw [e2]
                            exact hsl'
                          have hM := mm_Met_of hK0 hMO.1 hlv W1
                          refine ⟨?_, L2.trans (mm_bk_len _ _ _ _ hbk).1⟩
                          intro p e s m args below meth c H locs A ad sl C hex hP hD hS hl hll
                          have hDl : va_D (fun q => lo ≤ q) (mm_wd cA ad h) := hD.weaken (fun k q hk z => C.2.2.2.2.2.2.2.2.2.1 _ z)
                          obtain ⟨a, hR⟩ := mm_callRun (e := e) (below := below) hg C hP hS (hl.1.trans hll) hd hI hcok hMO hM (mm_adV_ext hV hex) (mm_subD hV hsub hDl) (mm_subP hsub hP) (mm_rnL_ok _ _ hrn)
                          refine mm_after hR hS (fun q hq => mm_subA hsub hD (fun q hq => C.2.2.2.2.2.2.2.2.1 q (Nat.le_trans hS.1 hq)) hq) (fun H1 locs1 hP1 hk1 hS1 => ?_)
                          rw [← mm_bkO_ok hbO, ← mm_toL]
                          exact W2 p e s m args below meth c H1 locs1 A ad sl C hex (mm_bkP hsub hbk hP hD hP1 hk1) (mm_lenD (mm_bk_len _ _ _ _ hbk).1 hD) hS1 hl hll
                        · cases hq
                      · cases hq
                    · cases hq
              · cases hcal
            · cases hcal
end MMU
end

/-! THE SMALL MACHINE: pure steps of the bytecode over a list of cells whose places are their names. -/
/-- a cell: a row of numbers (0 ints, 1 booleans, 2 bytes), or an object (its class's number below 100) or a row of references (100 and on) -/
abbrev MC : Type := (Nat × List Int32) ⊕ (Nat × List Value)
abbrev MH : Type := List MC
abbrev ML : Type := List (Option Value)
/-- a local set to a value of one word, of two words -/
def mm_st1 (ls : ML) (i : Nat) (v : Value) : ML := match i with
  | 0 => ls.set 0 (some v)
  | j + 1 => match ls.getD j none with
    | some (.long _) => (ls.set j none).set (j + 1) (some v)
    | some (.double _) => (ls.set j none).set (j + 1) (some v)
    | _ => ls.set (j + 1) (some v)
def mm_st2 (ls : ML) (i : Nat) (v : Value) : ML := (mm_st1 ls i v).set (i + 1) none
/-- where a jump goes -/
def mm_to (pc : Nat) (off : Int) : Option Nat := match (pc : Int) + off with
  | .ofNat t => some t
  | .negSucc _ => none
def mm_ld (pc : Nat) (ls : ML) (st : List Value) (v : Option Value) (n : Nat) : Option (Nat × ML × List Value) := match v with
  | some (.int x) => some (pc + n, ls, .int x :: st)
  | _ => none
def mm_ldl (pc : Nat) (ls : ML) (st : List Value) (v : Option Value) (n : Nat) : Option (Nat × ML × List Value) := match v with
  | some (.long x) => some (pc + n, ls, .long x :: st)
  | _ => none
def mm_lda (pc : Nat) (ls : ML) (st : List Value) (v : Option Value) (n : Nat) : Option (Nat × ML × List Value) := match v with
  | some (.ref x) => some (pc + n, ls, .ref x :: st)
  | _ => none
def mm_sto (pc : Nat) (ls : ML) (st : List Value) (i : Nat) (v : Value) (n : Nat) : Option (Nat × ML × List Value) := if i < ls.length then some (pc + n, mm_st1 ls i v, st) else none
def mm_sto2 (pc : Nat) (ls : ML) (st : List Value) (i : Nat) (v : Value) (n : Nat) : Option (Nat × ML × List Value) := if i + 1 < ls.length then some (pc + n, mm_st2 ls i v, st) else none
def mm_go (ls : ML) (st : List Value) (t : Option Nat) : Option (Nat × ML × List Value) := match t with
  | some t => some (t, ls, st)
  | none => none
def mm_br (pc : Nat) (ls : ML) (st : List Value) (off : Int) (b : Bool) : Option (Nat × ML × List Value) := match mm_to pc off with
  | some t => match b with
    | true => some (t, ls, st)
    | false => some (pc + 3, ls, st)
  | none => none
def mm_iinc (pc : Nat) (ls : ML) (st : List Value) (i : Nat) (n : Int) : Option (Nat × ML × List Value) := match ls.getD i none with
  | some (.int x) => some (pc + 3, mm_st1 ls i (.int (x + Int32.ofInt n)), st)
  | _ => none
/-- the steps that touch no cell -/
def mm_s0 (i : Instr) (pc : Nat) (ls : ML) (st : List Value) : Option (Nat × ML × List Value) := match i, st with
  | .iconst n, st => some (pc + 1, ls, .int (Int32.ofInt n) :: st)
  | .bipush n, st => some (pc + 2, ls, .int ((Int8.ofInt n).toInt32) :: st)
  | .sipush n, st => some (pc + 3, ls, .int ((Int16.ofInt n).toInt32) :: st)
  | .lconst n, st => some (pc + 1, ls, .long (Int64.ofNat n) :: st)
  | .iload_n k, st => mm_ld pc ls st (ls.getD k none) 1
  | .iload k, st => mm_ld pc ls st (ls.getD k none) 2
  | .lload_n k, st => mm_ldl pc ls st (ls.getD k none) 1
  | .lload k, st => mm_ldl pc ls st (ls.getD k none) 2
  | .aload_n k, st => mm_lda pc ls st (ls.getD k none) 1
  | .aload k, st => mm_lda pc ls st (ls.getD k none) 2
  | .istore_n k, .int x :: st => mm_sto pc ls st k (.int x) 1
  | .istore k, .int x :: st => mm_sto pc ls st k (.int x) 2
  | .astore_n k, .ref x :: st => mm_sto pc ls st k (.ref x) 1
  | .astore k, .ref x :: st => mm_sto pc ls st k (.ref x) 2
  | .lstore_n k, .long x :: st => mm_sto2 pc ls st k (.long x) 1
  | .lstore k, .long x :: st => mm_sto2 pc ls st k (.long x) 2
  | .iinc k n, st => mm_iinc pc ls st k n
  | .iadd, .int y :: .int x :: st => some (pc + 1, ls, .int (x + y) :: st)
  | .isub, .int y :: .int x :: st => some (pc + 1, ls, .int (x - y) :: st)
  | .imul, .int y :: .int x :: st => some (pc + 1, ls, .int (x * y) :: st)
  | .idiv, .int y :: .int x :: st => if y = 0 then none else some (pc + 1, ls, .int (x / y) :: st)
  | .irem, .int y :: .int x :: st => if y = 0 then none else some (pc + 1, ls, .int (x - x / y * y) :: st)
  | .ineg, .int x :: st => some (pc + 1, ls, .int (-x) :: st)
  | .iand, .int y :: .int x :: st => some (pc + 1, ls, .int (x &&& y) :: st)
  | .ior, .int y :: .int x :: st => some (pc + 1, ls, .int (x ||| y) :: st)
  | .ishl, .int y :: .int x :: st => some (pc + 1, ls, .int (x <<< (y &&& 31)) :: st)
  | .ishr, .int y :: .int x :: st => some (pc + 1, ls, .int (x >>> (y &&& 31)) :: st)
  | .iushr, .int y :: .int x :: st => some (pc + 1, ls, .int ((x.toUInt32 >>> (y.toUInt32 &&& Int32.toUInt32 31)).toInt32) :: st)
  | .ladd, .long y :: .long x :: st => some (pc + 1, ls, .long (x + y) :: st)
  | .lmul, .long y :: .long x :: st => some (pc + 1, ls, .long (x * y) :: st)
  | .ldiv, .long y :: .long x :: st => if y = 0 then none else some (pc + 1, ls, .long (x / y) :: st)
  | .lrem, .long y :: .long x :: st => if y = 0 then none else some (pc + 1, ls, .long (x - x / y * y) :: st)
  | .lcmp, .long y :: .long x :: st => some (pc + 1, ls, .int (lg_cmp x y) :: st)
  | .i2l, .int x :: st => some (pc + 1, ls, .long x.toInt64 :: st)
  | .l2i, .long x :: st => some (pc + 1, ls, .int x.toInt32 :: st)
  | .i2b, .int x :: st => some (pc + 1, ls, .int x.toInt8.toInt32 :: st)
  | .i2s, .int x :: st => some (pc + 1, ls, .int x.toInt16.toInt32 :: st)
  | .dup, .int x :: st => some (pc + 1, ls, .int x :: .int x :: st)
  | .dup, .ref x :: st => some (pc + 1, ls, .ref x :: .ref x :: st)
  | .pop, .int _ :: st => some (pc + 1, ls, st)
  | .pop, .ref _ :: st => some (pc + 1, ls, st)
  | .dup2, .int y :: .ref x :: st => some (pc + 1, ls, .int y :: .ref x :: .int y :: .ref x :: st)
  | .goto off, st => mm_go ls st (mm_to pc off)
  | .ifCond .eq off, .int x :: st => mm_br pc ls st off (decide (x = 0))
  | .ifCond .ne off, .int x :: st => mm_br pc ls st off (decide (¬ x = 0))
  | .ifCond .lt off, .int x :: st => mm_br pc ls st off (decide (x < 0))
  | .ifCond .ge off, .int x :: st => mm_br pc ls st off (decide (0 ≤ x))
  | .ifCond .gt off, .int x :: st => mm_br pc ls st off (decide (0 < x))
  | .ifCond .le off, .int x :: st => mm_br pc ls st off (decide (x ≤ 0))
  | .if_icmp .eq off, .int y :: .int x :: st => mm_br pc ls st off (decide (x = y))
  | .if_icmp .ne off, .int y :: .int x :: st => mm_br pc ls st off (decide (¬ x = y))
  | .if_icmp .lt off, .int y :: .int x :: st => mm_br pc ls st off (decide (x < y))
  | .if_icmp .ge off, .int y :: .int x :: st => mm_br pc ls st off (decide (y ≤ x))
  | .if_icmp .gt off, .int y :: .int x :: st => mm_br pc ls st off (decide (y < x))
  | .if_icmp .le off, .int y :: .int x :: st => mm_br pc ls st off (decide (x ≤ y))
  | .tableswitch dflt lo hi offs, .int x :: st => if x.toInt < lo then mm_go ls st (mm_to pc dflt) else if hi < x.toInt then mm_go ls st (mm_to pc dflt) else match offs[(x.toInt - lo).toNat]? with
    | some off => mm_go ls st (mm_to pc off)
    | none => none
  | _, _ => none
/-- a name as an address, a value, a local -/
def mm_tv (ad : Nat → Nat) (v : Value) : Value := match v with
  | .ref k => .ref (ad k)
  | v => v
def mm_as (ad : Nat → Nat) (ls : ML) : List (Nat × Value) := (List.range ls.length).filterMap (fun i => (ls.getD i none).map (fun v => (i, mm_tv ad v)))
theorem mm_as_mem {ad : Nat → Nat} {ls : ML} {q : Nat × Value} : q ∈ mm_as ad ls ↔ ∃ v, ls[q.1]? = some (some v) ∧ q.2 = mm_tv ad v := by
  unfold mm_as
  rw [List.mem_filterMap]
  constructor
  · rintro ⟨i, hi, h⟩
    rw [Option.map_eq_some_iff] at h
    obtain ⟨v, hv, rfl⟩ := h
    refine ⟨v, ?_, rfl⟩
    rw [List.getD_eq_getElem?_getD] at hv
    have hl := List.mem_range.mp hi
    show ls[i]? = some (some v)
    rw [List.getElem?_eq_getElem hl] at hv ⊢
    exact congrArg some hv
  · rintro ⟨v, hv, hq⟩
    refine ⟨q.1, List.mem_range.mpr (List.getElem?_eq_some_iff.mp hv).1, ?_⟩
    rw [List.getD_eq_getElem?_getD, hv]
    show some (q.1, mm_tv ad v) = some q
    rw [← hq]
theorem mm_get {ad : Nat → Nat} {ls : ML} {sl : Array Slot} {n i : Nat} {v : Value} (h : lv_has sl n (mm_as ad ls)) (hv : ls.getD i none = some v) : sl[i]? = some (.val (mm_tv ad v)) := by
  refine h.2.2 (i, mm_tv ad v) (mm_as_mem.mpr ⟨v, ?_, rfl⟩)
  rw [List.getD_eq_getElem?_getD] at hv
  show ls[i]? = some (some v)
  cases hl : ls[i]? with
  | none => rw [hl] at hv; cases hv
  | some w => rw [hl] at hv; exact congrArg some hv
theorem mm_tv_cat {ad : Nat → Nat} (v : Value) : (mm_tv ad v).category = v.category := by cases v <;> rfl
theorem mm_st1_len {ls : ML} {i : Nat} {v : Value} : (mm_st1 ls i v).length = ls.length := by
  unfold mm_st1
  split
  · simp
  · split <;> simp
theorem mm_st1_at {ls : ML} {i j : Nat} {v w : Value} (h : (mm_st1 ls i v)[j]? = some (some w)) : (j = i ∧ w = v) ∨ (j ≠ i ∧ ls[j]? = some (some w) ∧ ¬ (j + 1 = i ∧ w.category = 2)) := by
  unfold mm_st1 at h
  split at h
  · rw [List.getElem?_set] at h
    split at h
    · rename_i e
      split at h
      · cases h; exact Or.inl ⟨e.symm, rfl⟩
      · cases h
    · rename_i e
      exact Or.inr ⟨fun q => e q.symm, h, fun q => by omega⟩
  · rename_i k
    have key : ∀ ls' : ML, (ls'.set (k + 1) (some v))[j]? = some (some w) → (j = k + 1 ∧ w = v) ∨ (j ≠ k + 1 ∧ ls'[j]? = some (some w)) := by
      intro ls' h
      rw [List.getElem?_set] at h
      split at h
      · rename_i e
        split at h
        · cases h; exact Or.inl ⟨e.symm, rfl⟩
        · cases h
      · rename_i e
        exact Or.inr ⟨fun q => e q.symm, h⟩
    have kill : ∀ {x : ML}, x = ls.set k none → x[j]? = some (some w) → j ≠ k ∧ ls[j]? = some (some w) := by
      intro x e h
      subst e
      rw [List.getElem?_set] at h
      split at h
      · split at h <;> cases h
      · rename_i e
        exact ⟨fun q => e q.symm, h⟩
    split at h
    · rcases key _ h with q | ⟨a, b⟩
      · exact Or.inl q
      · obtain ⟨c, d⟩ := kill rfl b
        exact Or.inr ⟨a, d, fun q => by omega⟩
    · rcases key _ h with q | ⟨a, b⟩
      · exact Or.inl q
      · obtain ⟨c, d⟩ := kill rfl b
        exact Or.inr ⟨a, d, fun q => by omega⟩
    · rename_i n1 n2
      rcases key _ h with q | ⟨a, b⟩
      · exact Or.inl q
      · refine Or.inr ⟨a, b, fun q => ?_⟩
        have e : j = k := by omega
        subst e
        have g : ls.getD j none = some w := by rw [List.getD_eq_getElem?_getD, b]; rfl
        cases w with
        | long x => exact n1 x g
        | double x => exact n2 x g
        | _ => cases q.2
/-- a local set, as the kit's rows have it -/
theorem mm_put {ad : Nat → Nat} {ls : ML} {sl : Array Slot} {n i : Nat} {v : Value} (h : lv_has sl n ((i, mm_tv ad v) :: (mm_as ad ls).filter (fun q => !(q.1 == i) && !(q.1 + 1 == i && q.2.category == 2)))) : lv_has sl n (mm_as ad (mm_st1 ls i v)) := by
  refine ⟨h.1, h.2.1, fun q hq => ?_⟩
  obtain ⟨w, hw, e⟩ := mm_as_mem.mp hq
  rcases mm_st1_at hw with ⟨a, b⟩ | ⟨a, b, c⟩
  · refine h.2.2 q ?_
    have e2 : q = (i, mm_tv ad v) := by rw [← b, ← e, ← a]
    rw [e2]
    exact List.mem_cons_self
  · refine h.2.2 q (List.mem_cons_of_mem _ (List.mem_filter.mpr ⟨mm_as_mem.mpr ⟨w, b, e⟩, ?_⟩))
    have c2 : q.2.category = w.category := by rw [e]; exact mm_tv_cat w
    have a2 : (q.1 == i) = false := by simpa using a
    rw [a2]
    show (!(q.1 + 1 == i && q.2.category == 2)) = true
    rw [c2]
    by_cases hj : q.1 + 1 = i
    · have : ¬ w.category = 2 := fun z => c ⟨hj, z⟩
      simp [this]
    · simp [hj]
theorem mm_put2 {ad : Nat → Nat} {ls : ML} {sl : Array Slot} {n i : Nat} {v : Value} (h : lv_has sl n ((i, mm_tv ad v) :: (mm_as ad ls).filter (fun q => !(q.1 == i) && (!(q.1 == i + 1) && !(q.1 + 1 == i && q.2.category == 2))))) : lv_has sl n (mm_as ad (mm_st2 ls i v)) := by
  refine ⟨h.1, h.2.1, fun q hq => ?_⟩
  obtain ⟨w, hw, e⟩ := mm_as_mem.mp hq
  unfold mm_st2 at hw
  rw [List.getElem?_set] at hw
  split at hw
  · split at hw <;> cases hw
  · rename_i hne
    rcases mm_st1_at hw with ⟨a, b⟩ | ⟨a, b, c⟩
    · refine h.2.2 q ?_
      have e2 : q = (i, mm_tv ad v) := by rw [← b, ← e, ← a]
      rw [e2]
      exact List.mem_cons_self
    · refine h.2.2 q (List.mem_cons_of_mem _ (List.mem_filter.mpr ⟨mm_as_mem.mpr ⟨w, b, e⟩, ?_⟩))
      have c2 : q.2.category = w.category := by rw [e]; exact mm_tv_cat w
      have a2 : (q.1 == i) = false := by simpa using a
      have a3 : (q.1 == i + 1) = false := by simp; omega
      rw [a2, a3]
      show (!(q.1 + 1 == i && q.2.category == 2)) = true
      rw [c2]
      by_cases hj : q.1 + 1 = i
      · have : ¬ w.category = 2 := fun z => c ⟨hj, z⟩
        simp [this]
      · simp [hj]
theorem mm_to_ok {pc t : Nat} {off : Int} (h : mm_to pc off = some t) : (pc : Int) + off = (t : Int) := by
  unfold mm_to at h
  split at h
  · rename_i e
    cases h
    exact e
  · cases h

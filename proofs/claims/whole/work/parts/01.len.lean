/-! Lengths, and the check of a table of instructions -/
/-- how long an instruction is, where its step needs it -/
def mm_len (i : Instr) : Nat := match i with
  | .bipush _ => 2
  | .iload _ => 2
  | .lload _ => 2
  | .aload _ => 2
  | .istore _ => 2
  | .lstore _ => 2
  | .astore _ => 2
  | .newarray _ => 2
  | .ldc _ => 2
  | .sipush _ => 3
  | .iinc _ _ => 3
  | .goto _ => 3
  | .ifCond _ _ => 3
  | .if_icmp _ _ => 3
  | .getfield _ => 3
  | .putfield _ => 3
  | .getstatic _ => 3
  | .invokevirtual _ => 3
  | .invokestatic _ => 3
  | .invokespecial _ => 3
  | .new _ => 3
  | .anewarray _ => 3
  | .ldc_w _ => 3
  | .ldc2_w _ => 3
  | .multianewarray _ _ => 4
  | .tableswitch _ _ _ _ => 0
  | _ => 1
/-- what a decoded instruction is worth -/
def mm_dec (cc : ByteArray) (pc : Nat) (i : Instr) : Prop := ∃ len, decode cc pc = .ok (i, len) ∧ (mm_len i = 0 ∨ len = mm_len i)
def mm_lk {α : Type} (l : List (Nat × α)) (k : Nat) : Option α := match l with
  | [] => none
  | q :: l => match Nat.beq q.1 k with
    | true => some q.2
    | false => mm_lk l k
/-- an instruction's row -/
def ck_d (cc : ByteArray) (e : Nat × Instr) : Bool := match decode cc e.1 with
  | .ok (i, len) => decide (i = e.2) && (Nat.beq (mm_len i) 0 || Nat.beq len (mm_len i))
  | .error _ => false
theorem ck_d_ok {cc : ByteArray} {pc : Nat} {i : Instr} (h : ck_d cc (pc, i) = true) : mm_dec cc pc i := by
  unfold ck_d at h
  split at h
  · rename_i i2 len hd
    rw [Bool.and_eq_true, Bool.or_eq_true] at h
    have e := of_decide_eq_true h.1
    dsimp only at e hd
    subst e
    refine ⟨len, hd, ?_⟩
    rcases h.2 with h2 | h2
    · exact Or.inl (Nat.eq_of_beq_eq_true h2)
    · exact Or.inr (Nat.eq_of_beq_eq_true h2)
  · cases h
theorem mm_lk_mem {α : Type} {l : List (Nat × α)} {k : Nat} {a : α} (h : mm_lk l k = some a) : (k, a) ∈ l := by
  induction l with
  | nil => cases h
  | cons q l ih =>
    unfold mm_lk at h
    split at h
    · rename_i e
      cases h
      have := Nat.eq_of_beq_eq_true e
      subst this
      exact List.mem_cons_self
    · exact List.mem_cons_of_mem _ (ih h)
theorem ck_ac {α : Type} {f : α → Bool} {a : α} {l : List α} (h : f a = true) (hl : l.all f = true) : (a :: l).all f = true := by
  rw [List.all_cons, h, hl]
  rfl


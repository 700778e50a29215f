/-! A method's run, calls among them; a callee may run on a part of the cells, named anew (its view) -/
/-- (arguments with the receiver, locals, answer, the receiver's class, static) -/
abbrev MI : Type := Nat × Nat × Option FieldType × Nat × Bool
def mm_sl (vs : List Value) : ML := match vs with
  | [] => []
  | .long x :: vs => some (.long x) :: none :: mm_sl vs
  | .double x :: vs => some (.double x) :: none :: mm_sl vs
  | v :: vs => some v :: mm_sl vs
def mm_en (n : Nat) (vs : List Value) : ML := mm_sl vs ++ List.replicate (n - (mm_sl vs).length) none
def mm_ct (st : List Value) : Nat := match st with
  | [] => 0
  | .long _ :: st => mm_ct st + 2
  | .double _ :: st => mm_ct st + 2
  | _ :: st => mm_ct st + 1
/-- the cells that a callee may see: the block of each argument -/
def mm_blk (bsz : Nat → Nat) (h : MH) (v : Value) : List Nat := match v with
  | .ref k => match h[k]? with
    | some (.inr (ci, _)) => (List.range (bsz ci)).map (fun j => k + j)
    | some (.inl _) => [k]
    | none => []
  | _ => []
def mm_view (bsz : Nat → Nat) (h : MH) (vs : List Value) : List Nat := match vs with
  | [] => []
  | v :: vs => mm_blk bsz h v ++ mm_view bsz h vs
def mm_idx (k : Nat) (V : List Nat) (j : Nat) : Option Nat := match V with
  | [] => none
  | v :: V => if v = k then some j else mm_idx k V (j + 1)
def mm_rnV (V : List Nat) (v : Value) : Option Value := match v with
  | .ref k => match mm_idx k V 0 with
    | some j => some (.ref j)
    | none => none
  | v => some v
def mm_rnL (V : List Nat) (vs : List Value) : Option (List Value) := match vs with
  | [] => some []
  | v :: vs => match mm_rnV V v with
    | some w => match mm_rnL V vs with
      | some ws => some (w :: ws)
      | none => none
    | none => none
def mm_rnC (V : List Nat) (x : MC) : Option MC := match x with
  | .inl x => some (.inl x)
  | .inr (t, fs) => match mm_rnL V fs with
    | some gs => some (.inr (t, gs))
    | none => none
def mm_sub (V U : List Nat) (h : MH) : Option MH := match U with
  | [] => some []
  | k :: U => match h[k]? with
    | some x => match mm_rnC V x with
      | some y => match mm_sub V U h with
        | some ys => some (y :: ys)
        | none => none
      | none => none
    | none => none
def mm_bkV (V : List Nat) (v : Value) : Option Value := match v with
  | .ref j => match V[j]? with
    | some k => some (.ref k)
    | none => none
  | v => some v
def mm_bkL (V : List Nat) (vs : List Value) : Option (List Value) := match vs with
  | [] => some []
  | v :: vs => match mm_bkV V v with
    | some w => match mm_bkL V vs with
      | some ws => some (w :: ws)
      | none => none
    | none => none
def mm_bkC (V : List Nat) (x : MC) : Option MC := match x with
  | .inl x => some (.inl x)
  | .inr (t, fs) => match mm_bkL V fs with
    | some gs => some (.inr (t, gs))
    | none => none
def mm_bk (V U : List Nat) (hs h : MH) : Option MH := match U, hs with
  | [], [] => some h
  | k :: U, x :: hs => match mm_bkC V x with
    | some y => mm_bk V U hs (h.set k y)
    | none => none
  | _, _ => none
def mm_bkO (V : List Nat) (r : Option Value) : Option (Option Value) := match r with
  | none => some none
  | some v => match mm_bkV V v with
    | some w => some (some w)
    | none => none
def mm_vok (V : List Nat) : Bool := va_nd V && Nat.ble V.length 1000
def mm_rok (ret : Option FieldType) (v : Value) : Bool := match ret with
  | some ty => mm_fit ty v
  | none => false
def mm_ret (i : Instr) (ret : Option FieldType) (st : List Value) (h : MH) : Option (Option Value × MH) := match i, st with
  | .ireturn, [.int v] => if mm_rok ret (.int v) = true then some (some (.int v), h) else none
  | .lreturn, [.long v] => if mm_rok ret (.long v) = true then some (some (.long v), h) else none
  | .areturn, [.ref v] => if mm_rok ret (.ref v) = true then some (some (.ref v), h) else none
  | .return_, [] => match ret with
    | none => some (none, h)
    | some _ => none
  | _, _ => none
/-- may the call be made: enough on the stack, few words below, the receiver of the class -/
def mm_cok (virt : Bool) (f : MI) (st : List Value) (h : MH) : Bool := decide (f.1 ≤ st.length) && decide (mm_ct (st.drop f.1) ≤ 8) && decide ((mm_sl ((st.take f.1).reverse)).length ≤ f.2.1) && match virt with
  | true => !f.2.2.2.2 && match (st.take f.1).reverse with
    | .ref a :: _ => (mm_obj h a f.2.2.2.1).isSome
    | _ => false
  | false => f.2.2.2.2
section MMR
variable (fet : Nat → Nat → Option Instr) (fld : Nat → Nat → Option (Nat × Nat × FieldType × Bool)) (mth : Nat → Nat → Option (Nat × Bool)) (inf : Nat → MI) (prm : Nat → Nat → Instr → List Value → Option (Nat × List Value)) (bsz : Nat → Nat)
def mm_stp (d y : Nat) (i : Instr) (pc : Nat) (ls : ML) (st : List Value) (h : MH) : Option (Nat × ML × List Value × MH) := match mm_s0 i pc ls st with
  | some (pc', ls', st') => some (pc', ls', st', h)
  | none => match mm_s1 (fld y) i pc st h with
    | some (pc', st', h') => some (pc', ls, st', h')
    | none => match prm y d i st with
      | some (n, st') => some (pc + n, ls, st', h)
      | none => none
def mm_cal (virt : Bool) (y idx : Nat) (st : List Value) (h : MH) : Option (Nat × Bool) := match mth y idx with
  | some (y', vw) => if mm_cok virt (inf y') st h = true then some (y', vw) else none
  | none => none
def mm_isI (i : Instr) : Option (Bool × Nat) := match i with
  | .invokevirtual idx => some (true, idx)
  | .invokestatic idx => some (false, idx)
  | _ => none
def mm_run (n d y pc : Nat) (ls : ML) (st : List Value) (h : MH) : Option (Option Value × MH) := match n with
  | 0 => none
  | n + 1 => match fet y pc with
    | none => none
    | some i => match mm_stp fld prm d y i pc ls st h with
      | some (pc', ls', st', h') => mm_run n d y pc' ls' st' h'
      | none => match mm_isI i with
        | none => mm_ret i (inf y).2.2.1 st h
        | some (virt, idx) => match mm_cal mth inf virt y idx st h with
          | none => none
          | some (y', vw) => match d with
            | 0 => none
            | d' + 1 => match vw with
              | false => match mm_run n d' y' 0 (mm_en (inf y').2.1 ((st.take (inf y').1).reverse)) [] h with
                | some (r, h') => mm_run n (d' + 1) y (pc + 3) ls (r.toList ++ st.drop (inf y').1) h'
                | none => none
              | true => match mm_sub (mm_view bsz h ((st.take (inf y').1).reverse)) (mm_view bsz h ((st.take (inf y').1).reverse)) h, mm_rnL (mm_view bsz h ((st.take (inf y').1).reverse)) ((st.take (inf y').1).reverse), mm_vok (mm_view bsz h ((st.take (inf y').1).reverse)) with
                | some hs, some vs, true => match mm_run n d' y' 0 (mm_en (inf y').2.1 vs) [] hs with
                  | some (r, hs') => match mm_bkO (mm_view bsz h ((st.take (inf y').1).reverse)) r, mm_bk (mm_view bsz h ((st.take (inf y').1).reverse)) (mm_view bsz h ((st.take (inf y').1).reverse)) hs' h with
                    | some r', some h' => mm_run n (d' + 1) y (pc + 3) ls (r'.toList ++ st.drop (inf y').1) h'
                    | _, _ => none
                  | none => none
                | _, _, _ => none
end MMR
/-! lengths stay -/
theorem mm_s1_len {fld : Nat → Option (Nat × Nat × FieldType × Bool)} {i : Instr} {pc pc' : Nat} {st st' : List Value} {h h' : MH} (hq : mm_s1 fld i pc st h = some (pc', st', h')) : h'.length = h.length := by
  unfold mm_s1 at hq
  split at hq
  · obtain ⟨v, -, -, -, rfl⟩ := mm_r1_ok hq; rfl
  · obtain ⟨hw, -, -⟩ := mm_w1_ok hq
    obtain ⟨ci, k, ty, fs, -, -, -, -, rfl⟩ := mm_pf_ok hw
    exact List.length_set
  · obtain ⟨v, -, -, -, rfl⟩ := mm_r1_ok hq; rfl
  · split at hq
    · obtain ⟨v, -, -, -, rfl⟩ := mm_r1_ok hq; rfl
    · obtain ⟨v, -, -, -, rfl⟩ := mm_r1_ok hq; rfl
  · obtain ⟨v, -, -, -, rfl⟩ := mm_r1_ok hq; rfl
  · obtain ⟨v, -, -, -, rfl⟩ := mm_r1_ok hq; rfl
  · obtain ⟨hw, -, -⟩ := mm_w1_ok hq
    obtain ⟨L, -, -, rfl⟩ := mm_wa_ok hw
    exact List.length_set
  · split at hq
    · split at hq
      · obtain ⟨hw, -, -⟩ := mm_w1_ok hq
        obtain ⟨L, -, -, rfl⟩ := mm_wa_ok hw
        exact List.length_set
      · cases hq
    · obtain ⟨hw, -, -⟩ := mm_w1_ok hq
      obtain ⟨L, -, -, rfl⟩ := mm_wa_ok hw
      exact List.length_set
  · cases hq
theorem mm_bk_len {V : List Nat} : ∀ (U : List Nat) (hs h h' : MH), mm_bk V U hs h = some h' → h'.length = h.length ∧ hs.length = U.length
  | [], [], h, h', hq => by cases hq; exact ⟨rfl, rfl⟩
  | [], x :: hs, h, h', hq => by cases hq
  | k :: U, [], h, h', hq => by cases hq
  | k :: U, x :: hs, h, h', hq => by
    unfold mm_bk at hq
    split at hq
    · obtain ⟨a, b⟩ := mm_bk_len U hs _ h' hq
      exact ⟨a.trans List.length_set, by rw [List.length_cons, List.length_cons, b]⟩
    · cases hq

/-! From the law's entry to the small machine's run of the law -/
def rn1T (xs : List Int32) (n d y pc : Nat) (ls : ML) (st : List Value) (h : MH) (nc ns : Nat) : Option (Nat × ML × List Value × MH × Nat × Nat) := mm_run1 fetT fldT mthT infT (prmT xs) bszT nwT anT mnT arcT iniT spT n d y pc ls st h nc ns
/-- the law, as the small machine runs it: it comes to its end with 1 -/
def LawRuns (xs : List Int32) : Prop := ∃ n pcr lsr h' nc ns, rn1T xs n 40 202 0 [some (.ref 1000000), none, none, none] [] [] 0 0 = some (pcr, lsr, [.int 1], h', nc, ns) ∧ fetT 202 pcr = some .ireturn ∧ nc ≤ 600000 ∧ ns ≤ 7302250
theorem arr_of1 {s : State} {args : Array Value} {ty : FieldType} (h : (Cond.arrayClass ty).before args s = true) : ∃ c k comp, s.vm.findClass ("[" ++ ty.toString) = some c ∧ s.vm.classes[c]? = some k ∧ k.kind = .array comp ty := Cond.arrayClass_spec h
theorem arr_ofT {s : State} {c comp : ClassId} {k : Class} {ty : FieldType} (h2 : s.vm.classes[c]? = some k) (h3 : k.kind = .array comp ty) : ArrOfT s c ty := fun N z => ⟨(fun k h => by cases h), k, h2, comp, h3⟩
theorem arr_ofO {s : State} {C : String} (h : va_AO C s) : ∃ c, ArrOfT s c (.object C) ∧ va_RA s c (.object C) := by
  obtain ⟨comp, c, k, h1, h2, h3, h4, h5⟩ := Cond.arrayOver_spec h
  exact ⟨c, arr_ofT h3 h4, k, comp, h3, h4, h1, h5⟩
theorem arr_ofA {s : State} {ty : FieldType} (h : va_AOA ty s) : ∃ c, ArrOfT s c (.array ty) ∧ va_RA s c (.array ty) := by
  obtain ⟨comp, c, k, h1, h3, h4, h5⟩ := Cond.arrayOver_specA h
  exact ⟨c, arr_ofT h3 h4, h5⟩
theorem acW : ck_in 184 (.arrayClass .int) = true ∧ ck_in 185 (.arrayClass .boolean) = true ∧ ck_in 317 (.arrayClass .byte) = true := by decide +kernel
theorem aoW : lw_tbl[135]? = some (.arrayOver (.object RX2)) ∧ lw_tbl[269]? = some (.arrayOver (.object RX0)) ∧ lw_tbl[355]? = some (.arrayOver (.array .int)) := by decide +kernel
theorem clW : ck_in 354 (.classLink RX4 41 "[[I") = true ∧ ck_in 134 (.classLink RX0 28 RX2) = true ∧ ck_in 324 (.classLink RX1 22 RX2) = true ∧ ck_in 128 (.classLink RX4 7 RX0) = true := by decide +kernel
theorem insW : ck_w [.instantiable RX0 19, .instantiable RX1 9, .instantiable RX2 10, .instantiable RX3 11, .instantiable RX4 12, .instantiable RX5 35] = true := by decide +kernel

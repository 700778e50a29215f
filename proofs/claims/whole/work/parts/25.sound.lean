/-! WHAT THE SMALL MACHINE RUNS, THE MACHINE RUNS -/
section MMS
variable (fet : Nat → Nat → Option Instr) (fld : Nat → Nat → Option (Nat × Nat × FieldType × Bool)) (mth : Nat → Nat → Option (Nat × Bool)) (inf : Nat → MI) (prm : Nat → Nat → Instr → List Value → Option (Nat × List Value)) (bsz : Nat → Nat)
variable (l : Launch) (D : va_G) (cl : List vw_C) (tys : List (ClassId × FieldType)) (cA : Nat → ClassId) (s00 : State) (lo : Nat) (exA : Nat → Nat) (TB NW : List Cond) (nm : Nat → MethodName) (code : Nat → ByteArray)
def mm_ww (y : Nat) : List Cond := Cond.code (nm y) (code y) (inf y).2.1 (inf y).2.2.1 :: TB
def mm_rm (d : Nat) : Room := { frames := d + 1, cells := 0, slots := 0, locals := 40 * (d + 1) }
/-- what every later state keeps of the start -/
def mm_St (U : State) : Prop := lo ≤ U.heap.size ∧ (∀ q : Nat, q < lo → U.heap[q]? = s00.heap[q]?) ∧ s00.vm.Alike U.vm ∧ (∀ w ∈ NW, va_Nw w U) ∧ ∀ (own : String) (k : Nat) (tx : String) (a : Nat), vk_R own k tx a s00 → vk_R own k tx a U
def mm_Pc (ad : Nat → Nat) (vs : List Value) (h : MH) (sz : Nat) : Array Value → State → Prop := va_Pc (vs.map (mm_tv ad)) (fun U => U.heap.size = sz ∧ va_P D cl (mm_wd cA ad h) U.heap ∧ mm_St s00 lo NW U)
def mm_Qc (ad : Nat → Nat) (A : Nat → Prop) (r : Option Value) (h' : MH) : Array Value → State → Outcome → State → Prop := fun _ st oc t => oc = .returned (r.map (mm_tv ad)) ∧ va_P D cl (mm_wd cA ad h') t.heap ∧ va_F A st t
def mm_Met (d y : Nat) (vs : List Value) (h : MH) (r : Option Value) (h' : MH) : Prop := ∀ (ad : Nat → Nat) (sz : Nat), (∀ k, 1000000 ≤ k → ad k = exA k) → va_D (fun q => lo ≤ q) (mm_wd cA ad h) → lo ≤ sz → Met l (nm y) (mm_ww inf TB nm code y) (mm_rm d) (mm_Pc D cl cA s00 lo NW ad vs h sz) (mm_Qc D cl cA ad (va_A (mm_wd cA ad h) sz) r h') 0 0 (va_A (mm_wd cA ad h) sz)
/-- a method's frame -/
def mm_Cx (p : Program) (s : State) (m : MethodId) (args : Array Value) (meth : Method) (c : Code) (A : Nat → Prop) (y : Nat) : Prop :=
  p.tables.exec = Jvm.exec ∧ c.code = code y ∧ c.maxLocals = (inf y).2.1 ∧ meth.sig.returnType = (inf y).2.2.1 ∧ meth.locks = false ∧ s.vm.findClass (nm y).cls = some m.cls ∧ (∀ w ∈ TB, w.before args s = true) ∧ va_K D cl tys s ∧ (∀ q, s.heap.size ≤ q → A q) ∧ (∀ q, A q → lo ≤ q) ∧ mm_St s00 lo NW s
/-- what the tables say of a method that is called -/
def mm_MO (own : String) (idx y' : Nat) : Prop :=
  plainName (nm y').cls = true ∧ Cond.code (nm y') (code y') (inf y').2.1 (inf y').2.2.1 ∈ TB ∧ Cond.initialized (nm y').cls ∈ TB ∧ ((nm y').cls ≠ "java/lang/invoke/MethodHandle" ∧ (nm y').cls ≠ "java/lang/invoke/VarHandle") ∧ (inf y').2.1 ≤ 21 ∧
  (Cond.methodLink own idx (nm y') ∈ TB ∨ ∃ host, Cond.methodLinkNest own idx (nm y') host ∈ NW) ∧
  ((inf y').2.2.2.2 = true → (parseMethodDescriptor (nm y').desc).map (fun d => d.parameters.length) = some (inf y').1 ∧ Cond.static (nm y') ∈ TB) ∧
  ((inf y').2.2.2.2 = false → ∃ n T N, (inf y').1 = n + 1 ∧ (parseMethodDescriptor (nm y').desc).map (fun d => d.parameters.length) = some n ∧ Cond.instanceMethod (nm y') ∈ TB ∧ Cond.selects (nm y').cls (nm y') (nm y') ∈ TB ∧ (inf y').2.2.2.1 < 100 ∧ cl[(inf y').2.2.2.1]? = some ((nm y').cls, T, N))
/-- a nest mate's link -/
def mm_nw (w : Cond) : Prop := (∃ a i b n d h, w = Cond.fieldLinkNest a i b n d h) ∨ (∃ a i x h, w = Cond.methodLinkNest a i x h)
/-- what the tables say of all -/
def mm_TO : Prop := (∀ w ∈ NW, mm_nw w) ∧ (∀ w ∈ TB, goodWord w = true) ∧ mm_AO cA tys ∧ (∀ y pc i, fet y pc = some i → mm_dec (code y) pc i) ∧ (∀ y idx ci k ty fin, fld y idx = some (ci, k, ty, fin) → mm_FO cl TB NW (nm y).cls idx ci k ty fin) ∧ (∀ y idx y' vw, mth y idx = some (y', vw) → mm_MO inf cl TB NW nm code (nm y).cls idx y') ∧ va_K D cl tys s00
/-- and of the calls that the small machine answers itself -/
def mm_PO : Prop := ∀ (y d : Nat) (i : Instr) (st : List Value) (n : Nat) (st' : List Value), prm y d i st = some (n, st') → ∀ (p : Program) (e : Env) (s : State) (m : MethodId) (args : Array Value) (below : List Frame) (meth : Method) (c : Code) (H : Heap) (locs : List Loc) (R : Room) (cells slots : Nat) (Q : State → Prop) (A : Nat → Prop) (ad : Nat → Nat) (pc : Nat) (sl : Array Slot), mm_Cx inf D cl tys s00 lo TB NW nm code p s m args meth c A y → (d + 1 ≤ R.frames ∧ 40 * (d + 1) ≤ R.locals ∧ cells ≤ R.cells ∧ slots ≤ R.slots) → (∀ k, 1000000 ≤ k → ad k = exA k) → va_S A s.heap H locs → sl.size = (inf y).2.1 → fet y pc = some i → W p l e R s m args below meth c H locs cells slots Q (F0 m (pc + n) sl (st'.map (mm_tv ad))) → W p l e R s m args below meth c H locs cells slots Q (F0 m pc sl (st.map (mm_tv ad)))
end MMS
section MMT
variable {fet : Nat → Nat → Option Instr} {fld : Nat → Nat → Option (Nat × Nat × FieldType × Bool)} {mth : Nat → Nat → Option (Nat × Bool)} {inf : Nat → MI} {prm : Nat → Nat → Instr → List Value → Option (Nat × List Value)} {bsz : Nat → Nat}
variable {l : Launch} {D : va_G} {cl : List vw_C} {tys : List (ClassId × FieldType)} {cA : Nat → ClassId} {s00 : State} {lo : Nat} {exA : Nat → Nat} {TB NW : List Cond} {nm : Nat → MethodName} {code : Nat → ByteArray}
theorem mm_good {y : Nat} (hg : ∀ w ∈ TB, goodWord w = true) (hc : Cond.code (nm y) (code y) (inf y).2.1 (inf y).2.2.1 ∈ TB) : GoodIn TB (mm_ww inf TB nm code y) := by
  intro w hw
  have : w ∈ TB := by
    rcases List.mem_cons.mp hw with rfl | h
    · exact hc
    · exact h
  exact ⟨this, good_of_word (hg w this)⟩
theorem mm_nw_tab {w : Cond} (h : mm_nw w) : w.onTables = true := by
  rcases h with ⟨a, i, b, n, d, h, rfl⟩ | ⟨a, i, x, h, rfl⟩ <;> rfl
theorem mm_nw_warm {w : Cond} (h : mm_nw w) {s U : State} (hW : s.WarmedH U.vm) (hz : va_Nw w s) : va_Nw w U := by
  rcases h with ⟨a, i, b, n, d, h, rfl⟩ | ⟨a, i, x, h, rfl⟩
  · exact va_Nw.warmF hW hz
  · exact va_Nw.warmM hW hz
theorem mm_blind (hN : ∀ w ∈ NW, mm_nw w) {ad : Nat → Nat} {vs : List Value} {h : MH} {sz : Nat} : FrameBlind (mm_Pc D cl cA s00 lo NW ad vs h sz) := fun a U g mk q => ⟨q.1, q.2.1, q.2.2.1, q.2.2.2.1, q.2.2.2.2.1, q.2.2.2.2.2.1, fun w hw => va_Nw.same (u := U) (U := U.calling g mk a) (mm_nw_tab (hN w hw)) rfl (q.2.2.2.2.2.2.1 w hw), fun own k tx b hv => vk_R.same (u := U) (U := U.calling g mk a) rfl (q.2.2.2.2.2.2.2 own k tx b hv)⟩
/-- behind a call -/
theorem mm_after {p : Program} {e : Env} {R : Room} {s : State} {m : MethodId} {args : Array Value} {below : List Frame} {meth : Method} {c : Code} {H : Heap} {locs : List Loc} {cells slots : Nat} {Q : State → Prop} {pc : Nat} {sl : Array Slot} {st0 rest : List Value} {a : Array Value} {ad : Nat → Nat} {A A1 : Nat → Prop} {r : Option Value} {h' : MH}
    (hr : va_Run p l e R s m args below meth c H locs cells slots 0 0 (F0 m pc sl st0) rest (mm_Qc D cl cA ad A1 r h' a) A1) (hS : va_S A s.heap H locs) (hA : ∀ q, A1 q → A q)
    (kk : ∀ (H1 : Heap) (locs1 : List Loc), va_P D cl (mm_wd cA ad h') H1 → (∀ q : Nat, q < H.size → ¬ A1 q → H1[q]? = H[q]?) → va_S A s.heap H1 locs1 → W p l e R s m args below meth c H1 locs1 cells slots Q (F0 m (pc + 3) sl ((r.map (mm_tv ad)).toList ++ rest))) : W p l e R s m args below meth c H locs cells slots Q (F0 m pc sl st0) := by
  intro T hT X
  obtain ⟨v, st₀, t, T', L, h0, X', hL, e1, e2, ⟨hv, hp, hz, hk⟩, st⟩ := hr T hT X
  cases hv
  rw [h0] at hz hk
  obtain ⟨t2, a1, b1⟩ := kk T'.heap (locs ++ L) (by rw [e1]; exact hp) (fun q h1 h2 => by rw [e1]; exact hk q h1 h2)
    ⟨Nat.le_trans hS.1 (by rw [e1]; exact hz), fun q h1 h2 => by rw [e1, hk q (Nat.lt_of_lt_of_le h1 hS.1) (fun z => h2 (hA q z))]; exact hS.2.1 q h1 h2, fun q hq => by
      rcases List.mem_append.mp hq with h | h
      · exact hS.2.2 q h
      · exact hA _ (hL q h)⟩ T' rfl X'
  exact ⟨t2, st t2 a1, b1⟩
/-- the claim of a run, from any place of a method -/
def mm_WS (inf : Nat → MI) (l : Launch) (D : va_G) (cl : List vw_C) (tys : List (ClassId × FieldType)) (cA : Nat → ClassId) (s00 : State) (lo : Nat) (exA : Nat → Nat) (TB NW : List Cond) (nm : Nat → MethodName) (code : Nat → ByteArray) (d y pc : Nat) (ls : ML) (st : List Value) (h : MH) (r : Option Value) (h' : MH) : Prop :=
  ∀ (p : Program) (e : Env) (s : State) (m : MethodId) (args : Array Value) (below : List Frame) (meth : Method) (c : Code) (H : Heap) (locs : List Loc) (A : Nat → Prop) (ad : Nat → Nat) (sl : Array Slot), mm_Cx inf D cl tys s00 lo TB NW nm code p s m args meth c A y → (∀ k, 1000000 ≤ k → ad k = exA k) → va_P D cl (mm_wd cA ad h) H → va_D A (mm_wd cA ad h) → va_S A s.heap H locs → lv_has sl ls.length (mm_as ad ls) → ls.length = (inf y).2.1 →
    W p l e (mm_rm d) s m args below meth c H locs 0 0 (MQ below (mm_Qc D cl cA ad A r h') args s 0 0 A) (F0 m pc sl (st.map (mm_tv ad)))
/-- a method's contract out of its run -/
theorem mm_Met_of {d y : Nat} {vs : List Value} {h : MH} {r : Option Value} {h' : MH} (hT : va_K D cl tys s00) (hy : plainName (nm y).cls = true) (hl : (mm_sl vs).length ≤ (inf y).2.1) (hW : mm_WS inf l D cl tys cA s00 lo exA TB NW nm code d y 0 (mm_en (inf y).2.1 vs) [] h r h') : mm_Met inf l D cl cA s00 lo exA TB NW nm code d y vs h r h' := by
  intro ad sz hex hD hlo
  refine Met.ofW (cc := code y) (maxL := (inf y).2.1) (ret := (inf y).2.2.1) hy rfl ?_
  intro p e s m args below meth c s₁ B hml hv
  obtain ⟨rfl, hsz, hP, hSt⟩ := hv
  have hts := atoms_spec (ws := mm_ww inf TB nm code y) B.pre
  have hlen : (mm_en (inf y).2.1 vs).length = (inf y).2.1 := mm_en_len hl
  have hent := lv_entry (vs.map (mm_tv ad)) (n := (inf y).2.1) (by rw [mm_sl_lg]; exact hl)
  rw [lg_entry_eq]
  refine hW p e s m _ below meth c s.heap [] (va_A (mm_wd cA ad h) sz) ad _ ⟨B.exec, B.bytes, hml, B.returns, B.notSynchronized, findClass_of_methodNamed B.named, fun w hw => hts w (List.mem_cons_of_mem _ hw), va_K.moved hSt.2.2.1 hT, fun q hq => Or.inr (by rw [← hsz]; exact hq), fun q hq => ?_, hSt⟩ hex hP hD.self va_S.rf ?_ hlen
  · rcases hq with ⟨k, x, hk⟩ | hq
    · exact hD.2 k _ hk
    · exact Nat.le_trans hlo hq
  · rw [hlen]
    exact mm_en_ok hent
end MMT

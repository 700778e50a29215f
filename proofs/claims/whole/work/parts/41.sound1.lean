/-! The runs that make cells are the machine's -/
section MMS1
variable (fld : Nat → Nat → Option (Nat × Nat × FieldType × Bool)) (inf : Nat → MI) (nwc : Nat → Nat → Option (Nat × List Value)) (anc : Nat → Nat → Option Nat) (mnc : Nat → Nat → Bool) (arc : Nat → Bool) (ini : Nat → Option Nat) (spc : Nat → Nat → Option (Option Nat))
variable (l : Launch) (D : va_G) (cl : List vw_C) (tys : List (ClassId × FieldType)) (cA : Nat → ClassId) (s00 : State) (lo : Nat) (exA : Nat → Nat) (TB NW : List Cond) (nm : Nat → MethodName) (code : Nat → ByteArray)
/-- what the tables say of a constructor that is called -/
def mm_SO (own : String) (idx y' : Nat) : Prop :=
  plainName (nm y').cls = true ∧ Cond.code (nm y') (code y') (inf y').2.1 (inf y').2.2.1 ∈ TB ∧ Cond.initialized (nm y').cls ∈ TB ∧ ((nm y').cls ≠ "java/lang/invoke/MethodHandle" ∧ (nm y').cls ≠ "java/lang/invoke/VarHandle") ∧ (inf y').2.1 ≤ 21 ∧
  (Cond.methodLink own idx (nm y') ∈ TB ∨ ∃ host, Cond.methodLinkNest own idx (nm y') host ∈ NW) ∧ (∃ n, (inf y').1 = n + 1 ∧ (parseMethodDescriptor (nm y').desc).map (fun d => d.parameters.length) = some n) ∧ Cond.instanceMethod (nm y') ∈ TB ∧ (nm y').name = "<init>" ∧ (inf y').2.2.1 = none
def mm_TO1 : Prop := (Cond.arrayClass .int ∈ TB ∧ Cond.arrayClass .boolean ∈ TB ∧ Cond.arrayClass .byte ∈ TB) ∧ (∀ y idx ci fs, nwc y idx = some (ci, fs) → mm_NO cl TB (nm y).cls idx ci fs) ∧ (∀ y idx ci, anc y idx = some ci → mm_AN cl tys cA TB s00 (nm y).cls idx ci) ∧ (∀ y idx, mnc y idx = true → mm_MN tys cA TB s00 (nm y).cls idx) ∧
  (∀ y idx ci k ty, fld y idx = some (ci, k, ty, true) → ini y = some ci → ∀ C T N, cl[ci]? = some (C, T, N) → (T k).1 = (nm y).cls ∧ Cond.fieldLink (nm y).cls idx (T k).1 (T k).2.1 (T k).2.2.1 ∈ TB) ∧
  (∀ ci, arc ci = true → ∃ (r : vw_C) (t0 : Nat), cl[ci]? = some r ∧ tys[t0]? = some (cA (100 + ci), .object r.1)) ∧ (∀ y ci, ini y = some ci → (nm y).name = "<init>") ∧
  (∀ y idx y', spc y idx = some (some y') → mm_SO inf TB NW nm code (nm y).cls idx y') ∧ (∀ y idx, spc y idx = some none → Cond.methodLink (nm y).cls idx objectInit ∈ TB ∧ Cond.instanceMethod objectInit ∈ TB ∧ Cond.code objectInit ⟨#[0xb1]⟩ 1 none ∈ TB)
def mm_rm1 (d mc ms : Nat) : Room := { frames := d + 1, cells := mc, slots := ms, locals := 40 * (d + 1) }
def mm_Qc1 (ad : Nat → Nat) (A : Nat → Prop) (h h' : MH) : Array Value → State → Outcome → State → Prop := fun _ st oc t => oc = .returned none ∧ (∃ ad1, mm_ag h.length ad ad1 ∧ va_P D cl (mm_wd cA ad1 h') t.heap ∧ va_D A (mm_wd cA ad1 h')) ∧ va_F A st t
/-- a constructor's contract -/
def mm_Met1 (d y : Nat) (vs : List Value) (h h' : MH) (mc ms : Nat) : Prop := ∀ (ad : Nat → Nat) (sz : Nat), (∀ k, 1000000 ≤ k → ad k = exA k) → va_D (fun q => lo ≤ q) (mm_wd cA ad h) → lo ≤ sz → Met l (nm y) (mm_ww inf TB nm code y) (mm_rm1 d mc ms) (mm_Pc D cl cA s00 lo NW ad vs h sz) (mm_Qc1 D cl cA ad (va_A (mm_wd cA ad h) sz) h h') mc ms (va_A (mm_wd cA ad h) sz)
/-- the claim of a run that makes cells: up to its return -/
def mm_WS1 (d y pc : Nat) (ls : ML) (st : List Value) (h : MH) (nc ns pcr : Nat) (str : List Value) (h' : MH) (nc' ns' : Nat) : Prop :=
  ∀ (p : Program) (e : Env) (s : State) (m : MethodId) (args : Array Value) (below : List Frame) (meth : Method) (c : Code) (H : Heap) (locs : List Loc) (A : Nat → Prop) (ad : Nat → Nat) (sl : Array Slot) (R : Room) (c0 s0 : Nat) (Q : State → Prop), mm_Cx inf D cl tys s00 lo TB NW nm code p s m args meth c A y → (∀ ci, ini y = some ci → meth.name = "<init>") → (d + 1 ≤ R.frames ∧ 40 * (d + 1) ≤ R.locals ∧ c0 + nc' ≤ R.cells ∧ s0 + ns' ≤ R.slots) → (∀ k, 1000000 ≤ k → ad k = exA k) → va_P D cl (mm_wd cA ad h) H → va_D A (mm_wd cA ad h) → va_S A s.heap H locs → lv_has sl ls.length (mm_as ad ls) → ls.length = (inf y).2.1 →
    (∀ (ad1 : Nat → Nat) (H1 : Heap) (locs1 : List Loc) (sl1 : Array Slot), mm_ag h.length ad ad1 → va_P D cl (mm_wd cA ad1 h') H1 → va_D A (mm_wd cA ad1 h') → va_S A s.heap H1 locs1 → W p l e R s m args below meth c H1 locs1 (c0 + nc') (s0 + ns') Q (F0 m pcr sl1 (str.map (mm_tv ad1)))) →
    W p l e R s m args below meth c H locs (c0 + nc) (s0 + ns) Q (F0 m pc sl (st.map (mm_tv ad)))
end MMS1
section MMT1
variable {fet : Nat → Nat → Option Instr} {fld : Nat → Nat → Option (Nat × Nat × FieldType × Bool)} {mth : Nat → Nat → Option (Nat × Bool)} {inf : Nat → MI} {prm : Nat → Nat → Instr → List Value → Option (Nat × List Value)} {bsz : Nat → Nat}
variable {nwc : Nat → Nat → Option (Nat × List Value)} {anc : Nat → Nat → Option Nat} {mnc : Nat → Nat → Bool} {arc : Nat → Bool} {ini : Nat → Option Nat} {spc : Nat → Nat → Option (Option Nat)}
variable {l : Launch} {D : va_G} {cl : List vw_C} {tys : List (ClassId × FieldType)} {cA : Nat → ClassId} {s00 : State} {lo : Nat} {exA : Nat → Nat} {TB NW : List Cond} {nm : Nat → MethodName} {code : Nat → ByteArray}
theorem mm_ag_tr {n n' : Nat} {a b c : Nat → Nat} (hn : n ≤ n') (h1 : mm_ag n a b) (h2 : mm_ag n' b c) : mm_ag n a c := ⟨fun k hk => (h2.1 k (Nat.lt_of_lt_of_le hk hn)).trans (h1.1 k hk), fun k hk => (h2.2 k hk).trans (h1.2 k hk)⟩
theorem mm_ag_rf {n : Nat} {a : Nat → Nat} : mm_ag n a a := ⟨fun _ _ => rfl, fun _ _ => rfl⟩
theorem mm_ag_ex {n : Nat} {a b exA : Nat → Nat} (h : mm_ag n a b) (hex : ∀ k, 1000000 ≤ k → a k = exA k) : ∀ k, 1000000 ≤ k → b k = exA k := fun k hk => (h.2 k hk).trans (hex k hk)
/-- a constructor's contract out of its run -/
theorem mm_Met1_of {d y : Nat} {vs : List Value} {h h' : MH} {mc ms pcr : Nat} (hT : va_K D cl tys s00) (hy : plainName (nm y).cls = true) (hl : (mm_sl vs).length ≤ (inf y).2.1) (hin : (nm y).name = "<init>") (hret : (inf y).2.2.1 = none) (hdr : mm_dec (code y) pcr .return_) (hW : mm_WS1 inf ini l D cl tys cA s00 lo exA TB NW nm code d y 0 (mm_en (inf y).2.1 vs) [] h 0 0 pcr [] h' mc ms) : mm_Met1 inf l D cl cA s00 lo exA TB NW nm code d y vs h h' mc ms := by
  intro ad sz hex hD hlo
  refine Met.ofW (cc := code y) (maxL := (inf y).2.1) (ret := (inf y).2.2.1) hy rfl ?_
  intro p e s m args below meth c s₁ B hml hv
  obtain ⟨rfl, hsz, hP, hSt⟩ := hv
  have hts := atoms_spec (ws := mm_ww inf TB nm code y) B.pre
  have hlen : (mm_en (inf y).2.1 vs).length = (inf y).2.1 := mm_en_len hl
  have hent := lv_entry (vs.map (mm_tv ad)) (n := (inf y).2.1) (by rw [mm_sl_lg]; exact hl)
  have hname : meth.name = "<init>" := (name_of_methodNamed B.named B.method).1.trans hin
  rw [lg_entry_eq]
  have C : mm_Cx inf D cl tys s00 lo TB NW nm code p s m (vs.map (mm_tv ad)).toArray meth c (va_A (mm_wd cA ad h) sz) y := by
    refine ⟨B.exec, B.bytes, hml, B.returns, B.notSynchronized, findClass_of_methodNamed B.named, fun w hw => hts w (List.mem_cons_of_mem _ hw), va_K.moved hSt.2.2.1 hT, fun q hq => Or.inr (by rw [← hsz]; exact hq), fun q hq => ?_, hSt⟩
    rcases hq with ⟨k, x, hk⟩ | hq
    · exact hD.2 k _ hk
    · exact Nat.le_trans hlo hq
  have := hW p e s m _ below meth c s.heap [] (va_A (mm_wd cA ad h) sz) ad _ (mm_rm1 d mc ms) 0 0 (MQ below (mm_Qc1 D cl cA ad (va_A (mm_wd cA ad h) sz) h h') (vs.map (mm_tv ad)).toArray s mc ms (va_A (mm_wd cA ad h) sz)) C (fun _ _ => hname) ⟨Nat.le_refl _, Nat.le_refl _, by rw [Nat.zero_add]; exact Nat.le_refl _, by rw [Nat.zero_add]; exact Nat.le_refl _⟩ hex hP hD.self va_S.rf (by rw [hlen]; exact mm_en_ok hent) hlen (fun ad1 H1 locs1 sl1 ha hP1 hD1 hS1 => by
    rw [Nat.zero_add, Nat.zero_add]
    exact W.vret C.1 C.2.1 (C.2.2.2.1.trans hret) (fun t ht hW => ⟨rfl, ⟨ad1, ha, by rw [ht]; exact hP1, hD1⟩, hS1.F ht⟩) hS1.2.2 (mm_d1 hdr rfl (by decide)) C.2.2.2.2.1)
  exact this
/-- behind a constructor's call -/
theorem mm_after1 {p : Program} {e : Env} {R : Room} {s : State} {m : MethodId} {args : Array Value} {below : List Frame} {meth : Method} {c : Code} {H : Heap} {locs : List Loc} {cells slots mc ms : Nat} {Q : State → Prop} {pc : Nat} {sl : Array Slot} {st0 rest : List Value} {a : Array Value} {ad : Nat → Nat} {A A1 : Nat → Prop} {h h' : MH}
    (hr : va_Run p l e R s m args below meth c H locs cells slots mc ms (F0 m pc sl st0) rest (mm_Qc1 D cl cA ad A1 h h' a) A1) (hS : va_S A s.heap H locs) (hA : ∀ q, A1 q → A q)
    (kk : ∀ (ad1 : Nat → Nat) (H1 : Heap) (locs1 : List Loc), mm_ag h.length ad ad1 → va_P D cl (mm_wd cA ad1 h') H1 → va_D A1 (mm_wd cA ad1 h') → va_S A s.heap H1 locs1 → W p l e R s m args below meth c H1 locs1 (cells + mc) (slots + ms) Q (F0 m (pc + 3) sl rest)) : W p l e R s m args below meth c H locs cells slots Q (F0 m pc sl st0) := by
  intro T hT X
  obtain ⟨v, st₀, t, T', L, h0, X', hL, e1, e2, ⟨hv, ⟨ad1, ha, hp, hd⟩, hz, hk⟩, st⟩ := hr T hT X
  cases hv
  rw [h0] at hz hk
  obtain ⟨t2, a1, b1⟩ := kk ad1 T'.heap (locs ++ L) ha (by rw [e1]; exact hp) hd
    ⟨Nat.le_trans hS.1 (by rw [e1]; exact hz), fun q h1 h2 => by rw [e1, hk q (Nat.lt_of_lt_of_le h1 hS.1) (fun z => h2 (hA q z))]; exact hS.2.1 q h1 h2, fun q hq => by
      rcases List.mem_append.mp hq with h | h
      · exact hS.2.2 q h
      · exact hA _ (hL q h)⟩ T' rfl X'
  exact ⟨t2, st t2 a1, b1⟩
end MMT1

/-! What is made, by class; printed by program; behind each its places among the words -/
def mt_nw : List (List (Nat × (Nat × List Value) × List Nat)) := [[(28, (2, [.int 0, .int 0, .int 0, .int 0, .int 0, .int 0, .int 0, .int 0, .int 0, .int 0]), [134, 136, 110])], [(22, (2, [.int 0, .int 0, .int 0, .int 0, .int 0, .int 0, .int 0, .int 0, .int 0, .int 0]), [324, 136, 110])], [], [(15, (0, [.int 0, .int 0, .int 0, .int 0, .null, .null, .null, .int 0, .null, .int 0, .null, .null, .null, .null, .null, .null, .null, .int 0, .int 0]), [276, 129, 109])], [(7, (0, [.int 0, .int 0, .int 0, .int 0, .null, .null, .null, .int 0, .null, .int 0, .null, .null, .null, .null, .null, .null, .null, .int 0, .int 0]), [128, 129, 109]), (27, (3, [.null, .int 0, .null, .int 0, .int 0, .int 0, .int 0, .int 0, .int 0, .int 0, .int 0]), [270, 271, 111]), (34, (1, [.null, .null, .null, .null, .int 0, .int 0, .int 0, .int 0, .int 0]), [318, 319, 112])], [], [], [(7, (4, [.null, .null, .null, .null, .null, .null, .null, .null, .null, .null, .null, .int 0]), [120, 121, 108]), (10, (5, [.null, .null, .null, .null, .int 0, .int 0, .int 0, .null, .int 0, .int 0, .int 0, .int 0, .int 0, .int 0, .int 0, .int 0, .int 0, .int 0, .int 0, .null, .null, .null, .null, .int 0, .int 0, .long 0, .long 0, .long 0, .null, .null, .null, .null, .null, .int 0, .null]), [909, 910, 113])]]
def mt_an : List (List (Nat × Nat × Nat)) := [[(28, 2, 134)], [(22, 2, 324)], [], [], [(7, 0, 128)], [], [], []]
def mt_sp : List (List (Nat × Option Nat × Nat × Option String)) := [[(3, none, 133, none), (56, some 32, 137, some "BargeTalks")], [(3, none, 323, none), (28, some 32, 325, some "BargeTalks")], [(3, none, 140, none)], [(3, none, 275, none), (17, some 0, 277, some "BargeTalks")], [(1, none, 125, none), (9, some 0, 130, some "BargeTalks"), (29, some 42, 272, some "BargeTalks"), (36, some 25, 320, some "BargeTalks")], [(1, none, 914, none)], [], [(9, some 57, 122, none), (12, some 109, 911, none)]]
def mt_mn : Nat × Nat × Nat := (4, 41, 354)
def mt_ip : List (Nat × Nat × Nat × Nat) := [(0, 0, 109, 131), (25, 1, 112, 321), (32, 2, 110, 138), (42, 3, 111, 273), (57, 4, 108, 123), (109, 5, 113, 912)]
def nwT (y idx : Nat) : Option (Nat × List Value) := match mm_lk (mt_nw.getD (mt_cl.getD y 99) []) idx with
  | some q => some q.1
  | none => none
def anT (y idx : Nat) : Option Nat := match mm_lk (mt_an.getD (mt_cl.getD y 99) []) idx with
  | some q => some q.1
  | none => none
def mnT (y idx : Nat) : Bool := Nat.beq (mt_cl.getD y 99) 4 && Nat.beq idx 41
def arcT (ci : Nat) : Bool := Nat.beq ci 0 || Nat.beq ci 2
def iniT (y : Nat) : Option Nat := match mm_lk mt_ip y with
  | some q => some q.1
  | none => none
def spT (y idx : Nat) : Option (Option Nat) := match mm_lk (mt_sp.getD (mt_cl.getD y 99) []) idx with
  | some q => some q.1
  | none => none
/-! and that they are the program's -/
def ck_nw2 (own : String) (e : Nat × (Nat × List Value) × List Nat) : Bool := match vwCl[e.2.1.1]? with
  | some (C, T, N) => decide (e.2.1.1 < 100) && ck_in (e.2.2.getD 0 0) (.classLink own e.1 C) && ck_in (e.2.2.getD 1 0) (.instantiable C N) && ck_in (e.2.2.getD 2 0) (.initialized C) && decide (e.2.1.2.length = N) && (List.range N).all (fun j => decide (defaultValue ((tyC.getD e.2.1.1 (fun _ => .int)) j) = e.2.1.2.getD j .null)) && e.2.1.2.all (mm_vv 0)
  | none => false
theorem mm_vv0 {fs : List Value} (h : fs.all (mm_vv 0) = true) (hn : ∀ k, Value.ref k ∉ fs) (ad : Nat → Nat) : fs.map (mm_tv ad) = fs := by
  have : fs.map (mm_tv ad) = fs.map id := List.map_congr_left (fun v hv => by
    cases v with
    | ref k => exact absurd hv (hn k)
    | _ => rfl)
  rw [this, List.map_id]
def ck_nr (fs : List Value) : Bool := fs.all (fun v => match v with
  | .ref _ => false
  | _ => true)
theorem ck_nr_ok {fs : List Value} (h : ck_nr fs = true) : ∀ k, Value.ref k ∉ fs := fun k hk => by
  have := List.all_eq_true.mp h _ hk
  cases this
theorem nw_nr : ∀ c, (mt_nw.getD c []).all (fun e => ck_nr e.2.1.2) = true := fun c => by
  match c with
  | 0 => decide +kernel
  | 1 => decide +kernel
  | 2 => decide +kernel
  | 3 => decide +kernel
  | 4 => decide +kernel
  | 5 => decide +kernel
  | 6 => decide +kernel
  | 7 => decide +kernel
  | n + 8 => rfl
theorem nw_all : ∀ c, (mt_nw.getD c []).all (ck_nw2 (mt_cn.getD c "")) = true := fun c => by
  match c with
  | 0 => decide +kernel
  | 1 => decide +kernel
  | 2 => decide +kernel
  | 3 => decide +kernel
  | 4 => decide +kernel
  | 5 => decide +kernel
  | 6 => decide +kernel
  | 7 => decide +kernel
  | n + 8 => rfl
theorem nwT_ok (y idx ci : Nat) (fs : List Value) (h : nwT y idx = some (ci, fs)) : mm_NO vwCl TBw (nmT y).cls idx ci fs := by
  unfold nwT at h
  split at h
  · rename_i q hq
    have e := Option.some.inj h
    have h1 := lk_own (T := mt_nw) (f := ck_nw2) nw_all rfl hq
    have h2 := lk_own (T := mt_nw) (f := fun _ e => ck_nr e.2.1.2) nw_nr rfl hq
    obtain ⟨⟨a, b⟩, pl⟩ := q
    cases e
    unfold ck_nw2 at h1
    split at h1
    · rename_i C T N hc
      rw [Bool.and_eq_true, Bool.and_eq_true, Bool.and_eq_true, Bool.and_eq_true, Bool.and_eq_true, Bool.and_eq_true] at h1
      obtain ⟨⟨⟨⟨⟨⟨g1, g2⟩, g3⟩, g4⟩, g5⟩, g6⟩, g7⟩ := h1
      obtain ⟨k1, k2, -⟩ := cls_ok hc
      refine ⟨of_decide_eq_true g1, C, T, N, _, hc, k1, k2, ck_in_ok g2, ck_in_ok g3, ck_in_ok g4, fun j hj => ?_, g7, of_decide_eq_true g5, mm_vv0 g7 (ck_nr_ok h2)⟩
      exact of_decide_eq_true (List.all_eq_true.mp g6 j (List.mem_range.mpr hj))
    · cases h1
  · cases h
def ck_sp (own : String) (e : Nat × Option Nat × Nat × Option String) : Bool := match e.2.1 with
  | none => ck_in e.2.2.1 (.methodLink own e.1 objectInit)
  | some y' => mt_ni.contains y' && match e.2.2.2 with
    | none => ck_in e.2.2.1 (.methodLink own e.1 (nmT y'))
    | some host => ck_nw e.2.2.1 (.methodLinkNest own e.1 (nmT y') host)
theorem sp_all : ∀ c, (mt_sp.getD c []).all (ck_sp (mt_cn.getD c "")) = true := fun c => by
  match c with
  | 0 => decide +kernel
  | 1 => decide +kernel
  | 2 => decide +kernel
  | 3 => decide +kernel
  | 4 => decide +kernel
  | 5 => decide +kernel
  | 6 => decide +kernel
  | 7 => decide +kernel
  | n + 8 => rfl
theorem obW : ck_in 126 (.instanceMethod objectInit) = true ∧ ck_in 127 (.code objectInit ⟨#[0xb1]⟩ 1 none) = true := by decide +kernel
/-- a constructor's own rows -/
def ck_ip (e : Nat × Nat × Nat × Nat) : Bool := plainName (nmT e.1).cls && ck_in e.2.2.1 (.initialized (nmT e.1).cls) && decide ((nmT e.1).cls ≠ "java/lang/invoke/MethodHandle") && decide ((nmT e.1).cls ≠ "java/lang/invoke/VarHandle") && decide ((infT e.1).2.1 ≤ 21) && decide ((parseMethodDescriptor (nmT e.1).desc).map (fun d => d.parameters.length + 1) = some (infT e.1).1) && ck_in e.2.2.2 (.instanceMethod (nmT e.1)) && decide ((nmT e.1).name = "<init>") && decide ((infT e.1).2.2.1 = none) && Nat.blt e.1 202
theorem ip_all : mt_ip.all ck_ip = true := by decide +kernel
theorem ip_ni {y : Nat} (h : mt_ni.contains y = true) : ∃ q, (y, q) ∈ mt_ip := by
  have h1 : y ∈ mt_ni := by simpa using h
  have e : mt_ni = mt_ip.map (fun q => q.1) := rfl
  rw [e] at h1
  obtain ⟨q, hq, rfl⟩ := List.mem_map.mp h1
  exact ⟨q.2, hq⟩
theorem spT_ok (y idx y' : Nat) (h : spT y idx = some (some y')) : mm_SO infT TBw NWw nmT codeT (nmT y).cls idx y' := by
  unfold spT at h
  split at h
  · rename_i q hq
    have e := Option.some.inj h
    have h1 := lk_own (T := mt_sp) (f := ck_sp) sp_all rfl hq
    obtain ⟨a, pl, host⟩ := q
    cases e
    have h2 : mt_ni.contains y' = true ∧ (Cond.methodLink (nmT y).cls idx (nmT y') ∈ TBw ∨ ∃ host, Cond.methodLinkNest (nmT y).cls idx (nmT y') host ∈ NWw) := by
      cases host with
      | none =>
        have h9 : (mt_ni.contains y' && ck_in pl (.methodLink (nmT y).cls idx (nmT y'))) = true := h1
        rw [Bool.and_eq_true] at h9
        exact ⟨h9.1, Or.inl (ck_in_ok h9.2)⟩
      | some host =>
        have h9 : (mt_ni.contains y' && ck_nw pl (.methodLinkNest (nmT y).cls idx (nmT y') host)) = true := h1
        rw [Bool.and_eq_true] at h9
        exact ⟨h9.1, Or.inr ⟨host, ck_nw_ok h9.2⟩⟩
    obtain ⟨g1, g2⟩ := h2
    obtain ⟨q, hq2⟩ := ip_ni g1
    have h3 := List.all_eq_true.mp ip_all _ hq2
    unfold ck_ip at h3
    rw [Bool.and_eq_true, Bool.and_eq_true, Bool.and_eq_true, Bool.and_eq_true, Bool.and_eq_true, Bool.and_eq_true, Bool.and_eq_true, Bool.and_eq_true, Bool.and_eq_true] at h3
    obtain ⟨⟨⟨⟨⟨⟨⟨⟨⟨k1, k2⟩, k3⟩, k4⟩, k5⟩, k6⟩, k7⟩, k8⟩, k9⟩, k10⟩ := h3
    obtain ⟨dd, hd, hn⟩ := Option.map_eq_some_iff.mp (of_decide_eq_true k6)
    refine ⟨k1, mc_y (Nat.le_of_ble_eq_true k10), ck_in_ok k2, ⟨of_decide_eq_true k3, of_decide_eq_true k4⟩, of_decide_eq_true k5, g2, ⟨dd.parameters.length, hn.symm, by dsimp only at hd; rw [hd]; rfl⟩, ck_in_ok k7, of_decide_eq_true k8, of_decide_eq_true k9⟩
  · cases h
theorem spT_ob (y idx : Nat) (h : spT y idx = some none) : Cond.methodLink (nmT y).cls idx objectInit ∈ TBw ∧ Cond.instanceMethod objectInit ∈ TBw ∧ Cond.code objectInit ⟨#[0xb1]⟩ 1 none ∈ TBw := by
  unfold spT at h
  split at h
  · rename_i q hq
    have e := Option.some.inj h
    have h1 := lk_own (T := mt_sp) (f := ck_sp) sp_all rfl hq
    obtain ⟨a, pl, host⟩ := q
    cases e
    exact ⟨ck_in_ok h1, ck_in_ok obW.1, ck_in_ok obW.2⟩
  · cases h
theorem iniT_nm (y ci : Nat) (h : iniT y = some ci) : (nmT y).name = "<init>" := by
  unfold iniT at h
  split at h
  · rename_i q hq
    have h3 := List.all_eq_true.mp ip_all _ (mm_lk_mem hq)
    unfold ck_ip at h3
    rw [Bool.and_eq_true, Bool.and_eq_true, Bool.and_eq_true, Bool.and_eq_true, Bool.and_eq_true, Bool.and_eq_true, Bool.and_eq_true, Bool.and_eq_true, Bool.and_eq_true] at h3
    exact of_decide_eq_true h3.1.1.2
  · cases h
/-- a final field of the class itself: its own link -/
def ck_fin (c : Nat) (e : Nat × (Nat × Nat × FieldType × Bool) × Nat × Option String) : Bool := !(Nat.beq e.2.1.1 c && e.2.1.2.2.2) || (decide (e.2.2.2 = none) && match vwCl[c]? with
  | some (C, T, N) => decide ((T e.2.1.2.1).1 = mt_cn.getD c "")
  | none => false)
theorem fin_all : ∀ c, (mt_fl.getD c []).all (ck_fin c) = true := fun c => by
  match c with
  | 0 => decide +kernel
  | 1 => decide +kernel
  | 2 => decide +kernel
  | 3 => decide +kernel
  | 4 => decide +kernel
  | 5 => decide +kernel
  | 6 => decide +kernel
  | 7 => decide +kernel
  | n + 8 => rfl
theorem ini_cl : mt_ip.all (fun e => decide (mt_cl.getD e.1 99 = e.2.1) && Nat.blt e.1 203) = true := by decide +kernel
theorem finT_ok (y idx ci k : Nat) (ty : FieldType) (h : fldT y idx = some (ci, k, ty, true)) (hi : iniT y = some ci) (C : String) (T : u_T) (N : Nat) (hc : vwCl[ci]? = some (C, T, N)) : (T k).1 = (nmT y).cls ∧ Cond.fieldLink (nmT y).cls idx (T k).1 (T k).2.1 (T k).2.2.1 ∈ TBw := by
  unfold iniT at hi
  split at hi
  · rename_i q hq
    have h3 := List.all_eq_true.mp ini_cl _ (mm_lk_mem hq)
    rw [Bool.and_eq_true] at h3
    have hcl : mt_cl.getD y 99 = q.1 := of_decide_eq_true h3.1
    have hy : y < 203 := Nat.le_of_ble_eq_true h3.2
    have hqc : q.1 = ci := Option.some.inj hi
    rw [hqc] at hcl
    unfold fldT at h
    split at h
    · rename_i f hf
      have e := Option.some.inj h
      obtain ⟨⟨a1, a2, a3, a4⟩, pl, host⟩ := f
      cases e
      rw [hcl] at hf
      have hm := mm_lk_mem hf
      have g1 := List.all_eq_true.mp (fin_all ci) _ hm
      have g2 := List.all_eq_true.mp (fk_all ci) _ hm
      rw [nmT_cls hy, hcl]
      unfold ck_fin at g1
      unfold ck_f at g2
      dsimp only at g1 g2
      rw [hc] at g1 g2
      have e1 : Nat.beq ci ci = true := Nat.beq_refl ci
      rw [e1] at g1
      dsimp only [Bool.and_true, Bool.not_true, Bool.false_or] at g1
      rw [Bool.true_and, Bool.not_true, Bool.false_or, Bool.and_eq_true] at g1
      have g3 := of_decide_eq_true g1.1
      have g4 := of_decide_eq_true g1.2
      subst g3
      rw [Bool.and_eq_true] at g2
      exact ⟨g4, ck_in_ok g2.2⟩
    · cases h
  · cases hi

/-! The law's calls: what stands where -/
/-- (place, arguments, the two links, the two methods, long) -/
abbrev LwE : Type := Nat × Nat × Nat × Nat × Nat × Nat × Bool
def lw_cs : List LwE := [(196, 1, 13, 17, 58, 115, false), (219, 1, 18, 21, 59, 116, false), (242, 0, 22, 26, 60, 128, false), (255, 0, 27, 30, 61, 129, false), (268, 1, 31, 34, 62, 152, false), (291, 2, 35, 39, 63, 153, false), (324, 2, 40, 43, 64, 154, false), (357, 3, 44, 48, 65, 156, false), (400, 1, 49, 52, 66, 157, false), (423, 3, 53, 56, 67, 158, false), (466, 1, 57, 60, 68, 159, false), (489, 1, 61, 64, 69, 160, false), (512, 1, 65, 68, 70, 162, false), (535, 2, 69, 72, 71, 163, false), (568, 3, 73, 76, 72, 164, false), (611, 2, 77, 80, 73, 165, false), (644, 2, 81, 84, 74, 166, false), (677, 0, 85, 88, 75, 167, false), (690, 4, 89, 93, 76, 172, false), (743, 3, 94, 97, 77, 173, false), (786, 1, 98, 101, 78, 174, false), (809, 2, 102, 105, 79, 175, false), (842, 4, 106, 110, 80, 179, true), (896, 3, 111, 115, 81, 180, true), (940, 3, 116, 119, 82, 181, false), (983, 1, 120, 123, 83, 182, false), (1006, 1, 124, 127, 84, 185, false), (1029, 1, 128, 131, 85, 186, false), (1052, 2, 132, 135, 86, 188, false), (1085, 3, 136, 139, 87, 189, false), (1128, 1, 140, 143, 88, 191, false), (1151, 1, 144, 147, 89, 192, false), (1174, 3, 148, 151, 90, 194, false), (1217, 3, 152, 155, 91, 195, false), (1260, 4, 156, 159, 92, 196, false), (1313, 0, 160, 163, 93, 197, false), (1326, 1, 164, 167, 94, 198, false)]
/-- one argument out of the script -/
def lwA (p k : Nat) : Bool := decide (fetT 202 p = some (.aload_n 0)) && (decide (fetT 202 (p + 1) = some (.iload_n 3)) && (decide (fetT 202 (p + 2) = some (.iconst (k + 1 : Nat))) && (decide (fetT 202 (p + 3) = some .iadd) && decide (fetT 202 (p + 4) = some .iaload))))
def lwM (y n ci : Nat) (lg : Bool) : Bool := Nat.beq (infT y).1 (n + 1) && (Nat.ble (n + 1) (infT y).2.1 && (!(infT y).2.2.2.2 && (Nat.beq (infT y).2.2.2.1 ci && decide ((infT y).2.2.1 = some (if lg = true then .long else .int)))))
def lwT (q : Nat) (lg : Bool) : Bool := match lg with
  | false => decide (fetT 202 q = some (.if_icmp .eq ((1349 : Int) - (q : Int))))
  | true => decide (fetT 202 q = some .lcmp) && decide (fetT 202 (q + 1) = some (.ifCond .eq ((1349 : Int) - ((q + 1 : Nat) : Int))))
def lwC (e : LwE) : Bool := decide (fetT 202 e.1 = some (.aload_n 1)) && ((List.range e.2.1).all (fun k => lwA (e.1 + 1 + 5 * k) k) && (decide (fetT 202 (e.1 + 1 + 5 * e.2.1) = some (.invokevirtual e.2.2.1)) && (decide (mthT 202 e.2.2.1 = some (e.2.2.2.2.1, true)) && (lwM e.2.2.2.2.1 e.2.1 4 e.2.2.2.2.2.2 && (decide (fetT 202 (e.1 + 4 + 5 * e.2.1) = some (.aload_n 2)) && ((List.range e.2.1).all (fun k => lwA (e.1 + 5 + 5 * e.2.1 + 5 * k) k) && (decide (fetT 202 (e.1 + 5 + 10 * e.2.1) = some (.invokevirtual e.2.2.2.1)) && (decide (mthT 202 e.2.2.2.1 = some (e.2.2.2.2.2.1, true)) && (lwM e.2.2.2.2.2.1 e.2.1 5 e.2.2.2.2.2.2 && (lwT (e.1 + 8 + 10 * e.2.1) e.2.2.2.2.2.2 && Nat.ble e.2.1 4))))))))))
theorem lw_all : lw_cs.all lwC = true := by decide +kernel
/-- the answer fits the method -/
theorem mm_run_r {fet : Nat → Nat → Option Instr} {fld : Nat → Nat → Option (Nat × Nat × FieldType × Bool)} {mth : Nat → Nat → Option (Nat × Bool)} {inf : Nat → MI} {prm : Nat → Nat → Instr → List Value → Option (Nat × List Value)} {bsz : Nat → Nat} : ∀ (n d y pc : Nat) (ls : ML) (st : List Value) (h : MH) (v : Value) (h' : MH), mm_run fet fld mth inf prm bsz n d y pc ls st h = some (some v, h') → mm_rok (inf y).2.2.1 v = true := by
  intro n
  induction n with
  | zero => intro d y pc ls st h v h' hq; cases hq
  | succ n ih =>
    intro d y pc ls st h v h' hq
    unfold mm_run at hq
    split at hq
    · cases hq
    · split at hq
      · exact ih _ _ _ _ _ _ _ _ hq
      · split at hq
        · unfold mm_ret at hq
          split at hq
          · split at hq
            · rename_i hk
              cases hq
              exact hk
            · cases hq
          · split at hq
            · rename_i hk
              cases hq
              exact hk
            · cases hq
          · split at hq
            · rename_i hk
              cases hq
              exact hk
            · cases hq
          · split at hq
            · cases hq
            · cases hq
          · cases hq
        · split at hq
          · cases hq
          · split at hq
            · cases hq
            · split at hq
              · split at hq
                · exact ih _ _ _ _ _ _ _ _ hq
                · cases hq
              · split at hq
                · split at hq
                  · split at hq
                    · exact ih _ _ _ _ _ _ _ _ hq
                    · cases hq
                  · cases hq
                · cases hq
theorem ev_rok {xs : List Int32} {d y pc : Nat} {ls : ML} {st : List Value} {h h' : MH} {v : Value} (hv : Ev xs d y pc ls st h (some v) h') : mm_rok (infT y).2.2.1 v = true := by
  obtain ⟨n, hn⟩ := hv
  exact mm_run_r n d y pc ls st h v h' hn
theorem rok_int {v : Value} (h : mm_rok (some .int) v = true) : ∃ x, v = .int x := by
  cases v with
  | int x => exact ⟨x, rfl⟩
  | _ => cases h
theorem rok_long {v : Value} (h : mm_rok (some .long) v = true) : ∃ x, v = .long x := by
  cases v with
  | long x => exact ⟨x, rfl⟩
  | _ => cases h
theorem prmS_n {d idx : Nat} (st : List Value) : prmS 202 d (.invokevirtual idx) st = none := by
  cases st with
  | nil => rfl
  | cons v st =>
    cases v with
    | ref k => rfl
    | int i =>
      cases st with
      | nil => rfl
      | cons w st =>
        cases w with
        | ref k => rfl
        | _ => rfl
    | _ => rfl
theorem stp_n {xs : List Int32} {d pc idx : Nat} {ls : ML} {st : List Value} {h : MH} : mm_stp fldT (prmT xs) d 202 (.invokevirtual idx) pc ls st h = none := by
  unfold mm_stp
  rw [show mm_s0 (.invokevirtual idx) pc ls st = none from rfl]
  dsimp only
  rw [show mm_s1 (fldT 202) (.invokevirtual idx) pc st h = none from rfl]
  dsimp only
  unfold prmT
  rw [show prm0T xs 202 d (.invokevirtual idx) st = none from rfl]
  dsimp only
  rw [prmS_n]
/-- the law's locals -/
def lwL (i : Nat) : ML := [some (.ref 1000000), some (.ref 0), some (.ref 128), some (.int (nI i))]
theorem lwA_ok {p k : Nat} (h : lwA p k = true) : fetT 202 p = some (.aload_n 0) ∧ fetT 202 (p + 1) = some (.iload_n 3) ∧ fetT 202 (p + 2) = some (.iconst (k + 1 : Nat)) ∧ fetT 202 (p + 3) = some .iadd ∧ fetT 202 (p + 4) = some .iaload := by
  unfold lwA at h
  rw [Bool.and_eq_true, Bool.and_eq_true, Bool.and_eq_true, Bool.and_eq_true, decide_eq_true_iff, decide_eq_true_iff, decide_eq_true_iff, decide_eq_true_iff, decide_eq_true_iff] at h
  exact h
section LWR
variable {xs : List Int32} {d i nc ns : Nat} {R : R1}
theorem e1_arg {p k : Nat} {st : List Value} {h : MH} {x : Int32} (ha : lwA p k = true) (hk : k < 4) (hh : h.length ≤ 1000000) (hi : i < 100000) (hx : xs[i + (k + 1)]? = some x) (hv : Ev1 xs d 202 (p + 5) (lwL i) (.int x :: st) h nc ns R) : Ev1 xs d 202 p (lwL i) st h nc ns R := by
  obtain ⟨f1, f2, f3, f4, f5⟩ := lwA_ok ha
  refine e1_s0 f1 (show _ = some (p + 1, lwL i, .ref 1000000 :: st) from rfl) ?_
  refine e1_s0 f2 (show _ = some (p + 1 + 1, lwL i, .int (nI i) :: .ref 1000000 :: st) from rfl) ?_
  refine e1_s0 f3 (show _ = some (p + 2 + 1, lwL i, .int (Int32.ofInt (k + 1 : Nat)) :: .int (nI i) :: .ref 1000000 :: st) from rfl) ?_
  refine e1_s0 f4 (show _ = some (p + 3 + 1, lwL i, .int (nI i + Int32.ofInt (k + 1 : Nat)) :: .ref 1000000 :: st) from rfl) ?_
  have e : nI i + Int32.ofInt (k + 1 : Nat) = nI (i + (k + 1)) := by
    rw [← nI_add]
    rfl
  rw [e]
  exact e1_scr f5 hh (by omega) hx hv
theorem e1_args {h : MH} (hh : h.length ≤ 1000000) (hi : i < 100000) : ∀ (as : List Int32) (p k : Nat) (st : List Value), k + as.length ≤ 4 → (∀ j, j < as.length → lwA (p + 5 * j) (k + j) = true) → (∀ j, j < as.length → xs[i + (k + j + 1)]? = as[j]?) → Ev1 xs d 202 (p + 5 * as.length) (lwL i) ((as.map Value.int).reverse ++ st) h nc ns R → Ev1 xs d 202 p (lwL i) st h nc ns R
  | [], p, k, st, _, _, _, hv => hv
  | a :: as, p, k, st, hk, ha, hx, hv => by
    rw [List.length_cons] at hk
    have h0 := ha 0 (by rw [List.length_cons]; omega)
    have x0 := hx 0 (by rw [List.length_cons]; omega)
    refine e1_arg (x := a) h0 (by omega) hh hi x0 ?_
    refine e1_args hh hi as (p + 5) (k + 1) (.int a :: st) (by omega) (fun j hj => ?_) (fun j hj => ?_) ?_
    · have := ha (j + 1) (by rw [List.length_cons]; omega)
      rw [show p + 5 + 5 * j = p + 5 * (j + 1) by omega, show k + 1 + j = k + (j + 1) by omega]
      exact this
    · have := hx (j + 1) (by rw [List.length_cons]; omega)
      rw [show k + 1 + j + 1 = k + (j + 1) + 1 by omega, this]
      rfl
    · rw [List.length_cons, List.map_cons, List.reverse_cons, List.append_assoc] at hv
      rw [show p + 5 + 5 * as.length = p + 5 * (as.length + 1) by omega]
      exact hv
theorem sl_int : ∀ as : List Int32, (mm_sl (as.map Value.int)).length = as.length
  | [] => rfl
  | a :: as => by
    show (mm_sl (as.map Value.int)).length + 1 = as.length + 1
    rw [sl_int as]
theorem as_int (as : List Int32) : ∀ v ∈ as.map Value.int, ∃ x, v = Value.int x := fun v hv => by
  obtain ⟨x, -, e⟩ := List.mem_map.mp hv
  exact ⟨x, e.symm⟩
theorem st_take (as : List Int32) (a : Nat) (st : List Value) : (((as.map Value.int).reverse ++ (.ref a :: st)).take (as.length + 1)).reverse = .ref a :: as.map Value.int ∧ ((as.map Value.int).reverse ++ (.ref a :: st)).drop (as.length + 1) = st ∧ as.length + 1 ≤ ((as.map Value.int).reverse ++ (.ref a :: st)).length := by
  have e : (as.map Value.int).reverse ++ (.ref a :: st) = ((as.map Value.int).reverse ++ [.ref a]) ++ st := by
    rw [List.append_assoc]
    rfl
  have hl : ((as.map Value.int).reverse ++ [Value.ref a]).length = as.length + 1 := by
    rw [List.length_append, List.length_reverse, List.length_map]
    rfl
  rw [e]
  refine ⟨?_, ?_, ?_⟩
  · rw [← hl, List.take_left, List.reverse_append, List.reverse_reverse]
    rfl
  · rw [← hl, List.drop_left]
  · rw [List.length_append, hl]
    omega
theorem lwM_ok {y n ci : Nat} {lg : Bool} (h : lwM y n ci lg = true) : (infT y).1 = n + 1 ∧ n + 1 ≤ (infT y).2.1 ∧ (infT y).2.2.2.2 = false ∧ (infT y).2.2.2.1 = ci ∧ (infT y).2.2.1 = some (if lg = true then .long else .int) := by
  unfold lwM at h
  rw [Bool.and_eq_true, Bool.and_eq_true, Bool.and_eq_true, Bool.and_eq_true, decide_eq_true_iff] at h
  obtain ⟨h1, h2, h3, h4, h5⟩ := h
  refine ⟨Nat.eq_of_beq_eq_true h1, Nat.le_of_ble_eq_true h2, ?_, Nat.eq_of_beq_eq_true h4, h5⟩
  cases hb : (infT y).2.2.2.2 with
  | false => rfl
  | true => rw [hb] at h3; cases h3
/-- one call in the law -/
theorem e1_one {pc y' idx n ci L : Nat} {lg : Bool} {as : List Int32} {st : List Value} {P Q hb hb' : MH} {v : Value} {fs : List Value} (hf : fetT 202 pc = some (.invokevirtual idx)) (hm : mthT 202 idx = some (y', true)) (hM : lwM y' as.length ci lg = true) (hct : mm_ct st ≤ 8) (hP : P.length = n) (h0 : hb[0]? = some (.inr (ci, fs))) (hL : hb.length = L) (hz : bszT ci = L) (hc : clH L hb = true) (hnd : mm_vok (vR n L) = true) (hL' : hb'.length = L) (hc' : clH L hb' = true) (hv : Ev xs d y' 0 (mm_en (infT y').2.1 (.ref 0 :: as.map Value.int)) [] hb (some v) hb') (hr1 : ∀ k, v ≠ .ref k) (hr : Ev1 xs (d + 1) 202 (pc + 3) (lwL i) (v :: st) (P ++ shH n hb' ++ Q) nc ns R) : Ev1 xs (d + 1) 202 pc (lwL i) ((as.map Value.int).reverse ++ (.ref n :: st)) (P ++ shH n hb ++ Q) nc ns R := by
  obtain ⟨m1, m2, m3, m4, m5⟩ := lwM_ok hM
  obtain ⟨t1, t2, t3⟩ := st_take as n st
  have hn : noRef (some v) = true := by
    cases v with
    | ref k => exact absurd rfl (hr1 k)
    | _ => rfl
  refine e1_callB (ci := ci) (As := as.map Value.int) hf stp_n hm ?_ (by rw [m1]; exact t1) (as_int as) hP h0 hL hz hc hnd hL' hc' hv hn ?_
  · rw [m1, t1, t2, m3, m4, decide_eq_true t3, decide_eq_true hct, Nat.beq_refl]
    have e : (mm_sl (.ref n :: as.map Value.int)).length ≤ (infT y').2.1 := by
      show (mm_sl (as.map Value.int)).length + 1 ≤ _
      rw [sl_int]
      exact m2
    rw [decide_eq_true e]
    rfl
  · rw [m1, t2]
    exact hr
end LWR

/-! The law's loop -/
def LwAll (l : List LwE) : Prop := match l with
  | [] => True
  | e :: l => callOK e.2.2.2.2.1 e.2.2.2.2.2.1 e.2.1 ∧ LwAll l
theorem LwAll_at : ∀ (l : List LwE) (c : Nat) (e : LwE), LwAll l → l[c]? = some e → callOK e.2.2.2.2.1 e.2.2.2.2.2.1 e.2.1
  | [], _, _, _, h => by cases h
  | a :: l, 0, e, ha, h => by
    cases h
    exact ha.1
  | a :: l, c + 1, e, ha, h => LwAll_at l c e ha.2 h
theorem lw_oks : LwAll lw_cs := ⟨ok_58, ok_59, ok_60, ok_61, ok_62, ok_63, ok_64, ok_65, ok_66, ok_67, ok_68, ok_69, ok_70, ok_71, ok_72, ok_73, ok_74, ok_75, ok_76, ok_77, ok_78, ok_79, ok_80, ok_81, ok_82, ok_83, ok_84, ok_85, ok_86, ok_87, ok_88, ok_89, ok_90, ok_91, ok_92, ok_93, ok_94, trivial⟩
/-- the cells of both, as blocks -/
theorem inv_len {hc hm : MH} (h : Inv hc hm) : (∃ fs, hc[0]? = some (.inr (4, fs))) ∧ hc.length = 128 ∧ clH 128 hc = true ∧ (∃ fs, hm[0]? = some (.inr (5, fs))) ∧ hm.length = 16 ∧ clH 16 hm = true := by
  obtain ⟨now, trial, told, im0, im1, p, f, r, tr, z, Ks, I0, I1, nw, eb, wa, ms, mt, cc, B, TN, S, rfl, rfl, -⟩ := h
  exact ⟨⟨_, rfl⟩, rfl, rfl, ⟨_, rfl⟩, rfl, rfl⟩
theorem vok_0 : mm_vok (vR 0 128) = true := by decide +kernel
theorem vok_1 : mm_vok (vR 128 16) = true := by decide +kernel
theorem mm_to_n (q t : Nat) : mm_to q ((t : Int) - (q : Int)) = some t := by
  unfold mm_to
  rw [show (q : Int) + ((t : Int) - (q : Int)) = Int.ofNat t by show _ = (t : Int); omega]
section LWS
variable {xs : List Int32} {d i nc ns : Nat} {R : R1}
/-- one call of both: they agree, and the law goes on -/
theorem lw_call {e : LwE} (he : lwC e = true) (hok : callOK e.2.2.2.2.1 e.2.2.2.2.2.1 e.2.1) {hc hm : MH} (hI : Inv hc hm) (hi : i + 5 ≤ xs.length) (hi2 : i < 100000) : ∃ hc' hm', Inv hc' hm' ∧ ∀ R, Ev1 xs (d + 21) 202 1349 (lwL i) [] (hc' ++ shH 128 hm') nc ns R → Ev1 xs (d + 21) 202 e.1 (lwL i) [] (hc ++ shH 128 hm) nc ns R := by
  obtain ⟨p, n, i1, i2, y, y', lg⟩ := e
  unfold lwC at he
  dsimp only at he hok ⊢
  rw [Bool.and_eq_true, Bool.and_eq_true, Bool.and_eq_true, Bool.and_eq_true, Bool.and_eq_true, Bool.and_eq_true, Bool.and_eq_true, Bool.and_eq_true, Bool.and_eq_true, Bool.and_eq_true, Bool.and_eq_true, decide_eq_true_iff, decide_eq_true_iff, decide_eq_true_iff, decide_eq_true_iff, decide_eq_true_iff, decide_eq_true_iff] at he
  obtain ⟨g1, g2, g3, g4, g5, g6, g7, g8, g9, g10, g11, g12⟩ := he
  have hn4 := Nat.le_of_ble_eq_true g12
  -- the arguments
  have has : ∃ as : List Int32, as.length = n ∧ ∀ j, j < n → xs[i + (0 + j + 1)]? = as[j]? := by
    refine ⟨(xs.drop (i + 1)).take n, ?_, fun j hj => ?_⟩
    · rw [List.length_take, List.length_drop]
      omega
    · rw [List.getElem?_take_of_lt hj, List.getElem?_drop]
      congr 1
      omega
  obtain ⟨as, hl, hx⟩ := has
  subst hl
  obtain ⟨v, hc', hm', hv, hI', ev1, ev2⟩ := hok xs d hc hm as rfl hI
  obtain ⟨⟨fs, q1⟩, q2, q3, ⟨gs, q4⟩, q5, q6⟩ := inv_len hI
  obtain ⟨-, r2, r3, -, r5, r6⟩ := inv_len hI'
  have l1 : (hc ++ shH 128 hm).length ≤ 1000000 := by
    rw [List.length_append, shH_len, q2, q5]
    decide
  have l2 : (hc' ++ shH 128 hm).length ≤ 1000000 := by
    rw [List.length_append, shH_len, r2, q5]
    decide
  have a1 : ∀ j, j < as.length → lwA (p + 1 + 5 * j) (0 + j) = true := fun j hj => by
    rw [Nat.zero_add]
    exact List.all_eq_true.mp g2 j (List.mem_range.mpr hj)
  have a2 : ∀ j, j < as.length → lwA (p + 5 + 5 * as.length + 5 * j) (0 + j) = true := fun j hj => by
    rw [Nat.zero_add]
    exact List.all_eq_true.mp g7 j (List.mem_range.mpr hj)
  refine ⟨hc', hm', hI', fun R hr2 => ?_⟩
  refine e1_s0 g1 (show _ = some (p + 1, lwL i, [.ref 0]) from rfl) ?_
  refine e1_args l1 hi2 as (p + 1) 0 [.ref 0] (by omega) a1 hx ?_
  have e0 : hc ++ shH 128 hm = [] ++ shH 0 hc ++ shH 128 hm := by rw [shH_0, List.nil_append]
  rw [e0]
  refine e1_one (ci := 4) (L := 128) (st := []) g3 g4 g5 (Nat.zero_le _) rfl q1 q2 rfl q3 vok_0 r2 r3 ev1 hv ?_
  rw [shH_0, List.nil_append, show p + 1 + 5 * as.length + 3 = p + 4 + 5 * as.length by omega]
  refine e1_s0 g6 (show _ = some (p + 4 + 5 * as.length + 1, lwL i, [.ref 128, v]) from rfl) ?_
  rw [show p + 4 + 5 * as.length + 1 = p + 5 + 5 * as.length by omega]
  refine e1_args l2 hi2 as (p + 5 + 5 * as.length) 0 [.ref 128, v] (by omega) a2 hx ?_
  rw [show p + 5 + 5 * as.length + 5 * as.length = p + 5 + 10 * as.length by omega]
  have e1 : hc' ++ shH 128 hm = hc' ++ shH 128 hm ++ [] := by rw [List.append_nil]
  rw [e1]
  refine e1_one (ci := 5) (L := 16) (st := [v]) g8 g9 g10 ?_ r2 q4 q5 rfl q6 vok_1 r5 r6 ev2 hv ?_
  · cases v <;> exact Nat.le_of_ble_eq_true rfl
  rw [List.append_nil, show p + 5 + 10 * as.length + 3 = p + 8 + 10 * as.length by omega]
  have hrk := ev_rok ev1
  rw [(lwM_ok g5).2.2.2.2] at hrk
  cases lg with
  | false =>
    obtain ⟨x, rfl⟩ := rok_int hrk
    have g11' : fetT 202 (p + 8 + 10 * as.length) = some (.if_icmp .eq ((1349 : Int) - ((p + 8 + 10 * as.length : Nat) : Int))) := of_decide_eq_true g11
    refine e1_s0 g11' ?_ hr2
    show mm_br (p + 8 + 10 * as.length) (lwL i) [] ((1349 : Int) - ((p + 8 + 10 * as.length : Nat) : Int)) (decide (x = x)) = some (1349, lwL i, [])
    unfold mm_br
    rw [show ((1349 : Int) - ((p + 8 + 10 * as.length : Nat) : Int)) = (((1349 : Nat) : Int) - ((p + 8 + 10 * as.length : Nat) : Int)) from rfl, mm_to_n, decide_eq_true rfl]
  | true =>
    obtain ⟨x, rfl⟩ := rok_long hrk
    have g11' : (decide (fetT 202 (p + 8 + 10 * as.length) = some .lcmp) && decide (fetT 202 (p + 8 + 10 * as.length + 1) = some (.ifCond .eq ((1349 : Int) - ((p + 8 + 10 * as.length + 1 : Nat) : Int))))) = true := g11
    rw [Bool.and_eq_true, decide_eq_true_iff, decide_eq_true_iff] at g11'
    refine e1_s0 g11'.1 (show _ = some (p + 8 + 10 * as.length + 1, lwL i, [.int (lg_cmp x x)]) from rfl) ?_
    rw [(lg_cmp_eq x x).mpr rfl]
    refine e1_s0 g11'.2 ?_ hr2
    show mm_br (p + 8 + 10 * as.length + 1) (lwL i) [] ((1349 : Int) - ((p + 8 + 10 * as.length + 1 : Nat) : Int)) (decide ((0 : Int32) = 0)) = some (1349, lwL i, [])
    unfold mm_br
    rw [show ((1349 : Int) - ((p + 8 + 10 * as.length + 1 : Nat) : Int)) = (((1349 : Nat) : Int) - ((p + 8 + 10 * as.length + 1 : Nat) : Int)) from rfl, mm_to_n, decide_eq_true rfl]
/-- the switch -/
def lwO : Array Int := #[164, 187, 210, 223, 236, 259, 292, 325, 368, 391, 434, 457, 480, 503, 536, 579, 612, 645, 658, 711, 754, 777, 810, 864, 908, 951, 974, 997, 1020, 1053, 1096, 1119, 1142, 1185, 1228, 1281, 1294]
theorem lw_sw1 : ∀ c : Fin 37, ∃ off, lwO[c.val]? = some off ∧ ∃ e, lw_cs[c.val]? = some e ∧ mm_to 32 off = some e.1 := by
  have h : ∀ c : Fin 37, (match lwO[c.val]?, lw_cs[c.val]? with
    | some off, some e => decide (mm_to 32 off = some e.1)
    | _, _ => false) = true := by decide +kernel
  intro c
  have := h c
  split at this
  · rename_i off e h1 h2
    exact ⟨off, h1, e, h2, of_decide_eq_true this⟩
  · cases this
theorem and63 (x : Int32) : ∃ c, c < 64 ∧ x &&& (Int8.ofInt 63).toInt32 = nI c := by
  refine ⟨(x &&& (Int8.ofInt 63).toInt32).toBitVec.toNat, ?_, ?_⟩
  · have e : (Int8.ofInt 63).toInt32 = (63 : Int32) := by decide
    rw [e, Int32.toBitVec_and, BitVec.toNat_and]
    exact Nat.lt_of_le_of_lt Nat.and_le_right (by decide)
  · apply Int32.toBitVec_inj.mp
    show _ = (Int32.ofNat _).toBitVec
    rw [Int32.toBitVec_ofNat', BitVec.ofNat_toNat, BitVec.setWidth_eq]
theorem sw_0 {c : Nat} (hc : c < 64) : mm_s0 (.tableswitch 1317 0 36 lwO) 32 (lwL i) [.int (nI c)] = (if 36 < (c : Int) then mm_go (lwL i) [] (mm_to 32 1317) else match lwO[((c : Int) - 0).toNat]? with
    | some off => mm_go (lwL i) [] (mm_to 32 off)
    | none => none) := by
  have e0 : mm_s0 (.tableswitch 1317 0 36 lwO) 32 (lwL i) [.int (nI c)] = (if (nI c).toInt < 0 then mm_go (lwL i) [] (mm_to 32 1317) else if 36 < (nI c).toInt then mm_go (lwL i) [] (mm_to 32 1317) else match lwO[((nI c).toInt - 0).toNat]? with
    | some off => mm_go (lwL i) [] (mm_to 32 off)
    | none => none) := rfl
  rw [nI_toInt (by omega), if_neg (by omega)] at e0
  exact e0
theorem sw_f : fetT 202 32 = some (.tableswitch 1317 0 36 lwO) := by decide +kernel
theorem lw_sw_lt {c : Nat} {e : LwE} (hl : c < 37) (he : lw_cs[c]? = some e) {h : MH} (k1 : Ev1 xs d 202 e.1 (lwL i) [] h nc ns R) : Ev1 xs d 202 32 (lwL i) [.int (nI c)] h nc ns R := by
  have e0 := sw_0 (i := i) (c := c) (by omega)
  rw [if_neg (by omega), show ((c : Int) - 0).toNat = c by omega] at e0
  obtain ⟨off, h1, e', h2, h3⟩ := lw_sw1 ⟨c, hl⟩
  dsimp only at h1 h2
  rw [he] at h2
  cases h2
  rw [h1] at e0
  dsimp only at e0
  rw [h3] at e0
  exact e1_s0 sw_f e0 k1
theorem lw_sw_ge {c : Nat} (hc : c < 64) (hl : ¬ c < 37) {h : MH} (k2 : Ev1 xs d 202 1349 (lwL i) [] h nc ns R) : Ev1 xs d 202 32 (lwL i) [.int (nI c)] h nc ns R := by
  have e0 := sw_0 (i := i) hc
  rw [if_pos (by omega)] at e0
  exact e1_s0 sw_f (e0.trans rfl) k2
theorem len_gt {L i : Nat} (hL : L ≤ 2560) (hi : i < 100000) : (nI L - Int32.ofInt 5 < nI i ↔ L < i + 5) := by
  have e : (nI L - Int32.ofInt 5).toInt = (L : Int) - 5 := by
    rw [Int32.toInt_sub, nI_toInt (by omega)]
    exact Int.bmod_eq_of_le (by show _ ≤ (L : Int) - 5; omega) (by show (L : Int) - 5 < _; omega)
  rw [Int32.lt_iff_toInt_lt, e, nI_toInt (by omega)]
  omega
theorem f_1349 : fetT 202 1349 = some (.iinc 3 5) := by decide +kernel
theorem f_1352 : fetT 202 1352 = some (.goto (-1334)) := by decide +kernel
theorem f_1355 : fetT 202 1355 = some (.iconst 1) := by decide +kernel
theorem f_1356 : fetT 202 1356 = some .ireturn := by decide +kernel
theorem e1_iret {y pc : Nat} {ls : ML} {st : List Value} {h : MH} (hf : fetT y pc = some .ireturn) : Ev1 xs d y pc ls st h nc ns (pc, ls, st, h, nc, ns) := ⟨1, by
  unfold rn1T mm_run1
  rw [hf]
  rfl⟩
theorem lw_stop (hL : xs.length ≤ 2560) (hi : i ≤ 2600) (hlt : xs.length < i + 5) {h : MH} (hh : h.length ≤ 1000000) : Ev1 xs d 202 18 (lwL i) [] h nc ns (1356, lwL i, [.int 1], h, nc, ns) := by
  refine e1_go (ls' := lwL i) (st' := [.ref 1000000, .int (nI i)]) (h1 := h) (pc' := 20) 2 (fun _ => rfl) ?_
  refine e1_len rfl hh ?_
  refine e1_go (ls' := lwL i) (st' := [.int (nI xs.length - Int32.ofInt 5), .int (nI i)]) (h1 := h) (pc' := 23) 2 (fun _ => rfl) ?_
  refine e1_s0 (i := .if_icmp .gt 1332) (pc' := 1355) (ls' := lwL i) (st' := []) rfl ?_ ?_
  · show mm_br 23 (lwL i) [] 1332 (decide (nI xs.length - Int32.ofInt 5 < nI i)) = _
    rw [decide_eq_true ((len_gt hL (by omega)).mpr hlt)]
    rfl
  · refine e1_s0 f_1355 (show _ = some (1356, lwL i, [.int 1]) from rfl) ?_
    exact e1_iret f_1356
theorem lw_next {h : MH} (hv : Ev1 xs d 202 18 (lwL (i + 5)) [] h nc ns R) : Ev1 xs d 202 1349 (lwL i) [] h nc ns R := by
  refine e1_s0 f_1349 (show _ = some (1352, [some (.ref 1000000), some (.ref 0), some (.ref 128), some (.int (nI i + Int32.ofInt 5))], []) from rfl) ?_
  refine e1_s0 f_1352 (show _ = some (18, [some (.ref 1000000), some (.ref 0), some (.ref 128), some (.int (nI i + Int32.ofInt 5))], []) from rfl) ?_
  have e : nI i + Int32.ofInt 5 = nI (i + 5) := by
    rw [← nI_add]
    rfl
  rw [e]
  exact hv
theorem lw_loop (hL : xs.length ≤ 2560) : ∀ (m i : Nat), xs.length - i ≤ m → i ≤ 2600 → ∀ hc hm : MH, Inv hc hm → ∃ (lsr : ML) (h' : MH), Ev1 xs (d + 21) 202 18 (lwL i) [] (hc ++ shH 128 hm) nc ns (1356, lsr, [.int 1], h', nc, ns) := by
  intro m
  induction m with
  | zero =>
    intro i hm0 hi hc hm hI
    obtain ⟨-, q2, -, -, q5, -⟩ := inv_len hI
    have l1 : (hc ++ shH 128 hm).length ≤ 1000000 := by
      rw [List.length_append, shH_len, q2, q5]
      decide
    exact ⟨lwL i, _, lw_stop hL hi (by omega) l1⟩
  | succ m ih =>
    intro i hm0 hi hc hm hI
    obtain ⟨-, q2, -, -, q5, -⟩ := inv_len hI
    have l1 : (hc ++ shH 128 hm).length ≤ 1000000 := by
      rw [List.length_append, shH_len, q2, q5]
      decide
    by_cases hlt : i + 5 ≤ xs.length
    · obtain ⟨x, hx⟩ : ∃ x, xs[i]? = some x := ⟨xs[i]'(by omega), List.getElem?_eq_getElem (by omega)⟩
      obtain ⟨c, hc64, ec⟩ := and63 x
      have pre : ∀ R, Ev1 xs (d + 21) 202 32 (lwL i) [.int (nI c)] (hc ++ shH 128 hm) nc ns R → Ev1 xs (d + 21) 202 18 (lwL i) [] (hc ++ shH 128 hm) nc ns R := by
        intro R hv
        refine e1_go (ls' := lwL i) (st' := [.ref 1000000, .int (nI i)]) (h1 := hc ++ shH 128 hm) (pc' := 20) 2 (fun _ => rfl) ?_
        refine e1_len rfl l1 ?_
        refine e1_go (ls' := lwL i) (st' := [.int (nI xs.length - Int32.ofInt 5), .int (nI i)]) (h1 := hc ++ shH 128 hm) (pc' := 23) 2 (fun _ => rfl) ?_
        refine e1_s0 (i := .if_icmp .gt 1332) (pc' := 26) (ls' := lwL i) (st' := []) rfl ?_ ?_
        · show mm_br 23 (lwL i) [] 1332 (decide (nI xs.length - Int32.ofInt 5 < nI i)) = _
          rw [decide_eq_false (fun q => by have := (len_gt hL (by omega)).mp q; omega)]
          rfl
        · refine e1_go (ls' := lwL i) (st' := [.int (nI i), .ref 1000000]) (h1 := hc ++ shH 128 hm) (pc' := 28) 2 (fun _ => rfl) ?_
          refine e1_scr rfl l1 (by omega) hx ?_
          refine e1_go (ls' := lwL i) (st' := [.int (x &&& (Int8.ofInt 63).toInt32)]) (h1 := hc ++ shH 128 hm) (pc' := 32) 2 (fun _ => rfl) ?_
          rw [ec]
          exact hv
      by_cases h37 : c < 37
      · obtain ⟨off, -, e, h2, -⟩ := lw_sw1 ⟨c, h37⟩
        dsimp only at h2
        obtain ⟨hc', hm', hI', hgo⟩ := lw_call (d := d) (nc := nc) (ns := ns) (List.all_eq_true.mp lw_all e (List.mem_of_getElem? h2)) (LwAll_at lw_cs c e lw_oks h2) hI hlt (by omega)
        obtain ⟨lsr, h', hv⟩ := ih (i + 5) (by omega) (by omega) hc' hm' hI'
        refine ⟨lsr, h', pre _ (lw_sw_lt h37 h2 (hgo _ (lw_next hv)))⟩
      · obtain ⟨lsr, h', hv⟩ := ih (i + 5) (by omega) (by omega) hc hm hI
        exact ⟨lsr, h', pre _ (lw_sw_ge hc64 h37 (lw_next hv))⟩
    · exact ⟨lwL i, _, lw_stop hL hi (by omega) l1⟩
end LWS

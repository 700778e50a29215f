def cAT (cs : List ClassId) (t : Nat) : ClassId := if t = 0 then cs.getD 0 0 else if t = 1 then cs.getD 1 0 else if t = 2 then cs.getD 2 0 else if t = 100 then cs.getD 3 0 else if t = 102 then cs.getD 4 0 else cs.getD 5 0
def tyT (cs : List ClassId) : List (ClassId × FieldType) := [(cs.getD 0 0, .int), (cs.getD 1 0, .boolean), (cs.getD 2 0, .byte), (cs.getD 3 0, .object RX0), (cs.getD 4 0, .object RX2), (cs.getD 5 0, .array .int)]
theorem AO_T (cs : List ClassId) : mm_AO (cAT cs) (tyT cs) := by
  refine ⟨⟨0, rfl⟩, ⟨1, rfl⟩, ⟨2, rfl⟩, fun t ht => ?_⟩
  by_cases h1 : t = 100
  · subst h1; exact ⟨3, _, rfl, rfl⟩
  · by_cases h2 : t = 102
    · subst h2; exact ⟨4, _, rfl, rfl⟩
    · refine ⟨5, .array .int, ?_, rfl⟩
      unfold cAT
      rw [if_neg (by omega), if_neg (by omega), if_neg (by omega), if_neg h1, if_neg h2]
      rfl
theorem mt_cl_an : ∀ y idx q, mm_lk (mt_an.getD (mt_cl.getD y 99) []) idx = some q → (mt_cl.getD y 99 = 0 ∧ idx = 28 ∧ q.1 = 2) ∨ (mt_cl.getD y 99 = 1 ∧ idx = 22 ∧ q.1 = 2) ∨ (mt_cl.getD y 99 = 4 ∧ idx = 7 ∧ q.1 = 0) := by
  intro y idx q h
  have hm := mm_lk_mem h
  generalize mt_cl.getD y 99 = c at hm
  match c, hm with
  | 0, hm => simp [mt_an] at hm; obtain ⟨rfl, rfl⟩ := hm; exact Or.inl ⟨rfl, rfl, rfl⟩
  | 1, hm => simp [mt_an] at hm; obtain ⟨rfl, rfl⟩ := hm; exact Or.inr (Or.inl ⟨rfl, rfl, rfl⟩)
  | 2, hm => simp [mt_an] at hm
  | 3, hm => simp [mt_an] at hm
  | 4, hm => simp [mt_an] at hm; obtain ⟨rfl, rfl⟩ := hm; exact Or.inr (Or.inr ⟨rfl, rfl, rfl⟩)
  | 5, hm => simp [mt_an] at hm
  | 6, hm => simp [mt_an] at hm
  | 7, hm => simp [mt_an] at hm
  | n + 8, hm => simp [mt_an] at hm
theorem cl_lt {y c : Nat} (h : mt_cl.getD y 99 = c) (hc : c ≠ 99) : y < 203 := by
  by_cases hy : y < 203
  · exact hy
  · exact absurd ((mt_cl_lt hy).symm.trans h).symm hc
set_option maxHeartbeats 4000000 in
/-- the law's walk out of the small machine's run -/
theorem whole_of {p : Program} {e : Env} {s : State} {m : MethodId} {below : List Frame} {meth : Method} {c : Code} (l : Launch) {b L : Nat} {xs : Nat → Int32} (C0 : lw_At p s m meth c b L xs) (exA : Nat → Nat) (hexA : exA 1000000 = b) (hStr : ∀ (D : va_G) (tys : List (ClassId × FieldType)), mm_PO fetT infT prmS l D vwCl tys s s.heap.size exA TBw NWw nmT codeT) (hrun : LawRuns ((List.range L).map xs)) : W p l e room_1 s m #[Value.ref b] below meth c s.heap [] 0 0 (lw_Z below #[Value.ref b] s) (entryFrame m ([Value.ref b] : List Value).toArray 4) := by
  obtain ⟨hx, hb, hr, hml, hown, hts, hX, hbl, hlocks, hgv⟩ := C0
  have htb : ∀ w ∈ TBw, w.before #[Value.ref b] s = true := fun w hw => hts w (List.mem_filter.mp hw).1
  have hnw : ∀ w ∈ NWw, va_Nw w s := fun w hw => va_Nw.of (mm_nw_tab (NWw_ok w hw)) (hts w (List.mem_filter.mp hw).1)
  -- the rows' classes
  obtain ⟨a0, k0, q0, f0, g0, e0⟩ := arr_of1 (htb _ (ck_in_ok acW.1))
  obtain ⟨a1, k1, q1, f1, g1, e1⟩ := arr_of1 (htb _ (ck_in_ok acW.2.1))
  obtain ⟨a2, k2, q2, f2, g2, e2⟩ := arr_of1 (htb _ (ck_in_ok acW.2.2))
  have o2 : va_AO RX2 s := va_AO.of (hts _ (List.mem_of_getElem? aoW.1))
  have o0 : va_AO RX0 s := va_AO.of (hts _ (List.mem_of_getElem? aoW.2.1))
  have oI : va_AOA .int s := hts _ (List.mem_of_getElem? aoW.2.2)
  obtain ⟨a3, A3, R3⟩ := arr_ofO o0
  obtain ⟨a4, A4, R4⟩ := arr_ofO o2
  obtain ⟨a5, A5, R5⟩ := arr_ofA oI
  -- the classes
  obtain ⟨c0, i0, n0⟩ := u_known (C := RX0) (T := TX0) (N := 19) (n := 19) htb (ck_w_ok uw_0) (htb _ (ck_w_ok insW _ (by simp)))
  obtain ⟨c1, i1, n1⟩ := u_known (C := RX1) (T := TX1) (N := 9) (n := 9) htb (ck_w_ok uw_1) (htb _ (ck_w_ok insW _ (by simp)))
  obtain ⟨c2, i2, n2⟩ := u_known (C := RX2) (T := TX2) (N := 10) (n := 10) htb (ck_w_ok uw_2) (htb _ (ck_w_ok insW _ (by simp)))
  obtain ⟨c3, i3, n3⟩ := u_known (C := RX3) (T := TX3) (N := 11) (n := 11) htb (ck_w_ok uw_3) (htb _ (ck_w_ok insW _ (by simp)))
  obtain ⟨c4, i4, n4⟩ := u_known (C := RX4) (T := TX4) (N := 12) (n := 12) htb (ck_w_ok uw_4) (htb _ (ck_w_ok insW _ (by simp)))
  obtain ⟨c5, i5, n5⟩ := u_known (C := RX5) (T := TX5) (N := 35) (n := 35) htb (ck_w_ok uw_5) (htb _ (ck_w_ok insW _ (by simp)))
  obtain ⟨D, hKc⟩ : ∃ D : va_G, ∀ (k : Nat) (q : vw_C), vwCl[k]? = some q → u_Kn s q.1 q.2.1 q.2.2 (D.1 k) (D.2 k) := by
    refine ⟨(fun k => [c0, c1, c2, c3, c4, c5].getD k 0, fun k => [i0, i1, i2, i3, i4, i5].getD k (fun j => j)), ?_⟩
    intro k q hq
    match k, hq with
    | 0, hq => cases hq; exact n0
    | 1, hq => cases hq; exact n1
    | 2, hq => cases hq; exact n2
    | 3, hq => cases hq; exact n3
    | 4, hq => cases hq; exact n4
    | 5, hq => cases hq; exact n5
    | k + 6, hq => cases hq
  have hK : va_K D vwCl (tyT [a0, a1, a2, a3, a4, a5]) s := by
    refine ⟨hKc, fun k q hq => ?_⟩
    match k, hq with
    | 0, hq => cases hq; exact ⟨arr_ofT g0 e0, f0⟩
    | 1, hq => cases hq; exact ⟨arr_ofT g1 e1, f1⟩
    | 2, hq => cases hq; exact ⟨arr_ofT g2 e2, f2⟩
    | 3, hq => cases hq; exact ⟨A3, R3⟩
    | 4, hq => cases hq; exact ⟨A4, R4⟩
    | 5, hq => cases hq; exact ⟨A5, R5⟩
    | k + 6, hq => cases hq
  generalize hcs : [a0, a1, a2, a3, a4, a5] = cs at hK
  have hTO : mm_TO fetT fldT mthT infT D vwCl (tyT cs) (cAT cs) s TBw NWw nmT codeT := ⟨NWw_ok, TBw_good, AO_T cs, fetT_ok, fldT_ok, mthT_ok, hK⟩
  have hT1 : mm_TO1 fldT infT nwT anT mnT arcT iniT spT vwCl (tyT cs) (cAT cs) s TBw NWw nmT codeT := by
    refine ⟨⟨ck_in_ok acW.1, ck_in_ok acW.2.1, ck_in_ok acW.2.2⟩, nwT_ok, fun y idx ci h => ?_, fun y idx h => ?_, finT_ok, fun ci h => ?_, iniT_nm, spT_ok, spT_ob⟩
    · unfold anT at h
      split at h
      · rename_i q hq
        have hci : q.1 = ci := Option.some.inj h
        rcases mt_cl_an y idx q hq with ⟨h1, rfl, h3⟩ | ⟨h1, rfl, h3⟩ | ⟨h1, rfl, h3⟩
        · rw [← hci, h3, nmT_cls (cl_lt h1 (by decide)), h1]
          exact ⟨RX2, TX2, 10, 4, rfl, ck_in_ok clW.2.1, o2, rfl⟩
        · rw [← hci, h3, nmT_cls (cl_lt h1 (by decide)), h1]
          exact ⟨RX2, TX2, 10, 4, rfl, ck_in_ok clW.2.2.1, o2, rfl⟩
        · rw [← hci, h3, nmT_cls (cl_lt h1 (by decide)), h1]
          exact ⟨RX0, TX0, 19, 3, rfl, ck_in_ok clW.2.2.2, o0, rfl⟩
      · cases h
    · unfold mnT at h
      rw [Bool.and_eq_true] at h
      have h1 := Nat.eq_of_beq_eq_true h.1
      have h2 := Nat.eq_of_beq_eq_true h.2
      subst h2
      rw [nmT_cls (cl_lt h1 (by decide)), h1]
      exact ⟨5, ck_in_ok clW.1, oI, rfl⟩
    · unfold arcT at h
      rw [Bool.or_eq_true] at h
      rcases h with h | h
      · rw [Nat.eq_of_beq_eq_true h]; exact ⟨(RX0, TX0, 19), 3, rfl, rfl⟩
      · rw [Nat.eq_of_beq_eq_true h]; exact ⟨(RX2, TX2, 10), 4, rfl, rfl⟩
  generalize hXS : (List.range L).map xs = XS at hrun
  have hXl : XS.length = L := by rw [← hXS, List.length_map, List.length_range]
  have hX2 : va_X (exA 1000000) XS.length (fun j => XS.getD j 0) s s.heap := by
    rw [hexA, hXl]
    obtain ⟨scr, z1, z2, z3, z4, z5⟩ := hX
    refine ⟨scr, z1, z2, z3, z4, fun j hj => ?_⟩
    rw [z5 j hj, ← hXS]
    show some (Value.int (xs j)) = some (Value.int (((List.range L).map xs).getD j 0))
    rw [List.getD_eq_getElem?_getD, List.getElem?_map, List.getElem?_range hj]
    rfl
  have hPO : mm_PO fetT infT (prmT XS) l D vwCl (tyT cs) s s.heap.size exA TBw NWw nmT codeT := prmT_ok (prm0T_ok hX2 (by rw [hexA]; exact hbl)) (hStr D (tyT cs))
  obtain ⟨n, pcr, lsr, h', nc, ns, hq, hfr, hnc, hns⟩ := hrun
  obtain ⟨hW, -, -, -⟩ := mm_run1_ok (bsz := bszT) hTO hPO hT1 n 40 202 0 _ _ _ _ _ _ _ _ _ _ _ hq
  have hS : va_S (fun q : Nat => s.heap.size ≤ q) s.heap s.heap [] := va_S.rf
  have hP : va_P D vwCl (mm_wd (cAT cs) exA []) s.heap := fun k q h => by cases h
  have hD : va_D (fun q : Nat => s.heap.size ≤ q) (mm_wd (cAT cs) exA []) := ⟨fun i j p q h => (by cases h), fun k q h => (by cases h)⟩
  have C : mm_Cx infT D vwCl (tyT cs) s s.heap.size TBw NWw nmT codeT p s m #[Value.ref b] meth c (fun q : Nat => s.heap.size ≤ q) 202 := ⟨hx, hb, hml, hr, hlocks, hown, htb, hK, fun q h => h, fun q h => h, Nat.le_refl _, fun q h => rfl, Vm.Alike.refl _, hnw, fun _ _ _ _ h => h⟩
  have hl := lv_entry ([Value.ref b]) (n := 4) (Nat.le_of_ble_eq_true rfl)
  rw [lg_entry_eq]
  refine hW p e s m #[Value.ref b] below meth c s.heap [] _ exA _ room_1 0 0 (lw_Z below #[Value.ref b] s) C (fun ci h => by cases h) ⟨Nat.le_of_ble_eq_true rfl, Nat.le_of_ble_eq_true rfl, by rw [Nat.zero_add]; exact hnc, by rw [Nat.zero_add]; exact hns⟩ (fun k hk => rfl) hP hD hS ⟨hl.1, hl.2.1, fun q hq => ?_⟩ rfl (fun ad1 H1 locs1 sl1 ha hP1 hD1 hS1 => ?_)
  · obtain ⟨v, h1, h2⟩ := mm_as_mem.mp hq
    refine hl.2.2 q ?_
    obtain ⟨j, w⟩ := q
    match j, h1 with
    | 0, h1 =>
      cases h1
      dsimp only at h2
      rw [h2]
      show (0, Value.ref (exA 1000000)) ∈ [(0, Value.ref b)]
      rw [hexA]
      exact List.mem_cons_self
    | 1, h1 => cases h1
    | 2, h1 => cases h1
    | 3, h1 => cases h1
    | j + 4, h1 => cases h1
  · refine va_forget (fun q hq => hS1.2.2 q hq) ?_
    refine W.widen (k := 600000) (n := 7302250) (by rw [Nat.zero_add]; exact hnc) (by rw [Nat.zero_add]; exact hns) ?_
    exact lw_ret hx hb hr hlocks (mm_d1 (fetT_ok 202 pcr _ hfr) rfl (by decide))

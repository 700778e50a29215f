theorem ev_go {xs : List Int32} {d y pc pc' : Nat} {ls ls' : ML} {st st' : List Value} {h h1 h' : MH} {r : Option Value} (k : Nat) (e : ∀ n, rnT xs (n + k) d y pc ls st h = rnT xs n d y pc' ls' st' h1) (hv : Ev xs d y pc' ls' st' h1 r h') : Ev xs d y pc ls st h r h' := by
  obtain ⟨n, hn⟩ := hv
  exact ⟨n + k, (e n).trans hn⟩
theorem ev_end {xs : List Int32} {d y pc : Nat} {ls : ML} {st : List Value} {h h' : MH} {r : Option Value} (k : Nat) (e : rnT xs k d y pc ls st h = some (r, h')) : Ev xs d y pc ls st h r h' := ⟨k, e⟩
theorem ev_st {xs : List Int32} {d y pc pc' : Nat} {ls ls' : ML} {st st' : List Value} {h h1 h' : MH} {r : Option Value} {i : Instr} (hf : fetT y pc = some i) (hs : mm_stp fldT (prmT xs) d y i pc ls st h = some (pc', ls', st', h1)) (hv : Ev xs d y pc' ls' st' h1 r h') : Ev xs d y pc ls st h r h' := by
  obtain ⟨n, hn⟩ := hv
  refine ⟨n + 1, ?_⟩
  unfold rnT mm_run
  rw [hf]
  dsimp only
  rw [hs]
  exact hn
/-- one step that touches no cell -/
theorem ev_s0 {xs : List Int32} {d y pc pc' : Nat} {ls ls' : ML} {st st' : List Value} {h h' : MH} {r : Option Value} {i : Instr} (hf : fetT y pc = some i) (hs : mm_s0 i pc ls st = some (pc', ls', st')) (hv : Ev xs d y pc' ls' st' h r h') : Ev xs d y pc ls st h r h' := by
  refine ev_st hf ?_ hv
  unfold mm_stp
  rw [hs]
/-- one step that reads or writes cells -/
theorem ev_s1 {xs : List Int32} {d y pc pc' : Nat} {ls : ML} {st st' : List Value} {h h1 h' : MH} {r : Option Value} {i : Instr} (hf : fetT y pc = some i) (h0 : mm_s0 i pc ls st = none) (hs : mm_s1 (fldT y) i pc st h = some (pc', st', h1)) (hv : Ev xs d y pc' ls st' h1 r h') : Ev xs d y pc ls st h r h' := by
  refine ev_st hf ?_ hv
  unfold mm_stp
  rw [h0]
  dsimp only
  rw [hs]
/-- a call on all cells -/
theorem ev_call {xs : List Int32} {d y pc y' idx : Nat} {virt : Bool} {ls : ML} {st : List Value} {h h1 h' : MH} {r r1 : Option Value} {i : Instr} (hf : fetT y pc = some i) (hI : mm_isI i = some (virt, idx)) (hn : mm_stp fldT (prmT xs) (d + 1) y i pc ls st h = none) (hc : mm_cal mthT infT virt y idx st h = some (y', false)) (hv : Ev xs d y' 0 (mm_en (infT y').2.1 ((st.take (infT y').1).reverse)) [] h r1 h1) (hr : Ev xs (d + 1) y (pc + 3) ls (r1.toList ++ st.drop (infT y').1) h1 r h') : Ev xs (d + 1) y pc ls st h r h' := by
  obtain ⟨n, hn1⟩ := hv
  obtain ⟨m, hm⟩ := hr
  refine ⟨n + m + 1, ?_⟩
  unfold rnT mm_run
  rw [hf]
  dsimp only
  rw [hn]
  dsimp only
  rw [hI]
  dsimp only
  rw [hc]
  dsimp only
  rw [mm_run_k hn1 m]
  have := mm_run_k hm n
  rw [Nat.add_comm m n] at this
  exact this
/-- a call on a view -/
theorem ev_callV {xs : List Int32} {d y pc y' idx : Nat} {virt : Bool} {ls : ML} {st vs : List Value} {h h1 h' hs hs' : MH} {V : List Nat} {r r1 r2 : Option Value} {i : Instr} (hf : fetT y pc = some i) (hI : mm_isI i = some (virt, idx)) (hn : mm_stp fldT (prmT xs) (d + 1) y i pc ls st h = none) (hc : mm_cal mthT infT virt y idx st h = some (y', true)) (hV : mm_view bszT h ((st.take (infT y').1).reverse) = V) (hs1 : mm_sub V V h = some hs) (hrn : mm_rnL V ((st.take (infT y').1).reverse) = some vs) (hok : mm_vok V = true) (hv : Ev xs d y' 0 (mm_en (infT y').2.1 vs) [] hs r1 hs') (hbO : mm_bkO V r1 = some r2) (hbk : mm_bk V V hs' h = some h1) (hr : Ev xs (d + 1) y (pc + 3) ls (r2.toList ++ st.drop (infT y').1) h1 r h') : Ev xs (d + 1) y pc ls st h r h' := by
  obtain ⟨n, hn1⟩ := hv
  obtain ⟨m, hm⟩ := hr
  refine ⟨n + m + 1, ?_⟩
  unfold rnT mm_run
  rw [hf]
  dsimp only
  rw [hn]
  dsimp only
  rw [hI]
  dsimp only
  rw [hc]
  dsimp only
  rw [hV, hs1, hrn, hok]
  dsimp only
  rw [mm_run_k hn1 m]
  dsimp only
  rw [hbO, hbk]
  have := mm_run_k hm n
  rw [Nat.add_comm m n] at this
  exact this

theorem ev_if_eq {xs : List Int32} {d y pc t : Nat} {ls : ML} {st : List Value} {h h' : MH} {r : Option Value} {x : Int32} {off : Int} (hf : fetT y pc = some (.ifCond .eq off)) (ht : mm_to pc off = some t) (kt : x = 0 → Ev xs d y t ls st h r h') (kf : ¬ (x = 0) → Ev xs d y (pc + 3) ls st h r h') : Ev xs d y pc ls (.int x :: st) h r h' := by
  by_cases c : x = 0
  · refine ev_s0 hf ?_ (kt c)
    show mm_br pc ls st off (decide (x = 0)) = _
    rw [decide_eq_true c]; unfold mm_br; rw [ht]
  · refine ev_s0 hf ?_ (kf c)
    show mm_br pc ls st off (decide (x = 0)) = _
    rw [decide_eq_false c]; unfold mm_br; rw [ht]

theorem ev_if_ne {xs : List Int32} {d y pc t : Nat} {ls : ML} {st : List Value} {h h' : MH} {r : Option Value} {x : Int32} {off : Int} (hf : fetT y pc = some (.ifCond .ne off)) (ht : mm_to pc off = some t) (kt : ¬ x = 0 → Ev xs d y t ls st h r h') (kf : ¬ (¬ x = 0) → Ev xs d y (pc + 3) ls st h r h') : Ev xs d y pc ls (.int x :: st) h r h' := by
  by_cases c : ¬ x = 0
  · refine ev_s0 hf ?_ (kt c)
    show mm_br pc ls st off (decide (¬ x = 0)) = _
    rw [decide_eq_true c]; unfold mm_br; rw [ht]
  · refine ev_s0 hf ?_ (kf c)
    show mm_br pc ls st off (decide (¬ x = 0)) = _
    rw [decide_eq_false c]; unfold mm_br; rw [ht]

theorem ev_if_lt {xs : List Int32} {d y pc t : Nat} {ls : ML} {st : List Value} {h h' : MH} {r : Option Value} {x : Int32} {off : Int} (hf : fetT y pc = some (.ifCond .lt off)) (ht : mm_to pc off = some t) (kt : x < 0 → Ev xs d y t ls st h r h') (kf : ¬ (x < 0) → Ev xs d y (pc + 3) ls st h r h') : Ev xs d y pc ls (.int x :: st) h r h' := by
  by_cases c : x < 0
  · refine ev_s0 hf ?_ (kt c)
    show mm_br pc ls st off (decide (x < 0)) = _
    rw [decide_eq_true c]; unfold mm_br; rw [ht]
  · refine ev_s0 hf ?_ (kf c)
    show mm_br pc ls st off (decide (x < 0)) = _
    rw [decide_eq_false c]; unfold mm_br; rw [ht]

theorem ev_if_ge {xs : List Int32} {d y pc t : Nat} {ls : ML} {st : List Value} {h h' : MH} {r : Option Value} {x : Int32} {off : Int} (hf : fetT y pc = some (.ifCond .ge off)) (ht : mm_to pc off = some t) (kt : 0 ≤ x → Ev xs d y t ls st h r h') (kf : ¬ (0 ≤ x) → Ev xs d y (pc + 3) ls st h r h') : Ev xs d y pc ls (.int x :: st) h r h' := by
  by_cases c : 0 ≤ x
  · refine ev_s0 hf ?_ (kt c)
    show mm_br pc ls st off (decide (0 ≤ x)) = _
    rw [decide_eq_true c]; unfold mm_br; rw [ht]
  · refine ev_s0 hf ?_ (kf c)
    show mm_br pc ls st off (decide (0 ≤ x)) = _
    rw [decide_eq_false c]; unfold mm_br; rw [ht]

theorem ev_if_gt {xs : List Int32} {d y pc t : Nat} {ls : ML} {st : List Value} {h h' : MH} {r : Option Value} {x : Int32} {off : Int} (hf : fetT y pc = some (.ifCond .gt off)) (ht : mm_to pc off = some t) (kt : 0 < x → Ev xs d y t ls st h r h') (kf : ¬ (0 < x) → Ev xs d y (pc + 3) ls st h r h') : Ev xs d y pc ls (.int x :: st) h r h' := by
  by_cases c : 0 < x
  · refine ev_s0 hf ?_ (kt c)
    show mm_br pc ls st off (decide (0 < x)) = _
    rw [decide_eq_true c]; unfold mm_br; rw [ht]
  · refine ev_s0 hf ?_ (kf c)
    show mm_br pc ls st off (decide (0 < x)) = _
    rw [decide_eq_false c]; unfold mm_br; rw [ht]

theorem ev_if_le {xs : List Int32} {d y pc t : Nat} {ls : ML} {st : List Value} {h h' : MH} {r : Option Value} {x : Int32} {off : Int} (hf : fetT y pc = some (.ifCond .le off)) (ht : mm_to pc off = some t) (kt : x ≤ 0 → Ev xs d y t ls st h r h') (kf : ¬ (x ≤ 0) → Ev xs d y (pc + 3) ls st h r h') : Ev xs d y pc ls (.int x :: st) h r h' := by
  by_cases c : x ≤ 0
  · refine ev_s0 hf ?_ (kt c)
    show mm_br pc ls st off (decide (x ≤ 0)) = _
    rw [decide_eq_true c]; unfold mm_br; rw [ht]
  · refine ev_s0 hf ?_ (kf c)
    show mm_br pc ls st off (decide (x ≤ 0)) = _
    rw [decide_eq_false c]; unfold mm_br; rw [ht]

theorem ev_ic_eq {xs : List Int32} {d y pc t : Nat} {ls : ML} {st : List Value} {h h' : MH} {r : Option Value} {x z : Int32} {off : Int} (hf : fetT y pc = some (.if_icmp .eq off)) (ht : mm_to pc off = some t) (kt : x = z → Ev xs d y t ls st h r h') (kf : ¬ (x = z) → Ev xs d y (pc + 3) ls st h r h') : Ev xs d y pc ls (.int z :: .int x :: st) h r h' := by
  by_cases c : x = z
  · refine ev_s0 hf ?_ (kt c)
    show mm_br pc ls st off (decide (x = z)) = _
    rw [decide_eq_true c]; unfold mm_br; rw [ht]
  · refine ev_s0 hf ?_ (kf c)
    show mm_br pc ls st off (decide (x = z)) = _
    rw [decide_eq_false c]; unfold mm_br; rw [ht]

theorem ev_ic_ne {xs : List Int32} {d y pc t : Nat} {ls : ML} {st : List Value} {h h' : MH} {r : Option Value} {x z : Int32} {off : Int} (hf : fetT y pc = some (.if_icmp .ne off)) (ht : mm_to pc off = some t) (kt : ¬ x = z → Ev xs d y t ls st h r h') (kf : ¬ (¬ x = z) → Ev xs d y (pc + 3) ls st h r h') : Ev xs d y pc ls (.int z :: .int x :: st) h r h' := by
  by_cases c : ¬ x = z
  · refine ev_s0 hf ?_ (kt c)
    show mm_br pc ls st off (decide (¬ x = z)) = _
    rw [decide_eq_true c]; unfold mm_br; rw [ht]
  · refine ev_s0 hf ?_ (kf c)
    show mm_br pc ls st off (decide (¬ x = z)) = _
    rw [decide_eq_false c]; unfold mm_br; rw [ht]

theorem ev_ic_lt {xs : List Int32} {d y pc t : Nat} {ls : ML} {st : List Value} {h h' : MH} {r : Option Value} {x z : Int32} {off : Int} (hf : fetT y pc = some (.if_icmp .lt off)) (ht : mm_to pc off = some t) (kt : x < z → Ev xs d y t ls st h r h') (kf : ¬ (x < z) → Ev xs d y (pc + 3) ls st h r h') : Ev xs d y pc ls (.int z :: .int x :: st) h r h' := by
  by_cases c : x < z
  · refine ev_s0 hf ?_ (kt c)
    show mm_br pc ls st off (decide (x < z)) = _
    rw [decide_eq_true c]; unfold mm_br; rw [ht]
  · refine ev_s0 hf ?_ (kf c)
    show mm_br pc ls st off (decide (x < z)) = _
    rw [decide_eq_false c]; unfold mm_br; rw [ht]

theorem ev_ic_ge {xs : List Int32} {d y pc t : Nat} {ls : ML} {st : List Value} {h h' : MH} {r : Option Value} {x z : Int32} {off : Int} (hf : fetT y pc = some (.if_icmp .ge off)) (ht : mm_to pc off = some t) (kt : z ≤ x → Ev xs d y t ls st h r h') (kf : ¬ (z ≤ x) → Ev xs d y (pc + 3) ls st h r h') : Ev xs d y pc ls (.int z :: .int x :: st) h r h' := by
  by_cases c : z ≤ x
  · refine ev_s0 hf ?_ (kt c)
    show mm_br pc ls st off (decide (z ≤ x)) = _
    rw [decide_eq_true c]; unfold mm_br; rw [ht]
  · refine ev_s0 hf ?_ (kf c)
    show mm_br pc ls st off (decide (z ≤ x)) = _
    rw [decide_eq_false c]; unfold mm_br; rw [ht]

theorem ev_ic_gt {xs : List Int32} {d y pc t : Nat} {ls : ML} {st : List Value} {h h' : MH} {r : Option Value} {x z : Int32} {off : Int} (hf : fetT y pc = some (.if_icmp .gt off)) (ht : mm_to pc off = some t) (kt : z < x → Ev xs d y t ls st h r h') (kf : ¬ (z < x) → Ev xs d y (pc + 3) ls st h r h') : Ev xs d y pc ls (.int z :: .int x :: st) h r h' := by
  by_cases c : z < x
  · refine ev_s0 hf ?_ (kt c)
    show mm_br pc ls st off (decide (z < x)) = _
    rw [decide_eq_true c]; unfold mm_br; rw [ht]
  · refine ev_s0 hf ?_ (kf c)
    show mm_br pc ls st off (decide (z < x)) = _
    rw [decide_eq_false c]; unfold mm_br; rw [ht]

theorem ev_ic_le {xs : List Int32} {d y pc t : Nat} {ls : ML} {st : List Value} {h h' : MH} {r : Option Value} {x z : Int32} {off : Int} (hf : fetT y pc = some (.if_icmp .le off)) (ht : mm_to pc off = some t) (kt : x ≤ z → Ev xs d y t ls st h r h') (kf : ¬ (x ≤ z) → Ev xs d y (pc + 3) ls st h r h') : Ev xs d y pc ls (.int z :: .int x :: st) h r h' := by
  by_cases c : x ≤ z
  · refine ev_s0 hf ?_ (kt c)
    show mm_br pc ls st off (decide (x ≤ z)) = _
    rw [decide_eq_true c]; unfold mm_br; rw [ht]
  · refine ev_s0 hf ?_ (kf c)
    show mm_br pc ls st off (decide (x ≤ z)) = _
    rw [decide_eq_false c]; unfold mm_br; rw [ht]

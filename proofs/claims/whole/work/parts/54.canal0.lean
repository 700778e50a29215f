/-! A Canal's cells; calls of a Talk in a variable place -/
theorem mm_view_i {bsz : Nat → Nat} {h : MH} : ∀ (As : List Value), (∀ v ∈ As, ∃ x, v = Value.int x) → mm_view bsz h As = []
  | [], _ => rfl
  | v :: As, hA => by
    obtain ⟨x, rfl⟩ := hA v List.mem_cons_self
    show [] ++ mm_view bsz h As = []
    rw [mm_view_i As (fun w hw => hA w (List.mem_cons_of_mem _ hw))]
    rfl
theorem mm_rnL_i {V : List Nat} : ∀ (As : List Value), (∀ v ∈ As, ∃ x, v = Value.int x) → mm_rnL V As = some As
  | [], _ => rfl
  | v :: As, hA => by
    obtain ⟨x, rfl⟩ := hA v List.mem_cons_self
    unfold mm_rnL
    rw [mm_rnL_i As (fun w hw => hA w (List.mem_cons_of_mem _ hw))]
    rfl
theorem mm_bkO_i {V : List Nat} {r : Option Value} (h : r = none ∨ ∃ x, r = some (.int x)) : mm_bkO V r = some r := by
  rcases h with rfl | ⟨x, rfl⟩ <;> rfl
theorem mm_rnC_t {V : List Nat} (T : TT) : mm_rnC V (tkc T) = some (tkc T) := rfl
theorem mm_bkC_t {V : List Nat} (T : TT) : mm_bkC V (tkc T) = some (tkc T) := rfl
/-- a call of a method of one Talk -/
theorem ev_callT {xs : List Int32} {d y pc y' idx q : Nat} {ls : ML} {st As : List Value} {h h' : MH} {r r1 : Option Value} {T T' : TT} (hf : fetT y pc = some (.invokevirtual idx)) (hn : mm_stp fldT (prmT xs) (d + 1) y (.invokevirtual idx) pc ls st h = none) (hm : mthT y idx = some (y', true)) (hk : (decide ((infT y').1 ≤ st.length) && decide (mm_ct (st.drop (infT y').1) ≤ 8) && decide ((mm_sl ((st.take (infT y').1).reverse)).length ≤ (infT y').2.1) && !(infT y').2.2.2.2 && Nat.beq (infT y').2.2.2.1 2) = true) (hst : (st.take (infT y').1).reverse = .ref q :: As) (hA : ∀ v ∈ As, ∃ x, v = Value.int x) (hq : h[q]? = some (tkc T))
    (hv : Ev xs d y' 0 (mm_en (infT y').2.1 (.ref 0 :: As)) [] [tkc T] r1 [tkc T']) (hr1 : r1 = none ∨ ∃ x, r1 = some (.int x)) (hr : Ev xs (d + 1) y (pc + 3) ls (r1.toList ++ st.drop (infT y').1) (h.set q (tkc T')) r h') : Ev xs (d + 1) y pc ls st h r h' := by
  rw [Bool.and_eq_true, Bool.and_eq_true, Bool.and_eq_true, Bool.and_eq_true] at hk
  obtain ⟨⟨⟨⟨k1, k2⟩, k3⟩, k4⟩, k5⟩ := hk
  have k5 := Nat.eq_of_beq_eq_true k5
  have hobj : mm_obj h q 2 = some [.int T.1, .int T.2.1, .int T.2.2.1, .int T.2.2.2.1, .int T.2.2.2.2.1, .int (bI T.2.2.2.2.2.1), .int T.2.2.2.2.2.2.1, .int T.2.2.2.2.2.2.2.1, .int T.2.2.2.2.2.2.2.2.1, .int T.2.2.2.2.2.2.2.2.2] := mm_obj_of hq
  have hc : mm_cal mthT infT true y idx st h = some (y', true) := by
    unfold mm_cal
    rw [hm]
    dsimp only
    have : mm_cok true (infT y') st h = true := by
      unfold mm_cok
      rw [k1, k2, k3, hst]
      dsimp only
      rw [k4, k5, hobj]
      rfl
    rw [if_pos this]
  have hV : mm_view bszT h ((st.take (infT y').1).reverse) = [q] := by
    rw [hst]
    show mm_blk bszT h (.ref q) ++ mm_view bszT h As = [q]
    rw [mm_view_i As hA]
    have : mm_blk bszT h (.ref q) = [q] := by
      unfold mm_blk
      dsimp only
      rw [hq]
      rfl
    rw [this]
    rfl
  have hs1 : mm_sub [q] [q] h = some [tkc T] := by
    unfold mm_sub
    rw [hq]
    rfl
  have hrn : mm_rnL [q] ((st.take (infT y').1).reverse) = some (.ref 0 :: As) := by
    rw [hst]
    unfold mm_rnL
    have : mm_rnV [q] (.ref q) = some (.ref 0) := by
      unfold mm_rnV mm_idx
      dsimp only
      rw [if_pos rfl]
    rw [this, mm_rnL_i As hA]
  have hbk : mm_bk [q] [q] [tkc T'] h = some (h.set q (tkc T')) := rfl
  exact ev_callV hf rfl hn hc hV hs1 hrn rfl hv (mm_bkO_i hr1) hbk hr
/-- the cells of a Canal -/
def cO (len mem hour bg tn sn wd mg : Int32) : MC := .inr (0, [.int len, .int mem, .int hour, .int bg, .ref 1, .ref 2, .ref 3, .int tn, .ref 4, .int sn, .ref 5, .ref 6, .ref 7, .ref 8, .ref 9, .ref 10, .ref 11, .int wd, .int mg])
def cR : MC := .inr (102, [.ref 12, .ref 13, .ref 14, .ref 15, .ref 16, .ref 17])
def cH (o : MC) (kd ph pc sb st ss pa pt mt ms : List Int32) (rw : List TT) : MH := o :: .inl (0, kd) :: .inl (0, ph) :: .inl (0, pc) :: cR :: .inl (0, sb) :: .inl (0, st) :: .inl (0, ss) :: .inl (0, pa) :: .inl (0, pt) :: .inl (0, mt) :: .inl (1, ms) :: rw.map tkc
theorem cH_tk {o : MC} {kd ph pc sb st ss pa pt mt ms : List Int32} {rw : List TT} {t : Nat} {T : TT} (h : rw[t]? = some T) : (cH o kd ph pc sb st ss pa pt mt ms rw)[12 + t]? = some (tkc T) := by
  rw [Nat.add_comm]
  show (rw.map tkc)[t]? = _
  rw [List.getElem?_map, h]
  rfl
theorem cH_set {o : MC} {kd ph pc sb st ss pa pt mt ms : List Int32} {rw : List TT} {t : Nat} {T : TT} : (cH o kd ph pc sb st ss pa pt mt ms rw).set (12 + t) (tkc T) = cH o kd ph pc sb st ss pa pt mt ms (rw.set t T) := by
  rw [Nat.add_comm]
  unfold cH
  rw [List.map_set]
  rfl
theorem cR_at {t : Nat} (h : t < 6) : ([.ref 12, .ref 13, .ref 14, .ref 15, .ref 16, .ref 17] : List Value)[t]? = some (.ref (12 + t)) := by
  match t, h with
  | 0, _ => rfl
  | 1, _ => rfl
  | 2, _ => rfl
  | 3, _ => rfl
  | 4, _ => rfl
  | 5, _ => rfl
theorem set_self {α : Type} {l : List α} {k : Nat} {a : α} (h : l[k]? = some a) : l.set k a = l := by
  apply List.ext_getElem?
  intro j
  rw [List.getElem?_set]
  by_cases e : k = j
  · subst e
    have hl := (List.getElem?_eq_some_iff.mp h).1
    rw [if_pos rfl, if_pos hl, h]
  · rw [if_neg e]
theorem nI_inc {t : Nat} : nI t + Int32.ofInt 1 = nI (t + 1) := nI_1 t
section CN
variable (xs : List Int32) (d : Nat) (len mem hour bg tn sn wd mg : Int32) (kd ph pc sb st ss pa pt mt ms : List Int32) (rw : List TT)
set_option maxRecDepth 100000 in
theorem sp_empty : Ev xs d 1 0 [some (.ref 0)] [] (cH (cO len mem hour bg tn sn wd mg) kd ph pc sb st ss pa pt mt ms rw) none (cH (cO 10 40 0 0 0 0 wd mg) kd ph pc sb st ss pa pt mt ms rw) := ev_end 19 rfl
set_option maxRecDepth 100000 in
theorem sp_way : Ev xs d 5 0 [some (.ref 0)] [] (cH (cO len mem hour bg tn sn wd mg) kd ph pc sb st ss pa pt mt ms rw) (some (.int (2 * len))) (cH (cO len mem hour bg tn sn wd mg) kd ph pc sb st ss pa pt mt ms rw) := ev_end 5 rfl
/-- is it one of them -/
def hasI (b n : Int32) : Bool := decide (¬ b < 0) && decide (¬ n ≤ b)
set_option maxRecDepth 100000 in
theorem sp_hasB (b : Int32) : Ev xs d 3 0 [some (.ref 0), some (.int b)] [] (cH (cO len mem hour bg tn sn wd mg) kd ph pc sb st ss pa pt mt ms rw) (some (.int (bI (hasI b bg)))) (cH (cO len mem hour bg tn sn wd mg) kd ph pc sb st ss pa pt mt ms rw) := by
  unfold hasI
  refine ev_go 1 (fun _ => rfl) ?_
  by_cases c : b < 0
  · refine ev_if_lt rfl rfl (fun _ => ?_) (fun n => absurd c n)
    rw [decide_eq_false (fun n => n c)]
    exact ev_end 2 rfl
  · refine ev_if_lt rfl rfl (fun n => absurd n c) (fun _ => ?_)
    rw [decide_eq_true c]
    refine ev_go 3 (fun _ => rfl) ?_
    by_cases c2 : bg ≤ b
    · refine ev_ic_ge rfl rfl (fun _ => ?_) (fun n => absurd c2 n)
      rw [decide_eq_false (fun n => n c2)]
      exact ev_end 2 rfl
    · refine ev_ic_ge rfl rfl (fun n => absurd n c2) (fun _ => ?_)
      rw [decide_eq_true c2]
      exact ev_end 3 rfl
set_option maxRecDepth 100000 in
theorem sp_hasT (b : Int32) : Ev xs d 4 0 [some (.ref 0), some (.int b)] [] (cH (cO len mem hour bg tn sn wd mg) kd ph pc sb st ss pa pt mt ms rw) (some (.int (bI (hasI b tn)))) (cH (cO len mem hour bg tn sn wd mg) kd ph pc sb st ss pa pt mt ms rw) := by
  unfold hasI
  refine ev_go 1 (fun _ => rfl) ?_
  by_cases c : b < 0
  · refine ev_if_lt rfl rfl (fun _ => ?_) (fun n => absurd c n)
    rw [decide_eq_false (fun n => n c)]
    exact ev_end 2 rfl
  · refine ev_if_lt rfl rfl (fun n => absurd n c) (fun _ => ?_)
    rw [decide_eq_true c]
    refine ev_go 3 (fun _ => rfl) ?_
    by_cases c2 : tn ≤ b
    · refine ev_ic_ge rfl rfl (fun _ => ?_) (fun n => absurd c2 n)
      rw [decide_eq_false (fun n => n c2)]
      exact ev_end 2 rfl
    · refine ev_ic_ge rfl rfl (fun n => absurd n c2) (fun _ => ?_)
      rw [decide_eq_true c2]
      exact ev_end 3 rfl
/-- the place of a phase -/
def plI (len ph : Int32) : Int32 := if ph ≤ len then ph else 2 * len - ph
set_option maxRecDepth 100000 in
theorem sp_place (f : Int32) : Ev xs (d + 1) 6 0 [some (.ref 0), some (.int f)] [] (cH (cO len mem hour bg tn sn wd mg) kd ph pc sb st ss pa pt mt ms rw) (some (.int (plI len f))) (cH (cO len mem hour bg tn sn wd mg) kd ph pc sb st ss pa pt mt ms rw) := by
  unfold plI
  refine ev_go 3 (fun _ => rfl) ?_
  split
  · rename_i c
    exact ev_ic_le rfl rfl (fun _ => ev_end 2 rfl) (fun n => absurd c n)
  · rename_i c
    refine ev_ic_le rfl rfl (fun n => absurd n c) (fun _ => ?_)
    refine ev_go 1 (fun _ => rfl) ?_
    refine ev_call (y' := 5) rfl rfl rfl rfl (sp_way xs d len mem hour bg tn sn wd mg kd ph pc sb st ss pa pt mt ms rw) ?_
    exact ev_end 4 rfl
end CN

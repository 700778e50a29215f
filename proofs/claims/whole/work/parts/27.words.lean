/-! The tables are the program's -/
def TBw : List Cond := lw_tbl.filter goodWord
def ck_in (i : Nat) (w : Cond) : Bool := decide (lw_tbl[i]? = some w) && goodWord w
theorem ck_in_ok {i : Nat} {w : Cond} (h : ck_in i w = true) : w ∈ TBw := by
  unfold ck_in at h
  rw [Bool.and_eq_true] at h
  exact List.mem_filter.mpr ⟨List.mem_of_getElem? (of_decide_eq_true h.1), h.2⟩
theorem TBw_good : ∀ w ∈ TBw, goodWord w = true := fun w h => (List.mem_filter.mp h).2

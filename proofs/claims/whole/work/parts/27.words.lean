/-! The tables are the program's -/
def TBw : List Cond := lw_tbl.filter goodWord
def ck_in (i : Nat) (w : Cond) : Bool := decide (lw_tbl[i]? = some w) && goodWord w
theorem ck_in_ok {i : Nat} {w : Cond} (h : ck_in i w = true) : w ∈ TBw := by
  unfold ck_in at h
  rw [Bool.and_eq_true] at h
  exact List.mem_filter.mpr ⟨List.mem_of_getElem? (of_decide_eq_true h.1), h.2⟩
theorem TBw_good : ∀ w ∈ TBw, goodWord w = true := fun w h => (List.mem_filter.mp h).2
/-- the nest mates' links -/
def isNw (w : Cond) : Bool := match w with
  | .fieldLinkNest _ _ _ _ _ _ => true
  | .methodLinkNest _ _ _ _ => true
  | _ => false
def NWw : List Cond := lw_tbl.filter isNw
theorem NWw_ok : ∀ w ∈ NWw, mm_nw w := fun w h => by
  have h2 := (List.mem_filter.mp h).2
  unfold isNw at h2
  split at h2
  · exact Or.inl ⟨_, _, _, _, _, _, rfl⟩
  · exact Or.inr ⟨_, _, _, _, rfl⟩
  · cases h2
def ck_nw (i : Nat) (w : Cond) : Bool := decide (lw_tbl[i]? = some w) && isNw w
theorem ck_nw_ok {i : Nat} {w : Cond} (h : ck_nw i w = true) : w ∈ NWw := by
  unfold ck_nw at h
  rw [Bool.and_eq_true] at h
  exact List.mem_filter.mpr ⟨List.mem_of_getElem? (of_decide_eq_true h.1), h.2⟩

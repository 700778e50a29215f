/-! The class's cells -/
def ex6 (l : List TT) : List TT := [l.getD 0 dT, l.getD 1 dT, l.getD 2 dT, l.getD 3 dT, l.getD 4 dT, l.getD 5 dT]
def ex9 (l : List TT) : List TT := [l.getD 0 dT, l.getD 1 dT, l.getD 2 dT, l.getD 3 dT, l.getD 4 dT, l.getD 5 dT, l.getD 6 dT, l.getD 7 dT, l.getD 8 dT]
theorem ex6_eq {l : List TT} (h : l.length = 6) : ex6 l = l := by
  match l, h with
  | [a, b, c, d, e, f], _ => rfl
theorem ex9_eq {l : List TT} (h : l.length = 9) : ex9 l = l := by
  match l, h with
  | [a, b, c, d, e, f, g, i, j], _ => rfl
def exK (K : CK) : CK := (K.1, K.2.1, ex6 K.2.2)
theorem exK_eq {K : CK} (h : K.2.2.length = 6) : exK K = K := by
  unfold exK
  rw [ex6_eq h]
/-- the Tape's numbers: length, cutTold, memoryTold, token, tokenPlace, tokenEnd, value, fault, faultPlace -/
abbrev TP : Type := Int32 × Bool × Bool × Int32 × Int32 × Int32 × Int32 × Int32 × Int32
def tpO (n : Nat) (p : TP) : MC := .inr (3, [.ref (n + 1), .int p.1, .ref (n + 2), .int (bI p.2.1), .int (bI p.2.2.1), .int p.2.2.2.1, .int p.2.2.2.2.1, .int p.2.2.2.2.2.1, .int p.2.2.2.2.2.2.1, .int p.2.2.2.2.2.2.2.1, .int p.2.2.2.2.2.2.2.2])
/-- the Fog's: span, odds, kinds, memory; rows; Talks -/
abbrev FP : Type := (Int32 × Int32 × Int32 × Int32 × Int32) × (List Int32 × List Int32 × List Int32) × List TT
def fgO (n : Nat) (f : FP) : MC := .inr (1, [.ref (n + 1), .ref (n + 2), .ref (n + 3), .ref (n + 4), .int f.1.1, .int f.1.2.1, .int f.1.2.2.1, .int f.1.2.2.2.1, .int f.1.2.2.2.2])
def fgR (n : Nat) : MC := .inr (102, [.ref (n + 5), .ref (n + 6), .ref (n + 7), .ref (n + 8), .ref (n + 9), .ref (n + 10), .ref (n + 11), .ref (n + 12), .ref (n + 13)])
def fgH (n : Nat) (f : FP) : MH := fgO n f :: .inl (1, f.2.1.1) :: .inl (0, f.2.1.2.1) :: .inl (0, f.2.1.2.2) :: fgR n :: f.2.2.map tkc
def exF (f : FP) : FP := (f.1, f.2.1, ex9 f.2.2)
/-- the rest: kept, bytes, what is heard, tally, cells, lanes, sizes -/
abbrev RS : Type := (Bool × Bool) × List Int32 × (Nat → List Int32) × List Int32 × (Nat → List Int32) × List Int32 × List Int32
/-- all: Canals now, trial, told, two images; Tape, Fog, the rest, the torn fault -/
def clO (tr : Int32) : MC := .inr (4, [.ref 1, .ref 19, .ref 37, .ref 38, .ref 39, .ref 59, .ref 73, .ref 84, .ref 85, .ref 90, .ref 91, .int tr])
def clA (p : TP) (r : RS) : MH := [.inr (100, [.ref 92, .ref 110]), .inl (1, [bI r.1.1, bI r.1.2]), tpO 39 p, .inl (2, r.2.1)]
def clB (r : RS) : MH := [.inr (200, [.ref 74, .ref 75, .ref 76, .ref 77, .ref 78, .ref 79, .ref 80, .ref 81, .ref 82, .ref 83]), .inl (0, r.2.2.1 0), .inl (0, r.2.2.1 1), .inl (0, r.2.2.1 2), .inl (0, r.2.2.1 3), .inl (0, r.2.2.1 4), .inl (0, r.2.2.1 5), .inl (0, r.2.2.1 6), .inl (0, r.2.2.1 7), .inl (0, r.2.2.1 8), .inl (0, r.2.2.1 9),
  .inl (0, r.2.2.2.1), .inr (200, [.ref 86, .ref 87, .ref 88, .ref 89]), .inl (0, r.2.2.2.2.1 0), .inl (0, r.2.2.2.2.1 1), .inl (0, r.2.2.2.2.1 2), .inl (0, r.2.2.2.2.1 3), .inl (0, r.2.2.2.2.2.1), .inl (0, r.2.2.2.2.2.2)]
def hCl (now trial told im0 im1 : CK) (p : TP) (f : FP) (r : RS) (tr : Int32) : MH := [clO tr] ++ (bH 1 (exK now) ++ (bH 19 (exK trial) ++ (clA p r ++ (bH 41 (exK told) ++ (fgH 59 (exF f) ++ (clB r ++ (bH 92 (exK im0) ++ bH 110 (exK im1))))))))
section CLS
variable (xs : List Int32) (d : Nat) (now trial told im0 im1 : CK) (p : TP) (f : FP) (r : RS) (tr : Int32)
theorem dec_now : hCl now trial told im0 im1 p f r tr = [clO tr] ++ bH 1 (exK now) ++ (bH 19 (exK trial) ++ (clA p r ++ (bH 41 (exK told) ++ (fgH 59 (exF f) ++ (clB r ++ (bH 92 (exK im0) ++ bH 110 (exK im1))))))) := by
  unfold hCl
  simp only [List.append_assoc]
theorem dec_trial : hCl now trial told im0 im1 p f r tr = ([clO tr] ++ bH 1 (exK now)) ++ bH 19 (exK trial) ++ (clA p r ++ (bH 41 (exK told) ++ (fgH 59 (exF f) ++ (clB r ++ (bH 92 (exK im0) ++ bH 110 (exK im1)))))) := by
  unfold hCl
  simp only [List.append_assoc]
theorem dec_told : hCl now trial told im0 im1 p f r tr = ([clO tr] ++ (bH 1 (exK now) ++ (bH 19 (exK trial) ++ clA p r))) ++ bH 41 (exK told) ++ (fgH 59 (exF f) ++ (clB r ++ (bH 92 (exK im0) ++ bH 110 (exK im1)))) := by
  unfold hCl
  simp only [List.append_assoc]
theorem dec_im0 : hCl now trial told im0 im1 p f r tr = ([clO tr] ++ (bH 1 (exK now) ++ (bH 19 (exK trial) ++ (clA p r ++ (bH 41 (exK told) ++ (fgH 59 (exF f) ++ clB r)))))) ++ bH 92 (exK im0) ++ bH 110 (exK im1) := by
  unfold hCl
  simp only [List.append_assoc]
theorem dec_im1 : hCl now trial told im0 im1 p f r tr = ([clO tr] ++ (bH 1 (exK now) ++ (bH 19 (exK trial) ++ (clA p r ++ (bH 41 (exK told) ++ (fgH 59 (exF f) ++ (clB r ++ bH 92 (exK im0)))))))) ++ bH 110 (exK im1) ++ [] := by
  unfold hCl
  simp only [List.append_assoc, List.append_nil]
theorem has_now : HasC (hCl now trial told im0 im1 p f r tr) 1 (exK now) := by
  rw [dec_now]
  exact has_C rfl rfl
theorem has_trial : HasC (hCl now trial told im0 im1 p f r tr) 19 (exK trial) := by
  rw [dec_trial]
  exact has_C rfl rfl
theorem has_told : HasC (hCl now trial told im0 im1 p f r tr) 41 (exK told) := by
  rw [dec_told]
  exact has_C rfl rfl
theorem has_im0 : HasC (hCl now trial told im0 im1 p f r tr) 92 (exK im0) := by
  rw [dec_im0]
  exact has_C rfl rfl
theorem has_im1 : HasC (hCl now trial told im0 im1 p f r tr) 110 (exK im1) := by
  rw [dec_im1]
  exact has_C rfl rfl
theorem put_now (K : CK) : putL (hCl now trial told im0 im1 p f r tr) (vC 1) (bH 1 (exK K)) = hCl K trial told im0 im1 p f r tr := by
  rw [dec_now, dec_now]
  exact put_C (n := 1) rfl rfl rfl
theorem put_trial (K : CK) : putL (hCl now trial told im0 im1 p f r tr) (vC 19) (bH 19 (exK K)) = hCl now K told im0 im1 p f r tr := by
  rw [dec_trial, dec_trial]
  exact put_C (n := 19) rfl rfl rfl
theorem put_told (K : CK) : putL (hCl now trial told im0 im1 p f r tr) (vC 41) (bH 41 (exK K)) = hCl now trial K im0 im1 p f r tr := by
  rw [dec_told, dec_told]
  exact put_C (n := 41) rfl rfl rfl
theorem put_im0 (K : CK) : putL (hCl now trial told im0 im1 p f r tr) (vC 92) (bH 92 (exK K)) = hCl now trial told K im1 p f r tr := by
  rw [dec_im0, dec_im0]
  exact put_C (n := 92) rfl rfl rfl
theorem put_im1 (K : CK) : putL (hCl now trial told im0 im1 p f r tr) (vC 110) (bH 110 (exK K)) = hCl now trial told im0 K p f r tr := by
  rw [dec_im1, dec_im1]
  exact put_C (n := 110) rfl rfl rfl
theorem putL_app : ∀ (U V : List Nat) (a b h : MH), U.length = a.length → putL h (U ++ V) (a ++ b) = putL (putL h U a) V b
  | [], _, [], _, _, _ => rfl
  | [], _, _ :: _, _, _, h => by cases h
  | _ :: _, _, [], _, _, h => by cases h
  | k :: U, V, y :: a, b, h, hl => putL_app U V a b (h.set k y) (by simpa using hl)
theorem put_trial_now (K : CK) : putL (hCl now trial told im0 im1 p f r tr) (vC 19 ++ vC 1) (bH 19 (exK K) ++ bH 1 (exK now)) = hCl now K told im0 im1 p f r tr := by
  rw [putL_app _ _ _ _ _ rfl, put_trial, put_now]
theorem put_now_told (K : CK) : putL (hCl now trial told im0 im1 p f r tr) (vC 1 ++ vC 41) (bH 1 (exK K) ++ bH 41 (exK told)) = hCl K trial told im0 im1 p f r tr := by
  rw [putL_app _ _ _ _ _ rfl, put_now, put_told]
theorem put_im0_now (K : CK) : putL (hCl now trial told im0 im1 p f r tr) (vC 92 ++ vC 1) (bH 92 (exK K) ++ bH 1 (exK now)) = hCl now trial told K im1 p f r tr := by
  rw [putL_app _ _ _ _ _ rfl, put_im0, put_now]
theorem put_im1_now (K : CK) : putL (hCl now trial told im0 im1 p f r tr) (vC 110 ++ vC 1) (bH 110 (exK K) ++ bH 1 (exK now)) = hCl now trial told im0 K p f r tr := by
  rw [putL_app _ _ _ _ _ rfl, put_im1, put_now]
theorem put_now_im0 (K : CK) : putL (hCl now trial told im0 im1 p f r tr) (vC 1 ++ vC 92) (bH 1 (exK K) ++ bH 92 (exK im0)) = hCl K trial told im0 im1 p f r tr := by
  rw [putL_app _ _ _ _ _ rfl, put_now, put_im0]
theorem put_now_im1 (K : CK) : putL (hCl now trial told im0 im1 p f r tr) (vC 1 ++ vC 110) (bH 1 (exK K) ++ bH 110 (exK im1)) = hCl K trial told im0 im1 p f r tr := by
  rw [putL_app _ _ _ _ _ rfl, put_now, put_im1]
/-- is v between -/
def wiI (v a b : Int32) : Bool := decide (¬ v < a) && decide (¬ b < v)
set_option maxRecDepth 100000 in
theorem sp_within (h : MH) (v a b : Int32) : Ev xs d 95 0 [some (.int v), some (.int a), some (.int b)] [] h (some (.int (bI (wiI v a b)))) h := by
  unfold wiI
  refine ev_go 2 (fun _ => rfl) ?_
  by_cases c : v < a
  · refine ev_ic_lt rfl rfl (fun _ => ?_) (fun n => absurd c n)
    rw [decide_eq_false (fun n => n c)]
    exact ev_end 2 rfl
  · refine ev_ic_lt rfl rfl (fun n => absurd n c) (fun _ => ?_)
    rw [decide_eq_true c]
    refine ev_go 2 (fun _ => rfl) ?_
    by_cases c2 : b < v
    · refine ev_ic_gt rfl rfl (fun _ => ?_) (fun n => absurd c2 n)
      rw [decide_eq_false (fun n => n c2)]
      exact ev_end 2 rfl
    · refine ev_ic_gt rfl rfl (fun n => absurd n c2) (fun _ => ?_)
      rw [decide_eq_true c2]
      exact ev_end 3 rfl
set_option maxRecDepth 100000 in
theorem sp_torn : Ev xs d 93 0 [some (.ref 0)] [] (hCl now trial told im0 im1 p f r tr) (some (.int tr)) (hCl now trial told im0 im1 p f r tr) := ev_end 3 rfl
set_option maxRecDepth 100000 in
theorem sp_fault : Ev xs d 61 0 [some (.ref 0)] [] (hCl now trial told im0 im1 p f r tr) (some (.int p.2.2.2.2.2.2.2.1)) (hCl now trial told im0 im1 p f r tr) := ev_end 4 rfl
set_option maxRecDepth 100000 in
theorem sp_memory (v : Int32) : Ev xs (d + 1) 66 0 [some (.ref 0), some (.int v), none] [] (hCl now trial told im0 im1 p f r tr) (some (.int (match wiI v 1 99 with
    | true => now.1.2.1
    | false => -1))) (hCl (match wiI v 1 99 with
    | true => ((now.1.1, v, now.1.2.2), now.2)
    | false => now) trial told im0 im1 p f r tr) := by
  refine ev_go 3 (fun _ => rfl) ?_
  refine ev_call (y' := 95) rfl rfl rfl rfl (sp_within xs d _ v 1 99) ?_
  cases wiI v 1 99 with
  | true => exact ev_end 11 rfl
  | false => exact ev_end 3 rfl
end CLS

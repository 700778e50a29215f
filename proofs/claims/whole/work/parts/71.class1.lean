section RE
variable {xs : List Int32} {d y pc a k : Nat} {ls : ML} {st : List Value} {h h2 h' : MH} {r : Option Value} {i x v : Int32} {L : List Int32}
theorem ev_pfE {idx ci j : Nat} {ty : FieldType} {fs : List Value} {w : Value} (hf : fetT y pc = some (.putfield idx)) (hfl : fldT y idx = some (ci, j, ty, false)) (ha : h[a]? = some (.inr (ci, fs))) (hj : Nat.blt j fs.length = true) (hw : mm_fit ty w = true) (he : h.set a (.inr (ci, fs.set j w)) = h2) (hv : Ev xs d y (pc + 3) ls st h2 r h') : Ev xs d y pc ls (w :: .ref a :: st) h r h' := ev_pf hf hfl ha (Nat.le_of_ble_eq_true hj) hw (by rw [he]; exact hv)
theorem ev_iastE (hf : fetT y pc = some .iastore) (ha : h[a]? = some (.inl (0, L))) (hi : mm_ix i = some k) (hk : k < L.length) (he : h.set a (.inl (0, L.set k x)) = h2) (hv : Ev xs d y (pc + 1) ls st h2 r h') : Ev xs d y pc ls (.int x :: .int i :: .ref a :: st) h r h' := ev_iast hf ha hi hk (by rw [he]; exact hv)
theorem ev_bastE (hf : fetT y pc = some .bastore) (ha : h[a]? = some (.inl (2, L))) (hi : mm_ix i = some k) (hk : k < L.length) (he : h.set a (.inl (2, L.set k x.toInt8.toInt32)) = h2) (hv : Ev xs d y (pc + 1) ls st h2 r h') : Ev xs d y pc ls (.int x :: .int i :: .ref a :: st) h r h' := ev_bast hf ha hi hk (by rw [he]; exact hv)
end RE
section CLS1
variable (xs : List Int32) (d : Nat) (now trial told im0 im1 : CK) (p : TP) (f : FP) (r : RS) (tr : Int32)
theorem at_tp : (hCl now trial told im0 im1 p f r tr)[39]? = some (tpO 39 p) := rfl
theorem at_by : (hCl now trial told im0 im1 p f r tr)[40]? = some (.inl (2, r.2.1)) := rfl
theorem set_tp (p' : TP) : (hCl now trial told im0 im1 p f r tr).set 39 (tpO 39 p') = hCl now trial told im0 im1 p' f r tr := by
  unfold hCl
  rw [List.set_append_right _ _ (by show 1 ≤ 39; decide), List.set_append_right _ _ (by show 18 ≤ 38; decide), List.set_append_right _ _ (by show 18 ≤ 20; decide)]
  rfl
theorem set_by (l : List Int32) : (hCl now trial told im0 im1 p f r tr).set 40 (.inl (2, l)) = hCl now trial told im0 im1 p f (r.1, l, r.2.2) tr := by
  unfold hCl
  rw [List.set_append_right _ _ (by show 1 ≤ 40; decide), List.set_append_right _ _ (by show 18 ≤ 39; decide), List.set_append_right _ _ (by show 18 ≤ 21; decide)]
  rfl
theorem sp_end (n : Int32) : Ev xs (d + 1) 59 0 [some (.ref 0), some (.int n), none] [] (hCl now trial told im0 im1 p f r tr) (some (.int (match wiI n 0 p.1 with
    | true => p.1
    | false => -1))) (hCl now trial told im0 im1 (match wiI n 0 p.1 with
    | true => (n, p.2)
    | false => p) f r tr) := by
  refine ev_go 5 (fun _ => rfl) ?_
  refine ev_call (y' := 95) rfl rfl rfl rfl (sp_within xs d _ n 0 p.1) ?_
  cases wiI n 0 p.1 with
  | true =>
    refine ev_go 8 (fun _ => rfl) ?_
    refine ev_pfE rfl rfl (at_tp now trial told im0 im1 p f r tr) rfl rfl (set_tp now trial told im0 im1 p f r tr (n, p.2)) ?_
    exact ev_end 2 rfl
  | false => exact ev_end 3 rfl
/-- feed: the answer, the length, the bytes -/
def feedA (c : Int32) (L : Nat) : Int32 := match wiI c 0 127 with
  | true => if L < 160 then nI (L + 1) else -3
  | false => -1
def feedL (c : Int32) (L : Nat) : Nat := match wiI c 0 127 with
  | true => if L < 160 then L + 1 else L
  | false => L
def feedB (c : Int32) (L : Nat) (b : List Int32) : List Int32 := match wiI c 0 127 with
  | true => if L < 160 then b.set L c.toInt8.toInt32 else b
  | false => b
theorem sp_feed (c : Int32) (L : Nat) (hp : p.1 = nI L) (hL : L ≤ 160) (hb : r.2.1.length = 160) : Ev xs (d + 1) 58 0 [some (.ref 0), some (.int c)] [] (hCl now trial told im0 im1 p f r tr) (some (.int (feedA c L))) (hCl now trial told im0 im1 (nI (feedL c L), p.2) f (r.1, feedB c L r.2.1, r.2.2) tr) := by
  obtain ⟨p1, p2⟩ := p
  dsimp only at hp
  subst hp
  unfold feedA feedL feedB
  refine ev_go 3 (fun _ => rfl) ?_
  refine ev_call (y' := 95) rfl rfl rfl rfl (sp_within xs d _ c 0 127) ?_
  cases wiI c 0 127 with
  | false => exact ev_end 3 rfl
  | true =>
    dsimp only
    refine ev_go 5 (fun _ => rfl) ?_
    by_cases c1 : L < 160
    · rw [if_pos c1, if_pos c1, if_pos c1]
      refine ev_ic_lt rfl rfl (fun _ => ?_) (fun n => absurd (nI_lt (b := 160) c1 (by decide)) n)
      refine ev_go 8 (fun _ => rfl) ?_
      refine ev_bastE rfl (at_by now trial told im0 im1 _ f r tr) (mm_ix_nI (by omega)) (by omega) (set_by now trial told im0 im1 (nI L, p2) f r tr _) ?_
      have e8 : c.toInt8.toInt32.toInt8.toInt32 = c.toInt8.toInt32 := by
        apply Int32.toInt_inj.mp
        simp
      rw [e8]
      refine ev_go 6 (st' := [.int (nI L + Int32.ofInt 1), .ref 39]) (fun _ => rfl) ?_
      rw [nI_inc]
      refine ev_pfE rfl rfl (at_tp now trial told im0 im1 _ f _ tr) rfl rfl (set_tp now trial told im0 im1 (nI L, p2) f _ tr (nI (L + 1), p2)) ?_
      exact ev_end 4 rfl
    · rw [if_neg c1, if_neg c1, if_neg c1]
      refine ev_ic_lt rfl rfl (fun n => absurd n (nI_nlt (b := 160) (by omega) (by omega))) (fun _ => ?_)
      exact ev_end 2 rfl
/-- cut, forget -/
theorem sp_cut (n : Int32) : Ev xs (d + 1) 68 0 [some (.ref 0), some (.int n), none] [] (hCl now trial told im0 im1 p f r tr) (some (.int (match wiI n 0 now.1.2.2.2.2.1 with
    | true => now.1.2.2.2.2.1
    | false => -1))) (hCl (match wiI n 0 now.1.2.2.2.2.1 with
    | true => ((now.1.1, now.1.2.1, now.1.2.2.1, now.1.2.2.2.1, n, now.1.2.2.2.2.2), now.2)
    | false => now) trial told im0 im1 p f r tr) := by
  refine ev_go 5 (fun _ => rfl) ?_
  refine ev_call (y' := 95) rfl rfl rfl rfl (sp_within xs d _ n 0 now.1.2.2.2.2.1) ?_
  cases wiI n 0 now.1.2.2.2.2.1 with
  | true => exact ev_end 11 rfl
  | false => exact ev_end 3 rfl
theorem sp_forget (n : Int32) : Ev xs (d + 1) 83 0 [some (.ref 0), some (.int n), none] [] (hCl now trial told im0 im1 p f r tr) (some (.int (match wiI n 0 now.1.2.2.2.2.2.1 with
    | true => now.1.2.2.2.2.2.1
    | false => -1))) (hCl (match wiI n 0 now.1.2.2.2.2.2.1 with
    | true => ((now.1.1, now.1.2.1, now.1.2.2.1, now.1.2.2.2.1, now.1.2.2.2.2.1, n, now.1.2.2.2.2.2.2), now.2)
    | false => now) trial told im0 im1 p f r tr) := by
  refine ev_go 5 (fun _ => rfl) ?_
  refine ev_call (y' := 95) rfl rfl rfl rfl (sp_within xs d _ n 0 now.1.2.2.2.2.2.1) ?_
  cases wiI n 0 now.1.2.2.2.2.2.1 with
  | true => exact ev_end 11 rfl
  | false => exact ev_end 3 rfl
end CLS1

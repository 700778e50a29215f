section HB
variable (xs : List Int32) (d : Nat) (K : CK)
theorem sp_hasBC (b : Int32) : Ev xs d 3 0 [some (.ref 0), some (.int b)] [] (bH 0 K) (some (.int (bI (hasI b K.1.2.2.2.1)))) (bH 0 K) := sp_hasB xs d K.1.1 K.1.2.1 K.1.2.2.1 K.1.2.2.2.1 K.1.2.2.2.2.1 K.1.2.2.2.2.2.1 K.1.2.2.2.2.2.2.1 K.1.2.2.2.2.2.2.2 K.2.1.1 K.2.1.2.1 K.2.1.2.2.1 K.2.1.2.2.2.1 K.2.1.2.2.2.2.1 K.2.1.2.2.2.2.2.1 K.2.1.2.2.2.2.2.2.1 K.2.1.2.2.2.2.2.2.2.1 K.2.1.2.2.2.2.2.2.2.2.1 K.2.1.2.2.2.2.2.2.2.2.2 K.2.2 b
theorem sp_hasTC (b : Int32) : Ev xs d 4 0 [some (.ref 0), some (.int b)] [] (bH 0 K) (some (.int (bI (hasI b K.1.2.2.2.2.1)))) (bH 0 K) := sp_hasT xs d K.1.1 K.1.2.1 K.1.2.2.1 K.1.2.2.2.1 K.1.2.2.2.2.1 K.1.2.2.2.2.2.1 K.1.2.2.2.2.2.2.1 K.1.2.2.2.2.2.2.2 K.2.1.1 K.2.1.2.1 K.2.1.2.2.1 K.2.1.2.2.2.1 K.2.1.2.2.2.2.1 K.2.1.2.2.2.2.2.1 K.2.1.2.2.2.2.2.2.1 K.2.1.2.2.2.2.2.2.2.1 K.2.1.2.2.2.2.2.2.2.2.1 K.2.1.2.2.2.2.2.2.2.2.2 K.2.2 b
end HB
theorem one_i {x : Int32} : ∀ v ∈ ([.int x] : List Value), ∃ x, v = Value.int x := by
  intro v hv
  simp at hv
  exact ⟨_, hv⟩
theorem three_i {x y z : Int32} : ∀ v ∈ ([.int x, .int y, .int z] : List Value), ∃ x, v = Value.int x := by
  intro v hv
  simp at hv
  rcases hv with rfl | rfl | rfl <;> exact ⟨_, rfl⟩
/-- a new Talk -/
def addTK (K : CK) (t : Nat) (a b nd : Int32) : CK := ((K.1.1, K.1.2.1, K.1.2.2.1, K.1.2.2.2.1, nI (t + 1), K.1.2.2.2.2.2), K.2.1, K.2.2.set t (a, b, nd, 0, 0, false, 0, 0, 0, 0))
theorem sp_addTK (xs : List Int32) (d : Nat) (K : CK) (t : Nat) (a b nd : Int32) (e : K.1.2.2.2.2.1 = nI t) (ht : t < 6) (hK : K.2.2.length = 6) : Ev xs (d + 2) 12 0 [some (.ref 0), some (.int a), some (.int b), some (.int nd)] [] (bH 0 K) none (bH 0 (addTK K t a b nd)) := by
  obtain ⟨⟨l1, l2, l3, l4, l5, l6, l7, l8⟩, ⟨r1, r2, r3, r4, r5, r6, r7, r8, r9, r10⟩, rw2⟩ := K
  dsimp only at e hK
  subst e
  have h := sp_addT xs d l1 l2 l3 l4 (nI t) l6 l7 l8 r1 r2 r3 r4 r5 r6 r7 r8 r9 r10 rw2 a b nd t rw2[t] (mm_ix_nI (by omega)) ht (List.getElem?_eq_getElem (by omega))
  rw [nI_1] at h
  exact h
section CLS5
variable (xs : List Int32) (d : Nat) (now trial told im0 im1 : CK) (p : TP) (f : FP) (r : RS) (tr : Int32)
/-- may a Talk be started -/
def startC (now : CK) (a b nd : Int32) : Bool := hasI a now.1.2.2.2.1 && (hasI b now.1.2.2.2.1 && (decide (¬ a = b) && wiI nd 1 20))
theorem st_start (a b nd : Int32) (hK : now.2.2.length = 6) (rs : Option Value) (h' : MH) (kt : startC now a b nd = true → Ev xs (d + 1) 67 39 [some (.ref 0), some (.int a), some (.int b), some (.int nd)] [] (hCl now trial told im0 im1 p f r tr) rs h') (kf : startC now a b nd = false → Ev xs (d + 1) 67 37 [some (.ref 0), some (.int a), some (.int b), some (.int nd)] [] (hCl now trial told im0 im1 p f r tr) rs h') : Ev xs (d + 1) 67 0 [some (.ref 0), some (.int a), some (.int b), some (.int nd)] [] (hCl now trial told im0 im1 p f r tr) rs h' := by
  unfold startC at kt kf
  refine ev_go 3 (fun _ => rfl) ?_
  refine ev_cNow (y' := 3) (As := [.int a]) (K' := now) rfl rfl rfl rfl rfl one_i hK hK (sp_hasBC xs _ now a) (Or.inr ⟨_, rfl⟩) ?_
  cases h1 : hasI a now.1.2.2.2.1 with
  | false =>
    rw [h1] at kf
    exact ev_go 1 (fun _ => rfl) (kf rfl)
  | true =>
    rw [h1] at kt kf
    refine ev_go 4 (fun _ => rfl) ?_
    refine ev_cNow (y' := 3) (As := [.int b]) (K' := now) rfl rfl rfl rfl rfl one_i hK hK (sp_hasBC xs _ now b) (Or.inr ⟨_, rfl⟩) ?_
    cases h2 : hasI b now.1.2.2.2.1 with
    | false =>
      rw [h2] at kf
      exact ev_go 1 (fun _ => rfl) (kf rfl)
    | true =>
      rw [h2] at kt kf
      refine ev_go 3 (fun _ => rfl) ?_
      by_cases c : a = b
      · refine ev_ic_eq rfl rfl (fun _ => kf (by rw [decide_eq_false (fun n => n c)]; rfl)) (fun n => absurd c n)
      · refine ev_ic_eq rfl rfl (fun n => absurd n c) (fun _ => ?_)
        rw [decide_eq_true c] at kt kf
        refine ev_go 3 (fun _ => rfl) ?_
        refine ev_call (y' := 95) rfl rfl rfl rfl (sp_within xs d _ nd 1 20) ?_
        cases h3 : wiI nd 1 20 with
        | false =>
          rw [h3] at kf
          exact ev_go 1 (fun _ => rfl) (kf rfl)
        | true =>
          rw [h3] at kt
          exact ev_go 1 (fun _ => rfl) (kt rfl)
theorem sp_start_bad (a b nd : Int32) (hK : now.2.2.length = 6) (c : startC now a b nd = false) : Ev xs (d + 1) 67 0 [some (.ref 0), some (.int a), some (.int b), some (.int nd)] [] (hCl now trial told im0 im1 p f r tr) (some (.int (-1))) (hCl now trial told im0 im1 p f r tr) :=
  st_start xs d now trial told im0 im1 p f r tr a b nd hK _ _ (fun e => by rw [c] at e; cases e) (fun _ => ev_end 2 rfl)
theorem sp_start_full (a b nd : Int32) (t : Nat) (hK : now.2.2.length = 6) (c : startC now a b nd = true) (e : now.1.2.2.2.2.1 = nI t) (h6 : 6 ≤ t) (ht : t < 2 ^ 31) : Ev xs (d + 1) 67 0 [some (.ref 0), some (.int a), some (.int b), some (.int nd)] [] (hCl now trial told im0 im1 p f r tr) (some (.int (-3))) (hCl now trial told im0 im1 p f r tr) := by
  refine st_start xs d now trial told im0 im1 p f r tr a b nd hK _ _ (fun _ => ?_) (fun e => by rw [c] at e; cases e)
  refine ev_go 4 (st' := [.int 6, .int now.1.2.2.2.2.1]) (fun _ => rfl) ?_
  rw [e]
  exact ev_ic_lt rfl rfl (fun n => absurd n (nI_nlt (b := 6) h6 ht)) (fun _ => ev_end 2 rfl)
theorem sp_start_ok (a b nd : Int32) (t : Nat) (hK : now.2.2.length = 6) (c : startC now a b nd = true) (e : now.1.2.2.2.2.1 = nI t) (ht : t < 6) : Ev xs (d + 3) 67 0 [some (.ref 0), some (.int a), some (.int b), some (.int nd)] [] (hCl now trial told im0 im1 p f r tr) (some (.int (nI (t + 1)))) (hCl (addTK now t a b nd) trial told im0 im1 p f r tr) := by
  refine st_start xs (d + 2) now trial told im0 im1 p f r tr a b nd hK _ _ (fun _ => ?_) (fun e => by rw [c] at e; cases e)
  refine ev_go 4 (st' := [.int 6, .int now.1.2.2.2.2.1]) (fun _ => rfl) ?_
  rw [e]
  refine ev_ic_lt rfl rfl (fun _ => ?_) (fun n => absurd (nI_lt (b := 6) ht (by decide)) n)
  refine ev_go 5 (fun _ => rfl) ?_
  refine ev_cNow (d := d + 2) (y' := 12) (As := [.int a, .int b, .int nd]) (K' := addTK now t a b nd) rfl rfl rfl rfl rfl three_i hK (by show (now.2.2.set t _).length = 6; rw [List.length_set]; exact hK) (sp_addTK xs d now t a b nd e ht hK) (Or.inl rfl) ?_
  exact ev_end 4 rfl
end CLS5

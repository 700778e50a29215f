/-! The reference's start, rule, barge, talk, say -/
def setsN (L : List Int32) (c k : Nat) : List Int32 := match k with
  | 0 => L
  | k + 1 => (setsN L c k).set (c + k) 0
theorem setsN_len {L : List Int32} {c : Nat} : ∀ k, (setsN L c k).length = L.length
  | 0 => rfl
  | k + 1 => by
    unfold setsN
    rw [List.length_set, setsN_len k]
theorem setR_T {K : CK} {t : Nat} (h : t < K.2.2.length) : ∃ T, K.2.2[t]? = some T := ⟨_, List.getElem?_eq_getElem h⟩
theorem new_T {K : CK} {X : List Int32} {t : Nat} {a b nd : Int32} (h6 : K.2.2.length = 6) (ht : t < 6) : ((((setsN (flK K ++ X) (19 + 8 * t) 8).set (19 + 8 * t + 0) a).set (19 + 8 * t + 1) b).set (19 + 8 * t + 2) nd) = flK (setR K t (a, b, nd, 0, 0, false, 0, 0, 0, 0)) ++ X := by
  obtain ⟨T, hT⟩ := setR_T (K := K) (t := t) (by omega)
  have hl : t < K.2.2.length := by omega
  obtain ⟨x0, x1, x2, x3, x4, x5, x6, x7, x8, x9⟩ := T
  unfold setsN setsN setsN setsN setsN setsN setsN setsN setsN
  rw [ss (by omega), fs_T (T' := (0, x1, x2, x3, x4, x5, x6, x7, x8, x9)) hT ht (by decide) rfl]
  rw [ss (by omega), fs_T (T' := (0, 0, x2, x3, x4, x5, x6, x7, x8, x9)) (setR_at hl) ht (by decide) rfl, setR_R]
  rw [ss (by omega), fs_T (T' := (0, 0, 0, x3, x4, x5, x6, x7, x8, x9)) (setR_at hl) ht (by decide) rfl, setR_R]
  rw [ss (by omega), fs_T (T' := (0, 0, 0, 0, x4, x5, x6, x7, x8, x9)) (setR_at hl) ht (by decide) rfl, setR_R]
  rw [ss (by omega), fs_T (T' := (0, 0, 0, 0, 0, x5, x6, x7, x8, x9)) (setR_at hl) ht (by decide) rfl, setR_R]
  rw [ss (by omega), fs_T (T' := (0, 0, 0, 0, 0, false, x6, x7, x8, x9)) (setR_at hl) ht (by decide) rfl, setR_R]
  rw [ss (by omega), fs_T (T' := (0, 0, 0, 0, 0, false, 0, x7, x8, x9)) (setR_at hl) ht (by decide) rfl, setR_R]
  rw [ss (by omega), fs_T (T' := (0, 0, 0, 0, 0, false, 0, 0, x8, x9)) (setR_at hl) ht (by decide) rfl, setR_R]
  rw [ss (by omega), fs_T (T' := (a, 0, 0, 0, 0, false, 0, 0, x8, x9)) (setR_at hl) ht (by decide) rfl, setR_R]
  rw [ss (by omega), fs_T (T' := (a, b, 0, 0, 0, false, 0, 0, x8, x9)) (setR_at hl) ht (by decide) rfl, setR_R]
  rw [ss (by omega), fs_T (T' := (a, b, nd, 0, 0, false, 0, 0, 0, 0)) (setR_at hl) ht (by decide) rfl, setR_R]
def zL (z : ZT) (l : List Int32) : ZT := (z.1, z.2.1, z.2.2.1, z.2.2.2.1, l, z.2.2.2.2.2)
theorem ix19 {t : Nat} (h : 19 + 8 * t < 2 ^ 31) : (Int8.ofInt 19).toInt32 + (Int8.ofInt 8).toInt32 * nI t = nI (19 + 8 * t) := by
  have e : (Int8.ofInt 19).toInt32 = nI 19 := rfl
  have e2 : (Int8.ofInt 8).toInt32 = nI 8 := rfl
  rw [e, e2, nI_mulA, nI_add]
theorem ixa {c k : Nat} (h : c + k < 2 ^ 31) : mm_ix (nI c + nI k) = some (c + k) := by
  rw [nI_add]
  exact mm_ix_nI h
section MC1
variable (xs : List Int32) (d : Nat) (z : ZT) (Ks : CK) (X nw eb wa ms mt : List Int32) (cc : C4)
theorem st_mstart (a b nd : Int32) (B : Nat) (eB : Ks.1.2.2.2.1 = nI B) (hB : B ≤ 5) (rs : Option Value) (h' : MH) (kt : startC Ks a b nd = true → Ev xs (d + 2) 158 35 [some (.ref 0), some (.int a), some (.int b), some (.int nd), none, none] [] (mH (zS z Ks X) nw eb wa ms mt cc) rs h') (kf : startC Ks a b nd = false → Ev xs (d + 2) 158 33 [some (.ref 0), some (.int a), some (.int b), some (.int nd), none, none] [] (mH (zS z Ks X) nw eb wa ms mt cc) rs h') : Ev xs (d + 2) 158 0 [some (.ref 0), some (.int a), some (.int b), some (.int nd), none, none] [] (mH (zS z Ks X) nw eb wa ms mt cc) rs h' := by
  unfold startC at kt kf
  refine ev_go 2 (fun _ => rfl) ?_
  refine ev_call (y' := 130) rfl rfl rfl rfl (sp_isB xs _ z Ks X nw eb wa ms mt cc a B eB (by omega)) ?_
  refine bI_br xs _ rfl rfl (fun e => kf (by rw [e]; rfl)) (fun e => ?_)
  rw [e] at kt kf
  refine ev_go 2 (fun _ => rfl) ?_
  refine ev_call (y' := 130) rfl rfl rfl rfl (sp_isB xs _ z Ks X nw eb wa ms mt cc b B eB (by omega)) ?_
  refine bI_br xs _ rfl rfl (fun e => kf (by rw [e]; rfl)) (fun e => ?_)
  rw [e] at kt kf
  refine ev_go 2 (fun _ => rfl) ?_
  by_cases c : a = b
  · refine ev_ic_eq rfl rfl (fun _ => ?_) (fun n => absurd (c) n)
    exact kf (by rw [decide_eq_false (fun n => n c)]; rfl)
  · refine ev_ic_eq rfl rfl (fun n => absurd n (c)) (fun _ => ?_)
    rw [decide_eq_true c] at kt kf
    refine ev_go 4 (fun _ => rfl) ?_
    refine ev_call (y' := 110) rfl rfl rfl rfl (sp_in xs _ _ nd 1 20) ?_
    cases h3 : wiI nd 1 20 with
    | false =>
      rw [h3] at kf
      exact ev_go 1 (fun _ => rfl) (kf rfl)
    | true =>
      rw [h3] at kt
      exact ev_go 1 (fun _ => rfl) (kt rfl)
theorem m_start_bad (a b nd : Int32) (B : Nat) (eB : Ks.1.2.2.2.1 = nI B) (hB : B ≤ 5) (c : startC Ks a b nd = false) : Ev xs (d + 2) 158 0 [some (.ref 0), some (.int a), some (.int b), some (.int nd), none, none] [] (mH (zS z Ks X) nw eb wa ms mt cc) (some (.int (-1))) (mH (zS z Ks X) nw eb wa ms mt cc) :=
  st_mstart xs d z Ks X nw eb wa ms mt cc a b nd B eB hB _ _ (fun e => by rw [c] at e; cases e) (fun _ => ev_end 2 rfl)
theorem m_start_full (a b nd : Int32) (B : Nat) (eB : Ks.1.2.2.2.1 = nI B) (hB : B ≤ 5) (c : startC Ks a b nd = true) (e6 : Ks.1.2.2.2.2.1 = nI 6) : Ev xs (d + 2) 158 0 [some (.ref 0), some (.int a), some (.int b), some (.int nd), none, none] [] (mH (zS z Ks X) nw eb wa ms mt cc) (some (.int (-3))) (mH (zS z Ks X) nw eb wa ms mt cc) := by
  refine st_mstart xs d z Ks X nw eb wa ms mt cc a b nd B eB hB _ _ (fun _ => ?_) (fun e => by rw [c] at e; cases e)
  refine ev_go 3 (fun _ => rfl) ?_
  refine ev_iald rfl rfl (k := 67) rfl ((sg (by decide)).trans fq_67) ?_
  rw [e6]
  refine ev_go 1 (fun _ => rfl) ?_
  refine ev_ic_ne rfl rfl (fun n => absurd n (fun n => n rfl)) (fun _ => ?_)
  exact ev_end 2 rfl
theorem lp_new (a b nd : Int32) (t : Nat) (ht : t < 6) (rs : Option Value) (R : MH) (kk : ∀ zz, Ev xs d 158 92 [some (.ref 0), some (.int a), some (.int b), some (.int nd), some (.int (nI (19 + 8 * t))), zz] [] (mH (zL z (setsN (flK Ks ++ X) (19 + 8 * t) 8)) nw eb wa ms mt cc) rs R) : ∀ m k, k + m = 8 → Ev xs d 158 68 [some (.ref 0), some (.int a), some (.int b), some (.int nd), some (.int (nI (19 + 8 * t))), some (.int (nI k))] [] (mH (zL z (setsN (flK Ks ++ X) (19 + 8 * t) k)) nw eb wa ms mt cc) rs R := by
  intro m
  induction m with
  | zero =>
    intro k hk
    have e : k = 8 := by omega
    subst e
    refine ev_go 2 (fun _ => rfl) ?_
    refine ev_ic_ge rfl rfl (fun _ => ?_) (fun n => absurd (nI_le (a := 8) (b := 8) (by omega) (by omega)) n)
    exact kk _
  | succ m ih =>
    intro k hk
    refine ev_go 2 (fun _ => rfl) ?_
    refine ev_ic_ge rfl rfl (fun n => absurd n (nI_ge (b := 8) (by omega) (by omega))) (fun _ => ?_)
    refine ev_go 6 (fun _ => rfl) ?_
    refine ev_iastE rfl (h2 := mH (zL z (setsN (flK Ks ++ X) (19 + 8 * t) (k + 1))) nw eb wa ms mt cc) rfl (ixa (by omega)) (by show _ < (setsN (flK Ks ++ X) (19 + 8 * t) k).length; rw [setsN_len]; exact sl (by omega)) rfl ?_
    refine ev_go 2 (ls' := [some (.ref 0), some (.int a), some (.int b), some (.int nd), some (.int (nI (19 + 8 * t))), some (.int (nI k + Int32.ofInt 1))]) (fun _ => rfl) ?_
    rw [nI_inc]
    exact ih (k + 1) (by omega)
theorem m_start (a b nd : Int32) (B t : Nat) (h6 : Ks.2.2.length = 6) (eB : Ks.1.2.2.2.1 = nI B) (hB : B ≤ 5) (c : startC Ks a b nd = true) (eT : Ks.1.2.2.2.2.1 = nI t) (ht : t < 6) : Ev xs (d + 2) 158 0 [some (.ref 0), some (.int a), some (.int b), some (.int nd), none, none] [] (mH (zS z Ks X) nw eb wa ms mt cc) (some (.int (nI (t + 1)))) (mH (zS z (addTK Ks t a b nd) X) nw eb wa ms mt cc) := by
  refine st_mstart xs d z Ks X nw eb wa ms mt cc a b nd B eB hB _ _ (fun _ => ?_) (fun e => by rw [c] at e; cases e)
  refine ev_go 3 (fun _ => rfl) ?_
  refine ev_iald rfl rfl (k := 67) rfl ((sg (by decide)).trans fq_67) ?_
  rw [eT]
  refine ev_go 1 (fun _ => rfl) ?_
  refine ev_ic_ne rfl rfl (fun _ => ?_) (fun n => absurd (fun n => absurd ((nI_eq (a := t) (b := 6) (by omega) (by omega)).mp n) (by omega)) n)
  refine ev_go 5 (fun _ => rfl) ?_
  refine ev_iald rfl rfl (k := 67) rfl ((sg (by decide)).trans fq_67) ?_
  rw [eT]
  refine ev_go 5 (ls' := [some (.ref 0), some (.int a), some (.int b), some (.int nd), some (.int ((Int8.ofInt 19).toInt32 + (Int8.ofInt 8).toInt32 * nI t)), some (.int (nI 0))]) (fun _ => rfl) ?_
  rw [ix19 (by omega)]
  refine lp_new xs _ z Ks X nw eb wa ms mt cc a b nd t ht _ _ (fun zz => ?_) 8 0 (by omega)
  have hL : 19 + 8 * t + 2 < (setsN (flK Ks ++ X) (19 + 8 * t) 8).length := by rw [setsN_len]; exact sl (by omega)
  have hN := new_T (K := Ks) (X := X) (t := t) (a := a) (b := b) (nd := nd) h6 ht
  generalize setsN (flK Ks ++ X) (19 + 8 * t) 8 = L at hL hN
  refine ev_go 6 (fun _ => rfl) ?_
  refine ev_iastE rfl (L := L) (h2 := mH (zL z (L.set (19 + 8 * t + 0) a)) nw eb wa ms mt cc) rfl (ixa (k := 0) (by omega)) (by omega) rfl ?_
  refine ev_go 6 (fun _ => rfl) ?_
  refine ev_iastE rfl (L := L.set (19 + 8 * t + 0) a) (h2 := mH (zL z ((L.set (19 + 8 * t + 0) a).set (19 + 8 * t + 1) b)) nw eb wa ms mt cc) rfl (ixa (k := 1) (by omega)) (by rw [List.length_set]; omega) rfl ?_
  refine ev_go 6 (fun _ => rfl) ?_
  refine ev_iastE rfl (L := (L.set (19 + 8 * t + 0) a).set (19 + 8 * t + 1) b) (h2 := mH (zL z (((L.set (19 + 8 * t + 0) a).set (19 + 8 * t + 1) b).set (19 + 8 * t + 2) nd)) nw eb wa ms mt cc) rfl (ixa (k := 2) (by omega)) (by rw [List.length_set, List.length_set]; omega) rfl ?_
  rw [hN]
  refine ev_go 4 (fun _ => rfl) ?_
  refine ev_iald rfl rfl (k := 67) rfl ((sg (by decide)).trans fq_67) ?_
  show Ev _ _ _ _ _ [.int Ks.1.2.2.2.2.1, _, _] _ _ _
  rw [eT]
  refine ev_go 2 (st' := [.int (nI t + 1), .int 67, .ref 1]) (fun _ => rfl) ?_
  rw [nI_1]
  refine ev_iastE (L := flK (setR Ks t (a, b, nd, 0, 0, false, 0, 0, 0, 0)) ++ X) (h2 := mH (zS z (addTK Ks t a b nd) X) nw eb wa ms mt cc) (k := 67) rfl rfl rfl (sl (by decide)) ?_ ?_
  · have e : (flK (setR Ks t (a, b, nd, 0, 0, false, 0, 0, 0, 0)) ++ X).set 67 (nI (t + 1)) = flK (addTK Ks t a b nd) ++ X := by
      rw [ss (by decide), fs_67]
      rfl
    exact congrArg (fun l => mH (zL z l) nw eb wa ms mt cc) e
  · skip
    refine ev_go 3 (fun _ => rfl) ?_
    refine ev_iald rfl rfl (k := 67) rfl ((sg (by decide)).trans fq_67) ?_
    exact ev_end 1 rfl
end MC1

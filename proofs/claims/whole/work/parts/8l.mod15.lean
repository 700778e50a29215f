/-! The reference's count, feed, end, sheet, lay -/
def mcountA (z : ZT) (Ks : CK) (B TN k : Nat) : Int32 := match k with
  | 0 => Ks.1.2.2.2.2.2.1
  | 1 => z.2.2.2.2.2.1.getD 0 0 + z.2.2.2.2.2.1.getD 1 0
  | 2 => z.1.2.2.2.1
  | 3 => if z.2.2.2.2.2.2.2.2.2.2.1.getD 0 0 = -4 then -4 else z.2.2.2.2.2.2.2.2.2.2.2.1.getD 0 0
  | 4 => smI (Ks.2.1.2.2.1.take B)
  | _ => smT 2 (Ks.2.2.take TN)
section MC11
variable (xs : List Int32) (d : Nat) (z : ZT) (Ks : CK) (X nw eb wa ms mt : List Int32) (cc : C4) (B TN S : Nat)
theorem lp_mct (w : Int32) (hn : CN Ks B TN S) (rs : Option Value) (R : MH) (kk : Ev xs d 198 36 [some (.ref 0), some (.int w), some (.int (smI (Ks.2.1.2.2.1.take B))), some (.int (nI B))] [] (mH (zS z Ks X) nw eb wa ms mt cc) rs R) : ∀ m b, b + m = B → Ev xs d 198 4 [some (.ref 0), some (.int w), some (.int (smI (Ks.2.1.2.2.1.take b))), some (.int (nI b))] [] (mH (zS z Ks X) nw eb wa ms mt cc) rs R := by
  have hB := hn.2.2.2.2.1
  have eB := hn.2.1
  have hL := hn.1.2.2.1
  intro m
  induction m with
  | zero =>
    intro b hb
    have e : b = B := by omega
    subst e
    refine ev_go 4 (fun _ => rfl) ?_
    refine ev_iald rfl rfl (k := 18) rfl ((sg (by decide)).trans fq_18) ?_
    rw [eB]
    refine ev_ic_ge rfl rfl (fun _ => ?_) (fun n => absurd (nI_le (Nat.le_refl _) (by omega)) n)
    exact kk
  | succ m ih =>
    intro b hb
    have e1 : smI (Ks.2.1.2.2.1.take (b + 1)) = smI (Ks.2.1.2.2.1.take b) + gtK Ks 2 b := smI_s (getD_at (by omega))
    refine ev_go 4 (fun _ => rfl) ?_
    refine ev_iald rfl rfl (k := 18) rfl ((sg (by decide)).trans fq_18) ?_
    rw [eB]
    refine ev_ic_ge rfl rfl (fun n => absurd n (nI_ge (by omega) (by omega))) (fun _ => ?_)
    refine ev_go 10 (fun _ => rfl) ?_
    refine ev_iald rfl rfl (ix32 (by omega)) ((sg (by omega)).trans (fq_B (b := b) (w := 2) (by omega) (by decide))) ?_
    refine ev_go 4 (ls' := [some (.ref 0), some (.int w), some (.int (smI (Ks.2.1.2.2.1.take b) + gtK Ks 2 b)), some (.int (nI b + Int32.ofInt 1))]) (fun _ => rfl) ?_
    rw [nI_inc, ← e1]
    exact ih (b + 1) (by omega)
theorem st_mct (w : Int32) (hn : CN Ks B TN S) (rs : Option Value) (R : MH) (kk : Ev xs d 198 36 [some (.ref 0), some (.int w), some (.int (smI (Ks.2.1.2.2.1.take B))), some (.int (nI B))] [] (mH (zS z Ks X) nw eb wa ms mt cc) rs R) : Ev xs d 198 0 [some (.ref 0), some (.int w), none, none] [] (mH (zS z Ks X) nw eb wa ms mt cc) rs R := by
  refine ev_go 4 (fun _ => rfl) ?_
  exact lp_mct xs d z Ks X nw eb wa ms mt cc B TN S w hn rs R kk B 0 (by omega)
theorem m_count_bad (w : Int32) (hn : CN Ks B TN S) (c : wiI w 0 5 = false) : Ev xs d 198 0 [some (.ref 0), some (.int w), none, none] [] (mH (zS z Ks X) nw eb wa ms mt cc) (some (.int (-1))) (mH (zS z Ks X) nw eb wa ms mt cc) := by
  refine st_mct xs d z Ks X nw eb wa ms mt cc B TN S w hn _ _ ?_
  refine ev_go 1 (fun _ => rfl) ?_
  refine ev_ts_d (t := 140) rfl rfl (wi_no (M := 5) (by decide) c) ?_
  exact ev_end 2 rfl
theorem m_count (k : Nat) (hn : CN Ks B TN S) (hk : k ≤ 5) (k0 k1 : Bool) (eK : z.2.2.2.2.2.1 = [bI k0, bI k1]) (h4 : z.2.2.2.2.2.2.2.2.2.2.1.length = 4) (h5 : z.2.2.2.2.2.2.2.2.2.2.2.1.length = 4) : Ev xs (d + 1) 198 0 [some (.ref 0), some (.int (nI k)), none, none] [] (mH (zS z Ks X) nw eb wa ms mt cc) (some (.int (mcountA z Ks B TN k))) (mH (zS z Ks X) nw eb wa ms mt cc) := by
  have hTN := hn.2.2.2.2.2.1
  refine st_mct xs _ z Ks X nw eb wa ms mt cc B TN S (nI k) hn _ _ ?_
  match k, hk with
  | 0, _ =>
    refine ev_go 5 (fun _ => rfl) ?_
    refine ev_iald rfl rfl (k := 68) rfl ((sg (by decide)).trans fq_68) ?_
    exact ev_end 1 rfl
  | 1, _ =>
    unfold mcountA
    have eK0 : z.2.2.2.2.2.1[0]? = some (bI k0) := by rw [eK]; rfl
    have eK1 : z.2.2.2.2.2.1[1]? = some (bI k1) := by rw [eK]; rfl
    rw [eK]
    refine ev_go 5 (fun _ => rfl) ?_
    refine ev_zald rfl rfl (k := 0) rfl eK0 ?_
    refine ev_call (y' := 111) rfl rfl rfl rfl (sp_flag xs _ _ k0) ?_
    refine ev_go 3 (fun _ => rfl) ?_
    refine ev_zald rfl rfl (k := 1) rfl eK1 ?_
    refine ev_call (y' := 111) rfl rfl rfl rfl (sp_flag xs _ _ k1) ?_
    exact ev_end 2 rfl
  | 2, _ =>
    exact ev_end 5 rfl
  | 3, _ =>
    unfold mcountA
    refine ev_go 5 (fun _ => rfl) ?_
    refine ev_iald rfl rfl (k := 0) rfl (getD_at (l := z.2.2.2.2.2.2.2.2.2.2.1) (by omega)) ?_
    refine ev_go 1 (fun _ => rfl) ?_
    by_cases c : z.2.2.2.2.2.2.2.2.2.2.1.getD 0 0 = -4
    · rw [if_pos c]
      refine ev_ic_ne rfl rfl (fun n => absurd n (fun n => n c)) (fun _ => ?_)
      exact ev_end 3 rfl
    · rw [if_neg c]
      refine ev_ic_ne rfl rfl (fun _ => ?_) (fun n => absurd (c) n)
      refine ev_go 3 (fun _ => rfl) ?_
      refine ev_iald rfl rfl (k := 0) rfl (getD_at (l := z.2.2.2.2.2.2.2.2.2.2.2.1) (by omega)) ?_
      exact ev_end 1 rfl
  | 4, _ =>
    exact ev_end 4 rfl
  | 5, _ =>
    refine ev_go 4 (fun _ => rfl) ?_
    refine ev_call (y' := 150) rfl rfl rfl rfl (sp_smM xs _ z Ks X nw eb wa ms mt cc TN 2 2 hn.2.2.1 hTN (CL6 hn.1) (by decide) (fun _ => rfl)) ?_
    exact ev_end 1 rfl
  | n + 6, h => exact absurd h (by omega)
/-- the length of THE TAPE, its bytes changed -/
def zP (z : ZT) (v : Int32) (l : List Int32) : ZT := ((z.1.1, z.1.2.1, z.1.2.2.1, v, z.1.2.2.2.2), z.2.1, z.2.2.1, z.2.2.2.1, z.2.2.2.2.1, z.2.2.2.2.2.1, z.2.2.2.2.2.2.1, l, z.2.2.2.2.2.2.2.2)
theorem m_end_bad (n : Int32) (c : wiI n 0 z.1.2.2.2.1 = false) : Ev xs (d + 1) 116 0 [some (.ref 0), some (.int n), none] [] (mH z nw eb wa ms mt cc) (some (.int (-1))) (mH z nw eb wa ms mt cc) := by
  refine ev_go 6 (fun _ => rfl) ?_
  refine ev_call (y' := 110) rfl rfl rfl rfl (sp_in xs _ _ n 0 z.1.2.2.2.1) ?_
  rw [c]
  exact ev_end 3 rfl
theorem m_end (n : Int32) (c : wiI n 0 z.1.2.2.2.1 = true) : Ev xs (d + 1) 116 0 [some (.ref 0), some (.int n), none] [] (mH z nw eb wa ms mt cc) (some (.int z.1.2.2.2.1)) (mH (zP z n z.2.2.2.2.2.2.2.1) nw eb wa ms mt cc) := by
  refine ev_go 6 (fun _ => rfl) ?_
  refine ev_call (y' := 110) rfl rfl rfl rfl (sp_in xs _ _ n 0 z.1.2.2.2.1) ?_
  rw [c]
  exact ev_end 9 rfl
theorem m_feed_bad (c : Int32) (h : MH) (e : wiI c 0 127 = false) : Ev xs (d + 1) 115 0 [some (.ref 0), some (.int c)] [] h (some (.int (-1))) h := by
  refine ev_go 4 (fun _ => rfl) ?_
  refine ev_call (y' := 110) rfl rfl rfl rfl (sp_in xs _ _ c 0 127) ?_
  rw [e]
  exact ev_end 3 rfl
theorem m_feed_full (c : Int32) (e : wiI c 0 127 = true) (e2 : z.1.2.2.2.1 = nI 160) : Ev xs (d + 1) 115 0 [some (.ref 0), some (.int c)] [] (mH z nw eb wa ms mt cc) (some (.int (-3))) (mH z nw eb wa ms mt cc) := by
  refine ev_go 4 (fun _ => rfl) ?_
  refine ev_call (y' := 110) rfl rfl rfl rfl (sp_in xs _ _ c 0 127) ?_
  rw [e]
  refine ev_go 4 (fun _ => rfl) ?_
  refine ev_ic_ne rfl rfl (fun n => absurd n (fun n => n e2)) (fun _ => ?_)
  exact ev_end 2 rfl
theorem m_feed (c : Int32) (L : Nat) (e : wiI c 0 127 = true) (e2 : z.1.2.2.2.1 = nI L) (hL : L < 160) (hl : z.2.2.2.2.2.2.2.1.length = 160) : Ev xs (d + 1) 115 0 [some (.ref 0), some (.int c)] [] (mH z nw eb wa ms mt cc) (some (.int (nI (L + 1)))) (mH (zP z (nI (L + 1)) (z.2.2.2.2.2.2.2.1.set L c)) nw eb wa ms mt cc) := by
  refine ev_go 4 (fun _ => rfl) ?_
  refine ev_call (y' := 110) rfl rfl rfl rfl (sp_in xs _ _ c 0 127) ?_
  rw [e]
  refine ev_go 4 (fun _ => rfl) ?_
  refine ev_ic_ne rfl rfl (fun _ => ?_) (fun n => absurd (by show ¬ z.1.2.2.2.1 = nI 160; rw [e2]; exact nI_neq (by omega) (by omega) (by omega)) n)
  refine ev_go 5 (fun _ => rfl) ?_
  have hi : mm_ix z.1.2.2.2.1 = some L := by rw [e2]; exact mm_ix_nI (by omega)
  refine ev_iastE rfl (h2 := mH (zP z z.1.2.2.2.1 (z.2.2.2.2.2.2.2.1.set L c)) nw eb wa ms mt cc) rfl hi (by omega) rfl ?_
  rw [e2, show nI (L + 1) = nI L + Int32.ofInt 1 from nI_inc.symm]
  exact ev_end 9 rfl
/-- sheets -/
theorem sp_isSh (k l : Int32) (h : MH) : Ev xs (d + 1) 193 0 [some (.int k), some (.int l)] [] h (some (.int (bI (wiI k 0 3 && wiI l 0 2)))) h := by
  refine ev_go 4 (fun _ => rfl) ?_
  refine ev_call (y' := 110) rfl rfl rfl rfl (sp_in xs _ h k 0 3) ?_
  cases c1 : wiI k 0 3 with
  | false => exact ev_end 3 rfl
  | true =>
    refine ev_go 5 (fun _ => rfl) ?_
    refine ev_call (y' := 110) rfl rfl rfl rfl (sp_in xs _ h l 0 2) ?_
    cases c2 : wiI l 0 2 with
    | false => exact ev_end 3 rfl
    | true => exact ev_end 4 rfl
theorem m_sheet_bad (k l n : Int32) (h : MH) (c : shC k l n = false) : Ev xs (d + 2) 194 0 [some (.ref 0), some (.int k), some (.int l), some (.int n), none] [] h (some (.int (-1))) h := by
  unfold shC at c
  rw [← Bool.and_assoc] at c
  refine ev_go 2 (fun _ => rfl) ?_
  refine ev_call (y' := 193) rfl rfl rfl rfl (sp_isSh xs _ k l h) ?_
  cases c1 : (wiI k 0 3 && wiI l 0 2) with
  | false => exact ev_end 3 rfl
  | true =>
    rw [c1] at c
    have c3 : ¬ n ≤ 40 := fun q => by rw [decide_eq_true q] at c; cases c
    refine ev_go 3 (fun _ => rfl) ?_
    refine ev_ic_le rfl rfl (fun n => absurd n (c3)) (fun _ => ?_)
    exact ev_end 2 rfl
theorem st_msheet (k l n : Int32) (h : MH) (c : shC k l n = true) (rs : Option Value) (R : MH) (kk : Ev xs (d + 2) 194 16 [some (.ref 0), some (.int k), some (.int l), some (.int n), none] [] h rs R) : Ev xs (d + 2) 194 0 [some (.ref 0), some (.int k), some (.int l), some (.int n), none] [] h rs R := by
  unfold shC at c
  rw [← Bool.and_assoc, Bool.and_eq_true] at c
  refine ev_go 2 (fun _ => rfl) ?_
  refine ev_call (y' := 193) rfl rfl rfl rfl (sp_isSh xs _ k l h) ?_
  rw [c.1]
  refine ev_go 3 (fun _ => rfl) ?_
  refine ev_ic_le rfl rfl (fun _ => ?_) (fun n => absurd (of_decide_eq_true c.2) n)
  exact kk
theorem m_sheet_neg (k l n : Int32) (h : MH) (c : shC k l n = true) (c2 : n < 0) : Ev xs (d + 2) 194 0 [some (.ref 0), some (.int k), some (.int l), some (.int n), none] [] h (some (.int (-14))) h := by
  refine st_msheet xs d k l n h c _ _ ?_
  refine ev_go 1 (fun _ => rfl) ?_
  refine ev_if_ge rfl rfl (fun n => absurd n (i32_lt_nle c2)) (fun _ => ?_)
  exact ev_end 2 rfl
def zC (z : ZT) (la si ce : List Int32) : ZT := (z.1, z.2.1, z.2.2.1, z.2.2.2.1, z.2.2.2.2.1, z.2.2.2.2.2.1, z.2.2.2.2.2.2.1, z.2.2.2.2.2.2.2.1, z.2.2.2.2.2.2.2.2.1, z.2.2.2.2.2.2.2.2.2.1, la, si, ce, z.2.2.2.2.2.2.2.2.2.2.2.2.2)
theorem ix40 {k i : Nat} (h : 40 * k + i < 2 ^ 31) : mm_ix ((Int8.ofInt 40).toInt32 * nI k + nI i) = some (40 * k + i) := by
  rw [show (Int8.ofInt 40).toInt32 = nI 40 from rfl, nI_mulA, nI_add]
  exact mm_ix_nI h
def zrN (L : List Int32) (c k : Nat) : List Int32 := setsN L c k
theorem lp_msh (k : Nat) (l n : Int32) (la si ce : List Int32) (hk : k < 4) (hc : ce.length = 160) : ∀ m t, t + m = 40 → Ev xs d 194 40 [some (.ref 0), some (.int (nI k)), some (.int l), some (.int n), some (.int (nI t))] [] (mH (zC z la si (setsN ce (40 * k) t)) nw eb wa ms mt cc) (some (.int 1)) (mH (zC z la si (setsN ce (40 * k) 40)) nw eb wa ms mt cc) := by
  intro m
  induction m with
  | zero =>
    intro t ht
    have e : t = 40 := by omega
    subst e
    exact ev_end 5 rfl
  | succ m ih =>
    intro t ht
    refine ev_go 2 (fun _ => rfl) ?_
    refine ev_ic_ge rfl rfl (fun n => absurd n (nI_ge (a := t) (b := 40) (by omega) (by omega))) (fun _ => ?_)
    refine ev_go 8 (fun _ => rfl) ?_
    refine ev_iastE rfl (L := setsN ce (40 * k) t) (h2 := mH (zC z la si (setsN ce (40 * k) (t + 1))) nw eb wa ms mt cc) rfl (ix40 (by omega)) (by rw [setsN_len]; omega) rfl ?_
    refine ev_go 2 (ls' := [some (.ref 0), some (.int (nI k)), some (.int l), some (.int n), some (.int (nI t + Int32.ofInt 1))]) (fun _ => rfl) ?_
    rw [nI_inc]
    exact ih (t + 1) (by omega)
theorem m_sheet (k N : Nat) (l : Int32) (la si ce : List Int32) (hk : k < 4) (hN : N ≤ 40) (c2 : wiI l 0 2 = true) (h1 : la.length = 4) (h2 : si.length = 4) (h3 : ce.length = 160) : Ev xs (d + 2) 194 0 [some (.ref 0), some (.int (nI k)), some (.int l), some (.int (nI N)), none] [] (mH (zC z la si ce) nw eb wa ms mt cc) (some (.int 1)) (mH (zC z (la.set k l) (si.set k (nI N)) (setsN ce (40 * k) 40)) nw eb wa ms mt cc) := by
  have c : shC (nI k) l (nI N) = true := by
    unfold shC
    rw [wi_3 hk, c2, decide_eq_true (nI_40 hN)]
    rfl
  have ik : mm_ix (nI k) = some k := mm_ix_nI (by omega)
  refine st_msheet xs d (nI k) l (nI N) _ c _ _ ?_
  refine ev_go 1 (fun _ => rfl) ?_
  refine ev_if_ge rfl rfl (fun _ => ?_) (fun n => absurd (nI_pos' (by omega)) n)
  refine ev_go 4 (fun _ => rfl) ?_
  refine ev_iastE rfl (L := la) (h2 := mH (zC z (la.set k l) si ce) nw eb wa ms mt cc) rfl ik (by omega) rfl ?_
  refine ev_go 4 (fun _ => rfl) ?_
  refine ev_iastE rfl (L := si) (h2 := mH (zC z (la.set k l) (si.set k (nI N)) ce) nw eb wa ms mt cc) rfl ik (by omega) rfl ?_
  refine ev_go 2 (ls' := [some (.ref 0), some (.int (nI k)), some (.int l), some (.int (nI N)), some (.int (nI 0))]) (fun _ => rfl) ?_
  exact lp_msh xs _ z nw eb wa ms mt cc k l (nI N) (la.set k l) (si.set k (nI N)) ce hk h3 40 0 (by omega)
theorem m_lay_bad (k i v : Int32) (h : MH) (c : wiI k 0 3 = false) : Ev xs (d + 2) 195 0 [some (.ref 0), some (.int k), some (.int i), some (.int v)] [] h (some (.int (-1))) h := by
  refine ev_go 2 (fun _ => rfl) ?_
  refine ev_call (y' := 193) rfl rfl rfl rfl (sp_isSh xs _ k 0 h) ?_
  rw [c]
  exact ev_end 3 rfl
theorem st_mlay (k : Nat) (hk : k < 4) : bI (wiI (nI k) 0 3 && wiI 0 0 2) = 1 := by
  rw [wi_3 hk]
  rfl
theorem m_lay_null (k : Nat) (i v : Int32) (la si ce : List Int32) (hk : k < 4) (e : la[k]? = some (-4)) : Ev xs (d + 2) 195 0 [some (.ref 0), some (.int (nI k)), some (.int i), some (.int v)] [] (mH (zC z la si ce) nw eb wa ms mt cc) (some (.int (-11))) (mH (zC z la si ce) nw eb wa ms mt cc) := by
  refine ev_go 2 (fun _ => rfl) ?_
  refine ev_call (y' := 193) rfl rfl rfl rfl (sp_isSh xs _ (nI k) 0 _) ?_
  rw [st_mlay k hk]
  refine ev_go 4 (fun _ => rfl) ?_
  refine ev_iald rfl (L := la) rfl (mm_ix_nI (n := k) (by omega)) e ?_
  exact ev_end 4 rfl
theorem m_lay_ix (k s : Nat) (i v l : Int32) (la si ce : List Int32) (hk : k < 4) (hs : s ≤ 40) (e : la[k]? = some l) (hl : ¬ l = -4) (e2 : si[k]? = some (nI s)) (c : hasI i (nI s) = false) : Ev xs (d + 2) 195 0 [some (.ref 0), some (.int (nI k)), some (.int i), some (.int v)] [] (mH (zC z la si ce) nw eb wa ms mt cc) (some (.int (-12))) (mH (zC z la si ce) nw eb wa ms mt cc) := by
  refine ev_go 2 (fun _ => rfl) ?_
  refine ev_call (y' := 193) rfl rfl rfl rfl (sp_isSh xs _ (nI k) 0 _) ?_
  rw [st_mlay k hk]
  refine ev_go 4 (fun _ => rfl) ?_
  refine ev_iald rfl (L := la) rfl (mm_ix_nI (n := k) (by omega)) e ?_
  refine ev_go 1 (fun _ => rfl) ?_
  refine ev_ic_ne rfl rfl (fun _ => ?_) (fun n => absurd (hl) n)
  refine ev_go 6 (fun _ => rfl) ?_
  refine ev_iald rfl (L := si) rfl (mm_ix_nI (n := k) (by omega)) e2 ?_
  refine ev_go 3 (fun _ => rfl) ?_
  refine ev_call (y' := 110) rfl rfl rfl rfl (sp_in xs _ _ i 0 (nI s - Int32.ofInt 1)) ?_
  rw [wi_has (by omega), c]
  exact ev_end 3 rfl
theorem m_lay (k s i : Nat) (v l : Int32) (la si ce : List Int32) (hk : k < 4) (hs : s ≤ 40) (hi : i < s) (e : la[k]? = some l) (hl : ¬ l = -4) (e2 : si[k]? = some (nI s)) (h3 : ce.length = 160) : Ev xs (d + 2) 195 0 [some (.ref 0), some (.int (nI k)), some (.int (nI i)), some (.int v)] [] (mH (zC z la si ce) nw eb wa ms mt cc) (some (.int 1)) (mH (zC z la si (ce.set (40 * k + i) (loB l v))) nw eb wa ms mt cc) := by
  have ik : mm_ix (nI k) = some k := mm_ix_nI (by omega)
  have fin : ∀ w : Int32, w = loB l v → Ev xs (d + 2) 195 85 [some (.ref 0), some (.int (nI k)), some (.int (nI i)), some (.int v)] [.int w, .int ((Int8.ofInt 40).toInt32 * nI k + nI i), .ref 14] (mH (zC z la si ce) nw eb wa ms mt cc) (some (.int 1)) (mH (zC z la si (ce.set (40 * k + i) (loB l v))) nw eb wa ms mt cc) := by
    intro w hw
    rw [hw]
    refine ev_iastE rfl (L := ce) (h2 := mH (zC z la si (ce.set (40 * k + i) (loB l v))) nw eb wa ms mt cc) rfl (ix40 (by omega)) (by omega) rfl ?_
    exact ev_end 2 rfl
  refine ev_go 2 (fun _ => rfl) ?_
  refine ev_call (y' := 193) rfl rfl rfl rfl (sp_isSh xs _ (nI k) 0 _) ?_
  rw [st_mlay k hk]
  refine ev_go 4 (fun _ => rfl) ?_
  refine ev_iald rfl (L := la) rfl ik e ?_
  refine ev_go 1 (fun _ => rfl) ?_
  refine ev_ic_ne rfl rfl (fun _ => ?_) (fun n => absurd (hl) n)
  refine ev_go 6 (fun _ => rfl) ?_
  refine ev_iald rfl (L := si) rfl ik e2 ?_
  refine ev_go 3 (fun _ => rfl) ?_
  refine ev_call (y' := 110) rfl rfl rfl rfl (sp_in xs _ _ (nI i) 0 (nI s - Int32.ofInt 1)) ?_
  rw [wi_has (by omega), has_nI (by omega) hi]
  refine ev_go 11 (fun _ => rfl) ?_
  refine ev_iald rfl (L := la) rfl ik e ?_
  by_cases c : l = 0
  · refine ev_if_ne rfl rfl (fun n => absurd n (fun n => n c)) (fun _ => ?_)
    refine ev_go 3 (fun _ => rfl) (fin v.toInt8.toInt32 (by unfold loB; rw [if_pos c]))
  · refine ev_if_ne rfl rfl (fun _ => ?_) (fun n => absurd (c) n)
    refine ev_go 3 (fun _ => rfl) ?_
    refine ev_iald rfl (L := la) rfl ik e ?_
    refine ev_go 1 (fun _ => rfl) ?_
    by_cases c2 : l = 1
    · refine ev_ic_ne rfl rfl (fun n => absurd n (fun n => n c2)) (fun _ => ?_)
      refine ev_go 3 (fun _ => rfl) (fin v.toInt16.toInt32 (by unfold loB; rw [if_neg c, if_pos c2]))
    · refine ev_ic_ne rfl rfl (fun _ => ?_) (fun n => absurd (c2) n)
      refine ev_go 1 (fun _ => rfl) (fin v (by unfold loB; rw [if_neg c, if_neg c2]))
end MC11

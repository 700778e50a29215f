/-! The reference's read -/
def zB (z : ZT) (l : List Int32) : ZT := (z.1, z.2.1, z.2.2.1, z.2.2.2.1, z.2.2.2.2.1, z.2.2.2.2.2.1, z.2.2.2.2.2.2.1, z.2.2.2.2.2.2.2.1, z.2.2.2.2.2.2.2.2.1, z.2.2.2.2.2.2.2.2.2.1, z.2.2.2.2.2.2.2.2.2.2.1, z.2.2.2.2.2.2.2.2.2.2.2.1, z.2.2.2.2.2.2.2.2.2.2.2.2.1, l)
def zTo (z : ZT) (x : Int32) : ZT := (z.1, z.2.1, x, z.2.2.2)
theorem rdM_ix {k i : Nat} {f : Int32} {j : Nat} (hk : k < 4) (hi : i ≤ 13) (h : f.toInt + 3 * (i : Int) = (j : Int)) (hj : j ≤ 40) : (Int8.ofInt 40).toInt32 * nI k + f + Int32.ofInt 3 * nI i = nI (40 * k + j) := by
  rw [show (Int8.ofInt 40).toInt32 = nI 40 from rfl, show Int32.ofInt 3 = nI 3 from rfl, nI_mulA, nI_mulA]
  apply Int32.toInt_inj.mp
  rw [Int32.toInt_add, Int32.toInt_add, nI_toInt (by omega), nI_toInt (by omega), nI_toInt (by omega)]
  rw [Int.bmod_eq_of_le (n := ((40 * k : Nat) : Int) + f.toInt) (by omega) (by omega)]
  rw [Int.bmod_eq_of_le (by omega) (by omega)]
  omega
theorem rd_G (f : Int32) (i c : Nat) (hi : i ≤ 100) (hc : c ≤ 3) : (f.toInt64 + (Int32.ofInt 3 * nI i).toInt64 + (nI c).toInt64).toInt = f.toInt + 3 * (i : Int) + (c : Int) := by
  have h1 := f.le_toInt
  have h2 := f.toInt_lt
  rw [show Int32.ofInt 3 = nI 3 from rfl, nI_mulA, Int64.toInt_add, Int64.toInt_add, Int32.toInt_toInt64, Int32.toInt_toInt64, Int32.toInt_toInt64, nI_toInt (by omega), nI_toInt (by omega)]
  rw [Int.bmod_eq_of_le (n := f.toInt + ((3 * i : Nat) : Int)) (by omega) (by omega)]
  rw [Int.bmod_eq_of_le (by omega) (by omega)]
  omega
section MC12
variable (xs : List Int32) (d : Nat) (z : ZT) (X nw eb wa ms mt : List Int32) (cc : C4)
theorem m_startA (Ks : CK) (a b nd : Int32) (B TN S : Nat) (hn : CN Ks B TN S) : Ev xs (d + 2) 158 0 [some (.ref 0), some (.int a), some (.int b), some (.int nd), none, none] [] (mH (zS z Ks X) nw eb wa ms mt cc) (some (.int (startA Ks a b nd))) (mH (zS z (startK Ks a b nd) X) nw eb wa ms mt cc) := by
  have hTN := hn.2.2.2.2.2.1
  have hB := hn.2.2.2.2.1
  have e2 := hn.2.2.1
  unfold startA startK
  cases c : startC Ks a b nd with
  | false => exact m_start_bad xs _ z Ks X nw eb wa ms mt cc a b nd B hn.2.1 hB c
  | true =>
    dsimp only
    by_cases c6 : Ks.1.2.2.2.2.1 = 6
    · rw [if_pos c6, if_pos c6]
      exact m_start_full xs _ z Ks X nw eb wa ms mt cc a b nd B hn.2.1 hB c c6
    · rw [if_neg c6, if_neg c6]
      have hlt : TN < 6 := by
        rw [e2, nI_6 hTN] at c6
        omega
      have h2 := m_start xs d z Ks X nw eb wa ms mt cc a b nd B TN (CL6 hn.1) hn.2.1 hB c e2 hlt
      rw [e2, nI_clamp (by omega), nI_1]
      exact h2
/-- before is st -/
theorem lp_rdB (Ks : CK) (bf : List Int32) (hb : bf.length = 87) (k l x n : Int32) (rs : Option Value) (R : MH) (kk : ∀ zz, Ev xs d 196 53 [some (.ref 0), some (.int k), some (.int l), some (.int x), some (.int n), zz, none, none, none, none, none] [] (mH (zS (zB z (flK Ks)) Ks X) nw eb wa ms mt cc) rs R) : ∀ m t, t + m = 87 → Ev xs d 196 26 [some (.ref 0), some (.int k), some (.int l), some (.int x), some (.int n), some (.int (nI t)), none, none, none, none, none] [] (mH (zS (zB z (up (fun j => (flK Ks).getD j 0) t bf)) Ks X) nw eb wa ms mt cc) rs R := by
  intro m
  induction m with
  | zero =>
    intro t ht
    have e : t = 87 := by omega
    subst e
    rw [up_all hb, rg_get (flK_len Ks)]
    refine ev_go 3 (fun _ => rfl) (kk _)
  | succ m ih =>
    intro t ht
    have e1 : t < (flK Ks).length := by rw [flK_len]; omega
    refine ev_go 2 (fun _ => rfl) ?_
    refine ev_ic_ge rfl rfl (fun n => absurd n (nI_ge (a := t) (b := 87) (by omega) (by omega))) (fun _ => ?_)
    refine ev_go 6 (fun _ => rfl) ?_
    refine ev_iald rfl rfl (mm_ix_nI (n := t) (by omega)) ((sg (by omega)).trans (getD_at e1)) ?_
    refine ev_iastE rfl (L := up (fun j => (flK Ks).getD j 0) t bf) (h2 := mH (zS (zB z (up (fun j => (flK Ks).getD j 0) (t + 1) bf)) Ks X) nw eb wa ms mt cc) rfl (mm_ix_nI (n := t) (by omega)) (by rw [up_len (by omega)]; omega) (by rw [← up_s (g := fun j => (flK Ks).getD j 0) (l := bf) (t := t) (by omega)]; rfl) ?_
    refine ev_go 2 (ls' := [some (.ref 0), some (.int k), some (.int l), some (.int x), some (.int n), some (.int (nI t + Int32.ofInt 1)), none, none, none, none, none]) (fun _ => rfl) ?_
    rw [nI_inc]
    exact ih (t + 1) (by omega)
/-- st is before -/
theorem lp_rdR (K Ks : CK) (k l x n ft wh p i : Int32) (z0 : Option Value) : ∀ m t, t + m = 87 → Ev xs d 196 217 [some (.ref 0), some (.int k), some (.int l), some (.int x), some (.int n), some (.int ft), some (.int wh), some (.int i), some (.int p), some (.int (nI t)), z0] [] (mH (zL (zB z (flK Ks)) (up (fun j => (flK Ks).getD j 0) t (flK K ++ X))) nw eb wa ms mt cc) (some (.int ((Int8.ofInt (-20)).toInt32 - i))) (mH (zS (zB z (flK Ks)) Ks X) nw eb wa ms mt cc) := by
  intro m
  induction m with
  | zero =>
    intro t ht
    have e : t = 87 := by omega
    subst e
    rw [up_ap (flK_len K), rg_get (flK_len Ks)]
    exact ev_end 7 rfl
  | succ m ih =>
    intro t ht
    have e1 : t < (flK Ks).length := by rw [flK_len]; omega
    have e2 : t < (flK K ++ X).length := sl (by omega)
    refine ev_go 2 (fun _ => rfl) ?_
    refine ev_ic_ge rfl rfl (fun n => absurd n (nI_ge (a := t) (b := 87) (by omega) (by omega))) (fun _ => ?_)
    refine ev_go 6 (fun _ => rfl) ?_
    refine ev_iald rfl (L := flK Ks) rfl (mm_ix_nI (n := t) (by omega)) (getD_at e1) ?_
    refine ev_iastE rfl (L := up (fun j => (flK Ks).getD j 0) t (flK K ++ X)) (h2 := mH (zL (zB z (flK Ks)) (up (fun j => (flK Ks).getD j 0) (t + 1) (flK K ++ X))) nw eb wa ms mt cc) rfl (mm_ix_nI (n := t) (by omega)) (by rw [up_len (by omega)]; exact e2) (by rw [← up_s (g := fun j => (flK Ks).getD j 0) (l := flK K ++ X) (t := t) e2]; rfl) ?_
    refine ev_go 2 (ls' := [some (.ref 0), some (.int k), some (.int l), some (.int x), some (.int n), some (.int ft), some (.int wh), some (.int i), some (.int p), some (.int (nI t + Int32.ofInt 1)), z0]) (fun _ => rfl) ?_
    rw [nI_inc]
    exact ih (t + 1) (by omega)
theorem ex_mrd (K : CK) (k l x n ft wh i : Int32) (h0 : ¬ ft = 0) (z1 z2 z3 : Option Value) : Ev xs d 196 62 [some (.ref 0), some (.int k), some (.int l), some (.int x), some (.int n), some (.int ft), some (.int wh), some (.int i), z1, z2, z3] [] (mH (zS z K X) nw eb wa ms mt cc) (some (.int wh)) (mH (zS (zTo z ft) K X) nw eb wa ms mt cc) := by
  refine ev_go 2 (fun _ => rfl) ?_
  by_cases c : n ≤ i
  · refine ev_ic_ge rfl rfl (fun _ => ?_) (fun n => absurd (c) n)
    exact ev_end 5 rfl
  · refine ev_ic_ge rfl rfl (fun n => absurd n (c)) (fun _ => ?_)
    refine ev_go 1 (fun _ => rfl) ?_
    refine ev_if_ne rfl rfl (fun _ => ?_) (fun n => absurd (h0) n)
    exact ev_end 5 rfl
theorem ex_mrI (K : CK) (k l x n ft wh i c : Int32) (h0 : ¬ ft = 0) (z2 z3 : Option Value) : Ev xs d 196 77 [some (.ref 0), some (.int k), some (.int l), some (.int x), some (.int n), some (.int ft), some (.int wh), some (.int i), some (.int c), z2, z3] [] (mH (zS z K X) nw eb wa ms mt cc) (some (.int wh)) (mH (zS (zTo z ft) K X) nw eb wa ms mt cc) := by
  have tl : Ev xs d 196 164 [some (.ref 0), some (.int k), some (.int l), some (.int x), some (.int n), some (.int ft), some (.int wh), some (.int i), some (.int c), z2, z3] [] (mH (zS z K X) nw eb wa ms mt cc) (some (.int wh)) (mH (zS (zTo z ft) K X) nw eb wa ms mt cc) := by
    refine ev_go 1 (fun _ => rfl) ?_
    refine ev_if_ne rfl rfl (fun _ => ?_) (fun n => absurd (h0) n)
    refine ev_go 2 (ls' := [some (.ref 0), some (.int k), some (.int l), some (.int x), some (.int n), some (.int ft), some (.int wh), some (.int (i + Int32.ofInt 1)), some (.int c), z2, z3]) (fun _ => rfl) ?_
    exact ex_mrd xs d z X nw eb wa ms mt cc K k l x n ft wh _ h0 _ _ _
  refine ev_go 2 (fun _ => rfl) ?_
  by_cases c1 : Int32.ofInt 3 ≤ c
  · refine ev_ic_ge rfl rfl (fun _ => ?_) (fun n => absurd (c1) n)
    exact tl
  · refine ev_ic_ge rfl rfl (fun n => absurd n (c1)) (fun _ => ?_)
    refine ev_go 1 (fun _ => rfl) ?_
    refine ev_if_ne rfl rfl (fun _ => ?_) (fun n => absurd (h0) n)
    exact tl
/-- whether one CELL is there -/
def rsQ (la l : Int32) (F : Int) (s : Int32) : Int32 := if la = -4 then 1 else if la = l then (if 0 ≤ F ∧ F < s.toInt then 0 else 2) else 3
theorem st_mrI (K : CK) (k c i : Nat) (l x n wh la s : Int32) (hk : k < 4) (hi : i ≤ 100) (hc : c < 3) (e1 : z.2.2.2.2.2.2.2.2.2.2.1[k]? = some la) (e2 : z.2.2.2.2.2.2.2.2.2.2.2.1[k]? = some s) (z1 z2 : Option Value) (rs : Option Value) (R : MH) (kk : ∀ z1 z2, Ev xs d 196 77 [some (.ref 0), some (.int (nI k)), some (.int l), some (.int x), some (.int n), some (.int (rsQ la l (x.toInt + 3 * (i : Int) + (c : Int)) s)), some (.int wh), some (.int (nI i)), some (.int (nI (c + 1))), z1, z2] [] (mH (zS z K X) nw eb wa ms mt cc) rs R) : Ev xs d 196 77 [some (.ref 0), some (.int (nI k)), some (.int l), some (.int x), some (.int n), some (.int 0), some (.int wh), some (.int (nI i)), some (.int (nI c)), z1, z2] [] (mH (zS z K X) nw eb wa ms mt cc) rs R := by
  have ik : mm_ix (nI k) = some k := mm_ix_nI (by omega)
  have eG := rd_G x i c hi (by omega)
  obtain ⟨F, hF⟩ : ∃ F, F = x.toInt64 + (Int32.ofInt 3 * nI i).toInt64 + (nI c).toInt64 := ⟨_, rfl⟩
  have pre : Ev xs d 196 102 [some (.ref 0), some (.int (nI k)), some (.int l), some (.int x), some (.int n), some (.int 0), some (.int wh), some (.int (nI i)), some (.int (nI c)), some (.long F), none] [] (mH (zS z K X) nw eb wa ms mt cc) rs R → Ev xs d 196 77 [some (.ref 0), some (.int (nI k)), some (.int l), some (.int x), some (.int n), some (.int 0), some (.int wh), some (.int (nI i)), some (.int (nI c)), z1, z2] [] (mH (zS z K X) nw eb wa ms mt cc) rs R := by
    intro hr
    rw [hF] at hr
    refine ev_go 2 (fun _ => rfl) ?_
    refine ev_ic_ge rfl rfl (fun n => absurd n (nI_ge (a := c) (b := 3) (by omega) (by omega))) (fun _ => ?_)
    refine ev_go 13 (fun _ => rfl) hr
  refine pre ?_
  rw [← hF] at eG
  clear pre hF
  have tl : ∀ q : Int32, q = rsQ la l (x.toInt + 3 * (i : Int) + (c : Int)) s → Ev xs d 196 156 [some (.ref 0), some (.int (nI k)), some (.int l), some (.int x), some (.int n), some (.int 0), some (.int wh), some (.int (nI i)), some (.int (nI c)), some (.long F), none] [.int q] (mH (zS z K X) nw eb wa ms mt cc) rs R := by
    intro q hq
    rw [hq]
    refine ev_go 3 (ls' := [some (.ref 0), some (.int (nI k)), some (.int l), some (.int x), some (.int n), some (.int (rsQ la l (x.toInt + 3 * (i : Int) + (c : Int)) s)), some (.int wh), some (.int (nI i)), some (.int (nI c + Int32.ofInt 1)), some (.long F), none]) (fun _ => rfl) ?_
    rw [nI_inc]
    exact kk _ _
  unfold rsQ at tl
  refine ev_go 3 (fun _ => rfl) ?_
  refine ev_iald rfl rfl ik e1 ?_
  refine ev_go 1 (fun _ => rfl) ?_
  by_cases c1 : la = -4
  · rw [if_pos c1] at tl
    refine ev_ic_ne rfl rfl (fun n => absurd n (fun n => n c1)) (fun _ => ?_)
    refine ev_go 2 (fun _ => rfl) (tl 1 rfl)
  · rw [if_neg c1] at tl
    refine ev_ic_ne rfl rfl (fun _ => ?_) (fun n => absurd (c1) n)
    refine ev_go 3 (fun _ => rfl) ?_
    refine ev_iald rfl rfl ik e1 ?_
    refine ev_go 1 (fun _ => rfl) ?_
    by_cases c2 : la = l
    · rw [if_pos c2] at tl
      refine ev_ic_eq rfl rfl (fun _ => ?_) (fun n => absurd (c2) n)
      refine ev_go 3 (st' := [.int (lg_cmp F 0)]) (fun _ => rfl) ?_
      by_cases c3 : x.toInt + 3 * (i : Int) + (c : Int) < 0
      · rw [if_neg (by omega)] at tl
        refine ev_if_lt rfl rfl (fun _ => ?_) (fun n => absurd ((lg_cmp_lt _ _).mpr (by rw [Int64.lt_iff_toInt_lt, eG]; exact c3)) n)
        refine ev_go 2 (fun _ => rfl) (tl 2 rfl)
      · refine ev_if_lt rfl rfl (fun n => absurd n (fun n => c3 (by have := (lg_cmp_lt _ _).mp n; rw [Int64.lt_iff_toInt_lt, eG] at this; exact this))) (fun _ => ?_)
        refine ev_go 4 (fun _ => rfl) ?_
        refine ev_iald rfl rfl ik e2 ?_
        refine ev_go 2 (fun _ => rfl) ?_
        by_cases c4 : x.toInt + 3 * (i : Int) + (c : Int) < s.toInt
        · rw [if_pos ⟨by omega, c4⟩] at tl
          refine ev_if_lt rfl rfl (fun _ => ?_) (fun n => absurd ((lg_cmp_lt _ _).mpr (by rw [Int64.lt_iff_toInt_lt, eG, Int32.toInt_toInt64]; exact c4)) n)
          refine ev_go 1 (fun _ => rfl) (tl 0 rfl)
        · rw [if_neg (fun q => c4 q.2)] at tl
          refine ev_if_lt rfl rfl (fun n => absurd n (fun n => c4 (by have := (lg_cmp_lt _ _).mp n; rw [Int64.lt_iff_toInt_lt, eG, Int32.toInt_toInt64] at this; exact this))) (fun _ => ?_)
          refine ev_go 2 (fun _ => rfl) (tl 2 rfl)
    · rw [if_neg c2] at tl
      refine ev_ic_eq rfl rfl (fun n => absurd n (c2)) (fun _ => ?_)
      refine ev_go 2 (fun _ => rfl) (tl 3 rfl)
/-- what stands when a read is over -/
def rdM (z : ZT) (X nw eb wa ms mt : List Int32) (cc : C4) (Ks : CK) (q : Int32 × CK × Option Int32) : MH := match q.2.2 with
  | some x => mH (zS (zTo (zB z (flK Ks)) x) q.2.1 X) nw eb wa ms mt cc
  | none => mH (zS (zB z (flK Ks)) Ks X) nw eb wa ms mt cc
theorem lp_mrd (Ks : CK) (k s N : Nat) (l x : Int32) (hk : k < 4) (hs : s ≤ 40) (hN : N ≤ 13) (hl : ¬ l = -4) (e1 : z.2.2.2.2.2.2.2.2.2.2.1[k]? = some l) (e2 : z.2.2.2.2.2.2.2.2.2.2.2.1[k]? = some (nI s)) (h3 : z.2.2.2.2.2.2.2.2.2.2.2.2.1.length = 160) : ∀ m i, i + m = N → ∀ (K : CK) (B TN S : Nat) (z1 z2 z3 : Option Value), CN K B TN S → Ev xs (d + 3) 196 62 [some (.ref 0), some (.int (nI k)), some (.int l), some (.int x), some (.int (nI N)), some (.int 0), some (.int (nI i)), some (.int (nI i)), z1, z2, z3] [] (mH (zS (zB z (flK Ks)) K X) nw eb wa ms mt cc) (some (.int (rdL (fun j => z.2.2.2.2.2.2.2.2.2.2.2.2.1.getD (40 * k + j) 0) s x.toInt m i K).1)) (rdM z X nw eb wa ms mt cc Ks (rdL (fun j => z.2.2.2.2.2.2.2.2.2.2.2.2.1.getD (40 * k + j) 0) s x.toInt m i K)) := by
  have e5 : (nI s).toInt = (s : Int) := nI_toInt (by omega)
  intro m
  induction m with
  | zero =>
    intro i hi K B TN S z1 z2 z3 hK
    have e : i = N := by omega
    subst e
    refine ev_go 2 (fun _ => rfl) ?_
    refine ev_ic_ge rfl rfl (fun _ => ?_) (fun n => absurd (nI_le (Nat.le_refl _) (by omega)) n)
    exact ev_end 5 rfl
  | succ m ih =>
    intro i hi K B TN S z1 z2 z3 hK
    have b1 := x.le_toInt
    have b2 := x.toInt_lt
    unfold rdL
    have rq0 : ∀ c : Nat, 0 ≤ x.toInt + 3 * (i : Int) + (c : Int) → x.toInt + 3 * (i : Int) + (c : Int) < (s : Int) → rsQ l l (x.toInt + 3 * (i : Int) + (c : Int)) (nI s) = 0 := by
      intro c q1 q2
      unfold rsQ
      rw [if_neg hl, if_pos rfl, e5, if_pos ⟨q1, q2⟩]
    have rq2 : ∀ c : Nat, ¬ (0 ≤ x.toInt + 3 * (i : Int) + (c : Int) ∧ x.toInt + 3 * (i : Int) + (c : Int) < (s : Int)) → rsQ l l (x.toInt + 3 * (i : Int) + (c : Int)) (nI s) = 2 := by
      intro c q1
      unfold rsQ
      rw [if_neg hl, if_pos rfl, e5, if_neg q1]
    refine ev_go 2 (fun _ => rfl) ?_
    refine ev_ic_ge rfl rfl (fun n => absurd n (nI_ge (by omega) (by omega))) (fun _ => ?_)
    refine ev_go 4 (ls' := [some (.ref 0), some (.int (nI k)), some (.int l), some (.int x), some (.int (nI N)), some (.int 0), some (.int (nI i)), some (.int (nI i)), some (.int (nI 0)), z2, z3]) (fun _ => rfl) ?_
    have bad : ∀ c2 z2 z3, Ev xs (d + 3) 196 77 [some (.ref 0), some (.int (nI k)), some (.int l), some (.int x), some (.int (nI N)), some (.int 2), some (.int (nI i)), some (.int (nI i)), some (.int (nI c2)), z2, z3] [] (mH (zS (zB z (flK Ks)) K X) nw eb wa ms mt cc) (some (.int (nI i))) (mH (zS (zTo (zB z (flK Ks)) 2) K X) nw eb wa ms mt cc) := fun c2 z2 z3 => ex_mrI xs _ (zB z (flK Ks)) X nw eb wa ms mt cc K (nI k) l x (nI N) 2 (nI i) (nI i) (nI c2) (by decide) z2 z3
    by_cases c0 : 0 ≤ x.toInt + 3 * (i : Int) ∧ x.toInt + 3 * (i : Int) + 2 < (s : Int)
    · rw [if_pos c0]
      refine st_mrI xs _ (zB z (flK Ks)) X nw eb wa ms mt cc K k 0 i l x (nI N) (nI i) l (nI s) hk (by omega) (by decide) e1 e2 _ _ _ _ (fun y1 y2 => ?_)
      rw [rq0 0 (by omega) (by omega)]
      refine st_mrI xs _ (zB z (flK Ks)) X nw eb wa ms mt cc K k 1 i l x (nI N) (nI i) l (nI s) hk (by omega) (by decide) e1 e2 _ _ _ _ (fun y1 y2 => ?_)
      rw [rq0 1 (by omega) (by omega)]
      refine st_mrI xs _ (zB z (flK Ks)) X nw eb wa ms mt cc K k 2 i l x (nI N) (nI i) l (nI s) hk (by omega) (by decide) e1 e2 _ _ _ _ (fun y1 y2 => ?_)
      rw [rq0 2 (by omega) (by omega)]
      obtain ⟨j, hj⟩ : ∃ j, j = (x.toInt + 3 * (i : Int)).toNat := ⟨_, rfl⟩
      rw [← hj]
      have hjx : x.toInt + 3 * (i : Int) = (j : Int) := by omega
      have hjs : j + 2 < s := by omega
      refine ev_go 15 (ls' := [some (.ref 0), some (.int (nI k)), some (.int l), some (.int x), some (.int (nI N)), some (.int 0), some (.int (nI i)), some (.int (nI i)), some (.int ((Int8.ofInt 40).toInt32 * nI k + x + Int32.ofInt 3 * nI i)), y1, y2]) (fun _ => rfl) ?_
      rw [rdM_ix hk (by omega) hjx (by omega)]
      refine ev_go 4 (fun _ => rfl) ?_
      refine ev_iald rfl rfl (mm_ix_nI (n := 40 * k + j) (by omega)) (getD_at (l := z.2.2.2.2.2.2.2.2.2.2.2.2.1) (by omega)) ?_
      refine ev_go 5 (fun _ => rfl) ?_
      refine ev_iald rfl rfl (ixa (c := 40 * k + j) (k := 1) (by omega)) (getD_at (l := z.2.2.2.2.2.2.2.2.2.2.2.2.1) (by omega)) ?_
      refine ev_go 5 (fun _ => rfl) ?_
      refine ev_iald rfl rfl (ixa (c := 40 * k + j) (k := 2) (by omega)) (getD_at (l := z.2.2.2.2.2.2.2.2.2.2.2.2.1) (by omega)) ?_
      refine ev_call (y' := 158) rfl rfl rfl rfl (m_startA xs _ (zB z (flK Ks)) X nw eb wa ms mt cc K _ _ _ B TN S hK) ?_
      rw [show 40 * k + (j + 1) = 40 * k + j + 1 from rfl, show 40 * k + (j + 2) = 40 * k + j + 2 from rfl]
      by_cases c3 : startA K (z.2.2.2.2.2.2.2.2.2.2.2.2.1.getD (40 * k + j) 0) (z.2.2.2.2.2.2.2.2.2.2.2.2.1.getD (40 * k + j + 1) 0) (z.2.2.2.2.2.2.2.2.2.2.2.2.1.getD (40 * k + j + 2) 0) < 0
      · rw [if_pos c3, startA_neg hK c3]
        refine ev_if_ge rfl rfl (fun n => absurd n (i32_lt_nle c3)) (fun _ => ?_)
        refine ev_go 2 (ls' := [some (.ref 0), some (.int (nI k)), some (.int l), some (.int x), some (.int (nI N)), some (.int 0), some (.int (nI i)), some (.int (nI i)), some (.int (nI (40 * k + j))), some (.int (nI 0)), y2]) (fun _ => rfl) ?_
        exact lp_rdR xs _ z X nw eb wa ms mt cc K Ks (nI k) l x (nI N) 0 (nI i) (nI (40 * k + j)) (nI i) y2 87 0 (by omega)
      · rw [if_neg c3]
        refine ev_if_ge rfl rfl (fun _ => ?_) (fun n => absurd (i32_nlt c3) n)
        obtain ⟨TN', hK', -⟩ := startK_CN (z.2.2.2.2.2.2.2.2.2.2.2.2.1.getD (40 * k + j) 0) (z.2.2.2.2.2.2.2.2.2.2.2.2.1.getD (40 * k + j + 1) 0) (z.2.2.2.2.2.2.2.2.2.2.2.2.1.getD (40 * k + j + 2) 0) hK
        refine ev_go 3 (ls' := [some (.ref 0), some (.int (nI k)), some (.int l), some (.int x), some (.int (nI N)), some (.int 0), some (.int (nI i + Int32.ofInt 1)), some (.int (nI i + Int32.ofInt 1)), some (.int (nI (40 * k + j))), y1, y2]) (fun _ => rfl) ?_
        rw [nI_inc]
        exact ih (i + 1) (by omega) _ B TN' S _ _ _ hK'
    · rw [if_neg c0]
      refine st_mrI xs _ (zB z (flK Ks)) X nw eb wa ms mt cc K k 0 i l x (nI N) (nI i) l (nI s) hk (by omega) (by decide) e1 e2 _ _ _ _ (fun y1 y2 => ?_)
      by_cases d0 : 0 ≤ x.toInt + 3 * (i : Int) + ((0 : Nat) : Int) ∧ x.toInt + 3 * (i : Int) + ((0 : Nat) : Int) < (s : Int)
      · rw [rq0 0 d0.1 d0.2]
        refine st_mrI xs _ (zB z (flK Ks)) X nw eb wa ms mt cc K k 1 i l x (nI N) (nI i) l (nI s) hk (by omega) (by decide) e1 e2 _ _ _ _ (fun y1 y2 => ?_)
        by_cases d1 : 0 ≤ x.toInt + 3 * (i : Int) + ((1 : Nat) : Int) ∧ x.toInt + 3 * (i : Int) + ((1 : Nat) : Int) < (s : Int)
        · rw [rq0 1 d1.1 d1.2]
          refine st_mrI xs _ (zB z (flK Ks)) X nw eb wa ms mt cc K k 2 i l x (nI N) (nI i) l (nI s) hk (by omega) (by decide) e1 e2 _ _ _ _ (fun y1 y2 => ?_)
          rw [rq2 2 (by omega)]
          exact bad _ _ _
        · rw [rq2 1 d1]
          exact bad _ _ _
      · rw [rq2 0 d0]
        exact bad _ _ _
theorem st_mread (Ks : CK) (k l x n : Int32) (h3 : z.2.2.2.2.2.2.2.2.2.2.2.2.2.length = 87) (rs : Option Value) (R : MH) (c : rdC k l n = true) (kk : Ev xs (d + 2) 196 62 [some (.ref 0), some (.int k), some (.int l), some (.int x), some (.int n), some (.int 0), some (.int 0), some (.int 0), none, none, none] [] (mH (zS (zB z (flK Ks)) Ks X) nw eb wa ms mt cc) rs R) : Ev xs (d + 2) 196 0 [some (.ref 0), some (.int k), some (.int l), some (.int x), some (.int n), none, none, none, none, none, none] [] (mH (zS z Ks X) nw eb wa ms mt cc) rs R := by
  unfold rdC at c
  rw [← Bool.and_assoc, Bool.and_eq_true] at c
  refine ev_go 2 (fun _ => rfl) ?_
  refine ev_call (y' := 193) rfl rfl rfl rfl (sp_isSh xs _ k l _) ?_
  rw [c.1]
  refine ev_go 5 (fun _ => rfl) ?_
  refine ev_call (y' := 110) rfl rfl rfl rfl (sp_in xs _ _ n 0 13) ?_
  rw [c.2]
  refine ev_go 3 (ls' := [some (.ref 0), some (.int k), some (.int l), some (.int x), some (.int n), some (.int (nI 0)), none, none, none, none, none]) (fun _ => rfl) ?_
  exact lp_rdB xs _ z X nw eb wa ms mt cc Ks z.2.2.2.2.2.2.2.2.2.2.2.2.2 h3 k l x n rs R (fun zz => ev_go 6 (fun _ => rfl) kk) 87 0 (by omega)
theorem m_read_bad (k l x n : Int32) (h : MH) (c : rdC k l n = false) : Ev xs (d + 2) 196 0 [some (.ref 0), some (.int k), some (.int l), some (.int x), some (.int n), none, none, none, none, none, none] [] h (some (.int (-1))) h := by
  unfold rdC at c
  rw [← Bool.and_assoc] at c
  refine ev_go 2 (fun _ => rfl) ?_
  refine ev_call (y' := 193) rfl rfl rfl rfl (sp_isSh xs _ k l _) ?_
  cases c1 : (wiI k 0 3 && wiI l 0 2) with
  | false => exact ev_end 3 rfl
  | true =>
    rw [c1] at c
    refine ev_go 5 (fun _ => rfl) ?_
    refine ev_call (y' := 110) rfl rfl rfl rfl (sp_in xs _ _ n 0 13) ?_
    rw [show wiI n 0 13 = false from c]
    exact ev_end 3 rfl
theorem m_read (Ks : CK) (k s N : Nat) (l x : Int32) (B TN S : Nat) (hn : CN Ks B TN S) (hk : k < 4) (hs : s ≤ 40) (hN : N ≤ 13) (c2 : wiI l 0 2 = true) (e1 : z.2.2.2.2.2.2.2.2.2.2.1[k]? = some l) (e2 : z.2.2.2.2.2.2.2.2.2.2.2.1[k]? = some (nI s)) (h3 : z.2.2.2.2.2.2.2.2.2.2.2.2.1.length = 160) (h4 : z.2.2.2.2.2.2.2.2.2.2.2.2.2.length = 87) : Ev xs (d + 3) 196 0 [some (.ref 0), some (.int (nI k)), some (.int l), some (.int x), some (.int (nI N)), none, none, none, none, none, none] [] (mH (zS z Ks X) nw eb wa ms mt cc) (some (.int (rdL (fun j => z.2.2.2.2.2.2.2.2.2.2.2.2.1.getD (40 * k + j) 0) s x.toInt N 0 Ks).1)) (rdM z X nw eb wa ms mt cc Ks (rdL (fun j => z.2.2.2.2.2.2.2.2.2.2.2.2.1.getD (40 * k + j) 0) s x.toInt N 0 Ks)) := by
  have c : rdC (nI k) l (nI N) = true := by
    unfold rdC
    rw [wi_3 hk, c2, wi_13 hN]
    rfl
  have hl : ¬ l = -4 := fun q => by rw [q] at c2; exact absurd c2 (by decide)
  refine st_mread xs _ z X nw eb wa ms mt cc Ks (nI k) l x (nI N) h4 _ _ c ?_
  exact lp_mrd xs d z X nw eb wa ms mt cc Ks k s N l x hk hs hN hl e1 e2 h3 N 0 (by omega) Ks B TN S none none none hn
theorem m_read_0 (Ks : CK) (k : Nat) (l x : Int32) (hk : k < 4) (c2 : wiI l 0 2 = true) (h4 : z.2.2.2.2.2.2.2.2.2.2.2.2.2.length = 87) : Ev xs (d + 2) 196 0 [some (.ref 0), some (.int (nI k)), some (.int l), some (.int x), some (.int 0), none, none, none, none, none, none] [] (mH (zS z Ks X) nw eb wa ms mt cc) (some (.int 0)) (mH (zS (zTo (zB z (flK Ks)) 0) Ks X) nw eb wa ms mt cc) := by
  have c : rdC (nI k) l 0 = true := by
    unfold rdC
    rw [wi_3 hk, c2]
    rfl
  refine st_mread xs _ z X nw eb wa ms mt cc Ks (nI k) l x 0 h4 _ _ c ?_
  exact ev_end 8 rfl
theorem m_read_ft (Ks : CK) (k N : Nat) (l x la s : Int32) (hk : k < 4) (h0 : 0 < N) (hN : N ≤ 13) (c2 : wiI l 0 2 = true) (e1 : z.2.2.2.2.2.2.2.2.2.2.1[k]? = some la) (e2 : z.2.2.2.2.2.2.2.2.2.2.2.1[k]? = some s) (h4 : z.2.2.2.2.2.2.2.2.2.2.2.2.2.length = 87) (ft : Int32) (hla : ¬ la = l) (hft : ft = (if la = -4 then 1 else 3)) : Ev xs (d + 2) 196 0 [some (.ref 0), some (.int (nI k)), some (.int l), some (.int x), some (.int (nI N)), none, none, none, none, none, none] [] (mH (zS z Ks X) nw eb wa ms mt cc) (some (.int 0)) (mH (zS (zTo (zB z (flK Ks)) ft) Ks X) nw eb wa ms mt cc) := by
  have c : rdC (nI k) l (nI N) = true := by
    unfold rdC
    rw [wi_3 hk, c2, wi_13 hN]
    rfl
  have rq : ∀ F, rsQ la l F s = ft := by
    intro F
    unfold rsQ
    rw [hft, if_neg hla]
  have hf0 : ¬ ft = 0 := by
    rw [hft]
    split <;> decide
  refine st_mread xs _ z X nw eb wa ms mt cc Ks (nI k) l x (nI N) h4 _ _ c ?_
  refine ev_go 2 (fun _ => rfl) ?_
  refine ev_ic_ge rfl rfl (fun n => absurd n (nI_ge (a := 0) (by omega) (by omega))) (fun _ => ?_)
  refine ev_go 4 (ls' := [some (.ref 0), some (.int (nI k)), some (.int l), some (.int x), some (.int (nI N)), some (.int 0), some (.int 0), some (.int (nI 0)), some (.int (nI 0)), none, none]) (fun _ => rfl) ?_
  refine st_mrI xs _ (zB z (flK Ks)) X nw eb wa ms mt cc Ks k 0 0 l x (nI N) 0 la s hk (by omega) (by decide) e1 e2 _ _ _ _ (fun y1 y2 => ?_)
  rw [rq]
  exact ex_mrI xs _ (zB z (flK Ks)) X nw eb wa ms mt cc Ks (nI k) l x (nI N) ft 0 (nI 0) _ hf0 _ _
end MC12

/-! BargeTalks: read -/
def tnK (K : CK) (v : Int32) : CK := ((K.1.1, K.1.2.1, K.1.2.2.1, K.1.2.2.2.1, v, K.1.2.2.2.2.2), K.2)
theorem startA_neg {K : CK} {B TN S : Nat} {a b nd : Int32} (h : CN K B TN S) (c : startA K a b nd < 0) : startK K a b nd = K := by
  have e2 := h.2.2.1
  have hTN := h.2.2.2.2.2.1
  unfold startA at c
  unfold startK
  cases hc : startC K a b nd with
  | false => rfl
  | true =>
    rw [hc] at c
    dsimp only at c ⊢
    by_cases c6 : K.1.2.2.2.2.1 = 6
    · rw [if_pos c6]
    · rw [if_neg c6, e2, nI_1] at c
      exact absurd c (nI_pos (by omega))
theorem rd_F (f : Int32) (i : Nat) (hi : i ≤ 100) : (f.toInt64 + 3 * (nI i).toInt64).toInt = f.toInt + 3 * (i : Int) := by
  have h1 := f.le_toInt
  have h2 := f.toInt_lt
  rw [Int64.toInt_add, Int64.toInt_mul, Int32.toInt_toInt64, Int32.toInt_toInt64, nI_toInt (by omega), show (3 : Int64).toInt = 3 by decide]
  rw [Int.bmod_eq_of_le (n := (3 : Int) * (i : Int)) (by omega) (by omega)]
  exact Int.bmod_eq_of_le (by omega) (by omega)
theorem rd_F2 (F : Int64) (x : Int) (h : F.toInt = x) (h1 : -3000000000 ≤ x) (h2 : x ≤ 3000000000) : (F + 2).toInt = x + 2 := by
  rw [Int64.toInt_add, h, show (2 : Int64).toInt = 2 by decide]
  exact Int.bmod_eq_of_le (by omega) (by omega)
theorem rd_j (F : Int64) (x : Int) (h : F.toInt = x) (h1 : 0 ≤ x) (h2 : x ≤ 100) : F.toInt32 = nI x.toNat := by
  apply Int32.toInt_inj.mp
  rw [Int64.toInt_toInt32, h, nI_toInt (by omega)]
  rw [Int.bmod_eq_of_le (by omega) (by omega)]
  omega
section CLS13
variable (xs : List Int32) (d : Nat) (now trial told im0 im1 : CK) (p : TP) (f : FP) (r : RS) (tr : Int32)
theorem sp_startF (k j : Nat) (x1 x2 x3 : Int32) (B TN S : Nat) (hn : CN now B TN S) (hk : k < 4) (hj : j ≤ 100) (e1 : (r.2.2.2.2.1 k)[j]? = some x1) (e2 : (r.2.2.2.2.1 k)[j + 1]? = some x2) (e3 : (r.2.2.2.2.1 k)[j + 2]? = some x3) : Ev xs (d + 4) 108 0 [some (.ref 0), some (.ref (86 + k)), some (.int (nI j))] [] (hCl now trial told im0 im1 p f r tr) (some (.int (startA now x1 x2 x3))) (hCl (startK now x1 x2 x3) trial told im0 im1 p f r tr) := by
  refine ev_go 3 (fun _ => rfl) ?_
  refine ev_iald rfl (at_cell now trial told im0 im1 p f r tr k hk) (mm_ix_nI (n := j) (by omega)) e1 ?_
  refine ev_go 4 (fun _ => rfl) ?_
  refine ev_iald rfl (at_cell now trial told im0 im1 p f r tr k hk) (ixa (c := j) (k := 1) (by omega)) e2 ?_
  refine ev_go 4 (fun _ => rfl) ?_
  refine ev_iald rfl (at_cell now trial told im0 im1 p f r tr k hk) (ixa (c := j) (k := 2) (by omega)) e3 ?_
  refine ev_call (y' := 67) rfl rfl rfl rfl (sp_startA xs _ now trial told im0 im1 p f r tr x1 x2 x3 B TN S hn) ?_
  exact ev_end 1 rfl
/-- what stands when a read is over -/
def rdH (now trial told im0 im1 : CK) (p : TP) (f : FP) (r : RS) (tr : Int32) (had : Int32) (q : Int32 × CK × Option Int32) : MH := match q.2.2 with
  | some x => hCl q.2.1 trial told im0 im1 p f r x
  | none => hCl (tnK q.2.1 had) trial told im0 im1 p f r tr
theorem ex_read (k l x n had ft came i : Int32) (hf : ¬ ft = 0) (z1 z2 : Option Value) : Ev xs d 92 56 [some (.ref 0), some (.int k), some (.int l), some (.int x), some (.int n), some (.int had), some (.int ft), some (.int came), some (.int i), z1, z2] [] (hCl now trial told im0 im1 p f r tr) (some (.int came)) (hCl now trial told im0 im1 p f r ft) := by
  refine ev_go 2 (fun _ => rfl) ?_
  by_cases c : n ≤ i
  · refine ev_ic_ge rfl rfl (fun _ => ?_) (fun n => absurd (c) n)
    exact ev_end 5 rfl
  · refine ev_ic_ge rfl rfl (fun n => absurd n (c)) (fun _ => ?_)
    refine ev_go 1 (fun _ => rfl) ?_
    refine ev_if_ne rfl rfl (fun _ => ?_) (fun n => absurd (hf) n)
    exact ev_end 5 rfl
theorem lp_read (k s N : Nat) (l x had : Int32) (hk : k < 4) (hs : s ≤ 40) (hN : N ≤ 13) (e : r.2.2.2.2.2.2[k]? = some (nI s)) (hL : (r.2.2.2.2.1 k).length = 40) : ∀ m i, i + m = N → ∀ (K : CK) (B TN S : Nat) (z1 z2 : Option Value), CN K B TN S → Ev xs (d + 5) 92 56 [some (.ref 0), some (.int (nI k)), some (.int l), some (.int x), some (.int (nI N)), some (.int had), some (.int 0), some (.int (nI i)), some (.int (nI i)), z1, z2] [] (hCl K trial told im0 im1 p f r tr) (some (.int (rdL (fun j => (r.2.2.2.2.1 k).getD j 0) s x.toInt m i K).1)) (rdH K trial told im0 im1 p f r tr had (rdL (fun j => (r.2.2.2.2.1 k).getD j 0) s x.toInt m i K)) := by
  intro m
  induction m with
  | zero =>
    intro i hi K B TN S z1 z2 hK
    have e : i = N := by omega
    subst e
    refine ev_go 2 (fun _ => rfl) ?_
    refine ev_ic_ge rfl rfl (fun _ => ?_) (fun n => absurd (nI_le (Nat.le_refl _) (by omega)) n)
    exact ev_end 5 rfl
  | succ m ih =>
    intro i hi K B TN S z1 z2 hK
    have eF := rd_F x i (by omega)
    have b1 := x.le_toInt
    have b2 := x.toInt_lt
    have ik : mm_ix (nI k) = some k := mm_ix_nI (by omega)
    have pre : ∀ (F : Int64), F = x.toInt64 + 3 * (nI i).toInt64 → ∀ (rs : Option Value) (R : MH), Ev xs (d + 5) 92 84 [some (.ref 0), some (.int (nI k)), some (.int l), some (.int x), some (.int (nI N)), some (.int had), some (.int 0), some (.int (nI i)), some (.int (nI i)), some (.long F), none] [.int (lg_cmp F 0)] (hCl K trial told im0 im1 p f r tr) rs R → Ev xs (d + 5) 92 56 [some (.ref 0), some (.int (nI k)), some (.int l), some (.int x), some (.int (nI N)), some (.int had), some (.int 0), some (.int (nI i)), some (.int (nI i)), z1, z2] [] (hCl K trial told im0 im1 p f r tr) rs R := by
      intro F hF rs R hr
      subst hF
      refine ev_go 2 (fun _ => rfl) ?_
      refine ev_ic_ge rfl rfl (fun n => absurd n (nI_ge (by omega) (by omega))) (fun _ => ?_)
      refine ev_go 13 (ls' := [some (.ref 0), some (.int (nI k)), some (.int l), some (.int x), some (.int (nI N)), some (.int had), some (.int 0), some (.int (nI i)), some (.int (nI i)), some (.long (x.toInt64 + 3 * (nI i).toInt64)), none]) (st' := [.int (lg_cmp (x.toInt64 + 3 * (nI i).toInt64) 0)]) (fun _ => rfl) ?_
      exact hr
    unfold rdL
    obtain ⟨F, hF⟩ : ∃ F, F = x.toInt64 + 3 * (nI i).toInt64 := ⟨_, rfl⟩
    rw [← hF] at eF
    refine pre F hF _ _ ?_
    clear pre hF
    have bad : ∀ zz, Ev xs (d + 5) 92 104 [some (.ref 0), some (.int (nI k)), some (.int l), some (.int x), some (.int (nI N)), some (.int had), some (.int 0), some (.int (nI i)), some (.int (nI i)), some (.long F), zz] [] (hCl K trial told im0 im1 p f r tr) (some (.int (nI i))) (hCl K trial told im0 im1 p f r 2) := by
      intro zz
      refine ev_go 5 (ls' := [some (.ref 0), some (.int (nI k)), some (.int l), some (.int x), some (.int (nI N)), some (.int had), some (.int 2), some (.int (nI i)), some (.int (nI i + Int32.ofInt 1)), some (.long F), zz]) (fun _ => rfl) ?_
      exact ex_read xs _ K trial told im0 im1 p f r tr (nI k) l x (nI N) had 2 (nI i) _ (by decide) _ _
    by_cases c1 : x.toInt + 3 * (i : Int) < 0
    · rw [if_neg (by omega)]
      refine ev_if_lt rfl rfl (fun _ => ?_) (fun n => absurd ((lg_cmp_lt _ _).mpr (by rw [Int64.lt_iff_toInt_lt, eF]; exact c1)) n)
      exact bad _
    · skip
      refine ev_if_lt rfl rfl (fun n => absurd n (fun n => c1 (by have := (lg_cmp_lt _ _).mp n; rw [Int64.lt_iff_toInt_lt, eF] at this; exact this))) (fun _ => ?_)
      refine ev_go 6 (st' := [.int (nI k), .ref 91, .long (F + 2)]) (fun _ => rfl) ?_
      refine ev_iald rfl (at_sizes K trial told im0 im1 p f r tr) ik e ?_
      have e4 := rd_F2 F _ eF (by omega) (by omega)
      have e5 : (nI s).toInt64.toInt = (s : Int) := by rw [Int32.toInt_toInt64, nI_toInt (by omega)]
      refine ev_go 2 (fun _ => rfl) ?_
      by_cases c2 : x.toInt + 3 * (i : Int) + 2 < (s : Int)
      · rw [if_pos ⟨by omega, c2⟩]
        refine ev_if_lt rfl rfl (fun _ => ?_) (fun n => absurd ((lg_cmp_lt _ _).mpr (by rw [Int64.lt_iff_toInt_lt, e4, e5]; exact c2)) n)
        refine ev_go 4 (fun _ => rfl) ?_
        refine ev_aald rfl (t := 200) (q := 86 + k) rfl (by decide) ik (cells_at k hk) ?_
        refine ev_go 2 (st' := [.int F.toInt32, .ref (86 + k), .ref 0]) (fun _ => rfl) ?_
        rw [rd_j F _ eF (by omega) (by omega)]
        obtain ⟨j, hj⟩ : ∃ j, j = (x.toInt + 3 * (i : Int)).toNat := ⟨_, rfl⟩
        rw [← hj]
        have hjs : j + 2 < s := by omega
        dsimp only
        refine ev_call (y' := 108) rfl rfl rfl rfl (sp_startF xs _ K trial told im0 im1 p f r tr k j _ _ _ B TN S hK hk (by omega) (getD_at (by omega)) (getD_at (by omega)) (getD_at (by omega))) ?_
        by_cases c3 : startA K ((r.2.2.2.2.1 k).getD j 0) ((r.2.2.2.2.1 k).getD (j + 1) 0) ((r.2.2.2.2.1 k).getD (j + 2) 0) < 0
        · rw [if_pos c3, startA_neg hK c3]
          refine ev_if_ge rfl rfl (fun n => absurd n (i32_lt_nle c3)) (fun _ => ?_)
          exact ev_end 8 rfl
        · rw [if_neg c3]
          refine ev_if_ge rfl rfl (fun _ => ?_) (fun n => absurd (i32_nlt c3) n)
          obtain ⟨TN', hK', -⟩ := startK_CN ((r.2.2.2.2.1 k).getD j 0) ((r.2.2.2.2.1 k).getD (j + 1) 0) ((r.2.2.2.2.1 k).getD (j + 2) 0) hK
          refine ev_go 3 (ls' := [some (.ref 0), some (.int (nI k)), some (.int l), some (.int x), some (.int (nI N)), some (.int had), some (.int 0), some (.int (nI i + Int32.ofInt 1)), some (.int (nI i + Int32.ofInt 1)), some (.long F), none]) (fun _ => rfl) ?_
          rw [nI_inc]
          exact ih (i + 1) (by omega) _ B TN' S _ _ hK'
      · rw [if_neg (fun q => c2 q.2)]
        refine ev_if_lt rfl rfl (fun n => absurd n (fun n => c2 (by have := (lg_cmp_lt _ _).mp n; rw [Int64.lt_iff_toInt_lt, e4, e5] at this; exact this))) (fun _ => ?_)
        exact bad _
def rdC (k l n : Int32) : Bool := wiI k 0 3 && (wiI l 0 2 && wiI n 0 13)
theorem st_read (k l x n : Int32) (rs : Option Value) (h' : MH) (kt : rdC k l n = true → Ev xs (d + 1) 92 31 [some (.ref 0), some (.int k), some (.int l), some (.int x), some (.int n), none, none, none, none, none, none] [] (hCl now trial told im0 im1 p f r tr) rs h') (kf : rdC k l n = false → Ev xs (d + 1) 92 29 [some (.ref 0), some (.int k), some (.int l), some (.int x), some (.int n), none, none, none, none, none, none] [] (hCl now trial told im0 im1 p f r tr) rs h') : Ev xs (d + 1) 92 0 [some (.ref 0), some (.int k), some (.int l), some (.int x), some (.int n), none, none, none, none, none, none] [] (hCl now trial told im0 im1 p f r tr) rs h' := by
  unfold rdC at kt kf
  refine ev_go 3 (fun _ => rfl) ?_
  refine ev_call (y' := 95) rfl rfl rfl rfl (sp_within xs d _ k 0 3) ?_
  cases c1 : wiI k 0 3 with
  | false =>
    rw [c1] at kf
    exact ev_go 1 (fun _ => rfl) (kf rfl)
  | true =>
    rw [c1] at kt kf
    refine ev_go 4 (fun _ => rfl) ?_
    refine ev_call (y' := 95) rfl rfl rfl rfl (sp_within xs d _ l 0 2) ?_
    cases c2 : wiI l 0 2 with
    | false =>
      rw [c2] at kf
      exact ev_go 1 (fun _ => rfl) (kf rfl)
    | true =>
      rw [c2] at kt kf
      refine ev_go 4 (fun _ => rfl) ?_
      refine ev_call (y' := 95) rfl rfl rfl rfl (sp_within xs d _ n 0 13) ?_
      cases c3 : wiI n 0 13 with
      | false =>
        rw [c3] at kf
        exact ev_go 1 (fun _ => rfl) (kf rfl)
      | true =>
        rw [c3] at kt
        exact ev_go 1 (fun _ => rfl) (kt rfl)
theorem sp_read_bad (k l x n : Int32) (c : rdC k l n = false) : Ev xs (d + 1) 92 0 [some (.ref 0), some (.int k), some (.int l), some (.int x), some (.int n), none, none, none, none, none, none] [] (hCl now trial told im0 im1 p f r tr) (some (.int (-1))) (hCl now trial told im0 im1 p f r tr) :=
  st_read xs d now trial told im0 im1 p f r tr k l x n _ _ (fun q => by rw [c] at q; cases q) (fun _ => ev_end 2 rfl)
theorem sp_taking (k : Nat) (l n s q : Int32) (hk : k < 4) (e1 : r.2.2.2.2.2.2[k]? = some s) (e2 : r.2.2.2.2.2.1[k]? = some q) : Ev xs d 107 0 [some (.ref 0), some (.int (nI k)), some (.int l), some (.int n)] [] (hCl now trial told im0 im1 p f r tr) (some (.int (if 0 < n then (if s = -1 then 1 else if q = l then 0 else 3) else 0))) (hCl now trial told im0 im1 p f r tr) := by
  have ik : mm_ix (nI k) = some k := mm_ix_nI (by omega)
  refine ev_go 1 (fun _ => rfl) ?_
  by_cases c : 0 < n
  · rw [if_pos c]
    refine ev_if_gt rfl rfl (fun _ => ?_) (fun n => absurd (c) n)
    refine ev_go 3 (fun _ => rfl) ?_
    refine ev_iald rfl (at_sizes now trial told im0 im1 p f r tr) ik e1 ?_
    refine ev_go 1 (fun _ => rfl) ?_
    by_cases c2 : s = -1
    · rw [if_pos c2]
      refine ev_ic_ne rfl rfl (fun n => absurd n (fun n => n c2)) (fun _ => ?_)
      exact ev_end 2 rfl
    · rw [if_neg c2]
      refine ev_ic_ne rfl rfl (fun _ => ?_) (fun n => absurd (c2) n)
      refine ev_go 3 (fun _ => rfl) ?_
      refine ev_iald rfl (at_lanes now trial told im0 im1 p f r tr) ik e2 ?_
      refine ev_go 1 (fun _ => rfl) ?_
      by_cases c3 : q = l
      · rw [if_pos c3]
        refine ev_ic_ne rfl rfl (fun n => absurd n (fun n => n c3)) (fun _ => ?_)
        exact ev_end 3 rfl
      · rw [if_neg c3]
        refine ev_ic_ne rfl rfl (fun _ => ?_) (fun n => absurd (c3) n)
        exact ev_end 2 rfl
  · rw [if_neg c]
    refine ev_if_gt rfl rfl (fun n => absurd n (c)) (fun _ => ?_)
    exact ev_end 2 rfl
theorem sp_read_ft (k : Nat) (l x n s q : Int32) (hk : k < 4) (c : rdC (nI k) l n = true) (e1 : r.2.2.2.2.2.2[k]? = some s) (e2 : r.2.2.2.2.2.1[k]? = some q) (ft : Int32) (hft : ft = (if 0 < n then (if s = -1 then 1 else if q = l then 0 else 3) else 0)) (h0 : ¬ ft = 0) : Ev xs (d + 1) 92 0 [some (.ref 0), some (.int (nI k)), some (.int l), some (.int x), some (.int n), none, none, none, none, none, none] [] (hCl now trial told im0 im1 p f r tr) (some (.int 0)) (hCl now trial told im0 im1 p f r ft) := by
  refine st_read xs d now trial told im0 im1 p f r tr (nI k) l x n _ _ (fun _ => ?_) (fun q => by rw [c] at q; cases q)
  refine ev_go 8 (fun _ => rfl) ?_
  refine ev_call (y' := 107) rfl rfl rfl rfl (sp_taking xs _ now trial told im0 im1 p f r tr k l n s q hk e1 e2) ?_
  rw [← hft]
  refine ev_go 5 (ls' := [some (.ref 0), some (.int (nI k)), some (.int l), some (.int x), some (.int n), some (.int now.1.2.2.2.2.1), some (.int ft), some (.int 0), some (.int 0), none, none]) (fun _ => rfl) ?_
  exact ex_read xs _ now trial told im0 im1 p f r tr (nI k) l x n _ ft 0 0 h0 _ _
theorem sp_read (k s N : Nat) (l x q : Int32) (B TN S : Nat) (hn : CN now B TN S) (hk : k < 4) (hs : s ≤ 40) (hN : N ≤ 13) (c2 : wiI l 0 2 = true) (e1 : r.2.2.2.2.2.2[k]? = some (nI s)) (e2 : r.2.2.2.2.2.1[k]? = some q) (hq : N = 0 ∨ q = l) (hL : (r.2.2.2.2.1 k).length = 40) : Ev xs (d + 5) 92 0 [some (.ref 0), some (.int (nI k)), some (.int l), some (.int x), some (.int (nI N)), none, none, none, none, none, none] [] (hCl now trial told im0 im1 p f r tr) (some (.int (rdL (fun j => (r.2.2.2.2.1 k).getD j 0) s x.toInt N 0 now).1)) (rdH now trial told im0 im1 p f r tr now.1.2.2.2.2.1 (rdL (fun j => (r.2.2.2.2.1 k).getD j 0) s x.toInt N 0 now)) := by
  have c : rdC (nI k) l (nI N) = true := by
    unfold rdC
    rw [wi_3 hk, c2, wi_13 hN]
    rfl
  refine st_read xs _ now trial told im0 im1 p f r tr (nI k) l x (nI N) _ _ (fun _ => ?_) (fun q => by rw [c] at q; cases q)
  refine ev_go 8 (fun _ => rfl) ?_
  refine ev_call (y' := 107) rfl rfl rfl rfl (sp_taking xs _ now trial told im0 im1 p f r tr k l (nI N) (nI s) q hk e1 e2) ?_
  have e3 : (if 0 < nI N then (if nI s = -1 then 1 else if q = l then 0 else 3) else 0 : Int32) = 0 := by
    rcases hq with h | h
    · subst h
      rfl
    · rw [if_neg (nI_ne1 (by omega)), if_pos h]
      split <;> rfl
  rw [e3]
  refine ev_go 5 (ls' := [some (.ref 0), some (.int (nI k)), some (.int l), some (.int x), some (.int (nI N)), some (.int now.1.2.2.2.2.1), some (.int 0), some (.int (nI 0)), some (.int (nI 0)), none, none]) (fun _ => rfl) ?_
  exact lp_read xs d trial told im0 im1 p f r tr k s N l x now.1.2.2.2.2.1 hk hs hN e1 hL N 0 (by omega) now B TN S none none hn
/-- a SHEET of nothing, of another lane, read for no TALK -/
theorem sp_read_0 (k : Nat) (l x s q : Int32) (hk : k < 4) (c2 : wiI l 0 2 = true) (e1 : r.2.2.2.2.2.2[k]? = some s) (e2 : r.2.2.2.2.2.1[k]? = some q) : Ev xs (d + 1) 92 0 [some (.ref 0), some (.int (nI k)), some (.int l), some (.int x), some (.int 0), none, none, none, none, none, none] [] (hCl now trial told im0 im1 p f r tr) (some (.int 0)) (hCl now trial told im0 im1 p f r 0) := by
  have c : rdC (nI k) l 0 = true := by
    unfold rdC
    rw [wi_3 hk, c2]
    rfl
  refine st_read xs _ now trial told im0 im1 p f r tr (nI k) l x 0 _ _ (fun _ => ?_) (fun q => by rw [c] at q; cases q)
  refine ev_go 8 (fun _ => rfl) ?_
  refine ev_call (y' := 107) rfl rfl rfl rfl (sp_taking xs _ now trial told im0 im1 p f r tr k l 0 s q hk e1 e2) ?_
  exact ev_end 13 rfl
end CLS13

/-! BargeTalks: luck, mean -/
section LR
variable {xs : List Int32} {d y pc : Nat} {ls : ML} {st : List Value} {h h' : MH} {r : Option Value} {x z : Int64}
def rmL (x z : Int64) : Int64 := x - x / z * z
theorem ev_lrem (hf : fetT y pc = some .lrem) (hz : ¬ z = 0) (hv : Ev xs d y (pc + 1) ls (.long (rmL x z) :: st) h r h') : Ev xs d y pc ls (.long z :: .long x :: st) h r h' := by
  refine ev_s0 hf ?_ hv
  show (if z = 0 then none else some (pc + 1, ls, .long (x - x / z * z) :: st)) = _
  rw [if_neg hz]
  rfl
theorem ev_ldiv (hf : fetT y pc = some .ldiv) (hz : ¬ z = 0) (hv : Ev xs d y (pc + 1) ls (.long (x / z) :: st) h r h') : Ev xs d y pc ls (.long z :: .long x :: st) h r h' := by
  refine ev_s0 hf ?_ hv
  show (if z = 0 then none else some (pc + 1, ls, .long (x / z) :: st)) = _
  rw [if_neg hz]
end LR
def gdC (m : Nat) (x y : Int64) : Int64 := match m with
  | 0 => x
  | m + 1 => if y = 0 then x else gdC m y (rmL x y)
def partA (a b : Int64) (w : Int32) : Int64 := if 0 < gdC 200 a b then (if w = 0 then a / gdC 200 a b else b / gdC 200 a b) else -1
theorem lg_cmp_z (x : Int64) : lg_cmp x 0 = 0 ↔ x = 0 := by
  constructor
  · intro h
    have h1 : ¬ lg_cmp x 0 < 0 := by rw [h]; decide
    have h2 : ¬ 0 < lg_cmp x 0 := by rw [h]; decide
    rw [lg_cmp_lt, Int64.lt_iff_toInt_lt] at h1
    rw [lg_cmp_gt, Int64.lt_iff_toInt_lt] at h2
    apply Int64.toInt_inj.mp
    omega
  · intro h
    rw [h]
    decide
section GD
variable (xs : List Int32) (d : Nat) (h : MH)
theorem lp_gd (a b : Int64) : ∀ m i, i + m = 200 → ∀ (x y : Int64) (z9 z10 : Option Value), Ev xs d 101 9 [some (.long a), none, some (.long b), none, some (.long x), none, some (.long y), none, some (.int (nI i)), z9, z10] [] h (some (.long (gdC m x y))) h := by
  intro m
  induction m with
  | zero =>
    intro i hi x y z9 z10
    have e : i = 200 := by omega
    subst e
    refine ev_go 2 (fun _ => rfl) ?_
    refine ev_ic_ge rfl rfl (fun _ => ?_) (fun n => absurd (nI_le (a := 200) (b := 200) (by omega) (by omega)) n)
    exact ev_end 2 rfl
  | succ m ih =>
    intro i hi x y z9 z10
    unfold gdC
    refine ev_go 2 (fun _ => rfl) ?_
    refine ev_ic_ge rfl rfl (fun n => absurd n (nI_ge (a := i) (b := 200) (by omega) (by omega))) (fun _ => ?_)
    refine ev_go 3 (fun _ => rfl) ?_
    by_cases c : y = 0
    · rw [if_pos c]
      refine ev_if_eq rfl rfl (fun _ => ?_) (fun n => absurd ((lg_cmp_z y).mpr c) n)
      exact ev_end 2 rfl
    · rw [if_neg c]
      refine ev_if_eq rfl rfl (fun n => absurd n (fun n => c ((lg_cmp_z y).mp n))) (fun _ => ?_)
      refine ev_go 2 (fun _ => rfl) ?_
      refine ev_lrem rfl c ?_
      refine ev_go 7 (ls' := [some (.long a), none, some (.long b), none, some (.long y), none, some (.long (rmL x y)), none, some (.int (nI i + Int32.ofInt 1)), some (.long (rmL x y)), none]) (fun _ => rfl) ?_
      rw [nI_inc]
      exact ih (i + 1) (by omega) _ _ _ _
theorem sp_gd (a b : Int64) : Ev xs d 101 0 [some (.long a), none, some (.long b), none, none, none, none, none, none, none, none] [] h (some (.long (gdC 200 a b))) h := by
  refine ev_go 6 (ls' := [some (.long a), none, some (.long b), none, some (.long a), none, some (.long b), none, some (.int (nI 0)), none, none]) (fun _ => rfl) ?_
  exact lp_gd xs d h a b 200 0 (by omega) a b none none
theorem sp_part2 (a b : Int64) (w : Int32) : Ev xs (d + 1) 100 0 [some (.long a), none, some (.long b), none, some (.int w), none, none] [] h (some (.long (partA a b w))) h := by
  have hg := sp_gd xs d h a b
  unfold partA
  generalize gdC 200 a b = g at hg
  have hp : ∀ q, 0 < g → q = g → ¬ q = 0 := fun q h1 h2 h3 => by
    rw [← h2, h3] at h1
    exact absurd h1 (by decide)
  refine ev_go 2 (fun _ => rfl) ?_
  refine ev_call (y' := 101) rfl rfl rfl rfl (hg) ?_
  refine ev_go 4 (fun _ => rfl) ?_
  by_cases c : 0 < g
  · rw [if_pos c]
    refine ev_if_gt rfl rfl (fun _ => ?_) (fun n => absurd ((lg_cmp_gt _ _).mpr c) n)
    refine ev_go 1 (fun _ => rfl) ?_
    by_cases c2 : w = 0
    · rw [if_pos c2]
      refine ev_if_ne rfl rfl (fun n => absurd n (fun n => n c2)) (fun _ => ?_)
      refine ev_go 2 (fun _ => rfl) ?_
      refine ev_ldiv rfl (hp g c rfl) ?_
      exact ev_end 2 rfl
    · rw [if_neg c2]
      refine ev_if_ne rfl rfl (fun _ => ?_) (fun n => absurd (c2) n)
      refine ev_go 2 (fun _ => rfl) ?_
      refine ev_ldiv rfl (hp g c rfl) ?_
      exact ev_end 1 rfl
  · rw [if_neg c]
    refine ev_if_gt rfl rfl (fun n => absurd n (fun n => c ((lg_cmp_gt _ _).mp n))) (fun _ => ?_)
    exact ev_end 2 rfl
end GD
def fgOK (f : FP) : Prop := f.2.1.1.length = 8 ∧ f.2.1.2.1.length = 8 ∧ f.2.1.2.2.length = 8 ∧ f.2.2.length = 9
theorem exF_eq {f : FP} (h : f.2.2.length = 9) : exF f = f := by
  unfold exF
  rw [ex9_eq h]
/-- the fog watched; the Canal moved on -/
def fW (K : CK) (B SP i j : Nat) (T : TT) (v : Int32) (f : FP) : FP := ((nI SP, v, K.2.1.1.getD i 0, K.2.1.1.getD j 0, K.1.2.1), (up (wtM K.1.1 B K.2.1.2.2.1 (ksK K) (5 * i + j)) SP f.2.1.1, up (wtN K.1.1 B K.2.1.2.2.1 (ksK K) i) SP f.2.1.2.1, up (wtN K.1.1 B K.2.1.2.2.1 (ksK K) j) SP f.2.1.2.2), f.2.2.set 0 T)
def mwK (K : CK) (B SP : Nat) : CK := onK K (mvI K.1.1 B K.2.1.2.2.1 SP (ksK K))
theorem fW_ok {K : CK} {B SP i j : Nat} {T : TT} {v : Int32} {f : FP} (hSP : SP ≤ 8) (h : fgOK f) : fgOK (fW K B SP i j T v f) := ⟨(up_len (by rw [h.1]; exact hSP)).trans h.1, (up_len (by rw [h.2.1]; exact hSP)).trans h.2.1, (up_len (by rw [h.2.2.1]; exact hSP)).trans h.2.2.1, List.length_set.trans h.2.2.2⟩
theorem CG_mw {K : CK} {B TN S : Nat} (SP : Nat) (h : CG K B TN S) : CG (mwK K B SP) B TN S := CG_on h (KOK_mvI h.1.2.2.2.2.1 h.2.1 SP)
theorem sp_watchK (xs : List Int32) (d : Nat) (K : CK) (f : FP) (B TN S SP t i j : Nat) (T : TT) (v : Int32) (hK : CG K B TN S) (hf : fgOK f) (hSP : SP ≤ 8) (ht : t < 6) (hT : K.2.2[t]? = some T) (hi : i < 5) (hj : j < 5) (e1 : T.1 = nI i) (e2 : T.2.1 = nI j) : Ev xs (d + 3) 27 0 [some (.ref 0), some (.ref 14), some (.int (nI t)), some (.int (nI SP)), some (.int v), none, none] [] (fgH 0 f ++ bH 14 K) none (fgH 0 (fW K B SP i j T v f) ++ bH 14 (mwK K B SP)) := by
  obtain ⟨⟨hcl, eB, eT, eS, hB, hTN, hS⟩, hk, hw⟩ := hK
  have h := sp_watch xs d K.1.1 K.1.2.1 B TN K.1.2.2.2.2.2.1 K.2.1.1 K.2.1.2.2.1 K.2.1.2.2.2.1 K.2.1.2.2.2.2.1 K.2.1.2.2.2.2.2.1 (ksK K) f.1.2.2.1 f.1.2.2.2.1 f.1.2.2.2.2 f.1.2.1 f.1.1 f.2.1.1 f.2.1.2.1 f.2.1.2.2 f.2.2 SP t i j T v hSP hB hk hcl.1 hcl.2.2.1 hw ht hT hi hj e1 e2 hf.2.2.2 hf.1 hf.2.1 hf.2.2.1
  have eK : ∀ s : KS, kC K.1.1 K.1.2.1 B TN K.1.2.2.2.2.2.1 K.2.1.1 K.2.1.2.2.1 K.2.1.2.2.2.1 K.2.1.2.2.2.2.1 K.2.1.2.2.2.2.2.1 s = onK K s := by
    intro s
    unfold kC onK
    rw [eB, eT]
  rw [eK, eK] at h
  exact h
section CLS18
variable (xs : List Int32) (d : Nat) (now trial told im0 im1 : CK) (p : TP) (f : FP) (r : RS) (tr : Int32)
theorem dec_fog : hCl now trial told im0 im1 p f r tr = ([clO tr] ++ (bH 1 (exK now) ++ (bH 19 (exK trial) ++ (clA p r ++ bH 41 (exK told))))) ++ shH 59 (fgH 0 (exF f)) ++ (clB r ++ (bH 92 (exK im0) ++ bH 110 (exK im1))) := by
  rw [fgH_sh]
  unfold hCl
  simp only [List.append_assoc]
theorem dec_tri : hCl now trial told im0 im1 p f r tr = ([clO tr] ++ bH 1 (exK now)) ++ shH 19 (bH 0 (exK trial)) ++ (clA p r ++ (bH 41 (exK told) ++ (fgH 59 (exF f) ++ (clB r ++ (bH 92 (exK im0) ++ bH 110 (exK im1)))))) := by
  rw [bH_sh]
  exact dec_trial now trial told im0 im1 p f r tr
theorem put_fog (f' : FP) : putL (hCl now trial told im0 im1 p f r tr) (vR 59 14) (shH 59 (fgH 0 (exF f'))) = hCl now trial told im0 im1 p f' r tr := by
  rw [dec_fog, dec_fog]
  exact putB (n := 59) (h := fgH 0 (exF f)) (h' := fgH 0 (exF f')) rfl rfl
theorem put_tri (K : CK) : putL (hCl now trial told im0 im1 p f r tr) (vR 19 18) (shH 19 (bH 0 (exK K))) = hCl now K told im0 im1 p f r tr := by
  rw [dec_tri, dec_tri]
  exact putB (n := 19) (h := bH 0 (exK trial)) (h' := bH 0 (exK K)) rfl rfl
/-- Fog.watch, called -/
theorem ev_watch {y pc idx : Nat} {ls : ML} {rs : Option Value} {h' : MH} (B TN S SP t i j : Nat) (T : TT) (v : Int32) (hf : fetT y pc = some (.invokevirtual idx)) (hs : mm_stp fldT (prmT xs) (d + 4) y (.invokevirtual idx) pc ls [.int v, .int (nI SP), .int (nI t), .ref 19, .ref 59] (hCl now trial told im0 im1 p f r tr) = none) (hm : mthT y idx = some (27, true)) (hK : CG trial B TN S) (hg : fgOK f) (hSP : SP ≤ 8) (ht : t < 6) (hT : trial.2.2[t]? = some T) (hi : i < 5) (hj : j < 5) (e1 : T.1 = nI i) (e2 : T.2.1 = nI j) (hr : Ev xs (d + 4) y (pc + 3) ls [] (hCl now (mwK trial B SP) told im0 im1 p (fW trial B SP i j T v f) r tr) rs h') : Ev xs (d + 4) y pc ls [.int v, .int (nI SP), .int (nI t), .ref 19, .ref 59] (hCl now trial told im0 im1 p f r tr) rs h' := by
  have x1 : exF f = f := exF_eq hg.2.2.2
  have x2 : exK trial = trial := exK_eq (CG6 hK)
  have x3 : exF (fW trial B SP i j T v f) = fW trial B SP i j T v f := exF_eq (fW_ok hSP hg).2.2.2
  have x4 : exK (mwK trial B SP) = mwK trial B SP := exK_eq (CG6 (CG_mw SP hK))
  have h0 : (hCl now trial told im0 im1 p f r tr)[59]? = some (fgO 59 (exF f)) := rfl
  have h1 : (hCl now trial told im0 im1 p f r tr)[19]? = some (bO 19 trial.1) := rfl
  have hcal : mm_cal mthT infT true y idx [.int v, .int (nI SP), .int (nI t), .ref 19, .ref 59] (hCl now trial told im0 im1 p f r tr) = some (27, true) := by
    unfold mm_cal
    rw [hm]
    rfl
  have hV : mm_view bszT (hCl now trial told im0 im1 p f r tr) ((([.int v, .int (nI SP), .int (nI t), .ref 19, .ref 59] : List Value).take (infT 27).1).reverse) = vR 59 14 ++ vR 19 18 := rfl
  have hrn : mm_rnL (vR 59 14 ++ vR 19 18) ((([.int v, .int (nI SP), .int (nI t), .ref 19, .ref 59] : List Value).take (infT 27).1).reverse) = some [.ref 0, .ref 14, .int (nI t), .int (nI SP), .int v] := rfl
  have hA : HasB (hCl now trial told im0 im1 p f r tr) 59 (fgH 0 (exF f)) := by
    rw [dec_fog]
    exact hasB rfl
  have hB : HasB (hCl now trial told im0 im1 p f r tr) 19 (bH 0 (exK trial)) := by
    rw [dec_tri]
    exact hasB rfl
  have hsub := sub_BB (H := hCl now trial told im0 im1 p f r tr) (a := fgH 0 (exF f)) (b := bH 0 (exK trial)) (n := 59) (m := 19) rfl rfl hA hB (show va_nd (vR 59 14 ++ vR 19 18) = true by decide)
  have hbk := bk_BB (H := hCl now trial told im0 im1 p f r tr) (a := fgH 0 (exF (fW trial B SP i j T v f))) (b := bH 0 (exK (mwK trial B SP))) (n := 59) (m := 19) rfl rfl
  rw [show (fgH 0 (exF (fW trial B SP i j T v f))).length = 14 from rfl, show (bH 0 (exK (mwK trial B SP))).length = 18 from rfl, put_fog, put_tri, x3, x4, bH_sh] at hbk
  rw [show (fgH 0 (exF f)).length = 14 from rfl, show (bH 0 (exK trial)).length = 18 from rfl, x1, x2, bH_sh] at hsub
  exact ev_callV hf rfl hs hcal hV hsub hrn (by decide) (sp_watchK xs d trial f B TN S SP t i j T v hK hg hSP ht hT hi hj e1 e2) rfl hbk hr
/-- the ways of one Talk in the fog, its words -/
def lkE (K : CK) (B SP t : Nat) (v : Int32) (f : FP) : Int64 := wE v (K.2.1.1.getD (K.2.2.getD t dT).1.toNatClampNeg 0) (K.2.1.1.getD (K.2.2.getD t dT).2.1.toNatClampNeg 0) K.1.2.1 (up (wtM K.1.1 B K.2.1.2.2.1 (ksK K) (5 * (K.2.2.getD t dT).1.toNatClampNeg + (K.2.2.getD t dT).2.1.toNatClampNeg)) SP f.2.1.1) (up (wtN K.1.1 B K.2.1.2.2.1 (ksK K) (K.2.2.getD t dT).1.toNatClampNeg) SP f.2.1.2.1) (up (wtN K.1.1 B K.2.1.2.2.1 (ksK K) (K.2.2.getD t dT).2.1.toNatClampNeg) SP f.2.1.2.2) SP 0 (K.2.2.getD t dT)
def lkW (K : CK) (B SP t : Nat) (v : Int32) (f : FP) : Int64 := wW v (K.2.1.1.getD (K.2.2.getD t dT).1.toNatClampNeg 0) (K.2.1.1.getD (K.2.2.getD t dT).2.1.toNatClampNeg 0) K.1.2.1 (up (wtM K.1.1 B K.2.1.2.2.1 (ksK K) (5 * (K.2.2.getD t dT).1.toNatClampNeg + (K.2.2.getD t dT).2.1.toNatClampNeg)) SP f.2.1.1) (up (wtN K.1.1 B K.2.1.2.2.1 (ksK K) (K.2.2.getD t dT).1.toNatClampNeg) SP f.2.1.2.1) (up (wtN K.1.1 B K.2.1.2.2.1 (ksK K) (K.2.2.getD t dT).2.1.toNatClampNeg) SP f.2.1.2.2) SP 0 (K.2.2.getD t dT)
def lkC (now : CK) (v t n w : Int32) : Bool := wiI v 0 10 && (hasI t now.1.2.2.2.2.1 && (wiI n 0 8 && wiI w 0 1))
theorem st_luck (v t n w : Int32) (hK : now.2.2.length = 6) (rs : Option Value) (h' : MH) (kt : lkC now v t n w = true → Ev xs (d + 1) 80 45 [some (.ref 0), some (.int v), some (.int t), some (.int n), some (.int w)] [] (hCl now trial told im0 im1 p f r tr) rs h') (kf : lkC now v t n w = false → Ev xs (d + 1) 80 41 [some (.ref 0), some (.int v), some (.int t), some (.int n), some (.int w)] [] (hCl now trial told im0 im1 p f r tr) rs h') : Ev xs (d + 1) 80 0 [some (.ref 0), some (.int v), some (.int t), some (.int n), some (.int w)] [] (hCl now trial told im0 im1 p f r tr) rs h' := by
  unfold lkC at kt kf
  refine ev_go 3 (fun _ => rfl) ?_
  refine ev_call (y' := 95) rfl rfl rfl rfl (sp_within xs d _ v 0 10) ?_
  cases c1 : wiI v 0 10 with
  | false =>
    rw [c1] at kf
    exact ev_go 1 (fun _ => rfl) (kf rfl)
  | true =>
    rw [c1] at kt kf
    refine ev_go 4 (fun _ => rfl) ?_
    refine ev_cNow (y' := 4) (As := [.int t]) (K' := now) rfl rfl rfl rfl rfl one_i (hK) (hK) (sp_hasTC xs _ now t) (Or.inr ⟨_, rfl⟩) ?_
    cases c2 : hasI t now.1.2.2.2.2.1 with
    | false =>
      rw [c2] at kf
      exact ev_go 1 (fun _ => rfl) (kf rfl)
    | true =>
      rw [c2] at kt kf
      refine ev_go 4 (fun _ => rfl) ?_
      refine ev_call (y' := 95) rfl rfl rfl rfl (sp_within xs d _ n 0 8) ?_
      cases c3 : wiI n 0 8 with
      | false =>
        rw [c3] at kf
        exact ev_go 1 (fun _ => rfl) (kf rfl)
      | true =>
        rw [c3] at kt kf
        refine ev_go 4 (fun _ => rfl) ?_
        refine ev_call (y' := 95) rfl rfl rfl rfl (sp_within xs d _ w 0 1) ?_
        cases c4 : wiI w 0 1 with
        | false =>
          rw [c4] at kf
          exact ev_go 1 (fun _ => rfl) (kf rfl)
        | true =>
          rw [c4] at kt
          exact ev_go 1 (fun _ => rfl) (kt rfl)
theorem sp_luck_bad (v t n w : Int32) (hK : now.2.2.length = 6) (c : lkC now v t n w = false) : Ev xs (d + 1) 80 0 [some (.ref 0), some (.int v), some (.int t), some (.int n), some (.int w)] [] (hCl now trial told im0 im1 p f r tr) (some (.long (-1))) (hCl now trial told im0 im1 p f r tr) :=
  st_luck xs d now trial told im0 im1 p f r tr v t n w hK _ _ (fun q => by rw [c] at q; cases q) (fun _ => ev_end 2 rfl)
theorem okT_cl {T : TT} (h : okT T) : ∃ i j : Nat, i < 5 ∧ j < 5 ∧ T.1 = nI i ∧ T.2.1 = nI j ∧ T.1.toNatClampNeg = i ∧ T.2.1.toNatClampNeg = j := by
  obtain ⟨i, j, h1, h2, h3, h4⟩ := h
  refine ⟨i, j, h1, h2, h3, h4, ?_, ?_⟩
  · rw [h3, nI_clamp (by omega)]
  · rw [h4, nI_clamp (by omega)]
/-- a call of a method of the Fog's own, which answers a long -/
theorem ev_fogL {y pc idx y' : Nat} {ls : ML} {st0 : List Value} {a : Int32} {x : Int64} {rs : Option Value} {h' : MH} (bh' : List TT) (hf : fetT y pc = some (.invokevirtual idx)) (hs : mm_stp fldT (prmT xs) (d + 1) y (.invokevirtual idx) pc ls (.int a :: .ref 59 :: st0) (hCl now trial told im0 im1 p f r tr) = none) (hm : mthT y idx = some (y', true)) (hk : (decide ((infT y').1 ≤ (Value.int a :: .ref 59 :: st0).length) && decide (mm_ct ((Value.int a :: .ref 59 :: st0).drop (infT y').1) ≤ 8) && decide ((mm_sl (((Value.int a :: .ref 59 :: st0).take (infT y').1).reverse)).length ≤ (infT y').2.1) && !(infT y').2.2.2.2 && Nat.beq (infT y').2.2.2.1 1) = true) (hst : ((Value.int a :: .ref 59 :: st0).take (infT y').1).reverse = [.ref 59, .int a]) (hdr : (Value.int a :: .ref 59 :: st0).drop (infT y').1 = st0) (hg : f.2.2.length = 9) (hb : bh'.length = 9)
    (hv : Ev xs d y' 0 (mm_en (infT y').2.1 [.ref 0, .int a]) [] (fgH 0 f) (some (.long x)) (fgH 0 (f.1, f.2.1, bh'))) (hr : Ev xs (d + 1) y (pc + 3) ls (.long x :: st0) (hCl now trial told im0 im1 p (f.1, f.2.1, bh') r tr) rs h') : Ev xs (d + 1) y pc ls (.int a :: .ref 59 :: st0) (hCl now trial told im0 im1 p f r tr) rs h' := by
  have x1 : exF f = f := exF_eq hg
  have x2 : exF (f.1, f.2.1, bh') = (f.1, f.2.1, bh') := exF_eq hb
  rw [dec_fog] at hs ⊢
  rw [dec_fog] at hr
  refine ev_callB (n := 59) (ci := 1) (L := 14) (hb' := fgH 0 (exF (f.1, f.2.1, bh'))) (r1 := some (.long x)) hf hs hm hk hst one_i rfl rfl rfl rfl rfl (by decide) rfl rfl ?_ rfl ?_
  · rw [x1, x2]
    exact hv
  · rw [hdr]
    exact hr
/-- allWays, called -/
theorem ev_all {y pc idx N : Nat} {ls : ML} {st0 : List Value} {h h' : MH} {rs : Option Value} (hf : fetT y pc = some (.invokestatic idx)) (hs : mm_stp fldT (prmT xs) (d + 1) y (.invokestatic idx) pc ls (.int (nI N) :: st0) h = none) (hm : mthT y idx = some (26, true)) (hk : Nat.ble (mm_ct st0) 8 = true) (hN : N < 2 ^ 31) (hr : Ev xs (d + 1) y (pc + 3) ls (.long (p10 N) :: st0) h rs h') : Ev xs (d + 1) y pc ls (.int (nI N) :: st0) h rs h' := by
  have hcal : mm_cal mthT infT false y idx (.int (nI N) :: st0) h = some (26, true) := by
    unfold mm_cal
    rw [hm]
    dsimp only
    have : mm_cok false (infT 26) (.int (nI N) :: st0) h = true := by
      show (decide (1 ≤ st0.length + 1) && decide (mm_ct st0 ≤ 8) && true && true) = true
      rw [decide_eq_true (Nat.le_of_ble_eq_true hk), decide_eq_true (by omega)]
      rfl
    rw [if_pos this]
  exact ev_callV (V := []) (hs := []) (hs' := []) (r1 := some (.long (p10 N))) (r2 := some (.long (p10 N))) hf rfl hs hcal rfl rfl rfl rfl (sp_all10 xs d [] N hN) rfl rfl hr
theorem sp_luck (B TN S t n : Nat) (v w : Int32) (hn : CG now B TN S) (ht : GS trial) (hg : fgOK f) (h0 : t < TN) (h1 : n ≤ 8) (cv : wiI v 0 10 = true) (cw : wiI w 0 1 = true) : ∃ (K' : CK) (f' : FP), GS K' ∧ fgOK f' ∧ Ev xs (d + 13) 80 0 [some (.ref 0), some (.int v), some (.int (nI t)), some (.int (nI n)), some (.int w)] [] (hCl now trial told im0 im1 p f r tr) (some (.long (partA (lkE (tryK now trial B TN S) B n t v f) (p10 n) w))) (hCl now K' told im0 im1 p f' r tr) := by
  have hT := CG_t hn ht
  have hTN := hn.1.2.2.2.2.2.1
  have aT := getT_at (l := (tryK now trial B TN S).2.2) (k := t) (by rw [CG6 hT]; omega)
  have hok : okT ((tryK now trial B TN S).2.2.getD t dT) := by
    refine hT.2.1.2.2.2.2.2.2.2 _ ?_
    have e2 : ((tryK now trial B TN S).2.2.take TN)[t]? = some ((tryK now trial B TN S).2.2.getD t dT) := by
      rw [List.getElem?_take_of_lt h0]
      exact aT
    exact List.mem_of_getElem? e2
  obtain ⟨i, j, hi, hj, e1, e2, e3, e4⟩ := okT_cl hok
  have hm := CG_mw n hT
  have hf := fW_ok (K := tryK now trial B TN S) (B := B) (i := i) (j := j) (T := (tryK now trial B TN S).2.2.getD t dT) (v := v) h1 hg
  obtain ⟨bh', b1, b2⟩ := sp_wE xs (d + (8 - n)) v ((tryK now trial B TN S).2.1.1.getD i 0) ((tryK now trial B TN S).2.1.1.getD j 0) (tryK now trial B TN S).1.2.1 (up (wtM (tryK now trial B TN S).1.1 B (tryK now trial B TN S).2.1.2.2.1 (ksK (tryK now trial B TN S)) (5 * i + j)) n f.2.1.1) (up (wtN (tryK now trial B TN S).1.1 B (tryK now trial B TN S).2.1.2.2.1 (ksK (tryK now trial B TN S)) i) n f.2.1.2.1) (up (wtN (tryK now trial B TN S).1.1 B (tryK now trial B TN S).2.1.2.2.1 (ksK (tryK now trial B TN S)) j) n f.2.1.2.2) n h1 hf.1 hf.2.1 hf.2.2.1 n 0 (by omega) (f.2.2.set 0 ((tryK now trial B TN S).2.2.getD t dT)) ((tryK now trial B TN S).2.2.getD t dT) hf.2.2.2 (List.getElem?_set_self (by rw [hg.2.2.2]; decide))
  rw [show d + (8 - n) + n + 4 = d + 12 by omega] at b2
  have hb9 : bh'.length = 9 := b1.1.trans hf.2.2.2
  refine ⟨mwK (tryK now trial B TN S) B n, ((fW (tryK now trial B TN S) B n i j ((tryK now trial B TN S).2.2.getD t dT) v f).1, (fW (tryK now trial B TN S) B n i j ((tryK now trial B TN S).2.2.getD t dT) v f).2.1, bh'), GS_CG hm, ⟨hf.1, hf.2.1, hf.2.2.1, hb9⟩, ?_⟩
  have c : lkC now v (nI t) (nI n) w = true := by
    unfold lkC
    rw [cv, cw, show wiI (nI n) 0 8 = true from wi_nI (M := 8) h1 (by decide), hn.1.2.2.1, has_nI (by omega) h0]
    rfl
  have elk : lkE (tryK now trial B TN S) B n t v f = wE v ((tryK now trial B TN S).2.1.1.getD i 0) ((tryK now trial B TN S).2.1.1.getD j 0) (tryK now trial B TN S).1.2.1 (up (wtM (tryK now trial B TN S).1.1 B (tryK now trial B TN S).2.1.2.2.1 (ksK (tryK now trial B TN S)) (5 * i + j)) n f.2.1.1) (up (wtN (tryK now trial B TN S).1.1 B (tryK now trial B TN S).2.1.2.2.1 (ksK (tryK now trial B TN S)) i) n f.2.1.2.1) (up (wtN (tryK now trial B TN S).1.1 B (tryK now trial B TN S).2.1.2.2.1 (ksK (tryK now trial B TN S)) j) n f.2.1.2.2) n 0 ((tryK now trial B TN S).2.2.getD t dT) := by
    unfold lkE
    rw [e3, e4]
  rw [elk]
  refine st_luck xs _ now trial told im0 im1 p f r tr v (nI t) (nI n) w (CG6 hn) _ _ (fun _ => ?_) (fun q => by rw [c] at q; cases q)
  refine ev_go 1 (fun _ => rfl) ?_
  refine ev_call (y' := 96) rfl rfl rfl rfl (sp_try xs _ now trial told im0 im1 p f r tr B TN S hn.1 ht.1) ?_
  refine ev_go 7 (fun _ => rfl) ?_
  refine ev_watch xs _ now (tryK now trial B TN S) told im0 im1 p f r tr B TN S n t i j ((tryK now trial B TN S).2.2.getD t dT) v rfl rfl rfl hT hg h1 (by omega) aT hi hj e1 e2 ?_
  refine ev_go 3 (fun _ => rfl) ?_
  refine ev_fogL xs _ now _ told im0 im1 p _ r tr (y' := 30) bh' rfl rfl rfl rfl rfl rfl hf.2.2.2 hb9 b2 ?_
  refine ev_go 1 (fun _ => rfl) ?_
  refine ev_all xs _ rfl rfl rfl rfl (by omega) ?_
  refine ev_go 1 (fun _ => rfl) ?_
  refine ev_call (y' := 100) rfl rfl rfl rfl (sp_part2 xs _ _ _ (p10 n) w) ?_
  exact ev_end 1 rfl
end CLS18

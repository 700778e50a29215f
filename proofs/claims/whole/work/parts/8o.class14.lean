/-! BargeTalks: isAsSeen, valuesAsSeen, kinds, paces -/
def okS (K : CK) (S : Nat) : Prop := ∀ i, i < S → ∃ n t v : Nat, n ≤ 20 ∧ t < 6 ∧ v ≤ 20 ∧ K.2.1.2.2.2.1.getD i 0 = nI n ∧ K.2.1.2.2.2.2.1.getD i 0 = nI t ∧ K.2.1.2.2.2.2.2.1.getD i 0 = nI v
/-- is one, are all as seen -/
def seB (f : Nat → Nat → Int32) (TN : Nat) (K : CK) (i : Nat) : Bool := decide (K.2.1.2.2.2.2.1.getD i 0 < nI TN) && decide (f (K.2.1.2.2.2.1.getD i 0).toNatClampNeg (K.2.1.2.2.2.2.1.getD i 0).toNatClampNeg = K.2.1.2.2.2.2.2.1.getD i 0)
def asQ (f : Nat → Nat → Int32) (TN : Nat) (K : CK) (m i : Nat) : Bool := match m with
  | 0 => true
  | m + 1 => seB f TN K i && asQ f TN K m (i + 1)
def vaS (A : Nat → Bool) (m v : Nat) (q : Int32) : Int32 := match m with
  | 0 => q
  | m + 1 => vaS A m (v + 1) (match A v with
    | true => q ||| (Int32.ofInt 1 <<< (nI v &&& 31))
    | false => q)
def rH (r : RS) (g : Nat → List Int32) : RS := (r.1, r.2.1, g, r.2.2.2)
theorem rH_self {r : RS} : rH r r.2.2.1 = r := rfl
theorem setH_rH {r : RS} {g : Nat → List Int32} {v : Nat} {l : List Int32} : setH (rH r g) v l = rH r (upF g v l) := rfl
section CLS15
variable (xs : List Int32) (d : Nat) (now trial told im0 im1 : CK) (p : TP) (f : FP) (r : RS) (tr : Int32)
theorem lp_seen (F : Nat → Nat → Int32) (v B TN S : Nat) (hv : v < 10) (hn : CN now B TN S) (hS : okS now S) (hR : tellR F TN 21 (r.2.2.1 v)) : ∀ m i, i + m = S → ∀ zz : Option Value, Ev xs d 104 2 [some (.ref 0), some (.ref (74 + v)), some (.int (nI i)), zz] [] (hCl now trial told im0 im1 p f r tr) (some (.int (bI (asQ F TN now m i)))) (hCl now trial told im0 im1 p f r tr) := by
  obtain ⟨hcl, eB, eT, eS, hB, hTN, hS6⟩ := hn
  have h6 : now.2.2.length = 6 := CL6 hcl
  obtain ⟨g1, g2, g3, g4, g5, g6, -⟩ := hcl
  intro m
  induction m with
  | zero =>
    intro i hi zz
    have e : i = S := by omega
    subst e
    refine ev_go 4 (fun _ => rfl) ?_
    refine ev_ic_ge rfl rfl (fun _ => ?_) (fun n => absurd (by show now.1.2.2.2.2.2.1 ≤ nI i; rw [eS]; exact nI_le (Nat.le_refl _) (by omega)) n)
    exact ev_end 2 rfl
  | succ m ih =>
    intro i hi zz
    obtain ⟨n, t, w, c1, c2, c3, e1, e2, e3⟩ := hS i (by omega)
    have ii : mm_ix (nI i) = some i := mm_ix_nI (by omega)
    have a1 := getD_at (l := now.2.1.2.2.2.1) (k := i) (by omega)
    have a2 := getD_at (l := now.2.1.2.2.2.2.1) (k := i) (by omega)
    have a3 := getD_at (l := now.2.1.2.2.2.2.2.1) (k := i) (by omega)
    rw [e1] at a1
    rw [e2] at a2
    rw [e3] at a3
    unfold asQ seB
    rw [e1, e2, e3, nI_clamp (by omega), nI_clamp (by omega)]
    refine ev_go 4 (fun _ => rfl) ?_
    refine ev_ic_ge rfl rfl (fun n => absurd n (by show ¬ now.1.2.2.2.2.2.1 ≤ nI i; rw [eS]; exact nI_ge (by omega) (by omega))) (fun _ => ?_)
    refine ev_go 4 (fun _ => rfl) ?_
    refine ev_iald rfl (at_now now trial told im0 im1 p f r tr 6 (by decide) h6) ii a2 ?_
    refine ev_go 5 (fun _ => rfl) ?_
    by_cases d1 : nI t < nI TN
    · rw [decide_eq_true d1]
      have d2 : t < TN := by
        rw [Int32.lt_iff_toInt_lt, nI_toInt (by omega), nI_toInt (by omega)] at d1
        omega
      refine ev_ic_ge rfl rfl (fun n => absurd n (by show ¬ now.1.2.2.2.2.1 ≤ nI t; rw [eT]; exact i32_lt_nle d1)) (fun _ => ?_)
      refine ev_go 5 (fun _ => rfl) ?_
      refine ev_iald rfl (at_now now trial told im0 im1 p f r tr 5 (by decide) h6) ii a1 ?_
      refine ev_go 4 (fun _ => rfl) ?_
      refine ev_iald rfl (at_heard now trial told im0 im1 p f r tr v hv) (ix6 (h := n) (t := t) (by omega)) (hR.2 n t (by omega) d2) ?_
      refine ev_go 4 (fun _ => rfl) ?_
      refine ev_iald rfl (at_now now trial told im0 im1 p f r tr 7 (by decide) h6) ii a3 ?_
      by_cases d3 : F n t = nI w
      · rw [decide_eq_true d3]
        refine ev_ic_eq rfl rfl (fun _ => ?_) (fun n => absurd (d3) n)
        refine ev_go 2 (ls' := [some (.ref 0), some (.ref (74 + v)), some (.int (nI i + Int32.ofInt 1)), some (.int (nI t))]) (fun _ => rfl) ?_
        rw [nI_inc]
        exact ih (i + 1) (by omega) _
      · rw [decide_eq_false d3]
        refine ev_ic_eq rfl rfl (fun n => absurd n (d3)) (fun _ => ?_)
        exact ev_end 2 rfl
    · rw [decide_eq_false d1]
      refine ev_ic_ge rfl rfl (fun _ => ?_) (fun n => absurd (by show now.1.2.2.2.2.1 ≤ nI t; rw [eT]; exact i32_nlt d1) n)
      exact ev_end 2 rfl
theorem sp_seen (F : Nat → Nat → Int32) (v B TN S : Nat) (hv : v < 10) (hn : CN now B TN S) (hS : okS now S) (hR : tellR F TN 21 (r.2.2.1 v)) : Ev xs d 104 0 [some (.ref 0), some (.ref (74 + v)), none, none] [] (hCl now trial told im0 im1 p f r tr) (some (.int (bI (asQ F TN now S 0)))) (hCl now trial told im0 im1 p f r tr) := by
  refine ev_go 2 (fun _ => rfl) ?_
  exact lp_seen xs d now trial told im0 im1 p f r tr F v B TN S hv hn hS hR S 0 (by omega) none
theorem lp_vas (F : Nat → Nat → Nat → Int32) (w b M B TN S : Nat) (hw : w ≤ 2) (hb : b < B) (hM : M < 10) (eM : moI now.1.1 (nI w) = nI M) (hn : CG now B TN S) (hS : okS now S) (hF : ∀ (v : Nat), v < 10 → ∀ (trial : CK), GS trial → ∀ h t, h ≤ 20 → t < TN → sdC (putK (tryK now trial B TN S) w b (nI v)) B TN h t = F v h t) : ∀ m v, v + m = M + 1 → ∀ (g : Nat → List Int32) (bits : Int32) (trial : CK), GS trial → (∀ v, v < 10 → (g v).length = 126) → ∃ (g' : Nat → List Int32) (K' : CK), GS K' ∧ (∀ v, v < 10 → (g' v).length = 126) ∧ (∀ v', v' < v → g' v' = g v') ∧ (∀ v', v ≤ v' → v' ≤ M → tellR (F v') TN 21 (g' v')) ∧ Ev xs (d + 5) 102 12 [some (.ref 0), some (.int (nI b)), some (.int (nI w)), some (.int bits), some (.int (nI v))] [] (hCl now trial told im0 im1 p f (rH r g) tr) (some (.int (vaS (fun v => asQ (F v) TN now S 0) m v bits))) (hCl now K' told im0 im1 p f (rH r g') tr) := by
  have hB := hn.1.2.2.2.2.1
  have hK := CG6 hn
  intro m
  induction m with
  | zero =>
    intro v hvv g bits trial ht hg
    refine ⟨g, trial, ht, hg, fun _ _ => rfl, fun v' c1 c2 => by omega, ?_⟩
    refine ev_go 4 (fun _ => rfl) ?_
    refine ev_cNow (y' := 8) (As := [.int (nI w)]) (K' := now) rfl rfl rfl rfl rfl one_i (hK) (hK) (sp_moC xs _ now (nI w)) (Or.inr ⟨_, rfl⟩) ?_
    rw [eM]
    refine ev_ic_gt rfl rfl (fun _ => ?_) (fun n => absurd (nI_lt (by omega) (by omega)) n)
    exact ev_end 2 rfl
  | succ m ih =>
    intro v hvv g bits trial ht hg
    have hv : v < 10 := by omega
    have hp := CG_put w b (nI v) (CG_t hn ht)
    obtain ⟨row, hrow, hlis⟩ := sp_listen xs d now (putK (tryK now trial B TN S) w b (nI v)) told im0 im1 p f (rH r g) tr v B TN S hv hp (hg v hv)
    have hrow2 : tellR (F v) TN 21 row := ⟨hrow.1, fun a c c1 c2 => by rw [hrow.2 a c c1 c2, hF v (by omega) trial ht a c (by omega) c2]⟩
    have hg2 : ∀ v', v' < 10 → (upF g v row v').length = 126 := fun v' c => by
      by_cases e : v' = v
      · subst e
        rw [upF_at]
        exact hrow.1
      · rw [upF_ne e]
        exact hg v' c
    have hseen := sp_seen xs (d + 4) now (itC (putK (tryK now trial B TN S) w b (nI v)) B TN 20) told im0 im1 p f (rH r (upF g v row)) tr (F v) v B TN S hv hn.1 hS (by show tellR _ _ _ (upF g v row v); rw [upF_at]; exact hrow2)
    have key : ∀ bits2, bits2 = (match asQ (F v) TN now S 0 with
        | true => bits ||| (Int32.ofInt 1 <<< (nI v &&& 31))
        | false => bits) → ∀ (r2 : Option Value) (R : MH), Ev xs (d + 5) 102 12 [some (.ref 0), some (.int (nI b)), some (.int (nI w)), some (.int bits2), some (.int (nI (v + 1)))] [] (hCl now (itC (putK (tryK now trial B TN S) w b (nI v)) B TN 20) told im0 im1 p f (rH r (upF g v row)) tr) r2 R → Ev xs (d + 5) 102 12 [some (.ref 0), some (.int (nI b)), some (.int (nI w)), some (.int bits), some (.int (nI v))] [] (hCl now trial told im0 im1 p f (rH r g) tr) r2 R := by
      intro bits2 hb2 r2 R hr
      refine ev_go 4 (fun _ => rfl) ?_
      refine ev_cNow (y' := 8) (As := [.int (nI w)]) (K' := now) rfl rfl rfl rfl rfl one_i (hK) (hK) (sp_moC xs _ now (nI w)) (Or.inr ⟨_, rfl⟩) ?_
      rw [eM]
      refine ev_ic_gt rfl rfl (fun n => absurd n (nI_nlt (by omega) (by omega))) (fun _ => ?_)
      refine ev_go 4 (fun _ => rfl) ?_
      refine ev_ic_ge rfl rfl (fun n => absurd n (nI_ge (a := v) (b := 10) (by omega) (by omega))) (fun _ => ?_)
      refine ev_go 1 (fun _ => rfl) ?_
      refine ev_call (y' := 96) rfl rfl rfl rfl (sp_try xs _ now trial told im0 im1 p f (rH r g) tr B TN S hn.1 ht.1) ?_
      refine ev_go 5 (fun _ => rfl) ?_
      refine ev_cTrial (y' := 10) (As := [.int (nI b), .int (nI w), .int (nI v)]) (K' := putK (tryK now trial B TN S) w b (nI v)) rfl rfl rfl rfl rfl three_i (CG6 (CG_t hn ht)) (CG6 hp) (sp_putC xs _ _ w b (nI v) (CG_t hn ht).1.1 hw (by omega)) (Or.inr ⟨_, rfl⟩) ?_
      refine ev_go 5 (fun _ => rfl) ?_
      refine ev_aald rfl (t := 200) (q := 74 + v) rfl (by decide) (mm_ix_nI (n := v) (by omega)) (heard_at v hv) ?_
      refine ev_call (y' := 103) rfl rfl rfl rfl (hlis) ?_
      refine ev_go 4 (fun _ => rfl) ?_
      refine ev_aald rfl (t := 200) (q := 74 + v) rfl (by decide) (mm_ix_nI (n := v) (by omega)) (heard_at v hv) ?_
      refine ev_call (y' := 104) rfl rfl rfl rfl (hseen) ?_
      cases ha : asQ (F v) TN now S 0 with
      | false =>
        rw [ha] at hb2
        rw [hb2] at hr
        refine ev_go 3 (ls' := [some (.ref 0), some (.int (nI b)), some (.int (nI w)), some (.int bits), some (.int (nI v + Int32.ofInt 1))]) (fun _ => rfl) ?_
        rw [nI_inc]
        exact hr
      | true =>
        rw [ha] at hb2
        rw [hb2] at hr
        refine ev_go 9 (ls' := [some (.ref 0), some (.int (nI b)), some (.int (nI w)), some (.int (bits ||| (Int32.ofInt 1 <<< (nI v &&& 31)))), some (.int (nI v + Int32.ofInt 1))]) (fun _ => rfl) ?_
        rw [nI_inc]
        exact hr
    obtain ⟨g', K', q1, q2, q3, q4, q5⟩ := ih (v + 1) (by omega) (upF g v row) _ (itC (putK (tryK now trial B TN S) w b (nI v)) B TN 20) (GS_CG (CG_it 20 hp)) hg2
    refine ⟨g', K', q1, q2, fun v' c => ?_, fun v' c1 c2 => ?_, key _ rfl _ _ q5⟩
    · rw [q3 v' (by omega), upF_ne (by omega)]
    · by_cases e : v' = v
      · subst e
        rw [q3 v' (by omega), upF_at]
        exact hrow2
      · exact q4 v' (by omega) c2
theorem sp_vas (F : Nat → Nat → Nat → Int32) (w b L M B TN S : Nat) (hw : w ≤ 2) (hb : b < B) (hM : M < 10) (hL : L ≤ M) (eM : moI now.1.1 (nI w) = nI M) (eL : leI (nI w) = nI L) (hn : CG now B TN S) (hS : okS now S) (ht : GS trial) (hg : ∀ v, v < 10 → (r.2.2.1 v).length = 126) (hF : ∀ (v : Nat), v < 10 → ∀ (trial : CK), GS trial → ∀ h t, h ≤ 20 → t < TN → sdC (putK (tryK now trial B TN S) w b (nI v)) B TN h t = F v h t) : ∃ (g' : Nat → List Int32) (K' : CK), GS K' ∧ (∀ v, v < 10 → (g' v).length = 126) ∧ (∀ v', L ≤ v' → v' ≤ M → tellR (F v') TN 21 (g' v')) ∧ Ev xs (d + 5) 102 0 [some (.ref 0), some (.int (nI b)), some (.int (nI w)), none, none] [] (hCl now trial told im0 im1 p f r tr) (some (.int (vaS (fun v => asQ (F v) TN now S 0) (M + 1 - L) L 0))) (hCl now K' told im0 im1 p f (rH r g') tr) := by
  have hK := CG6 hn
  obtain ⟨g', K', q1, q2, q3, q4, q5⟩ := lp_vas xs d now told im0 im1 p f r tr F w b M B TN S hw hb hM eM hn hS hF (M + 1 - L) L (by omega) r.2.2.1 0 trial ht hg
  refine ⟨g', K', q1, q2, q4, ?_⟩
  refine ev_go 5 (fun _ => rfl) ?_
  refine ev_cNow (y' := 7) (As := [.int (nI w)]) (K' := now) rfl rfl rfl rfl rfl one_i (hK) (hK) (sp_leC xs _ now (nI w)) (Or.inr ⟨_, rfl⟩) ?_
  rw [eL]
  refine ev_go 1 (fun _ => rfl) ?_
  exact q5
theorem sp_kinds_bad (b : Int32) (hK : now.2.2.length = 6) (c : hasI b now.1.2.2.2.1 = false) : Ev xs (d + 1) 84 0 [some (.ref 0), some (.int b)] [] (hCl now trial told im0 im1 p f r tr) (some (.int (-1))) (hCl now trial told im0 im1 p f r tr) := by
  refine ev_go 3 (fun _ => rfl) ?_
  refine ev_cNow (y' := 3) (As := [.int b]) (K' := now) rfl rfl rfl rfl rfl one_i (hK) (hK) (sp_hasBC xs _ now b) (Or.inr ⟨_, rfl⟩) ?_
  rw [c]
  exact ev_end 3 rfl
theorem sp_paces_bad (b : Int32) (hK : now.2.2.length = 6) (c : hasI b now.1.2.2.2.1 = false) : Ev xs (d + 1) 85 0 [some (.ref 0), some (.int b)] [] (hCl now trial told im0 im1 p f r tr) (some (.int (-1))) (hCl now trial told im0 im1 p f r tr) := by
  refine ev_go 3 (fun _ => rfl) ?_
  refine ev_cNow (y' := 3) (As := [.int b]) (K' := now) rfl rfl rfl rfl rfl one_i (hK) (hK) (sp_hasBC xs _ now b) (Or.inr ⟨_, rfl⟩) ?_
  rw [c]
  exact ev_end 3 rfl
theorem sp_kinds (F : Nat → Nat → Nat → Int32) (b B TN S : Nat) (hb : b < B) (hn : CG now B TN S) (hS : okS now S) (ht : GS trial) (hg : ∀ v, v < 10 → (r.2.2.1 v).length = 126) (hF : ∀ (v : Nat), v < 10 → ∀ (trial : CK), GS trial → ∀ h t, h ≤ 20 → t < TN → sdC (putK (tryK now trial B TN S) 0 b (nI v)) B TN h t = F v h t) : ∃ (g' : Nat → List Int32) (K' : CK), GS K' ∧ (∀ v, v < 10 → (g' v).length = 126) ∧ Ev xs (d + 6) 84 0 [some (.ref 0), some (.int (nI b))] [] (hCl now trial told im0 im1 p f r tr) (some (.int (vaS (fun v => asQ (F v) TN now S 0) 4 0 0))) (hCl now K' told im0 im1 p f (rH r g') tr) := by
  have hK := CG6 hn
  have hB := hn.1.2.2.2.2.1
  obtain ⟨g', K', q1, q2, q3, q4⟩ := sp_vas xs d now trial told im0 im1 p f r tr F 0 b 0 3 B TN S (by omega) hb (by omega) (by omega) rfl rfl hn hS ht hg hF
  refine ⟨g', K', q1, q2, ?_⟩
  refine ev_go 3 (fun _ => rfl) ?_
  refine ev_cNow (y' := 3) (As := [.int (nI b)]) (K' := now) rfl rfl rfl rfl rfl one_i (hK) (hK) (sp_hasBC xs _ now (nI b)) (Or.inr ⟨_, rfl⟩) ?_
  rw [show hasI (nI b) now.1.2.2.2.1 = true by rw [hn.1.2.1]; exact has_nI (by omega) hb]
  refine ev_go 4 (fun _ => rfl) ?_
  refine ev_call (y' := 102) rfl rfl rfl rfl (q4) ?_
  exact ev_end 1 rfl
theorem sp_paces2 (F : Nat → Nat → Nat → Int32) (b B TN S : Nat) (hb : b < B) (hn : CG now B TN S) (hS : okS now S) (ht : GS trial) (hg : ∀ v, v < 10 → (r.2.2.1 v).length = 126) (hF : ∀ (v : Nat), v < 10 → ∀ (trial : CK), GS trial → ∀ h t, h ≤ 20 → t < TN → sdC (putK (tryK now trial B TN S) 2 b (nI v)) B TN h t = F v h t) : ∃ (g' : Nat → List Int32) (K' : CK), GS K' ∧ (∀ v, v < 10 → (g' v).length = 126) ∧ Ev xs (d + 6) 85 0 [some (.ref 0), some (.int (nI b))] [] (hCl now trial told im0 im1 p f r tr) (some (.int (vaS (fun v => asQ (F v) TN now S 0) 9 1 0))) (hCl now K' told im0 im1 p f (rH r g') tr) := by
  have hK := CG6 hn
  have hB := hn.1.2.2.2.2.1
  obtain ⟨g', K', q1, q2, q3, q4⟩ := sp_vas xs d now trial told im0 im1 p f r tr F 2 b 1 9 B TN S (by omega) hb (by omega) (by omega) rfl rfl hn hS ht hg hF
  refine ⟨g', K', q1, q2, ?_⟩
  refine ev_go 3 (fun _ => rfl) ?_
  refine ev_cNow (y' := 3) (As := [.int (nI b)]) (K' := now) rfl rfl rfl rfl rfl one_i (hK) (hK) (sp_hasBC xs _ now (nI b)) (Or.inr ⟨_, rfl⟩) ?_
  rw [show hasI (nI b) now.1.2.2.2.1 = true by rw [hn.1.2.1]; exact has_nI (by omega) hb]
  refine ev_go 4 (fun _ => rfl) ?_
  refine ev_call (y' := 102) rfl rfl rfl rfl (q4) ?_
  exact ev_end 1 rfl
end CLS15

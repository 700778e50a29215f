/-! The reference reads its text: bodies of lines -/
def rdS (D : Nat → Nat) (L : Nat) (hc hm : Bool) (hi : Int32) (r : PF ⊕ Nat) (q : PZ) : Prop := match r with
  | .inl f => fOK f ∧ ∃ (po be so va : Int32), q = (hc, hm, hi, nI L, po, be, so, va, nI f.1, nI f.2)
  | .inr e => e ≤ L ∧ tokS D L e hc hm hi q
def pNS (D : Nat → Nat) (L : Nat) (r : PF ⊕ Nat) (lo mo : Nat) (nt : Option Nat) : PF ⊕ (Nat × Nat) := match r with
  | .inl f => .inl f
  | .inr e => pNum D L e lo mo nt
def pPo (w : PF ⊕ (Nat × Nat)) : PF ⊕ Nat := match w with
  | .inl f => .inl f
  | .inr (_, e) => .inr e
def valI (w : PF ⊕ (Nat × Nat)) : Int32 := match w with
  | .inl _ => 0
  | .inr (v, _) => nI v
theorem rdS_ft {D : Nat → Nat} {L : Nat} {hc hm : Bool} {hi : Int32} {r : PF ⊕ Nat} {q : PZ} (h : rdS D L hc hm hi r q) : ∃ (tl : Int32 × Int32 × Int32 × Int32 × Int32 × Int32 × Int32), q = (hc, hm, hi, tl) ∧ ∀ (hc' hm' : Bool) (hi' : Int32), rdS D L hc' hm' hi' r (hc', hm', hi', tl) := by
  cases r with
  | inl f =>
    obtain ⟨h1, po, be, so, va, e⟩ := h
    exact ⟨_, e, fun hc' hm' hi' => ⟨h1, po, be, so, va, rfl⟩⟩
  | inr e =>
    obtain ⟨h1, h2⟩ := h
    unfold tokS at h2
    cases ht : pTok D L e with
    | inl f =>
      rw [ht] at h2
      obtain ⟨po, be, so, va, e2⟩ := h2
      refine ⟨_, e2, fun hc' hm' hi' => ⟨h1, ?_⟩⟩
      unfold tokS
      rw [ht]
      exact ⟨po, be, so, va, rfl⟩
    | inr w =>
      obtain ⟨k, p, e3⟩ := w
      rw [ht] at h2
      obtain ⟨va, wr, e2, hv⟩ := h2
      refine ⟨_, e2, fun hc' hm' hi' => ⟨h1, ?_⟩⟩
      unfold tokS
      rw [ht]
      exact ⟨va, wr, rfl, hv⟩
section MB
variable (xs : List Int32) (d : Nat) (z : ZT) (nw eb wa ms mt : List Int32) (cc : C4) (D : Nat → Nat) (L : Nat) (hc hm : Bool) (hi : Int32)
theorem sp_mS (hD : byD D L z.2.2.2.2.2.2.2.1) (r : PF ⊕ Nat) (lo mo : Nat) (nt : Option Nat) (ntv : Int32) (hlo : lo ≤ 99) (hmo : mo ≤ 99) (hnt : ∀ a, nt = some a → a ≤ 99) (hnv : ∀ e, r = .inr e → ntv = ntI nt) (q : PZ) (hq : rdS D L hc hm hi r q) (dr : List Int32) : ∃ q' : PZ, rdS D L hc hm hi (pPo (pNS D L r lo mo nt)) q' ∧ Ev xs (d + 3) 123 0 [some (.ref 0), some (.int (nI lo)), some (.int (nI mo)), some (.int ntv), none] [] (mH (zR z q dr) nw eb wa ms mt cc) (some (.int (valI (pNS D L r lo mo nt)))) (mH (zR z q' dr) nw eb wa ms mt cc) := by
  have hL := hD.1
  cases r with
  | inl f =>
    obtain ⟨h1, po, be, so, va, e⟩ := hq
    subst e
    have h0 : ¬ nI f.1 = 0 := nI_ne0 (Nat.pos_of_ne_zero h1.1) (by have := h1.2.1; omega)
    have h2 : 0 < nI f.1 := nI_lt (a := 0) (Nat.pos_of_ne_zero h1.1) (by have := h1.2.1; omega)
    exact ⟨_, ⟨h1, po, be, so, va, rfl⟩, sp_mnf xs _ z nw eb wa ms mt cc hc hm hi dr (nI lo) (nI mo) ntv (nI L) po be so va (nI f.1) (nI f.2) h2 h0⟩
  | inr e =>
    obtain ⟨h1, h2⟩ := hq
    rw [hnv e rfl]
    obtain ⟨x, q', a1, a2⟩ := sp_mnum xs d z nw eb wa ms mt cc D L hc hm hi hD e lo mo nt hlo hmo hnt h1 q h2 dr
    show ∃ q' : PZ, rdS D L hc hm hi (pPo (pNum D L e lo mo nt)) q' ∧ Ev xs (d + 3) 123 0 _ _ _ (some (.int (valI (pNum D L e lo mo nt)))) _
    cases hp : pNum D L e lo mo nt with
    | inl f =>
      rw [hp] at a1
      obtain ⟨e1, a3⟩ := a1
      subst e1
      exact ⟨q', ⟨num_ft D L hL h1 hp, a3⟩, a2⟩
    | inr w =>
      obtain ⟨v, e2⟩ := w
      rw [hp] at a1
      obtain ⟨e1, a3⟩ := a1
      subst e1
      exact ⟨q', ⟨(pNum_b h1 hp).2.1, a3⟩, a2⟩
def zT10 : TT := (0, 0, 0, 0, 0, false, 0, 0, 0, 0)
def repM (K : CK) (s : PS) : Prop := rep K s ∧ ∀ t, s.2.2.2.length ≤ t → t < 6 → K.2.2[t]? = some zT10
theorem ix30 {b : Nat} (h : 3 + 3 * b + 0 < 2 ^ 31) : mm_ix (Int32.ofInt 3 + Int32.ofInt 3 * nI b + Int32.ofInt 0) = some (3 + 3 * b + 0) := ix3 (w := 0) h
def hdr (z : ZT) (q : PZ) (K : CK) (nw eb wa ms mt : List Int32) (cc : C4) : MH := mH (zR z q (flK K)) nw eb wa ms mt cc
theorem CL_put {K : CK} {w b : Nat} {v : Int32} (h : CL K) : CL (putK K w b v) := by
  obtain ⟨h1, h2, h3, h4⟩ := h
  match w with
  | 0 => exact ⟨List.length_set.trans h1, h2, h3, h4⟩
  | 1 => exact ⟨h1, List.length_set.trans h2, h3, h4⟩
  | n + 2 => exact ⟨h1, h2, List.length_set.trans h3, h4⟩
theorem sp_mbar (hD : byD D L z.2.2.2.2.2.2.2.1) (k B : Nat) (r : PF ⊕ Nat) (q : PZ) (hq : rdS D L hc hm hi r q) (Kd : CK) (hK : CL Kd) (eB : Kd.1.2.2.2.1 = nI B) (hB : B < 5) : ∃ q' : PZ, rdS D L hc hm hi (pPo (pNS D L (pPo (pNS D L r 0 39 none)) 1 9 none)) q' ∧ Ev xs (d + 4) 125 0 [some (.ref 0), some (.int (nI k)), none] [] (mH (zR z q (flK Kd)) nw eb wa ms mt cc) none (mH (zR z q' (flK (addBK Kd B (nI k) (valI (pNS D L r 0 39 none)) (valI (pNS D L (pPo (pNS D L r 0 39 none)) 1 9 none))))) nw eb wa ms mt cc) := by
  obtain ⟨q1, a1, a2⟩ := sp_mS xs d z nw eb wa ms mt cc D L hc hm hi hD r 0 39 none (-4) (by decide) (by decide) (fun a w => by cases w) (fun _ _ => rfl) q hq (flK (putK Kd 0 B (nI k)))
  obtain ⟨q2, a3, a4⟩ := sp_mS xs d z nw eb wa ms mt cc D L hc hm hi hD (pPo (pNS D L r 0 39 none)) 1 9 none (-4) (by decide) (by decide) (fun a w => by cases w) (fun _ _ => rfl) q1 a1 (flK (putK (putK Kd 0 B (nI k)) 1 B (valI (pNS D L r 0 39 none))))
  generalize valI (pNS D L r 0 39 none) = x1 at a2 a4 ⊢
  generalize valI (pNS D L (pPo (pNS D L r 0 39 none)) 1 9 none) = x2 at a4 ⊢
  refine ⟨q2, a3, ?_⟩
  have fin : (flK (putK (putK (putK Kd 0 B (nI k)) 1 B x1) 2 B x2)).set 18 (nI B + Int32.ofInt 1) = flK (addBK Kd B (nI k) x1 x2) := by
    rw [fs_18, nI_inc]
    rfl
  have e18 : (flK (putK (putK (putK Kd 0 B (nI k)) 1 B x1) 2 B x2))[18]? = some (nI B) := by
    rw [fq_18]
    exact congrArg some eB
  refine ev_go 5 (fun _ => rfl) ?_
  refine ev_iald rfl (L := flK Kd) rfl (k := 18) rfl fq_18 ?_
  rw [eB]
  refine ev_go 9 (fun _ => rfl) ?_
  refine ev_iastE rfl (L := flK Kd) (h2 := mH (zR z q (flK (putK Kd 0 B (nI k)))) nw eb wa ms mt cc) rfl (ix30 (by omega)) (by rw [flK_len]; omega) (congrArg (fun l => mH (zR z q l) nw eb wa ms mt cc) (fs_B hK hB (by decide))) ?_
  refine ev_go 9 (fun _ => rfl) ?_
  refine ev_call (y' := 123) rfl rfl rfl rfl (a2) ?_
  refine ev_iastE rfl (L := flK (putK Kd 0 B (nI k))) (h2 := mH (zR z q1 (flK (putK (putK Kd 0 B (nI k)) 1 B x1))) nw eb wa ms mt cc) rfl (ix31 (by omega)) (by rw [flK_len]; omega) (congrArg (fun l => mH (zR z q1 l) nw eb wa ms mt cc) (fs_B (K := putK Kd 0 B (nI k)) (b := B) (w := 1) (v := x1) (CL_put hK) hB (by decide))) ?_
  refine ev_go 9 (fun _ => rfl) ?_
  refine ev_call (y' := 123) rfl rfl rfl rfl (a4) ?_
  refine ev_iastE rfl (L := flK (putK (putK Kd 0 B (nI k)) 1 B x1)) (h2 := mH (zR z q2 (flK (putK (putK (putK Kd 0 B (nI k)) 1 B x1) 2 B x2))) nw eb wa ms mt cc) rfl (ix32 (by omega)) (by rw [flK_len]; omega) (congrArg (fun l => mH (zR z q2 l) nw eb wa ms mt cc) (fs_B (K := putK (putK Kd 0 B (nI k)) 1 B x1) (b := B) (w := 2) (v := x2) (CL_put (CL_put hK)) hB (by decide))) ?_
  refine ev_go 4 (fun _ => rfl) ?_
  refine ev_iald rfl (L := flK (putK (putK (putK Kd 0 B (nI k)) 1 B x1) 2 B x2)) rfl (k := 18) rfl e18 ?_
  refine ev_go 2 (fun _ => rfl) ?_
  refine ev_iastE rfl (L := flK (putK (putK (putK Kd 0 B (nI k)) 1 B x1) 2 B x2)) (h2 := mH (zR z q2 (flK (addBK Kd B (nI k) x1 x2))) nw eb wa ms mt cc) rfl (k := 18) rfl (by rw [flK_len]; decide) (congrArg (fun l => mH (zR z q2 l) nw eb wa ms mt cc) fin) ?_
  exact ev_end 1 rfl
def hiN (hi x : Int32) : Int32 := if x ≤ hi then hi else x
theorem sp_mtlk (hD : byD D L z.2.2.2.2.2.2.2.1) (t : Nat) (r : PF ⊕ Nat) (q : PZ) (hq : rdS D L hc hm hi r q) (Kd : CK) (hK : CL Kd) (eT : Kd.1.2.2.2.2.1 = nI t) (ht : t < 6) (hz : Kd.2.2[t]? = some zT10) (nt2 : Option Nat) (hnt2 : ∀ a, nt2 = some a → a ≤ 99) (hnv2 : ∀ e, pPo (pNS D L r 0 4 none) = .inr e → valI (pNS D L r 0 4 none) = ntI nt2) : ∃ q' : PZ, rdS D L hc hm (hiN (hiN hi (valI (pNS D L r 0 4 none))) (valI (pNS D L (pPo (pNS D L r 0 4 none)) 0 4 nt2))) (pPo (pNS D L (pPo (pNS D L (pPo (pNS D L r 0 4 none)) 0 4 nt2)) 1 20 none)) q' ∧ Ev xs (d + 4) 124 0 [some (.ref 0), none] [] (mH (zR z q (flK Kd)) nw eb wa ms mt cc) none (mH (zR z q' (flK (addTK Kd t (valI (pNS D L r 0 4 none)) (valI (pNS D L (pPo (pNS D L r 0 4 none)) 0 4 nt2)) (valI (pNS D L (pPo (pNS D L (pPo (pNS D L r 0 4 none)) 0 4 nt2)) 1 20 none))))) nw eb wa ms mt cc) := by
  obtain ⟨q1, a1, a2⟩ := sp_mS xs d z nw eb wa ms mt cc D L hc hm hi hD r 0 4 none (-4) (by decide) (by decide) (fun a w => by cases w) (fun _ _ => rfl) q hq (flK Kd)
  obtain ⟨q2, a3, a4⟩ := sp_mS xs d z nw eb wa ms mt cc D L hc hm hi hD (pPo (pNS D L r 0 4 none)) 0 4 nt2 (valI (pNS D L r 0 4 none)) (by decide) (by decide) hnt2 hnv2 q1 a1 (flK (setR Kd t (valI (pNS D L r 0 4 none), 0, 0, 0, 0, false, 0, 0, 0, 0)))
  obtain ⟨q3, a5, a6⟩ := sp_mS xs d z nw eb wa ms mt cc D L hc hm hi hD (pPo (pNS D L (pPo (pNS D L r 0 4 none)) 0 4 nt2)) 1 20 none (-4) (by decide) (by decide) (fun a w => by cases w) (fun _ _ => rfl) q2 a3 (flK (setR Kd t (valI (pNS D L r 0 4 none), valI (pNS D L (pPo (pNS D L r 0 4 none)) 0 4 nt2), 0, 0, 0, false, 0, 0, 0, 0)))
  generalize valI (pNS D L (pPo (pNS D L (pPo (pNS D L r 0 4 none)) 0 4 nt2)) 1 20 none) = x3 at a6 ⊢
  generalize valI (pNS D L (pPo (pNS D L r 0 4 none)) 0 4 nt2) = x2 at a4 a6 ⊢
  generalize valI (pNS D L r 0 4 none) = x1 at a2 a4 a6 ⊢
  obtain ⟨tl, e3, hall⟩ := rdS_ft a5
  subst e3
  obtain ⟨t1, t2, t3, t4, t5, t6, t7⟩ := tl
  refine ⟨_, hall hc hm (hiN (hiN hi x1) x2), ?_⟩
  have hl : t < Kd.2.2.length := (List.getElem?_eq_some_iff.mp hz).1
  have s1 : (flK Kd).set (19 + 8 * t + 0) x1 = flK (setR Kd t (x1, 0, 0, 0, 0, false, 0, 0, 0, 0)) := fs_T hz ht (by decide) rfl
  have s2 : (flK (setR Kd t (x1, 0, 0, 0, 0, false, 0, 0, 0, 0))).set (19 + 8 * t + 1) x2 = flK (setR Kd t (x1, x2, 0, 0, 0, false, 0, 0, 0, 0)) := by
    rw [fs_T (setR_at hl) ht (by decide) (T' := (x1, x2, 0, 0, 0, false, 0, 0, 0, 0)) rfl, setR_R]
  have s3 : (flK (setR Kd t (x1, x2, 0, 0, 0, false, 0, 0, 0, 0))).set (19 + 8 * t + 2) x3 = flK (setR Kd t (x1, x2, x3, 0, 0, false, 0, 0, 0, 0)) := by
    rw [fs_T (setR_at hl) ht (by decide) (T' := (x1, x2, x3, 0, 0, false, 0, 0, 0, 0)) rfl, setR_R]
  have g1 : (flK (setR Kd t (x1, 0, 0, 0, 0, false, 0, 0, 0, 0)))[19 + 8 * t + 0]? = some x1 := (fq_T (setR_at hl) ht (by decide)).trans rfl
  have g3 : (flK (setR Kd t (x1, x2, x3, 0, 0, false, 0, 0, 0, 0)))[19 + 8 * t + 0]? = some x1 := (fq_T (setR_at hl) ht (by decide)).trans rfl
  have g4 : (flK (setR Kd t (x1, x2, x3, 0, 0, false, 0, 0, 0, 0)))[19 + 8 * t + 1]? = some x2 := (fq_T (setR_at hl) ht (by decide)).trans rfl
  have e67 : (flK (setR Kd t (x1, x2, x3, 0, 0, false, 0, 0, 0, 0)))[67]? = some (nI t) := by
    rw [fq_67]
    exact congrArg some eT
  have fin : (flK (setR Kd t (x1, x2, x3, 0, 0, false, 0, 0, 0, 0))).set 67 (nI t + Int32.ofInt 1) = flK (addTK Kd t x1 x2 x3) := by
    rw [fs_67, nI_inc]
    rfl
  have tail : ∀ h2 : Int32, Ev xs (d + 4) 124 137 [some (.ref 0), some (.int (nI (19 + 8 * t)))] [] (mH (zR z (hc, hm, h2, t1, t2, t3, t4, t5, t6, t7) (flK (setR Kd t (x1, x2, x3, 0, 0, false, 0, 0, 0, 0)))) nw eb wa ms mt cc) none (mH (zR z (hc, hm, h2, t1, t2, t3, t4, t5, t6, t7) (flK (addTK Kd t x1 x2 x3))) nw eb wa ms mt cc) := by
    intro h2
    refine ev_go 4 (fun _ => rfl) ?_
    refine ev_iald rfl (L := flK (setR Kd t (x1, x2, x3, 0, 0, false, 0, 0, 0, 0))) rfl (k := 67) rfl e67 ?_
    refine ev_go 2 (fun _ => rfl) ?_
    refine ev_iastE rfl (L := flK (setR Kd t (x1, x2, x3, 0, 0, false, 0, 0, 0, 0))) (h2 := mH (zR z (hc, hm, h2, t1, t2, t3, t4, t5, t6, t7) (flK (addTK Kd t x1 x2 x3))) nw eb wa ms mt cc) rfl (k := 67) rfl (by rw [flK_len]; decide) (congrArg (fun l => mH (zR z (hc, hm, h2, t1, t2, t3, t4, t5, t6, t7) l) nw eb wa ms mt cc) fin) ?_
    exact ev_end 1 rfl
  have tail2 : ∀ h1 : Int32, Ev xs (d + 4) 124 103 [some (.ref 0), some (.int (nI (19 + 8 * t)))] [] (mH (zR z (hc, hm, h1, t1, t2, t3, t4, t5, t6, t7) (flK (setR Kd t (x1, x2, x3, 0, 0, false, 0, 0, 0, 0)))) nw eb wa ms mt cc) none (mH (zR z (hc, hm, hiN h1 x2, t1, t2, t3, t4, t5, t6, t7) (flK (addTK Kd t x1 x2 x3))) nw eb wa ms mt cc) := by
    intro h1
    unfold hiN
    refine ev_go 6 (fun _ => rfl) ?_
    refine ev_iald rfl (L := flK (setR Kd t (x1, x2, x3, 0, 0, false, 0, 0, 0, 0))) rfl (ixa (c := 19 + 8 * t) (k := 1) (by omega)) g4 ?_
    refine ev_go 2 (fun _ => rfl) ?_
    by_cases c : x2 ≤ h1
    · rw [if_pos c]
      refine ev_ic_le rfl rfl (fun _ => ?_) (fun n => absurd (c) n)
      refine ev_go 3 (h1 := mH (zR z (hc, hm, h1, t1, t2, t3, t4, t5, t6, t7) (flK (setR Kd t (x1, x2, x3, 0, 0, false, 0, 0, 0, 0)))) nw eb wa ms mt cc) (fun _ => rfl) ?_
      exact tail h1
    · rw [if_neg c]
      refine ev_ic_le rfl rfl (fun n => absurd n (c)) (fun _ => ?_)
      refine ev_go 5 (fun _ => rfl) ?_
      refine ev_iald rfl (L := flK (setR Kd t (x1, x2, x3, 0, 0, false, 0, 0, 0, 0))) rfl (ixa (c := 19 + 8 * t) (k := 1) (by omega)) g4 ?_
      refine ev_go 2 (h1 := mH (zR z (hc, hm, x2, t1, t2, t3, t4, t5, t6, t7) (flK (setR Kd t (x1, x2, x3, 0, 0, false, 0, 0, 0, 0)))) nw eb wa ms mt cc) (fun _ => rfl) ?_
      exact tail x2
  refine ev_go 5 (fun _ => rfl) ?_
  refine ev_iald rfl (L := flK Kd) rfl (k := 67) rfl fq_67 ?_
  rw [eT]
  refine ev_go 12 (ls' := [some (.ref 0), some (.int ((Int8.ofInt 19).toInt32 + (Int8.ofInt 8).toInt32 * nI t))]) (fun _ => rfl) ?_
  rw [ix19 (by omega)]
  refine ev_call (y' := 123) rfl rfl rfl rfl (a2) ?_
  refine ev_iastE rfl (L := flK Kd) (h2 := mH (zR z q1 (flK (setR Kd t (x1, 0, 0, 0, 0, false, 0, 0, 0, 0)))) nw eb wa ms mt cc) rfl (ixa (c := 19 + 8 * t) (k := 0) (by omega)) (by rw [flK_len]; omega) (congrArg (fun l => mH (zR z q1 l) nw eb wa ms mt cc) s1) ?_
  refine ev_go 13 (fun _ => rfl) ?_
  refine ev_iald rfl (L := flK (setR Kd t (x1, 0, 0, 0, 0, false, 0, 0, 0, 0))) rfl (ixa (c := 19 + 8 * t) (k := 0) (by omega)) g1 ?_
  refine ev_call (y' := 123) rfl rfl rfl rfl (a4) ?_
  refine ev_iastE rfl (L := flK (setR Kd t (x1, 0, 0, 0, 0, false, 0, 0, 0, 0))) (h2 := mH (zR z q2 (flK (setR Kd t (x1, x2, 0, 0, 0, false, 0, 0, 0, 0)))) nw eb wa ms mt cc) rfl (ixa (c := 19 + 8 * t) (k := 1) (by omega)) (by rw [flK_len]; omega) (congrArg (fun l => mH (zR z q2 l) nw eb wa ms mt cc) s2) ?_
  refine ev_go 9 (fun _ => rfl) ?_
  refine ev_call (y' := 123) rfl rfl rfl rfl (a6) ?_
  refine ev_iastE rfl (L := flK (setR Kd t (x1, x2, 0, 0, 0, false, 0, 0, 0, 0))) (h2 := mH (zR z (hc, hm, hi, t1, t2, t3, t4, t5, t6, t7) (flK (setR Kd t (x1, x2, x3, 0, 0, false, 0, 0, 0, 0)))) nw eb wa ms mt cc) rfl (ixa (c := 19 + 8 * t) (k := 2) (by omega)) (by rw [flK_len]; omega) (congrArg (fun l => mH (zR z (hc, hm, hi, t1, t2, t3, t4, t5, t6, t7) l) nw eb wa ms mt cc) s3) ?_
  refine ev_go 6 (fun _ => rfl) ?_
  refine ev_iald rfl (L := flK (setR Kd t (x1, x2, x3, 0, 0, false, 0, 0, 0, 0))) rfl (ixa (c := 19 + 8 * t) (k := 0) (by omega)) g3 ?_
  refine ev_go 2 (fun _ => rfl) ?_
  unfold hiN at tail2 ⊢
  by_cases c : x1 ≤ hi
  · rw [if_pos c]
    refine ev_ic_le rfl rfl (fun _ => ?_) (fun n => absurd (c) n)
    refine ev_go 3 (h1 := mH (zR z (hc, hm, hi, t1, t2, t3, t4, t5, t6, t7) (flK (setR Kd t (x1, x2, x3, 0, 0, false, 0, 0, 0, 0)))) nw eb wa ms mt cc) (fun _ => rfl) ?_
    exact tail2 hi
  · rw [if_neg c]
    refine ev_ic_le rfl rfl (fun n => absurd n (c)) (fun _ => ?_)
    refine ev_go 5 (fun _ => rfl) ?_
    refine ev_iald rfl (L := flK (setR Kd t (x1, x2, x3, 0, 0, false, 0, 0, 0, 0))) rfl (ixa (c := 19 + 8 * t) (k := 0) (by omega)) g3 ?_
    refine ev_go 2 (h1 := mH (zR z (hc, hm, x1, t1, t2, t3, t4, t5, t6, t7) (flK (setR Kd t (x1, x2, x3, 0, 0, false, 0, 0, 0, 0)))) nw eb wa ms mt cc) (fun _ => rfl) ?_
    exact tail2 x1
end MB

/-! kinds, paces, ask -/
theorem wTk_it {B TN S m : Nat} (hm : m ≤ 99) : ∀ (n : Nat) (K : CK), K.1.2.1 = nI m → CG K B TN S → (∀ t, t < TN → wTk B (K.2.2.getD t dT)) → ∀ t, t < TN → wTk B ((itC K B TN n).2.2.getD t dT)
  | 0, _, _, _, h => h
  | n + 1, K, e, hg, h => by
    have l6 := CG6 hg
    have hTN := hg.1.2.2.2.2.2.1
    refine wTk_it hm n (hrC K B TN) e (CG_hr hg) (fun t ht => ?_)
    show wTk B ((mapUp (fun T => (T_hr K.2.1.1 (mvC K B).2.1.2.2.2.2.2.2.2.2.1 (mvC K B).2.1.2.2.2.2.2.2.2.2.2 K.1.2.1 T).2) TN K.2.2).getD t dT)
    rw [mapUp_gd ht (by omega), e]
    exact wTk_pass _ _ _ hm (h t ht)
section LKA
variable (xs : List Int32) (d : Nat) (now trial told im0 im1 : CK) (p : TP) (f : FP) (r : RS) (tr : Int32) (z : ZT) (Ks : CK) (I0 I1 nw eb wa ms mt : List Int32) (cc : C4) (B TN S : Nat)
variable {now trial told im0 im1 p f r tr z Ks I0 I1 nw eb wa ms mt cc B TN S}
theorem sd_eq {w b v h t : Nat} (ht : GS trial) (ho : mOK nw eb wa ms mt) (hC : caI B TN S now Ks) (hw : w = 0 ∨ w = 2) (hb : b < B) (hv : v < 10) (htt : t < TN) : sdC (putK (tryK now trial B TN S) w b (nI v)) B TN h t = sdM (putK (stA wa ms mt Ks) w b (nI v)) B TN h t := by
  have hB := hC.1.1.2.2.2.2.1
  obtain ⟨L, L1, L2, eL, -⟩ := hC.1.2.2.1
  have hw2 : w ≤ 2 := by omega
  have hv2 := HV_put (b := b) hw2 (K := tryK now trial B TN S) eL L2 (fun q => by omega) (fun _ => by omega) (v := v) (HV_try hC.1 ht)
  have hg := GM_put w b (nI v) (GM_st (VS_ca hC) ho)
  have hl := Lv_put (S := S) (v := nI v) hw2 (CG_t (wK_CG hC.1) ht).1.1 (GM_st (VS_ca hC) ho).1.1.1 (Lv_ca ht hC) (b := b) (by omega)
  unfold sdC sdM
  rw [(Lv_it h _ _ hl hv2 hg.1).2.2.2.2.2.2 t htt]
/-- what is said, by the value tried -/
def saF (now trial : CK) (B TN S w b v h t : Nat) : Int32 := if v < 10 then sdC (putK (tryK now trial B TN S) w b (nI v)) B TN h t else 0
theorem sa_m {w b : Nat} (ht : GS trial) (hC : caI B TN S now Ks) (hw : w = 0 ∨ w = 2) (hb : b < B) : ∀ (v : Nat), v < 10 → ∀ (nw eb wa ms mt : List Int32), mOK nw eb wa ms mt → ∀ h t, h ≤ 20 → t < TN → sdM (putK (stA wa ms mt Ks) w b (nI v)) B TN h t = saF now trial B TN S w b v h t := by
  intro v hv nw eb wa ms mt ho h t _ htt
  unfold saF
  rw [if_pos hv]
  exact (sd_eq ht ho hC hw hb hv htt).symm
theorem sa_c {w b : Nat} (ht : GS trial) (ho : mOK nw eb wa ms mt) (hC : caI B TN S now Ks) (hw : w = 0 ∨ w = 2) (hb : b < B) : ∀ (v : Nat), v < 10 → ∀ (trial' : CK), GS trial' → ∀ h t, h ≤ 20 → t < TN → sdC (putK (tryK now trial' B TN S) w b (nI v)) B TN h t = saF now trial B TN S w b v h t := by
  intro v hv trial' ht' h t hh htt
  rw [← sa_m ht hC hw hb v hv nw eb wa ms mt ho h t hh htt]
  exact sd_eq ht' ho hC hw hb hv htt
theorem asQ_eq {g : Nat → Nat → Int32} (hC : caI B TN S now Ks) : ∀ m i, i + m ≤ S → asQ g TN now m i = asQ g TN Ks m i
  | 0, _, _ => rfl
  | m + 1, i, h => by
    obtain ⟨e1, e2, e3⟩ := hC.2.2.2.2.2.2.2 i (by omega)
    unfold asQ seB
    rw [e1, e2, e3, asQ_eq hC m (i + 1) (by omega)]
theorem okS_ca (hC : caI B TN S now Ks) : okS Ks S := by
  intro i hi
  obtain ⟨n, t, v, a1, a2, a3, a4, a5, a6⟩ := hC.1.2.2.2.2.2.2 i hi
  obtain ⟨e1, e2, e3⟩ := hC.2.2.2.2.2.2.2 i hi
  exact ⟨n, t, v, a1, a2, a3, e1.symm.trans a4, e2.symm.trans a5, e3.symm.trans a6⟩
theorem rs_Y {g : Nat → List Int32} {T' sb bp : List Int32} {q : Int32 × Int32} (hR : rsI im0 im1 p f r tr z I0 I1) (h1 : ∀ v, v < 10 → (g v).length = 126) (h2 : T'.length = 21) (h3 : sb.length = 126) (h4 : bp.length = 1134) : rsI im0 im1 p f (r.1, r.2.1, g, T', r.2.2.2.2) tr (zJ (zY z sb bp) q) I0 I1 := by
  obtain ⟨q1, q2, q3, q4, q5, q6, x1, x2, x3, x4, x5, x6, x7, x8, x9⟩ := hR
  exact ⟨q1, q2, q3, q4, q5, q6, x1, h1, h2, x4, x5, x6, h3, h4, x9⟩
theorem k_kinds (b : Int32) (hC : caI B TN S now Ks) (ht : GS trial) (hd : CL told) (ho : mOK nw eb wa ms mt) (hR : rsI im0 im1 p f r tr z I0 I1) : Alk xs d 84 185 [b] (hCl now trial told im0 im1 p f r tr) (mH (zS z Ks (I0 ++ I1)) nw eb wa ms mt cc) := by
  have h6 := CL6 hC.1.1.1
  have hB := hC.1.1.2.2.2.2.1
  cases c : hasI b now.1.2.2.2.1 with
  | false => exact ⟨.int (-1), _, _, int_nr _, Inv_mk hC ht hd ho hR, sp_kinds_bad xs (d + 19) now trial told im0 im1 p f r tr b h6 c, m_kinds_bad (d := d + 17) (hv := VS_ca hC) (c := by rw [← eq_BN hC]; exact c) ..⟩
  | true =>
    rw [hC.1.1.2.1] at c
    obtain ⟨b, hb, rfl⟩ := has_i (by omega) c
    obtain ⟨-, -, -, -, -, -, x1, x2, x3, x4, x5, x6, x7, x8, x9⟩ := id hR
    obtain ⟨g', K', g1, g2, h1⟩ := sp_kinds xs (d + 14) now trial told im0 im1 p f r tr (saF now trial B TN S 0 b) b B TN S hb (wK_CG hC.1) hC.1.2.2.2.2.2.2 ht x2 (sa_c ht ho hC (Or.inl rfl) hb)
    obtain ⟨sb', h', g3, hp, h2⟩ := m_kinds (xs := xs) (d := d + 13) (z := z) (X := I0 ++ I1) (cc := cc) (B := B) (TN := TN) (S := S) (bp := z.2.2.2.2.2.2.2.2.2.1) (sb := z.2.2.2.2.2.2.2.2.1) (F := saF now trial B TN S 0 b) (b := b) (hb := hb) (hv := VS_ca hC) (hS := okS_ca hC) (hF := sa_m ht hC (Or.inl rfl) hb) (hsb := x7) (ho := ho)
    have e : (fun v => asQ (saF now trial B TN S 0 b v) TN now S 0) = (fun v => asQ (saF now trial B TN S 0 b v) TN Ks S 0) := funext (fun v => asQ_eq hC S 0 (by omega))
    rw [e] at h1
    exact ⟨_, _, _, int_nr _, Inv_p (r := rH r g') (z := zY z sb' z.2.2.2.2.2.2.2.2.2.1) hC g1 hd hp (rs_Y (q := z.2.1) hR g2 x3 g3 x8), h1, h2⟩
theorem k_paces (b : Int32) (hC : caI B TN S now Ks) (ht : GS trial) (hd : CL told) (ho : mOK nw eb wa ms mt) (hR : rsI im0 im1 p f r tr z I0 I1) : Alk xs d 85 186 [b] (hCl now trial told im0 im1 p f r tr) (mH (zS z Ks (I0 ++ I1)) nw eb wa ms mt cc) := by
  have h6 := CL6 hC.1.1.1
  have hB := hC.1.1.2.2.2.2.1
  cases c : hasI b now.1.2.2.2.1 with
  | false => exact ⟨.int (-1), _, _, int_nr _, Inv_mk hC ht hd ho hR, sp_paces_bad xs (d + 19) now trial told im0 im1 p f r tr b h6 c, m_paces_bad (d := d + 17) (hv := VS_ca hC) (c := by rw [← eq_BN hC]; exact c) ..⟩
  | true =>
    rw [hC.1.1.2.1] at c
    obtain ⟨b, hb, rfl⟩ := has_i (by omega) c
    obtain ⟨-, -, -, -, -, -, x1, x2, x3, x4, x5, x6, x7, x8, x9⟩ := id hR
    obtain ⟨g', K', g1, g2, h1⟩ := sp_paces2 xs (d + 14) now trial told im0 im1 p f r tr (saF now trial B TN S 2 b) b B TN S hb (wK_CG hC.1) hC.1.2.2.2.2.2.2 ht x2 (sa_c ht ho hC (Or.inr rfl) hb)
    obtain ⟨sb', h', g3, hp, h2⟩ := m_paces (xs := xs) (d := d + 13) (z := z) (X := I0 ++ I1) (cc := cc) (B := B) (TN := TN) (S := S) (bp := z.2.2.2.2.2.2.2.2.2.1) (sb := z.2.2.2.2.2.2.2.2.1) (F := saF now trial B TN S 2 b) (b := b) (hb := hb) (hv := VS_ca hC) (hS := okS_ca hC) (hF := sa_m ht hC (Or.inr rfl) hb) (hsb := x7) (ho := ho)
    have e : (fun v => asQ (saF now trial B TN S 2 b v) TN now S 0) = (fun v => asQ (saF now trial B TN S 2 b v) TN Ks S 0) := funext (fun v => asQ_eq hC S 0 (by omega))
    rw [e] at h1
    exact ⟨_, _, _, int_nr _, Inv_p (r := rH r g') (z := zY z sb' z.2.2.2.2.2.2.2.2.2.1) hC g1 hd hp (rs_Y (q := z.2.1) hR g2 x3 g3 x8), h1, h2⟩
theorem sa_b {b : Nat} (ht : GS trial) (hC : wK now B TN S) : ∀ v h t, h ≤ 20 → t < TN → ∃ s, s ≤ 20 ∧ saF now trial B TN S 2 b v h t = nI s := by
  intro v h t hh htt
  unfold saF
  by_cases c : v < 10
  · rw [if_pos c]
    obtain ⟨m, m1, m2, m3⟩ := hC.2.2.2.1
    obtain ⟨-, nd, sa, si, a1, a2, a3, -, -, -, e, -⟩ := wTk_it (S := S) m2 h (putK (tryK now trial B TN S) 2 b (nI v)) (by rw [put_11]; exact m3) (CG_put 2 b _ (CG_t (wK_CG hC) ht)) (fun t htt => by
      rw [put_22, try_T hC.1 ht.1 htt]
      exact wTk_clr (T := now.2.2.getD t dT) rfl (hC.2.2.2.2.2.1 t htt)) t htt
    exact ⟨sa, by omega, e⟩
  · rw [if_neg c]
    exact ⟨0, by omega, rfl⟩
theorem k_ask (b w : Int32) (hC : caI B TN S now Ks) (ht : GS trial) (hd : CL told) (ho : mOK nw eb wa ms mt) (hR : rsI im0 im1 p f r tr z I0 I1) : Alk xs d 86 188 [b, w] (hCl now trial told im0 im1 p f r tr) (mH (zS z Ks (I0 ++ I1)) nw eb wa ms mt cc) := by
  have h6 := CL6 hC.1.1.1
  have hB := hC.1.1.2.2.2.2.1
  cases c : (hasI b now.1.2.2.2.1 && wiI w 0 1) with
  | false => exact ⟨.int (-1), _, _, int_nr _, Inv_mk hC ht hd ho hR, sp_ask_bad xs (d + 19) now trial told im0 im1 p f r tr b w h6 c, m_ask_bad (d := d + 18) (hv := VS_ca hC) (c := by rw [← eq_BN hC]; exact c) ..⟩
  | true =>
    rw [Bool.and_eq_true, hC.1.1.2.1] at c
    obtain ⟨b, hb, rfl⟩ := has_i (by omega) c.1
    obtain ⟨-, -, -, -, -, -, x1, x2, x3, x4, x5, x6, x7, x8, x9⟩ := id hR
    obtain ⟨g', K', T', g1, g2, g3, h1⟩ := sp_ask xs (d + 14) now trial told im0 im1 p f r tr (saF now trial B TN S 2 b) b B TN S w c.2 hb (wK_CG hC.1) hC.1.2.2.2.2.2.2 ht x2 x3 (sa_c ht ho hC (Or.inr rfl) hb) (sa_b ht hC.1)
    obtain ⟨h', ⟨q, sb', bp', g4, g5, hp⟩, h2⟩ := m_ask (xs := xs) (d := d + 14) (z := z) (X := I0 ++ I1) (cc := cc) (B := B) (TN := TN) (S := S) (bp := z.2.2.2.2.2.2.2.2.2.1) (sb := z.2.2.2.2.2.2.2.2.1) (F := saF now trial B TN S 2 b) (w := w) (b := b) (cw := c.2) (hb := hb) (hv := VS_ca hC) (hS := okS_ca hC) (hF := sa_m ht hC (Or.inr rfl) hb) (hsb := x7) (hbp := x8) (ho := ho)
    have e : (fun v => asQ (saF now trial B TN S 2 b v) TN now S 0) = (fun v => asQ (saF now trial B TN S 2 b v) TN Ks S 0) := funext (fun v => asQ_eq hC S 0 (by omega))
    rw [e] at h1
    exact ⟨_, _, _, int_nr _, Inv_p (r := rT (rH r g') T') (z := zJ (zY z sb' bp') q) hC g1 hd hp (rs_Y (r := r) (g := g') (T' := T') hR g2 g3 g4 g5), h1, h2⟩
end LKA

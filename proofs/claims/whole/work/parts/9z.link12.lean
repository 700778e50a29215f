/-! at, again -/
theorem gh_ph {B TN L b c : Nat} (hb : b < B) (L1 : 1 ≤ L) (L2 : L ≤ 20) (hc : c ≤ 9) : ∀ (n : Nat) (K : CK) (p : Nat), K.1.1 = nI L → p < 2 * L → K.2.1.2.1.getD b 0 = nI p → K.2.1.2.2.1.getD b 0 = nI c → (ghN K B TN n).1.1 = nI L ∧ (ghN K B TN n).2.1.2.1.getD b 0 = nI ((p + n * c) % (2 * L)) ∧ (ghN K B TN n).2.1.2.2.1.getD b 0 = nI c
  | 0, K, p, e1, hp, e2, e3 => ⟨e1, by rw [Nat.zero_mul, Nat.add_zero, Nat.mod_eq_of_lt hp]; exact e2, e3⟩
  | n + 1, K, p, e1, hp, e2, e3 => by
    have e4 : (ghK false K B TN).2.1.2.1.getD b 0 = nI ((p + c) % (2 * L)) := by
      show (phU K.1.1 K.2.1.2.1 K.2.1.2.2.1 B).getD b 0 = _
      unfold phU
      rw [up_gd hb]
      unfold fwI
      rw [e1, e2, e3, fw_nI L1 L2 hp hc]
    have ih := gh_ph (TN := TN) hb L1 L2 hc n (ghK false K B TN) ((p + c) % (2 * L)) e1 (Nat.mod_lt _ (by omega)) e4 e3
    rw [Nat.mod_add_mod, show p + c + n * c = p + (n + 1) * c by rw [Nat.succ_mul]; omega] at ih
    exact ih
theorem aqS_iff {K Ks : CK} : ∀ (m b : Nat) (q : Bool), aqS K Ks m b q = true ↔ (q = true ∧ ∀ j, b ≤ j → j < b + m → K.2.1.2.1.getD j 0 = Ks.2.1.2.1.getD j 0)
  | 0, b, q => ⟨fun h => ⟨h, fun j h1 h2 => absurd h2 (by omega)⟩, fun h => h.1⟩
  | m + 1, b, q => by
    unfold aqS
    rw [aqS_iff m (b + 1), Bool.and_eq_true, decide_eq_true_iff]
    constructor
    · intro ⟨⟨h1, h2⟩, h3⟩
      refine ⟨h1, fun j a c => ?_⟩
      by_cases e : j = b
      · rw [e]
        exact h2
      · exact h3 j (by omega) (by omega)
    · intro ⟨h1, h2⟩
      exact ⟨⟨h1, h2 b (by omega) (by omega)⟩, fun j a c => h2 j (by omega) (by omega)⟩
theorem allB_iff {n way : Int32} {ph pc : List Int32} : ∀ {m t : Nat}, allB n way ph pc m t = true ↔ ∀ b, t ≤ b → b < t + m → rmI (ph.getD b 0 + n * pc.getD b 0) way = ph.getD b 0
  | 0, t => ⟨fun _ b h1 h2 => absurd h2 (by omega), fun _ => rfl⟩
  | m + 1, t => by
    rw [show allB n way ph pc (m + 1) t = (decide (rmI (ph.getD t 0 + n * pc.getD t 0) way = ph.getD t 0) && allB n way ph pc m (t + 1)) from rfl, Bool.and_eq_true, allB_iff]
    constructor
    · intro ⟨h1, h2⟩ b hb hb2
      by_cases c : b = t
      · rw [c]
        exact of_decide_eq_true h1
      · exact h2 b (by omega) (by omega)
    · intro h
      exact ⟨decide_eq_true (h t (by omega) (by omega)), fun b h1 h2 => h b (by omega) (by omega)⟩
theorem mod_id {p x m : Nat} (hp : p < m) : (p + x) % m = p ↔ x % m = 0 := by
  have h1 : (p + x) % m = (p + x % m) % m := (Nat.add_mod_mod p x m).symm
  have h2 : x % m < m := Nat.mod_lt _ (by omega)
  rw [h1]
  by_cases c : p + x % m < m
  · rw [Nat.mod_eq_of_lt c]
    omega
  · rw [Nat.mod_eq_sub_mod (by omega), Nat.mod_eq_of_lt (by omega)]
    omega
section LK12
variable (xs : List Int32) (d : Nat) (now trial told im0 im1 : CK) (p : TP) (f : FP) (r : RS) (tr : Int32) (z : ZT) (Ks : CK) (I0 I1 nw eb wa ms mt : List Int32) (cc : C4) (B TN S : Nat)
variable {now trial told im0 im1 p f r tr z Ks I0 I1 nw eb wa ms mt cc B TN S}
theorem k_at (b n : Int32) (hC : caI B TN S now Ks) (ht : GS trial) (hd : CL told) (ho : mOK nw eb wa ms mt) (hR : rsI im0 im1 p f r tr z I0 I1) : Alk xs d 73 165 [b, n] (hCl now trial told im0 im1 p f r tr) (mH (zS z Ks (I0 ++ I1)) nw eb wa ms mt cc) := by
  have h6 := CL6 hC.1.1.1
  have hB := hC.1.1.2.2.2.2.1
  cases c : (hasI b now.1.2.2.2.1 && wiI n 0 100) with
  | false => exact ⟨.int (-1), _, _, int_nr _, Inv_mk hC ht hd ho hR, sp_at_bad xs (d + 19) now trial told im0 im1 p f r tr b n h6 c, m_at_bad (d := d + 18) (hv := VS_ca hC) (c := by rw [← eq_BN hC]; exact c) ..⟩
  | true =>
    rw [Bool.and_eq_true, hC.1.1.2.1] at c
    obtain ⟨b, hb, rfl⟩ := has_i (by omega) c.1
    obtain ⟨N, hN, rfl⟩ := wi_of (M := 100) (by decide) c.2
    obtain ⟨L, L1, L2, eL, hbg⟩ := hC.1.2.2.1
    obtain ⟨k, q, e, g1, g2, g3, g4, g5, g6, g7⟩ := hbg b hb
    have h1 := sp_at xs (d + 17) now trial told im0 im1 p f r tr B TN S b N (wK_CG hC.1) hb hN
    have h2 := m_at xs (d + 14) z Ks (I0 ++ I1) nw eb wa ms mt cc B TN S b N hb hN (VS_ca hC) ho
    obtain ⟨b1, b2, b3⟩ := hC.2.2.2.2.2.1 b hb
    obtain ⟨u1, u2, -⟩ := gh_ph (TN := TN) (K := stA wa ms mt Ks) hb (by omega) L2 g4 N q (hC.2.2.1.symm.trans eL) g2 (b2.symm.trans g6) (b3.symm.trans g7)
    have hm : N * e ≤ 100 * 9 := Nat.mul_le_mul hN g4
    rw [u1, u2] at h2
    rw [eL, g6, g7, nI_mulA, nI_add, two_nI, rmI_nI (by omega) (by omega) (by omega)] at h1
    exact ⟨_, _, _, int_nr _, Inv_p hC ht hd (MHp_T (GS_GM (GM_ghN N _ (GM_st (VS_ca hC) ho)))) hR, h1, h2⟩
theorem ag_eq {L : Nat} (L1 : 2 ≤ L) (L2 : L ≤ 20) (eL : now.1.1 = nI L) (hC : caI B TN S now Ks) (P C : Nat → Nat) (hP : ∀ b, b < B → P b < 2 * L ∧ C b ≤ 9 ∧ now.2.1.2.1.getD b 0 = nI (P b) ∧ now.2.1.2.2.1.getD b 0 = nI (C b)) : ∀ (m h : Nat) (K : CK), h + m ≤ 100 → K.1.1 = nI L → (∀ b, b < B → K.2.1.2.1.getD b 0 = nI ((P b + h * C b) % (2 * L)) ∧ K.2.1.2.2.1.getD b 0 = nI (C b)) → agA (2 * now.1.1) now.2.1.2.1 now.2.1.2.2.1 B m (h + 1) = gaA Ks B TN m (h + 1) K
  | 0, _, _, _, _, _ => rfl
  | m + 1, h, K, hm, e1, hK => by
    have hB := hC.1.1.2.2.2.2.1
    have l3 := hC.1.1.1.2.2.1
    have hK2 : ∀ b, b < B → (ghK false K B TN).2.1.2.1.getD b 0 = nI ((P b + (h + 1) * C b) % (2 * L)) ∧ (ghK false K B TN).2.1.2.2.1.getD b 0 = nI (C b) := by
      intro b hb
      obtain ⟨p1, p2, p3, p4⟩ := hP b hb
      obtain ⟨k1, k2⟩ := hK b hb
      obtain ⟨-, u2, u3⟩ := gh_ph (TN := TN) hb (by omega) L2 p2 1 K ((P b + h * C b) % (2 * L)) e1 (Nat.mod_lt _ (by omega)) k1 k2
      rw [Nat.mod_add_mod, Nat.one_mul, show P b + h * C b + C b = P b + (h + 1) * C b by rw [Nat.succ_mul]; omega] at u2
      exact ⟨u2, u3⟩
    have e : allB (nI (h + 1)) (2 * now.1.1) now.2.1.2.1 now.2.1.2.2.1 B 0 = aqS (ghK false K B TN) Ks B 0 true := by
      rw [Bool.eq_iff_iff, allB_iff, aqS_iff]
      have key : ∀ b, b < B → (rmI (now.2.1.2.1.getD b 0 + nI (h + 1) * now.2.1.2.2.1.getD b 0) (2 * now.1.1) = now.2.1.2.1.getD b 0 ↔ (ghK false K B TN).2.1.2.1.getD b 0 = Ks.2.1.2.1.getD b 0) := by
        intro b hb
        obtain ⟨p1, p2, p3, p4⟩ := hP b hb
        have hm2 : (h + 1) * C b ≤ 100 * 9 := Nat.mul_le_mul (by omega) p2
        rw [(hK2 b hb).1, ← (hC.2.2.2.2.2.1 b hb).2.1, p3, p4, eL, nI_mulA, nI_add, two_nI, rmI_nI (by omega) (by omega) (by omega)]
      constructor
      · intro hh
        exact ⟨rfl, fun j _ hj => (key j (by omega)).mp (hh j (by omega) (by omega))⟩
      · intro ⟨_, hh⟩ b _ hb
        exact (key b (by omega)).mpr (hh b (by omega) (by omega))
    have ih := ag_eq L1 L2 eL hC P C hP m (h + 1) (ghK false K B TN) (by omega) e1 hK2
    unfold agA gaA
    rw [e]
    cases aqS (ghK false K B TN) Ks B 0 true with
    | true => rfl
    | false => exact ih
theorem k_again (hC : caI B TN S now Ks) (ht : GS trial) (hd : CL told) (ho : mOK nw eb wa ms mt) (hR : rsI im0 im1 p f r tr z I0 I1) : Alk xs d 75 167 [] (hCl now trial told im0 im1 p f r tr) (mH (zS z Ks (I0 ++ I1)) nw eb wa ms mt cc) := by
  obtain ⟨L, L1, L2, eL, hbg⟩ := hC.1.2.2.1
  have h1 := sp_again xs (d + 16) now trial told im0 im1 p f r tr B TN S (wK_CG hC.1)
  obtain ⟨K2, g2, h2⟩ := m_again xs (d + 15) z Ks (I0 ++ I1) nw eb wa ms mt cc B TN S (VS_ca hC) ho
  have hex : ∀ b, b < B → ∃ P C : Nat, P < 2 * L ∧ C ≤ 9 ∧ now.2.1.2.1.getD b 0 = nI P ∧ now.2.1.2.2.1.getD b 0 = nI C := by
    intro b hb
    obtain ⟨k, q, e, g1, g2, g3, g4, g5, g6, g7⟩ := hbg b hb
    exact ⟨q, e, g2, g4, g6, g7⟩
  have hP : ∀ b, b < B → (now.2.1.2.1.getD b 0).toNatClampNeg < 2 * L ∧ (now.2.1.2.2.1.getD b 0).toNatClampNeg ≤ 9 ∧ now.2.1.2.1.getD b 0 = nI (now.2.1.2.1.getD b 0).toNatClampNeg ∧ now.2.1.2.2.1.getD b 0 = nI (now.2.1.2.2.1.getD b 0).toNatClampNeg := by
    intro b hb
    obtain ⟨P, C, a1, a2, a3, a4⟩ := hex b hb
    rw [a3, a4, nI_clamp (by omega), nI_clamp (by omega)]
    exact ⟨a1, a2, rfl, rfl⟩
  rw [ag_eq L1 L2 eL hC _ _ hP 100 0 (stA wa ms mt Ks) (by omega) (hC.2.2.1.symm.trans eL) (fun b hb => by
    obtain ⟨a1, a2, a3, a4⟩ := hP b hb
    obtain ⟨b1, b2, b3⟩ := hC.2.2.2.2.2.1 b hb
    refine ⟨?_, b3.symm.trans a4⟩
    rw [Nat.zero_mul, Nat.add_zero, Nat.mod_eq_of_lt a1]
    exact b2.symm.trans a3)] at h1
  exact ⟨_, _, _, int_nr _, Inv_p hC ht hd (MHp_T g2) hR, h1, h2⟩
end LK12

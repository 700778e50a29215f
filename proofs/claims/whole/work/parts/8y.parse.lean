/-! The text, purely: bytes D p (p below L) -/
def spn (P : Nat → Bool) (m p : Nat) : Nat := match m with
  | 0 => p
  | m + 1 => match P p with
    | true => spn P m (p + 1)
    | false => p
theorem spn_ge (P : Nat → Bool) : ∀ m p, p ≤ spn P m p
  | 0, _ => Nat.le_refl _
  | m + 1, p => by
    unfold spn
    cases P p with
    | true => exact Nat.le_trans (Nat.le_succ p) (spn_ge P m (p + 1))
    | false => exact Nat.le_refl _
theorem spn_le (P : Nat → Bool) : ∀ m p, spn P m p ≤ p + m
  | 0, _ => Nat.le_refl _
  | m + 1, p => by
    unfold spn
    cases P p with
    | true =>
      have := spn_le P m (p + 1)
      show spn P m (p + 1) ≤ _
      omega
    | false =>
      show p ≤ _
      omega
theorem spn_in (P : Nat → Bool) : ∀ m p q, p ≤ q → q < spn P m p → P q = true
  | 0, p, q, h1, h2 => by
    have : q < p := h2
    omega
  | m + 1, p, q, h1, h2 => by
    unfold spn at h2
    cases hp : P p with
    | true =>
      rw [hp] at h2
      by_cases c : q = p
      · rw [c]
        exact hp
      · exact spn_in P m (p + 1) q (by omega) h2
    | false =>
      rw [hp] at h2
      have : q < p := h2
      omega
theorem spn_congr {P Q : Nat → Bool} : ∀ m p, (∀ q, p ≤ q → q < p + m → P q = Q q) → spn P m p = spn Q m p
  | 0, _, _ => rfl
  | m + 1, p, h => by
    unfold spn
    rw [h p (Nat.le_refl _) (by omega)]
    cases Q p with
    | true => exact spn_congr m (p + 1) (fun q a b => h q (by omega) (by omega))
    | false => rfl
/-- of which sort a byte begins a token: 1 a name, 2 a number, 3 a stop, 4 none -/
def cls (c : Nat) : Nat := if 97 ≤ c ∧ c ≤ 122 then 1 else if 48 ≤ c ∧ c ≤ 57 then 2 else if c = 59 then 3 else 4
def tkP (D : Nat → Nat) (L e : Nat) : Nat := spn (fun q => decide (D q = 32)) (L - e) e
def tsK (D : Nat → Nat) (L p : Nat) : Nat := if p < L then cls (D p) else 0
def tkE (D : Nat → Nat) (L p : Nat) : Nat := if p < L then (if cls (D p) = 3 then p + 1 else spn (fun q => decide (cls (D q) = cls (D p))) (L - p) p) else p
theorem tkP_b {D : Nat → Nat} {L e : Nat} (h : e ≤ L) : e ≤ tkP D L e ∧ tkP D L e ≤ L := by
  have h1 := spn_ge (fun q => decide (D q = 32)) (L - e) e
  have h2 := spn_le (fun q => decide (D q = 32)) (L - e) e
  exact ⟨h1, by unfold tkP; omega⟩
theorem tkE_b {D : Nat → Nat} {L p : Nat} (h : p ≤ L) : p ≤ tkE D L p ∧ tkE D L p ≤ L ∧ (p < L → p < tkE D L p) := by
  unfold tkE
  by_cases c : p < L
  · rw [if_pos c]
    by_cases c3 : cls (D p) = 3
    · rw [if_pos c3]
      omega
    · rw [if_neg c3]
      have h2 := spn_le (fun q => decide (cls (D q) = cls (D p))) (L - p) p
      obtain ⟨m, hm⟩ : ∃ m, L - p = m + 1 := ⟨L - p - 1, by omega⟩
      have h3 : p + 1 ≤ spn (fun q => decide (cls (D q) = cls (D p))) (L - p) p := by
        rw [hm]
        unfold spn
        rw [decide_eq_true rfl]
        exact spn_ge _ m (p + 1)
      omega
  · rw [if_neg c]
    omega
/-- a fault and its place, or a token: its sort, its place, its end -/
abbrev PF : Type := Nat × Nat
def tkB (D : Nat → Nat) (L p : Nat) : Bool := decide (tsK D L p = 4) || (decide (tsK D L p = 2) && decide (2 < tkE D L p - p))
def pTok (D : Nat → Nat) (L e : Nat) : PF ⊕ (Nat × Nat × Nat) := match tkB D L (tkP D L e) with
  | true => .inl (1, tkP D L e)
  | false => .inr (tsK D L (tkP D L e), tkP D L e, tkE D L (tkP D L e))
def vl (D : Nat → Nat) (p e : Nat) : Nat := if e - p = 1 then D p - 48 else 10 * (D p - 48) + (D (p + 1) - 48)
def pNum (D : Nat → Nat) (L e lo hi : Nat) (nt : Option Nat) : PF ⊕ (Nat × Nat) := match pTok D L e with
  | .inl f => .inl f
  | .inr (k, p, e2) => if k = 2 then (if lo ≤ vl D p e2 ∧ vl D p e2 ≤ hi then (if some (vl D p e2) = nt then .inl (4, p) else .inr (vl D p e2, e2)) else .inl (3, p)) else .inl (2, p)
def pStp (D : Nat → Nat) (L e : Nat) : PF ⊕ Nat := match pTok D L e with
  | .inl f => .inl f
  | .inr (k, p, e2) => if k = 3 then .inr e2 else .inl (2, p)
/-- what is told: cut, memory; whether they are; barges; talks -/
abbrev PS : Type := (Nat × Nat) × (Bool × Bool) × List (Nat × Nat × Nat) × List (Nat × Nat × Nat)
def isT (D : Nat → Nat) (p : Nat) (w : List Nat) (n i : Nat) : Bool := match n with
  | 0 => true
  | n + 1 => decide (D (p + i) = w.getD i 0) && isT D p w n (i + 1)
def isN (D : Nat → Nat) (p e : Nat) (w : List Nat) : Bool := decide (e - p = w.length) && isT D p w w.length 0
def wds : List (List Nat) := [[112, 108, 97, 105, 110], [113, 117, 105, 99, 107], [115, 104, 121], [100, 101, 97, 102], [99, 117, 116], [109, 101, 109, 111, 114, 121], [116, 97, 108, 107]]
def lnO (D : Nat → Nat) (p e : Nat) : Nat := if isN D p e (wds.getD 0 []) then 0 else if isN D p e (wds.getD 1 []) then 1 else if isN D p e (wds.getD 2 []) then 2 else if isN D p e (wds.getD 3 []) then 3 else if isN D p e (wds.getD 4 []) then 4 else if isN D p e (wds.getD 5 []) then 5 else if isN D p e (wds.getD 6 []) then 6 else 7
def pCut (D : Nat → Nat) (L p e : Nat) (s : PS) : PF ⊕ (PS × Nat) := if s.2.1.1 = true then .inl (4, p) else match pNum D L e 2 20 none with
  | .inl f => .inl f
  | .inr (v, e2) => .inr (((v, s.1.2), (true, s.2.1.2), s.2.2), e2)
def pMem (D : Nat → Nat) (L p e : Nat) (s : PS) : PF ⊕ (PS × Nat) := if s.2.1.2 = true then .inl (4, p) else match pNum D L e 1 99 none with
  | .inl f => .inl f
  | .inr (v, e2) => .inr (((s.1.1, v), (s.2.1.1, true), s.2.2), e2)
def pBar (D : Nat → Nat) (L p e k : Nat) (s : PS) : PF ⊕ (PS × Nat) := if s.2.2.1.length < 5 then (match pNum D L e 0 39 none with
    | .inl f => .inl f
    | .inr (a, e2) => match pNum D L e2 1 9 none with
      | .inl f => .inl f
      | .inr (b, e3) => .inr ((s.1, s.2.1, s.2.2.1 ++ [(k, a, b)], s.2.2.2), e3)) else .inl (5, p)
def pTlk (D : Nat → Nat) (L p e : Nat) (s : PS) : PF ⊕ (PS × Nat) := if s.2.2.2.length < 6 then (match pNum D L e 0 4 none with
    | .inl f => .inl f
    | .inr (a, e2) => match pNum D L e2 0 4 (some a) with
      | .inl f => .inl f
      | .inr (b, e3) => match pNum D L e3 1 20 none with
        | .inl f => .inl f
        | .inr (c, e4) => .inr ((s.1, s.2.1, s.2.2.1, s.2.2.2 ++ [(a, b, c)]), e4)) else .inl (5, p)
/-- what stands in a line behind its name -/
def pBdy (D : Nat → Nat) (L p e k : Nat) (s : PS) : PF ⊕ (PS × Nat) := if k = 4 then pCut D L p e s else if k = 5 then pMem D L p e s else if k = 6 then pTlk D L p e s else pBar D L p e k s
def pLin (D : Nat → Nat) (L k p e : Nat) (s : PS) : PF ⊕ (PS × Nat) := if k = 1 ∧ lnO D p e < 7 then (match pBdy D L p e (lnO D p e) s with
    | .inl f => .inl f
    | .inr (s2, e2) => match pStp D L e2 with
      | .inl f => .inl f
      | .inr e3 => .inr (s2, e3)) else .inl (2, p)
def pFin (L : Nat) (n : Nat) (s : PS) : PF ⊕ (Nat × PS) := match s.2.2.2.all (fun q => decide (q.1 < s.2.2.1.length) && decide (q.2.1 < s.2.2.1.length)) with
  | true => .inr (n, s)
  | false => .inl (6, L)
def pAll (D : Nat → Nat) (L m e n : Nat) (s : PS) : PF ⊕ (Nat × PS) := match m with
  | 0 => .inl (0, 0)
  | m + 1 => match pTok D L e with
    | .inl f => .inl f
    | .inr (k, p, e2) => if k = 0 then pFin L n s else match pLin D L k p e2 s with
      | .inl f => .inl f
      | .inr (s2, e3) => pAll D L m e3 (n + 1) s2
def p0 : PS := ((10, 40), (false, false), [], [])
def pText (D : Nat → Nat) (L : Nat) : PF ⊕ (Nat × PS) := pAll D L (L + 1) 0 0 p0
/-! positions go on -/
theorem pTok_b {D : Nat → Nat} {L e k p e2 : Nat} (h : e ≤ L) (q : pTok D L e = .inr (k, p, e2)) : e ≤ p ∧ p ≤ e2 ∧ e2 ≤ L ∧ (k ≠ 0 → p < e2) ∧ k = tsK D L p ∧ p = tkP D L e ∧ e2 = tkE D L p ∧ tkB D L p = false := by
  unfold pTok at q
  have hP := tkP_b (D := D) h
  have hE := tkE_b (D := D) hP.2
  cases hb : tkB D L (tkP D L e) with
  | true => rw [hb] at q; cases q
  | false =>
    rw [hb] at q
    cases q
    refine ⟨hP.1, hE.1, hE.2.1, fun hk => ?_, rfl, rfl, rfl, hb⟩
    by_cases c : tkP D L e < L
    · exact hE.2.2 c
    · exact absurd (if_neg c) hk
theorem pNum_b {D : Nat → Nat} {L e lo hi v e2 : Nat} {nt : Option Nat} (h : e ≤ L) (q : pNum D L e lo hi nt = .inr (v, e2)) : e ≤ e2 ∧ e2 ≤ L ∧ lo ≤ v ∧ v ≤ hi ∧ ¬ some v = nt := by
  unfold pNum at q
  cases ht : pTok D L e with
  | inl f => rw [ht] at q; cases q
  | inr t =>
    obtain ⟨k, p, e3⟩ := t
    have hb := pTok_b h ht
    rw [ht] at q
    dsimp only at q
    by_cases c : k = 2
    · rw [if_pos c] at q
      by_cases c2 : lo ≤ vl D p e3 ∧ vl D p e3 ≤ hi
      · rw [if_pos c2] at q
        by_cases c3 : some (vl D p e3) = nt
        · rw [if_pos c3] at q; cases q
        · rw [if_neg c3] at q
          cases q
          exact ⟨by omega, by omega, c2.1, c2.2, c3⟩
      · rw [if_neg c2] at q; cases q
    · rw [if_neg c] at q; cases q
theorem pStp_b {D : Nat → Nat} {L e e2 : Nat} (h : e ≤ L) (q : pStp D L e = .inr e2) : e ≤ e2 ∧ e2 ≤ L := by
  unfold pStp at q
  cases ht : pTok D L e with
  | inl f => rw [ht] at q; cases q
  | inr t =>
    obtain ⟨k, p, e3⟩ := t
    have hb := pTok_b h ht
    rw [ht] at q
    dsimp only at q
    by_cases c : k = 3
    · rw [if_pos c] at q
      cases q
      exact ⟨by omega, by omega⟩
    · rw [if_neg c] at q; cases q

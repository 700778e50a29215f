/-! luck: the Canal's barges, hour by hour, beside the reference's -/
/-- the class's Canal, so many moves on -/
def Cmv (K : CK) (B k : Nat) : CK := onK K (mvI K.1.1 B K.2.1.2.2.1 k (ksK K))
theorem Cmv_0 (K : CK) (B : Nat) : Cmv K B 0 = K := rfl
theorem Cmv_s (K : CK) (B k : Nat) : Cmv K B (k + 1) = mvC (Cmv K B k) B := rfl
theorem CG_Cmv {K : CK} {B TN S : Nat} (h : CG K B TN S) : ∀ k, CG (Cmv K B k) B TN S
  | 0 => h
  | k + 1 => by
    rw [Cmv_s]
    exact CG_mv (CG_Cmv h k)
theorem rng_Cmv {K : CK} {B : Nat} (h : rng K B) : ∀ k, rng (Cmv K B k) B
  | 0 => h
  | k + 1 => by
    rw [Cmv_s]
    exact rng_mv (rng_Cmv h k)
/-- the same barges -/
def Lb (B : Nat) (K K' : CK) : Prop := K.1.1 = K'.1.1 ∧ K.1.2.1 = K'.1.2.1 ∧ ∀ b, b < B → K.2.1.1.getD b 0 = K'.2.1.1.getD b 0 ∧ K.2.1.2.1.getD b 0 = K'.2.1.2.1.getD b 0 ∧ K.2.1.2.2.1.getD b 0 = K'.2.1.2.2.1.getD b 0
theorem Lb_Lv {B TN : Nat} {K K' : CK} (h : Lb B K K') : Lv B TN (swG K K') K' := ⟨h.1, h.2.1, rfl, rfl, rfl, h.2.2, fun _ _ => rfl⟩
theorem Lv_Lb {B TN : Nat} {K K' : CK} (h : Lv B TN K K') : Lb B K K' := ⟨h.1, h.2.1, h.2.2.2.2.2.1⟩
theorem gh_11 (fog : Bool) (K : CK) (B TN : Nat) : (ghK fog K B TN).1.1 = K.1.1 := rfl
theorem gh_12 (fog : Bool) (K : CK) (B TN : Nat) : (ghK fog K B TN).1.2.1 = K.1.2.1 := rfl
theorem gh_k (fog : Bool) (K : CK) (B TN : Nat) : (ghK fog K B TN).2.1.1 = K.2.1.1 := rfl
theorem gh_p (fog : Bool) (K : CK) (B TN : Nat) : (ghK fog K B TN).2.1.2.1 = phU K.1.1 K.2.1.2.1 K.2.1.2.2.1 B := rfl
theorem gh_c (fog : Bool) (K : CK) (B TN : Nat) : (ghK fog K B TN).2.1.2.2.1 = K.2.1.2.2.1 := rfl
theorem gh_T (fog : Bool) (K : CK) (B TN : Nat) : (ghK fog K B TN).2.2 = mapUp (fun T => (T_hr K.2.1.1 (gmN fog K B).2.1 (gmN fog K B).1 K.1.2.1 T).2) TN K.2.2 := rfl
theorem mv_11 (K : CK) (B : Nat) : (mvC K B).1.1 = K.1.1 := rfl
theorem mv_12 (K : CK) (B : Nat) : (mvC K B).1.2.1 = K.1.2.1 := rfl
theorem mv_k (K : CK) (B : Nat) : (mvC K B).2.1.1 = K.2.1.1 := rfl
theorem mv_p (K : CK) (B : Nat) : (mvC K B).2.1.2.1 = phU K.1.1 K.2.1.2.1 K.2.1.2.2.1 B := rfl
theorem mv_c (K : CK) (B : Nat) : (mvC K B).2.1.2.2.1 = K.2.1.2.2.1 := rfl
theorem Lb_s {K K' : CK} {B TN : Nat} (fog : Bool) (h : Lb B K K') : Lb B (mvC K B) (ghK fog K' B TN) := by
  obtain ⟨h1, h2, h3⟩ := h
  unfold Lb
  rw [gh_11, gh_12, gh_k, gh_p, gh_c, mv_11, mv_12, mv_k, mv_p, mv_c]
  refine ⟨h1, h2, fun b hb => ?_⟩
  obtain ⟨a1, a2, a3⟩ := h3 b hb
  refine ⟨a1, ?_, a3⟩
  unfold phU
  rw [up_gd hb, up_gd hb]
  unfold fwI
  rw [h1, a2, a3]
/-- the reference's side -/
def Rs (K' : CK) (B TN S : Nat) : Prop := CG K' B TN S ∧ ∀ t, t < TN → bT B (K'.2.2.getD t dT)
theorem gh_Tt {K : CK} {B TN S t : Nat} (fog : Bool) (hg : CG K B TN S) (htt : t < TN) : (ghK fog K B TN).2.2.getD t dT = (T_hr K.2.1.1 (gmN fog K B).2.1 (gmN fog K B).1 K.1.2.1 (K.2.2.getD t dT)).2 := by
  have l6 := CG6 hg
  have hTN := hg.1.2.2.2.2.2.1
  rw [gh_T, mapUp_gd htt (by omega)]
theorem Rs_s {K' : CK} {B TN S : Nat} (fog : Bool) (h : Rs K' B TN S) : Rs (ghK fog K' B TN) B TN S := by
  refine ⟨CG_gh fog h.1, fun t ht => ?_⟩
  rw [gh_Tt fog h.1 ht]
  unfold T_hr
  exact bT_of (h.2 t ht) (T_pass_2 _ _ _ _ _)
theorem gm_ms (fog : Bool) (K : CK) (B : Nat) : (gmK fog K B).2.1.2.2.2.2.2.2.2.2.2 = (gmN fog K B).1 := rfl
theorem gm_mt (fog : Bool) (K : CK) (B : Nat) : (gmK fog K B).2.1.2.2.2.2.2.2.2.2.1 = (gmN fog K B).2.1 := rfl
/-- meetings and how many met, without fog, as the class notes them -/
theorem clr_ms {K K' : CK} {B TN S i j : Nat} (hc : CG K B TN S) (hr : rng K B) (h : Lb B K K') (hs : Rs K' B TN S) (hi : i < B) (hj : j < B) (hij : i ≠ j) : (gmN false K' B).1.getD (5 * i + j) 0 = (mvC K B).2.1.2.2.2.2.2.2.2.2.2.getD (5 * i + j) 0 := by
  obtain ⟨-, l⟩ := Lv_mv (Lb_Lv (TN := TN) h) (CG_swG hc hs.1) hs.1 hr
  obtain ⟨s1, s2, -⟩ := mv_swG hc hs.1
  have q := l.1 i j hi hj hij
  rw [s1, gm_ms] at q
  exact q.symm
theorem clr_mt {K K' : CK} {B TN S w : Nat} (hc : CG K B TN S) (hr : rng K B) (h : Lb B K K') (hs : Rs K' B TN S) (hw : w < B) : (gmN false K' B).2.1.getD w 0 = (mvC K B).2.1.2.2.2.2.2.2.2.2.1.getD w 0 := by
  obtain ⟨-, l⟩ := Lv_mv (Lb_Lv (TN := TN) h) (CG_swG hc hs.1) hs.1 hr
  obtain ⟨s1, s2, -⟩ := mv_swG hc hs.1
  have q := l.2 w hw
  rw [s2, gm_mt] at q
  exact q.symm
theorem wtM_C (K : CK) (B x k : Nat) : wtM K.1.1 B K.2.1.2.2.1 (ksK K) x k = (mvC (Cmv K B k) B).2.1.2.2.2.2.2.2.2.2.2.getD x 0 := rfl
theorem wtN_C (K : CK) (B x k : Nat) : wtN K.1.1 B K.2.1.2.2.1 (ksK K) x k = (mvC (Cmv K B k) B).2.1.2.2.2.2.2.2.2.2.1.getD x 0 := rfl

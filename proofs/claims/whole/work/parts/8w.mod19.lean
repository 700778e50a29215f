/-! Fractions in lowest terms; the reference's luck, mean -/
theorem lL_toInt {n : Nat} (h : n < 2 ^ 62) : (lN n).toInt = (n : Int) := lg_ofNat_toInt (by omega)
theorem lL_0 {n : Nat} (h : n < 2 ^ 62) : lN n = 0 ↔ n = 0 := by
  rw [← Int64.toInt_inj, lL_toInt h, show (0 : Int64).toInt = 0 by decide]
  omega
theorem lL_pos {n : Nat} (h : n < 2 ^ 62) (h0 : 0 < n) : 0 < lN n := by
  rw [Int64.lt_iff_toInt_lt, lL_toInt h, show (0 : Int64).toInt = 0 by decide]
  omega
theorem lL_div {g b : Nat} (hg : g < 2 ^ 62) (hb : b < 2 ^ 62) (h0 : 0 < b) : lN g / lN b = lN (g / b) := by
  have h1 : g / b ≤ g := Nat.div_le_self g b
  apply Int64.toInt_inj.mp
  rw [Int64.toInt_div, lL_toInt hg, lL_toInt hb, lL_toInt (by omega)]
  have e : (g : Int).tdiv (b : Int) = ((g / b : Nat) : Int) := rfl
  rw [e]
  generalize g / b = k at h1 ⊢
  exact Int.bmod_eq_of_le (by omega) (by omega)
theorem rmL_lN {g b : Nat} (hg : g < 2 ^ 62) (hb : b < 2 ^ 62) (h0 : 0 < b) : rmL (lN g) (lN b) = lN (g % b) := by
  unfold rmL
  have h1 : g / b * b ≤ g := Nat.div_mul_le_self g b
  rw [lL_div hg hb h0, lN_mul, lN_sub h1]
  congr 1
  have := Nat.div_add_mod g b
  rw [Nat.mul_comm] at this
  omega
theorem mod_half {b r k : Nat} (h0 : 0 < r) (hr : r < b) (hb : b < 2 ^ (k + 1)) : b % r < 2 ^ k := by
  have h1 := Nat.mod_lt b h0
  rw [Nat.pow_succ] at hb
  by_cases c : 2 * r ≤ b
  · omega
  · rw [Nat.mod_eq_sub_mod (by omega), Nat.mod_eq_of_lt (by omega)]
    omega
theorem gd_ok : ∀ (k m a b : Nat), a < 2 ^ 62 → b < 2 ^ 62 → b < 2 ^ k → 2 * k + 1 ≤ m → gdC m (lN a) (lN b) = lN (Nat.gcd a b)
  | 0, m, a, b, ha, hb, hk, hm => by
    obtain ⟨m, rfl⟩ : ∃ q, m = q + 1 := ⟨m - 1, by omega⟩
    have e : b = 0 := by
      have : b < 1 := hk
      omega
    subst e
    unfold gdC
    rw [if_pos ((lL_0 hb).mpr rfl), Nat.gcd_zero_right]
  | k + 1, m, a, b, ha, hb, hk, hm => by
    obtain ⟨m, rfl⟩ : ∃ q, m = q + 2 := ⟨m - 2, by omega⟩
    by_cases c : b = 0
    · subst c
      unfold gdC
      rw [if_pos ((lL_0 hb).mpr rfl), Nat.gcd_zero_right]
    · have h1 := Nat.mod_lt a (Nat.pos_of_ne_zero c)
      unfold gdC
      rw [if_neg (fun q => c ((lL_0 hb).mp q)), rmL_lN ha hb (by omega), Nat.gcd_comm a b, Nat.gcd_rec b a]
      by_cases c2 : a % b = 0
      · rw [c2]
        unfold gdC
        rw [if_pos ((lL_0 (by decide)).mpr rfl), Nat.gcd_zero_left]
      · unfold gdC
        have h2 := mod_half (Nat.pos_of_ne_zero c2) h1 hk
        have h3 := Nat.mod_lt b (Nat.pos_of_ne_zero c2)
        rw [if_neg (fun q => c2 ((lL_0 (by omega)).mp q)), rmL_lN hb (by omega) (by omega), Nat.gcd_rec (a % b) b, Nat.gcd_comm]
        exact gd_ok k m (a % b) (b % (a % b)) (by omega) (by omega) h2 (by omega)
/-- a part of a fraction in lowest terms -/
def lowN (a b : Nat) (w : Int32) : Int64 := if w = 0 then lN (a / Nat.gcd a b) else lN (b / Nat.gcd a b)
theorem partA_ok {a b : Nat} (w : Int32) (ha : a < 2 ^ 62) (hb : b < 2 ^ 62) (h0 : 0 < b) : partA (lN a) (lN b) w = lowN a b w := by
  have hg : 0 < Nat.gcd a b := Nat.gcd_pos_of_pos_right a h0
  have hle : Nat.gcd a b ≤ b := Nat.gcd_le_right a h0
  unfold partA lowN
  rw [gd_ok 62 200 a b ha hb hb (by decide), if_pos (lL_pos (by omega) hg), lL_div ha (by omega) hg, lL_div hb (by omega) hg]
section CM
variable (xs : List Int32) (d : Nat) (h : MH)
theorem lp_cm (x0 y0 : Int64) : ∀ (b a : Nat), a < 2 ^ 62 → b < 2 ^ 62 → ∀ z8 z9 : Option Value, Ev xs d 176 6 [some (.long x0), none, some (.long y0), none, some (.long (lN a)), none, some (.long (lN b)), none, z8, z9] [] h (some (.long (lN (Nat.gcd b a)))) h := by
  intro b
  induction b using Nat.strongRecOn with
  | _ b ih =>
    intro a ha hb z8 z9
    refine ev_go 3 (fun _ => rfl) ?_
    by_cases c : b = 0
    · subst c
      refine ev_if_eq rfl rfl (fun _ => ?_) (fun n => absurd ((lg_cmp_z _).mpr rfl) n)
      rw [Nat.gcd_zero_left]
      exact ev_end 2 rfl
    · have h1 := Nat.mod_lt a (Nat.pos_of_ne_zero c)
      refine ev_if_eq rfl rfl (fun n => absurd n (fun n => c ((lL_0 hb).mp ((lg_cmp_z _).mp n)))) (fun _ => ?_)
      refine ev_go 2 (fun _ => rfl) ?_
      refine ev_lrem rfl (fun q => c ((lL_0 hb).mp q)) ?_
      rw [rmL_lN ha hb (by omega), Nat.gcd_rec b a]
      refine ev_go 6 (ls' := [some (.long x0), none, some (.long y0), none, some (.long (lN b)), none, some (.long (lN (a % b))), none, some (.long (lN (a % b))), none]) (fun _ => rfl) ?_
      exact ih (a % b) h1 b hb (by omega) _ _
theorem sp_low2 (a b : Nat) (w : Int32) (ha : a < 2 ^ 62) (hb : b < 2 ^ 62) (h0 : 0 < b) : Ev xs (d + 1) 177 0 [some (.long (lN a)), none, some (.long (lN b)), none, some (.int w), none, none] [] h (some (.long (lowN a b w))) h := by
  have hg : 0 < Nat.gcd a b := Nat.gcd_pos_of_pos_right a h0
  have hle : Nat.gcd a b ≤ b := Nat.gcd_le_right a h0
  have hc : Ev xs d 176 0 [some (.long (lN b)), none, some (.long (lN a)), none, none, none, none, none, none, none] [] h (some (.long (lN (Nat.gcd a b)))) h := by
    refine ev_go 4 (fun _ => rfl) ?_
    exact lp_cm xs d h (lN b) (lN a) a b hb ha none none
  have hn : ¬ lN (Nat.gcd a b) = 0 := fun q => by
    have := (lL_0 (by omega)).mp q
    omega
  unfold lowN
  rw [← lL_div ha (by omega) hg, ← lL_div hb (by omega) hg]
  refine ev_go 2 (fun _ => rfl) ?_
  refine ev_call (y' := 176) rfl rfl rfl rfl (hc) ?_
  refine ev_go 2 (fun _ => rfl) ?_
  by_cases c : w = 0
  · rw [if_pos c]
    refine ev_if_ne rfl rfl (fun n => absurd n (fun n => n c)) (fun _ => ?_)
    refine ev_go 2 (fun _ => rfl) ?_
    refine ev_ldiv rfl hn ?_
    exact ev_end 2 rfl
  · rw [if_neg c]
    refine ev_if_ne rfl rfl (fun _ => ?_) (fun n => absurd (c) n)
    refine ev_go 2 (fun _ => rfl) ?_
    refine ev_ldiv rfl hn ?_
    exact ev_end 1 rfl
end CM
def zO (z : ZT) (q : Int64 × Int64 × Int64) : ZT := (z.1, z.2.1, z.2.2.1, q, z.2.2.2.2)
/-- a way through the fog: the Canal behind it, by how many ways -/
def gfK (B TN s : Nat) (m k : Nat) (K : CK) : CK := match m with
  | 0 => K
  | m + 1 => gfK B TN s m (k + 1) (ghK (s.testBit k) K B TN)
def wyM (v : Int32) (s : Nat) (m k : Nat) (a : Int64) : Int64 := match m with
  | 0 => a
  | m + 1 => wyM v s m (k + 1) (a * (match s.testBit k with
    | true => v.toInt64
    | false => ((Int8.ofInt 10).toInt32 - v).toInt64))
def foS (g : Nat → Int64) (m s : Nat) (a : Int64) : Int64 := match m with
  | 0 => a
  | m + 1 => foS g m (s + 1) (a + g s)
theorem GM_gf {B TN S s : Nat} : ∀ (m k : Nat) (K : CK), GM K B TN S → GM (gfK B TN s m k K) B TN S
  | 0, _, _, h => h
  | m + 1, k, K, h => GM_gf m (k + 1) _ (GM_gh _ h)
theorem bit_s : ∀ s, s < 256 → ∀ k, k < 8 → (nI s >>> (nI k &&& 31)) &&& Int32.ofInt 1 = bI (s.testBit k) := by decide +kernel
theorem sh_s : ∀ n, n ≤ 8 → Int32.ofInt 1 <<< (nI n &&& 31) = nI (2 ^ n) := by decide +kernel
section MC18
variable (xs : List Int32) (d : Nat) (z : ZT) (Ks : CK) (X : List Int32) (B TN S : Nat)
theorem lp_al (nw eb wa ms mt : List Int32) (cc : C4) (v t : Int32) (n : Nat) (hn : n < 2 ^ 31) (rs : Option Value) (R : MH) (kk : ∀ z4, Ev xs d 178 42 [some (.ref 0), some (.int v), some (.int t), some (.int (nI n)), z4, none, none, none, none] [] (mH (zS (zO z (0, 0, p10 n)) Ks X) nw eb wa ms mt cc) rs R) : ∀ m k, k + m = n → Ev xs d 178 18 [some (.ref 0), some (.int v), some (.int t), some (.int (nI n)), some (.int (nI k)), none, none, none, none] [] (mH (zS (zO z (0, 0, p10 k)) Ks X) nw eb wa ms mt cc) rs R := by
  intro m
  induction m with
  | zero =>
    intro k hk
    have e : k = n := by omega
    subst e
    refine ev_go 2 (fun _ => rfl) ?_
    refine ev_ic_ge rfl rfl (fun _ => ?_) (fun n => absurd (nI_le (Nat.le_refl _) hn) n)
    exact kk _
  | succ m ih =>
    intro k hk
    refine ev_go 2 (fun _ => rfl) ?_
    refine ev_ic_ge rfl rfl (fun n => absurd n (nI_ge (by omega) hn)) (fun _ => ?_)
    refine ev_go 8 (ls' := [some (.ref 0), some (.int v), some (.int t), some (.int (nI n)), some (.int (nI k + Int32.ofInt 1)), none, none, none, none]) (h1 := mH (zS (zO z (0, 0, p10 (k + 1))) Ks X) nw eb wa ms mt cc) (fun _ => rfl) ?_
    rw [nI_inc]
    exact ih (k + 1) (by omega)
theorem lp_way (v t : Int32) (n s : Nat) (hn : n ≤ 8) (hs : s < 256) (rs : Option Value) (R : MH) : ∀ m k, k + m = n → ∀ (K : CK) (a : Int64) (z8 : Option Value), GM K B TN S → (∀ z8, Ev xs (d + 5) 178 119 [some (.ref 0), some (.int v), some (.int t), some (.int (nI n)), some (.int (nI s)), some (.long (wyM v s m k a)), none, some (.int (nI n)), z8] [] (mT (zS z Ks X) (gfK B TN s m k K)) rs R) → Ev xs (d + 5) 178 63 [some (.ref 0), some (.int v), some (.int t), some (.int (nI n)), some (.int (nI s)), some (.long a), none, some (.int (nI k)), z8] [] (mT (zS z Ks X) K) rs R := by
  intro m
  induction m with
  | zero =>
    intro k hk K a z8 hK kk
    have e : k = n := by omega
    subst e
    refine ev_go 2 (fun _ => rfl) ?_
    refine ev_ic_ge rfl rfl (fun _ => ?_) (fun n => absurd (nI_le (Nat.le_refl _) (by omega)) n)
    exact kk _
  | succ m ih =>
    intro k hk K a z8 hK kk
    unfold gfK wyM at kk
    have hg := GM_gh (s.testBit k) hK
    have tl : ∀ q : Bool, q = s.testBit k → Ev xs (d + 5) 178 85 [some (.ref 0), some (.int v), some (.int t), some (.int (nI n)), some (.int (nI s)), some (.long a), none, some (.int (nI k)), z8] [.int (bI q)] (mT (zS z Ks X) K) rs R := by
      intro q hq
      rw [← hq] at kk hg
      cases q with
      | true =>
        refine ev_go 11 (fun _ => rfl) ?_
        refine ev_call (y' := 147) rfl rfl rfl rfl (sp_hg xs _ (zS z Ks X) K true B TN S hK) ?_
        refine ev_go 2 (ls' := [some (.ref 0), some (.int v), some (.int t), some (.int (nI n)), some (.int (nI s)), some (.long (a * v.toInt64)), none, some (.int (nI k + Int32.ofInt 1)), some (.int 1)]) (fun _ => rfl) ?_
        rw [nI_inc]
        exact ih (k + 1) (by omega) _ _ _ hg kk
      | false =>
        refine ev_go 12 (fun _ => rfl) ?_
        refine ev_call (y' := 147) rfl rfl rfl rfl (sp_hg xs _ (zS z Ks X) K false B TN S hK) ?_
        refine ev_go 2 (ls' := [some (.ref 0), some (.int v), some (.int t), some (.int (nI n)), some (.int (nI s)), some (.long (a * ((Int8.ofInt 10).toInt32 - v).toInt64)), none, some (.int (nI k + Int32.ofInt 1)), some (.int 0)]) (fun _ => rfl) ?_
        rw [nI_inc]
        exact ih (k + 1) (by omega) _ _ _ hg kk
    have hb := bit_s s hs k (by omega)
    refine ev_go 2 (fun _ => rfl) ?_
    refine ev_ic_ge rfl rfl (fun n => absurd n (nI_ge (by omega) (by omega))) (fun _ => ?_)
    refine ev_go 6 (fun _ => rfl) ?_
    rw [hb]
    cases hq : s.testBit k with
    | true =>
      refine ev_ic_ne rfl rfl (fun n => absurd n (fun n => n rfl)) (fun _ => ?_)
      refine ev_go 2 (fun _ => rfl) (tl true hq.symm)
    | false =>
      refine ev_ic_ne rfl rfl (fun _ => ?_) (fun n => absurd (by decide) n)
      refine ev_go 1 (fun _ => rfl) (tl false hq.symm)
/-- all ways: for one Talk (tt), or for none -/
theorem lp_odds (v : Int32) (t : Int32) (n : Nat) (hn : n ≤ 8) (hv : VS Ks B TN S) (al : Int64) (oE : Nat → Int64) (wd : Nat → Int32) (hO : ∀ s, s < 256 → ∀ nw eb wa ms mt : List Int32, mOK nw eb wa ms mt → (t = -4 ∧ oE s = 0) ∨ ∃ tt, tt < 6 ∧ t = nI tt ∧ oE s = (if ((gfK B TN s n 0 (stA wa ms mt Ks)).2.2.getD tt dT).2.2.2.2.2.2.2.2.1 = 0 then wyM v s n 0 1 else 0)) (hW : ∀ s, s < 256 → ∀ nw eb wa ms mt : List Int32, mOK nw eb wa ms mt → (gfK B TN s n 0 (stA wa ms mt Ks)).1.2.2.2.2.2.2.1 = wd s) : ∀ m s, s + m = 2 ^ n → ∀ (a b : Int64) (nw eb wa ms mt : List Int32) (cc : C4), mOK nw eb wa ms mt → ∃ h', MHp (zO z (foS oE m s a, foS (fun s => wyM v s n 0 1 * (wd s).toInt64) m s b, al)) Ks X h' ∧ ∀ z5 z6 z7 z8 : Option Value, Ev xs (d + 5) 178 45 [some (.ref 0), some (.int v), some (.int t), some (.int (nI n)), some (.int (nI s)), z5, z6, z7, z8] [] (mH (zS (zO z (a, b, al)) Ks X) nw eb wa ms mt cc) none h' := by
  have hpow : 2 ^ n ≤ 256 := by
    have := Nat.pow_le_pow_right (n := 2) (by decide) hn
    exact this
  have hsh := sh_s n hn
  intro m
  induction m with
  | zero =>
    intro s hs a b nw eb wa ms mt cc ho
    have e : s = 2 ^ n := by omega
    refine ⟨_, ⟨nw, eb, wa, ms, mt, cc, ho, rfl⟩, fun z5 z6 z7 z8 => ?_⟩
    refine ev_go 4 (fun _ => rfl) ?_
    rw [hsh]
    refine ev_ic_ge rfl rfl (fun _ => ?_) (fun n => absurd (nI_le (by omega) (by omega)) n)
    exact ev_end 1 rfl
  | succ m ih =>
    intro s hs a b nw eb wa ms mt cc ho
    have hst := GM_st hv ho
    have hgf := GM_gf (s := s) n 0 _ hst
    have h6 : (gfK B TN s n 0 (stA wa ms mt Ks)).2.2.length = 6 := GM6 hgf
    obtain ⟨h'', p1, p2⟩ := ih (s + 1) (by omega) (a + oE s) (b + wyM v s n 0 1 * (wd s).toInt64) _ _ _ _ _ (cT (gfK B TN s n 0 (stA wa ms mt Ks))) (mOK_T (GS_GM hgf))
    have hO := hO s (by omega) nw eb wa ms mt ho
    have hW := hW s (by omega) nw eb wa ms mt ho
    refine ⟨h'', p1, fun z5 z6 z7 z8 => ?_⟩
    generalize hK : gfK B TN s n 0 (stA wa ms mt Ks) = K at hO hW p2 hgf h6
    have tl : ∀ (z8 : Option Value), Ev xs (d + 5) 178 149 [some (.ref 0), some (.int v), some (.int t), some (.int (nI n)), some (.int (nI s)), some (.long (wyM v s n 0 1)), none, some (.int (nI n)), z8] [] (mT (zS (zO z (a + oE s, b, al)) Ks X) K) none h'' := by
      intro z8
      refine ev_go 12 (ls' := [some (.ref 0), some (.int v), some (.int t), some (.int (nI n)), some (.int (nI s + Int32.ofInt 1)), some (.long (wyM v s n 0 1)), none, some (.int (nI n)), z8]) (h1 := mT (zS (zO z (a + oE s, b + wyM v s n 0 1 * K.1.2.2.2.2.2.2.1.toInt64, al)) Ks X) K) (fun _ => rfl) ?_
      rw [nI_inc, hW]
      exact p2 _ _ _ z8
    refine ev_go 4 (fun _ => rfl) ?_
    rw [hsh]
    refine ev_ic_ge rfl rfl (fun n => absurd n (nI_ge (by omega) (by omega))) (fun _ => ?_)
    refine ev_go 3 (fun _ => rfl) ?_
    refine ev_call (y' := 133) rfl rfl rfl rfl (sp_stA xs _ (zO z (a, b, al)) Ks X nw eb wa ms mt cc ho (CL6 hv.1.1)) ?_
    refine ev_go 2 (ls' := [some (.ref 0), some (.int v), some (.int t), some (.int (nI n)), some (.int (nI s)), some (.long 1), none, some (.int (nI 0)), z8]) (fun _ => rfl) ?_
    refine lp_way xs d (zO z (a, b, al)) Ks X B TN S v t n s hn (by omega) none h'' n 0 (by omega) _ 1 _ hst (fun z8 => ?_)
    rw [hK]
    generalize wyM v s n 0 1 = W at tl hO ⊢
    refine ev_go 5 (fun _ => rfl) ?_
    rcases hO with ⟨e1, e2⟩ | ⟨tt, e0, e1, e2⟩
    · refine ev_ic_eq rfl rfl (fun _ => ?_) (fun n => absurd (e1) n)
      refine ev_go 3 (h1 := mT (zS (zO z (a + oE s, b, al)) Ks X) K) (fun _ => by rw [e2]; rfl) (tl z8)
    · have eE : (K.2.2.map eT)[tt]? = some (K.2.2.getD tt dT).2.2.2.2.2.2.2.2.1 := by
        rw [List.getElem?_map, getT_at (l := K.2.2) (k := tt) (by omega)]
        rfl
      have hne : ¬ t = -4 := fun q => by
        rw [e1] at q
        have := congrArg Int32.toInt q
        rw [nI_toInt (by omega), show (-4 : Int32).toInt = -4 by decide] at this
        omega
      refine ev_ic_eq rfl rfl (fun n => absurd n (hne)) (fun _ => ?_)
      refine ev_go 3 (fun _ => rfl) ?_
      refine ev_iald rfl (L := K.2.2.map eT) rfl (by rw [e1]; exact mm_ix_nI (n := tt) (by omega)) eE ?_
      by_cases c : (K.2.2.getD tt dT).2.2.2.2.2.2.2.2.1 = 0
      · rw [if_pos c] at e2
        refine ev_if_ne rfl rfl (fun n => absurd n (fun n => n c)) (fun _ => ?_)
        refine ev_go 4 (h1 := mT (zS (zO z (a + oE s, b, al)) Ks X) K) (fun _ => by rw [e2]; rfl) (tl z8)
      · rw [if_neg c] at e2
        refine ev_if_ne rfl rfl (fun _ => ?_) (fun n => absurd (c) n)
        refine ev_go 3 (h1 := mT (zS (zO z (a + oE s, b, al)) Ks X) K) (fun _ => by rw [e2]; rfl) (tl z8)
end MC18

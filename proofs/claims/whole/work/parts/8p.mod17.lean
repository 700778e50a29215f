/-! The reference's isSoWith, kinds, paces -/
def zY (z : ZT) (sb bp : List Int32) : ZT := (z.1, z.2.1, z.2.2.1, z.2.2.2.1, z.2.2.2.2.1, z.2.2.2.2.2.1, z.2.2.2.2.2.2.1, z.2.2.2.2.2.2.2.1, sb, bp, z.2.2.2.2.2.2.2.2.2.2)
theorem ghN_c (B TN : Nat) : ∀ (n : Nat) (K : CK), ghN K B TN (n + 1) = ghK false (ghN K B TN n) B TN
  | 0, K => rfl
  | n + 1, K => by
    show ghN (ghK false K B TN) B TN (n + 1) = _
    rw [ghN_c B TN n (ghK false K B TN)]
    rfl
def sdM (K : CK) (B TN h t : Nat) : Int32 := ((ghN K B TN h).2.2.getD t dT).2.2.2.1
/-- what a row of the reference's tells -/
def rowM (f : Nat → Nat → Int32) (TN h t : Nat) : Int32 := if t < TN then f h t else -4
def tellM (f : Nat → Nat → Int32) (TN h : Nat) (l : List Int32) : Prop := l.length = 126 ∧ ∀ h' t, h' < h → t < 6 → l[6 * h' + t]? = some (rowM f TN h' t)
theorem ix6b {h t : Nat} (q : 6 * h + t < 2 ^ 31) : mm_ix ((Int8.ofInt 6).toInt32 * nI h + nI t) = some (6 * h + t) := by
  rw [show (Int8.ofInt 6).toInt32 = nI 6 from rfl, nI_mulA, nI_add]
  exact mm_ix_nI q
section MC13
variable (xs : List Int32) (d : Nat) (z : ZT) (Ks : CK) (X bp : List Int32) (B TN S : Nat)
theorem lp_sayI (K0 : CK) (b w v : Int32) (h : Nat) (hh : h ≤ 20) (hK : GM (ghN K0 B TN h) B TN S) (rs : Option Value) (R : MH → Prop) : ∀ m t, t + m = 6 → ∀ (row : List Int32) (z6 : Option Value), tellM (sdM K0 B TN) TN h row → (∀ t', t' < t → row[6 * h + t']? = some (rowM (sdM K0 B TN) TN h t')) → (∀ (row' : List Int32) (z5 z6 : Option Value), tellM (sdM K0 B TN) TN (h + 1) row' → ∃ h', R h' ∧ Ev xs (d + 5) 183 20 [some (.ref 0), some (.int b), some (.int w), some (.int v), some (.int (nI (h + 1))), z5, z6] [] (mT (zS (zY z row' bp) Ks X) (ghN K0 B TN (h + 1))) rs h') → ∃ h', R h' ∧ Ev xs (d + 5) 183 30 [some (.ref 0), some (.int b), some (.int w), some (.int v), some (.int (nI h)), some (.int (nI t)), z6] [] (mT (zS (zY z row bp) Ks X) (ghN K0 B TN h)) rs h' := by
  have hT6 := hK.1.1.2.2.2.2.2.1
  have eT := hK.1.1.2.2.1
  intro m
  induction m with
  | zero =>
    intro t ht row z6 h1 h2 kk
    have e : t = 6 := by omega
    subst e
    obtain ⟨h', q1, q2⟩ := kk row (some (.int (nI 6))) z6 ⟨h1.1, fun a b c1 c2 => by
      by_cases c : a = h
      · subst c
        exact h2 b c2
      · exact h1.2 a b (by omega) c2⟩
    rw [ghN_c] at q2
    refine ⟨h', q1, ?_⟩
    refine ev_go 5 (fun _ => rfl) ?_
    refine ev_call (y' := 147) rfl rfl rfl rfl (sp_hg xs _ (zS (zY z row bp) Ks X) (ghN K0 B TN h) false B TN S hK) ?_
    refine ev_go 2 (ls' := [some (.ref 0), some (.int b), some (.int w), some (.int v), some (.int (nI h + Int32.ofInt 1)), some (.int (nI 6)), z6]) (fun _ => rfl) ?_
    rw [nI_inc]
    exact q2
  | succ m ih =>
    intro t ht row z6 h1 h2 kk
    have aT := getT_at (l := (ghN K0 B TN h).2.2) (k := t) (by rw [GM6 hK]; omega)
    have g1 : tellM (sdM K0 B TN) TN h (row.set (6 * h + t) (rowM (sdM K0 B TN) TN h t)) := ⟨by rw [List.length_set]; exact h1.1, fun a b c1 c2 => by
      rw [List.getElem?_set_ne (by omega)]
      exact h1.2 a b c1 c2⟩
    have g2 : ∀ t', t' < t + 1 → (row.set (6 * h + t) (rowM (sdM K0 B TN) TN h t))[6 * h + t']? = some (rowM (sdM K0 B TN) TN h t') := fun t' c => by
      by_cases c2 : t' = t
      · subst c2
        exact List.getElem?_set_self (by rw [h1.1]; omega)
      · rw [List.getElem?_set_ne (by omega)]
        exact h2 t' (by omega)
    obtain ⟨h', q1, q2⟩ := ih (t + 1) (by omega) _ z6 g1 g2 kk
    refine ⟨h', q1, ?_⟩
    have tl : ∀ x : Int32, x = rowM (sdM K0 B TN) TN h t → Ev xs (d + 5) 183 73 [some (.ref 0), some (.int b), some (.int w), some (.int v), some (.int (nI h)), some (.int (nI t)), z6] [.int x, .int ((Int8.ofInt 6).toInt32 * nI h + nI t), .ref 10] (mT (zS (zY z row bp) Ks X) (ghN K0 B TN h)) rs h' := by
      intro x hx
      rw [hx]
      refine ev_iastE rfl (L := row) (h2 := mT (zS (zY z (row.set (6 * h + t) (rowM (sdM K0 B TN) TN h t)) bp) Ks X) (ghN K0 B TN h)) rfl (ix6b (by omega)) (by rw [h1.1]; omega) rfl ?_
      refine ev_go 2 (ls' := [some (.ref 0), some (.int b), some (.int w), some (.int v), some (.int (nI h)), some (.int (nI t + Int32.ofInt 1)), z6]) (fun _ => rfl) ?_
      rw [nI_inc]
      exact q2
    refine ev_go 2 (fun _ => rfl) ?_
    refine ev_ic_ge rfl rfl (fun n => absurd n (nI_ge (a := t) (b := 6) (by omega) (by omega))) (fun _ => ?_)
    refine ev_go 11 (fun _ => rfl) ?_
    refine ev_iald rfl (L := flK (ghN K0 B TN h)) rfl (k := 67) rfl fq_67 ?_
    rw [eT]
    by_cases c : t < TN
    · refine ev_ic_ge rfl rfl (fun n => absurd n (nI_ge c (by omega))) (fun _ => ?_)
      refine ev_go 3 (fun _ => rfl) ?_
      refine ev_call (y' := 136) rfl rfl rfl rfl (sp_ofT xs _ (zS (zY z row bp) Ks X) _ _ _ _ _ (ghN K0 B TN h) (t := t) (by omega) aT (k := 3) (by decide) rfl) ?_
      refine ev_go 1 (fun _ => rfl) (tl _ ?_)
      unfold rowM
      rw [if_pos c]
      rfl
    · refine ev_ic_ge rfl rfl (fun _ => ?_) (fun n => absurd (nI_le (by omega) (by omega)) n)
      refine ev_go 1 (fun _ => rfl) (tl _ ?_)
      unfold rowM
      rw [if_neg c]
      decide
theorem lp_sayO (K0 : CK) (b w v : Int32) (hK : GM K0 B TN S) (rs : Option Value) (R : MH → Prop) (kk : ∀ (row : List Int32) (z4 z5 z6 : Option Value), tellM (sdM K0 B TN) TN 21 row → ∃ h', R h' ∧ Ev xs (d + 5) 183 91 [some (.ref 0), some (.int b), some (.int w), some (.int v), z4, z5, z6] [] (mT (zS (zY z row bp) Ks X) (ghN K0 B TN 21)) rs h') : ∀ m h, h + m = 21 → ∀ (row : List Int32) (z5 z6 : Option Value), tellM (sdM K0 B TN) TN h row → ∃ h', R h' ∧ Ev xs (d + 5) 183 20 [some (.ref 0), some (.int b), some (.int w), some (.int v), some (.int (nI h)), z5, z6] [] (mT (zS (zY z row bp) Ks X) (ghN K0 B TN h)) rs h' := by
  intro m
  induction m with
  | zero =>
    intro h hh row z5 z6 h1
    have e : h = 21 := by omega
    subst e
    obtain ⟨h', q1, q2⟩ := kk row (some (.int (nI 21))) z5 z6 h1
    refine ⟨h', q1, ?_⟩
    refine ev_go 3 (fun _ => rfl) ?_
    exact q2
  | succ m ih =>
    intro h hh row z5 z6 h1
    obtain ⟨h', q1, q2⟩ := lp_sayI xs d z Ks X bp B TN S K0 b w v h (by omega) (GM_ghN h K0 hK) rs R 6 0 (by omega) row z6 h1 (fun t' c => by omega) (fun row' z5 z6 h2 => ih (h + 1) (by omega) row' z5 z6 h2)
    refine ⟨h', q1, ?_⟩
    refine ev_go 2 (fun _ => rfl) ?_
    refine ev_ic_gt rfl rfl (fun n => absurd n (nI_nlt (a := 20) (b := h) (by omega) (by omega))) (fun _ => ?_)
    refine ev_go 2 (ls' := [some (.ref 0), some (.int b), some (.int w), some (.int v), some (.int (nI h)), some (.int (nI 0)), z6]) (fun _ => rfl) ?_
    exact q2
theorem seB_row {F : Nat → Nat → Int32} {K : CK} {i n t w : Nat} (hTN : TN ≤ 6) (c2 : t < 6) (c3 : w ≤ 20) (hn : n ≤ 20) (e1 : K.2.1.2.2.2.1.getD i 0 = nI n) (e2 : K.2.1.2.2.2.2.1.getD i 0 = nI t) (e3 : K.2.1.2.2.2.2.2.1.getD i 0 = nI w) : seB F TN K i = decide (rowM F TN n t = nI w) := by
  unfold seB rowM
  rw [e1, e2, e3, nI_clamp (by omega), nI_clamp (by omega)]
  by_cases c : t < TN
  · rw [if_pos c, decide_eq_true (nI_lt c (by omega))]
    rfl
  · rw [if_neg c, decide_eq_false (nI_nlt (by omega) (by omega))]
    symm
    rw [Bool.false_and]
    apply decide_eq_false
    intro q
    have := congrArg Int32.toInt q
    rw [nI_toInt (by omega), show (-4 : Int32).toInt = -4 by decide] at this
    omega
theorem lp_mse (F : Nat → Nat → Int32) (K : CK) (b w v : Int32) (row : List Int32) (hn : CN Ks B TN S) (hS : okS Ks S) (hR : tellM F TN 21 row) : ∀ m i, i + m = S → ∀ (q : Bool) (z6 : Option Value), Ev xs d 183 97 [some (.ref 0), some (.int b), some (.int w), some (.int v), some (.int (bI q)), some (.int (nI i)), z6] [] (mT (zS (zY z row bp) Ks X) K) (some (.int (bI (q && asQ F TN Ks m i)))) (mT (zS (zY z row bp) Ks X) K) := by
  obtain ⟨hcl, eB, eT, eS, hB, hTN, hS6⟩ := hn
  intro m
  induction m with
  | zero =>
    intro i hi q z6
    have e : i = S := by omega
    subst e
    refine ev_go 4 (fun _ => rfl) ?_
    refine ev_iald rfl rfl (k := 68) rfl ((sg (by decide)).trans fq_68) ?_
    rw [eS]
    refine ev_ic_ge rfl rfl (fun _ => ?_) (fun n => absurd (nI_le (Nat.le_refl _) (by omega)) n)
    unfold asQ
    rw [Bool.and_true]
    cases q with
    | false => exact ev_end 2 rfl
    | true => exact ev_end 2 rfl
  | succ m ih =>
    intro i hi q z6
    obtain ⟨n, t, u, c1, c2, c3, e1, e2, e3⟩ := hS i (by omega)
    have es := seB_row (F := F) TN hTN c2 c3 c1 e1 e2 e3
    unfold asQ
    rw [← Bool.and_assoc, es]
    have f0 : (flK Ks)[69 + 3 * i]? = some (nI n) := by
      have := fq_S (K := Ks) (i := i) (k := 0) (by omega) (by decide)
      rw [show 69 + 3 * i + 0 = 69 + 3 * i from rfl] at this
      rw [this]
      unfold fl3
      rw [e1]
      rfl
    have f1 : (flK Ks)[69 + 3 * i + 1]? = some (nI t) := by
      rw [fq_S (K := Ks) (i := i) (k := 1) (by omega) (by decide)]
      unfold fl3
      rw [e2]
      rfl
    have f2 : (flK Ks)[69 + 3 * i + 2]? = some (nI u) := by
      rw [fq_S (K := Ks) (i := i) (k := 2) (by omega) (by decide)]
      unfold fl3
      rw [e3]
      rfl
    have tl : ∀ q2 : Bool, q2 = (q && decide (rowM F TN n t = nI u)) → Ev xs d 183 165 [some (.ref 0), some (.int b), some (.int w), some (.int v), some (.int (bI q)), some (.int (nI i)), some (.int (nI (69 + 3 * i)))] [.int (bI q2)] (mT (zS (zY z row bp) Ks X) K) (some (.int (bI ((q && decide (rowM F TN n t = nI u)) && asQ F TN Ks m (i + 1))))) (mT (zS (zY z row bp) Ks X) K) := by
      intro q2 h2
      rw [← h2]
      refine ev_go 3 (ls' := [some (.ref 0), some (.int b), some (.int w), some (.int v), some (.int (bI q2)), some (.int (nI i + Int32.ofInt 1)), some (.int (nI (69 + 3 * i)))]) (fun _ => rfl) ?_
      rw [nI_inc]
      exact ih (i + 1) (by omega) q2 _
    refine ev_go 4 (fun _ => rfl) ?_
    refine ev_iald rfl rfl (k := 68) rfl ((sg (by decide)).trans fq_68) ?_
    rw [eS]
    refine ev_ic_ge rfl rfl (fun n => absurd n (nI_ge (by omega) (by omega))) (fun _ => ?_)
    refine ev_go 7 (ls' := [some (.ref 0), some (.int b), some (.int w), some (.int v), some (.int (bI q)), some (.int (nI i)), some (.int ((Int8.ofInt 69).toInt32 + Int32.ofInt 3 * nI i))]) (fun _ => rfl) ?_
    rw [ix69]
    cases q with
    | false =>
      refine ev_go 2 (fun _ => rfl) (tl false rfl)
    | true =>
      refine ev_go 7 (fun _ => rfl) ?_
      refine ev_iald rfl rfl (mm_ix_nI (n := 69 + 3 * i) (by omega)) ((sg (by omega)).trans f0) ?_
      refine ev_go 6 (fun _ => rfl) ?_
      refine ev_iald rfl rfl (ixa (c := 69 + 3 * i) (k := 1) (by omega)) ((sg (by omega)).trans f1) ?_
      refine ev_go 1 (fun _ => rfl) ?_
      refine ev_iald rfl (L := row) rfl (ix6b (h := n) (t := t) (by omega)) (hR.2 n t (by omega) c2) ?_
      refine ev_go 5 (fun _ => rfl) ?_
      refine ev_iald rfl rfl (ixa (c := 69 + 3 * i) (k := 2) (by omega)) ((sg (by omega)).trans f2) ?_
      by_cases c : rowM F TN n t = nI u
      · refine ev_ic_ne rfl rfl (fun n => absurd n (fun n => n c)) (fun _ => ?_)
        refine ev_go 2 (fun _ => rfl) (tl true (by rw [decide_eq_true c]; rfl))
      · refine ev_ic_ne rfl rfl (fun _ => ?_) (fun n => absurd (c) n)
        refine ev_go 1 (fun _ => rfl) (tl false (by rw [decide_eq_false c]; rfl))
theorem tellM_eq {f g : Nat → Nat → Int32} {l : List Int32} (h : ∀ a t, a ≤ 20 → t < TN → f a t = g a t) (q : tellM f TN 21 l) : tellM g TN 21 l := ⟨q.1, fun a t c1 c2 => by
  rw [q.2 a t c1 c2]
  unfold rowM
  by_cases c : t < TN
  · rw [if_pos c, if_pos c, h a t (by omega) c]
  · rw [if_neg c, if_neg c]⟩
variable (nw eb wa ms mt : List Int32) (cc : C4)
theorem sp_iso (F : Nat → Nat → Int32) (b w : Nat) (v : Int32) (sb : List Int32) (hsb : sb.length = 126) (hb : b < 5) (hw : w ≤ 2) (hv : VS Ks B TN S) (hS : okS Ks S) (ho : mOK nw eb wa ms mt) (hF : ∀ h t, h ≤ 20 → t < TN → sdM (putK (stA wa ms mt Ks) w b v) B TN h t = F h t) : ∃ (row : List Int32) (K' : CK), tellM F TN 21 row ∧ GS K' ∧ Ev xs (d + 5) 183 0 [some (.ref 0), some (.int (nI b)), some (.int (nI w)), some (.int v), none, none, none] [] (mH (zS (zY z sb bp) Ks X) nw eb wa ms mt cc) (some (.int (bI (asQ F TN Ks S 0)))) (mT (zS (zY z row bp) Ks X) K') := by
  have hs := GM_st hv ho
  have hp := GM_put w b v hs
  obtain ⟨h', ⟨row, K', q1, q2, q3⟩, q4⟩ := lp_sayO xs d z Ks X bp B TN S (putK (stA wa ms mt Ks) w b v) (nI b) (nI w) v hp (some (.int (bI (asQ F TN Ks S 0)))) (fun h' => ∃ (row : List Int32) (K' : CK), tellM F TN 21 row ∧ GS K' ∧ h' = mT (zS (zY z row bp) Ks X) K') (fun row z4 z5 z6 h1 => by
    have h2 := tellM_eq TN hF h1
    refine ⟨_, ⟨row, _, h2, GS_GM (GM_ghN 21 _ hp), rfl⟩, ?_⟩
    refine ev_go 4 (ls' := [some (.ref 0), some (.int (nI b)), some (.int (nI w)), some (.int v), some (.int (bI true)), some (.int (nI 0)), z6]) (fun _ => rfl) ?_
    exact lp_mse xs _ z Ks X bp B TN S F _ (nI b) (nI w) v row hv.1 hS h2 S 0 (by omega) true z6) 21 0 (by omega) sb none none ⟨hsb, fun a b c _ => by omega⟩
  refine ⟨row, K', q1, q2, ?_⟩
  rw [← q3]
  refine ev_go 1 (fun _ => rfl) ?_
  refine ev_call (y' := 133) rfl rfl rfl rfl (sp_stA xs _ (zY z sb bp) Ks X nw eb wa ms mt cc ho (CL6 hv.1.1)) ?_
  refine ev_go 10 (fun _ => rfl) ?_
  refine ev_iastE rfl (L := flK (stA wa ms mt Ks)) rfl (ix3 (by omega)) (by rw [flK_len]; omega) (mT_set hs.1.1.1 hb hw) ?_
  refine ev_go 2 (ls' := [some (.ref 0), some (.int (nI b)), some (.int (nI w)), some (.int v), some (.int (nI 0)), none, none]) (fun _ => rfl) ?_
  exact q4
end MC13
theorem or_0 (q x : Int32) : q ||| (bI false <<< x) = q := by
  show q ||| ((0 : Int32) <<< x) = q
  rw [Int32.zero_shiftLeft, Int32.or_zero]
section MC14
variable (xs : List Int32) (d : Nat) (z : ZT) (Ks : CK) (X bp : List Int32) (B TN S : Nat)
theorem lp_whi (F : Nat → Nat → Nat → Int32) (b w M : Nat) (lo : Int32) (hb : b < B) (hw : w ≤ 2) (hM : M < 10) (hv : VS Ks B TN S) (hS : okS Ks S) (hF : ∀ (v : Nat), v < 10 → ∀ (nw eb wa ms mt : List Int32), mOK nw eb wa ms mt → ∀ h t, h ≤ 20 → t < TN → sdM (putK (stA wa ms mt Ks) w b (nI v)) B TN h t = F v h t) : ∀ m v, v + m = M + 1 → ∀ (bits : Int32) (sb nw eb wa ms mt : List Int32) (cc : C4), sb.length = 126 → mOK nw eb wa ms mt → ∃ (sb' : List Int32) (h' : MH), sb'.length = 126 ∧ MHp (zY z sb' bp) Ks X h' ∧ Ev xs (d + 6) 184 16 [some (.ref 0), some (.int (nI b)), some (.int (nI w)), some (.int lo), some (.int (nI M)), some (.int bits), some (.int (nI v))] [] (mH (zS (zY z sb bp) Ks X) nw eb wa ms mt cc) (some (.int (vaS (fun v => asQ (F v) TN Ks S 0) m v bits))) h' := by
  have hB := hv.1.2.2.2.2.1
  intro m
  induction m with
  | zero =>
    intro v hvv bits sb nw eb wa ms mt cc hsb ho
    refine ⟨sb, _, hsb, ⟨_, _, _, _, _, cc, ho, rfl⟩, ?_⟩
    refine ev_go 2 (fun _ => rfl) ?_
    refine ev_ic_gt rfl rfl (fun _ => ?_) (fun n => absurd (nI_lt (by omega) (by omega)) n)
    exact ev_end 2 rfl
  | succ m ih =>
    intro v hvv bits sb nw eb wa ms mt cc hsb ho
    obtain ⟨row, K', q1, q2, q3⟩ := sp_iso xs d z Ks X bp B TN S nw eb wa ms mt cc (F v) b w (nI v) sb hsb (by omega) hw hv hS ho (hF v (by omega) nw eb wa ms mt ho)
    have key : ∀ bits2, bits2 = (match asQ (F v) TN Ks S 0 with
        | true => bits ||| (Int32.ofInt 1 <<< (nI v &&& 31))
        | false => bits) → ∀ (r2 : Option Value) (R : MH), Ev xs (d + 6) 184 16 [some (.ref 0), some (.int (nI b)), some (.int (nI w)), some (.int lo), some (.int (nI M)), some (.int bits2), some (.int (nI (v + 1)))] [] (mT (zS (zY z row bp) Ks X) K') r2 R → Ev xs (d + 6) 184 16 [some (.ref 0), some (.int (nI b)), some (.int (nI w)), some (.int lo), some (.int (nI M)), some (.int bits), some (.int (nI v))] [] (mH (zS (zY z sb bp) Ks X) nw eb wa ms mt cc) r2 R := by
      intro bits2 hb2 r2 R hr
      refine ev_go 2 (fun _ => rfl) ?_
      refine ev_ic_gt rfl rfl (fun n => absurd n (nI_nlt (by omega) (by omega))) (fun _ => ?_)
      refine ev_go 5 (fun _ => rfl) ?_
      refine ev_call (y' := 183) rfl rfl rfl rfl (q3) ?_
      refine ev_call (y' := 111) rfl rfl rfl rfl (sp_flag xs _ _ (asQ (F v) TN Ks S 0)) ?_
      refine ev_go 6 (ls' := [some (.ref 0), some (.int (nI b)), some (.int (nI w)), some (.int lo), some (.int (nI M)), some (.int (bits ||| (bI (asQ (F v) TN Ks S 0) <<< (nI v &&& 31)))), some (.int (nI v + Int32.ofInt 1))]) (fun _ => rfl) ?_
      rw [nI_inc]
      cases ha : asQ (F v) TN Ks S 0 with
      | false =>
        rw [ha] at hb2
        rw [or_0]
        rw [hb2] at hr
        exact hr
      | true =>
        rw [ha] at hb2
        rw [hb2] at hr
        exact hr
    obtain ⟨sb', h', g1, g2, g3⟩ := ih (v + 1) (by omega) _ row _ _ _ _ _ (cT K') q1.1 (mOK_T q2)
    exact ⟨sb', h', g1, g2, key _ rfl _ _ g3⟩
theorem sp_whi (F : Nat → Nat → Nat → Int32) (b w L M : Nat) (hb : b < B) (hw : w ≤ 2) (hM : M < 10) (hL : L ≤ M) (hv : VS Ks B TN S) (hS : okS Ks S) (hF : ∀ (v : Nat), v < 10 → ∀ (nw eb wa ms mt : List Int32), mOK nw eb wa ms mt → ∀ h t, h ≤ 20 → t < TN → sdM (putK (stA wa ms mt Ks) w b (nI v)) B TN h t = F v h t) (sb nw eb wa ms mt : List Int32) (cc : C4) (hsb : sb.length = 126) (ho : mOK nw eb wa ms mt) : ∃ (sb' : List Int32) (h' : MH), sb'.length = 126 ∧ MHp (zY z sb' bp) Ks X h' ∧ Ev xs (d + 6) 184 0 [some (.ref 0), some (.int (nI b)), some (.int (nI w)), some (.int (nI L)), some (.int (nI M)), none, none] [] (mH (zS (zY z sb bp) Ks X) nw eb wa ms mt cc) (some (.int (vaS (fun v => asQ (F v) TN Ks S 0) (M + 1 - L) L 0))) h' := by
  have hB := hv.1.2.2.2.2.1
  obtain ⟨sb', h', g1, g2, g3⟩ := lp_whi xs d z Ks X bp B TN S F b w M (nI L) hb hw hM hv hS hF (M + 1 - L) L (by omega) 0 sb nw eb wa ms mt cc hsb ho
  refine ⟨sb', h', g1, g2, ?_⟩
  refine ev_go 2 (fun _ => rfl) ?_
  refine ev_call (y' := 130) rfl rfl rfl rfl (sp_isB xs _ (zY z sb bp) Ks X nw eb wa ms mt cc (nI b) B hv.1.2.1 (by omega)) ?_
  rw [show hasI (nI b) Ks.1.2.2.2.1 = true by rw [hv.1.2.1]; exact has_nI (by omega) hb]
  refine ev_go 5 (fun _ => rfl) ?_
  exact g3
variable (sb nw eb wa ms mt : List Int32) (cc : C4)
theorem sp_whi_bad (b w lo mo : Int32) (hv : VS Ks B TN S) (c : hasI b Ks.1.2.2.2.1 = false) : Ev xs (d + 2) 184 0 [some (.ref 0), some (.int b), some (.int w), some (.int lo), some (.int mo), none, none] [] (mH (zS z Ks X) nw eb wa ms mt cc) (some (.int (-1))) (mH (zS z Ks X) nw eb wa ms mt cc) := by
  refine ev_go 2 (fun _ => rfl) ?_
  refine ev_call (y' := 130) rfl rfl rfl rfl (sp_isB xs _ z Ks X nw eb wa ms mt cc b B hv.1.2.1 (by have := hv.1.2.2.2.2.1; omega)) ?_
  rw [c]
  exact ev_end 3 rfl
theorem m_kinds_bad (b : Int32) (hv : VS Ks B TN S) (c : hasI b Ks.1.2.2.2.1 = false) : Ev xs (d + 3) 185 0 [some (.ref 0), some (.int b)] [] (mH (zS z Ks X) nw eb wa ms mt cc) (some (.int (-1))) (mH (zS z Ks X) nw eb wa ms mt cc) := by
  refine ev_go 5 (fun _ => rfl) ?_
  refine ev_call (y' := 184) rfl rfl rfl rfl (sp_whi_bad xs _ z Ks X B TN S nw eb wa ms mt cc b 0 0 3 hv c) ?_
  exact ev_end 1 rfl
theorem m_paces_bad (b : Int32) (hv : VS Ks B TN S) (c : hasI b Ks.1.2.2.2.1 = false) : Ev xs (d + 3) 186 0 [some (.ref 0), some (.int b)] [] (mH (zS z Ks X) nw eb wa ms mt cc) (some (.int (-1))) (mH (zS z Ks X) nw eb wa ms mt cc) := by
  refine ev_go 5 (fun _ => rfl) ?_
  refine ev_call (y' := 184) rfl rfl rfl rfl (sp_whi_bad xs _ z Ks X B TN S nw eb wa ms mt cc b 2 1 9 hv c) ?_
  exact ev_end 1 rfl
theorem m_kinds (F : Nat → Nat → Nat → Int32) (b : Nat) (hb : b < B) (hv : VS Ks B TN S) (hS : okS Ks S) (hF : ∀ (v : Nat), v < 10 → ∀ (nw eb wa ms mt : List Int32), mOK nw eb wa ms mt → ∀ h t, h ≤ 20 → t < TN → sdM (putK (stA wa ms mt Ks) 0 b (nI v)) B TN h t = F v h t) (hsb : sb.length = 126) (ho : mOK nw eb wa ms mt) : ∃ (sb' : List Int32) (h' : MH), sb'.length = 126 ∧ MHp (zY z sb' bp) Ks X h' ∧ Ev xs (d + 7) 185 0 [some (.ref 0), some (.int (nI b))] [] (mH (zS (zY z sb bp) Ks X) nw eb wa ms mt cc) (some (.int (vaS (fun v => asQ (F v) TN Ks S 0) 4 0 0))) h' := by
  obtain ⟨sb', h', g1, g2, g3⟩ := sp_whi xs d z Ks X bp B TN S F b 0 0 3 hb (by omega) (by omega) (by omega) hv hS hF sb nw eb wa ms mt cc hsb ho
  refine ⟨sb', h', g1, g2, ?_⟩
  refine ev_go 5 (fun _ => rfl) ?_
  refine ev_call (y' := 184) rfl rfl rfl rfl (g3) ?_
  exact ev_end 1 rfl
theorem m_paces (F : Nat → Nat → Nat → Int32) (b : Nat) (hb : b < B) (hv : VS Ks B TN S) (hS : okS Ks S) (hF : ∀ (v : Nat), v < 10 → ∀ (nw eb wa ms mt : List Int32), mOK nw eb wa ms mt → ∀ h t, h ≤ 20 → t < TN → sdM (putK (stA wa ms mt Ks) 2 b (nI v)) B TN h t = F v h t) (hsb : sb.length = 126) (ho : mOK nw eb wa ms mt) : ∃ (sb' : List Int32) (h' : MH), sb'.length = 126 ∧ MHp (zY z sb' bp) Ks X h' ∧ Ev xs (d + 7) 186 0 [some (.ref 0), some (.int (nI b))] [] (mH (zS (zY z sb bp) Ks X) nw eb wa ms mt cc) (some (.int (vaS (fun v => asQ (F v) TN Ks S 0) 9 1 0))) h' := by
  obtain ⟨sb', h', g1, g2, g3⟩ := sp_whi xs d z Ks X bp B TN S F b 2 1 9 hb (by omega) (by omega) (by omega) hv hS hF sb nw eb wa ms mt cc hsb ho
  refine ⟨sb', h', g1, g2, ?_⟩
  refine ev_go 5 (fun _ => rfl) ?_
  refine ev_call (y' := 184) rfl rfl rfl rfl (g3) ?_
  exact ev_end 1 rfl
end MC14

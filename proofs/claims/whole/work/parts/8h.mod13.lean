/-! The reference's swap, drift -/
theorem mT_set {z : ZT} {K : CK} {w b : Nat} {v : Int32} (hcl : CL K) (hb : b < 5) (hw : w ≤ 2) : (mT z K).set 2 (.inl (0, (flK K).set (3 + 3 * b + w) v)) = mT z (putK K w b v) := by
  rw [mT_put, ← fs_B hcl hb hw]
  rfl
theorem mOK_T {K : CK} (h : GS K) : mOK (flK K) (K.2.2.map eT) K.2.1.2.2.2.2.2.2.1 K.2.1.2.2.2.2.2.2.2.2.2 K.2.1.2.2.2.2.2.2.2.2.1 := mOK_K h (by rw [List.length_map]; exact CL6 h.1)
def cT (K : CK) : C4 := (smT 9 K.2.2, smT 10 K.2.2, K.1.2.2.2.2.2.2.1, K.1.2.2.2.2.2.2.2)
theorem mT_H (z : ZT) (K : CK) : mT z K = mH z (flK K) (K.2.2.map eT) K.2.1.2.2.2.2.2.2.1 K.2.1.2.2.2.2.2.2.2.2.2 K.2.1.2.2.2.2.2.2.2.2.1 (cT K) := rfl
def jsI (E : Nat → Nat → Int32) (a m b : Nat) (q : Int32 × Int32) : Int32 × Int32 := match m with
  | 0 => q
  | m + 1 => jsI E a m (b + 1) (jdM q (nI (10 * a + b)) (E a b))
def jsO (E : Nat → Nat → Int32) (B m a : Nat) (q : Int32 × Int32) : Int32 × Int32 := match m with
  | 0 => q
  | m + 1 => jsO E B m (a + 1) (jsI E a (B - (a + 1)) (a + 1) q)
theorem GM_sw {Ks K : CK} {B TN S : Nat} (a b : Nat) (h : GM K B TN S) : GM (swP Ks K a b) B TN S := GM_put 2 _ _ (GM_put 2 _ _ h)
section MC7
variable (xs : List Int32) (d : Nat) (z : ZT) (Ks : CK) (X : List Int32) (B TN S : Nat)
theorem lp_msI (N a : Nat) (ha : a < B) (hN : N ≤ 100) (w : Int32) (E : Nat → Nat → Int32) (hv : VS Ks B TN S) (zf : ZT) (r : Option Value) (hE : ∀ a b, a < B → b < B → ∀ nw eb wa ms mt : List Int32, mOK nw eb wa ms mt → smT 9 (ghN (swP Ks (stA wa ms mt Ks) a b) B TN N).2.2 = E a b) : ∀ m b, b + m = B → ∀ (q : Int32 × Int32) (nw eb wa ms mt : List Int32) (cc : C4), mOK nw eb wa ms mt → (∀ (nw eb wa ms mt : List Int32) (cc : C4), mOK nw eb wa ms mt → ∃ h', MHp zf Ks X h' ∧ Ev xs (d + 7) 175 31 [some (.ref 0), some (.int (nI N)), some (.int w), some (.int (nI (a + 1))), some (.int (nI B))] [] (mH (zS (zJ z (jsI E a m b q)) Ks X) nw eb wa ms mt cc) r h') → ∃ h', MHp zf Ks X h' ∧ Ev xs (d + 7) 175 47 [some (.ref 0), some (.int (nI N)), some (.int w), some (.int (nI a)), some (.int (nI b))] [] (mH (zS (zJ z q) Ks X) nw eb wa ms mt cc) r h' := by
  have hB := hv.1.2.2.2.2.1
  have eB := hv.1.2.1
  intro m
  induction m with
  | zero =>
    intro b hb q nw eb wa ms mt cc ho kk
    have e : b = B := by omega
    subst e
    obtain ⟨h', h1, h2⟩ := kk nw eb wa ms mt cc ho
    refine ⟨h', h1, ?_⟩
    refine ev_go 4 (fun _ => rfl) ?_
    refine ev_iald rfl rfl (k := 18) rfl ((sg (by decide)).trans fq_18) ?_
    rw [eB]
    refine ev_ic_ge rfl rfl (fun _ => ?_) (fun n => absurd (nI_le (Nat.le_refl _) (by omega)) n)
    refine ev_go 2 (ls' := [some (.ref 0), some (.int (nI N)), some (.int w), some (.int (nI a + Int32.ofInt 1)), some (.int (nI b))]) (fun _ => rfl) ?_
    rw [nI_inc]
    exact h2
  | succ m ih =>
    intro b hb q nw eb wa ms mt cc ho kk
    have hs := GM_st hv ho
    have hp := GM_put 2 a (gtK Ks 2 b) hs
    have hg := GM_sw (Ks := Ks) a b hs
    have hg2 := GM_ghN N _ hg
    obtain ⟨h', h1, h2⟩ := ih (b + 1) (by omega) (jdM q (nI (10 * a + b)) (E a b)) _ _ _ _ _ (cT (ghN (swP Ks (stA wa ms mt Ks) a b) B TN N)) (mOK_T (GS_GM hg2)) kk
    refine ⟨h', h1, ?_⟩
    refine ev_go 4 (fun _ => rfl) ?_
    refine ev_iald rfl rfl (k := 18) rfl ((sg (by decide)).trans fq_18) ?_
    rw [eB]
    refine ev_ic_ge rfl rfl (fun n => absurd n (nI_ge (by omega) (by omega))) (fun _ => ?_)
    refine ev_go 1 (fun _ => rfl) ?_
    refine ev_call (y' := 133) rfl rfl rfl rfl (sp_stA xs _ (zJ z q) Ks X nw eb wa ms mt cc ho (CL6 hv.1.1)) ?_
    refine ev_go 18 (fun _ => rfl) ?_
    refine ev_iald rfl rfl (ix32 (by omega)) ((sg (by omega)).trans (fq_B (b := b) (w := 2) (by omega) (by decide))) ?_
    refine ev_iastE rfl (L := flK (stA wa ms mt Ks)) rfl (ix32 (by omega)) (by rw [flK_len]; omega) (mT_set hs.1.1.1 (by omega) (by decide)) ?_
    refine ev_go 18 (fun _ => rfl) ?_
    refine ev_iald rfl rfl (ix32 (by omega)) ((sg (by omega)).trans (fq_B (b := a) (w := 2) (by omega) (by decide))) ?_
    refine ev_iastE rfl (L := flK (putK (stA wa ms mt Ks) 2 a (gtK Ks 2 b))) rfl (ix32 (by omega)) (by rw [flK_len]; omega) (mT_set hp.1.1.1 (by omega) (by decide)) ?_
    refine ev_go 8 (fun _ => rfl) ?_
    refine ev_call (y' := 149) rfl rfl rfl rfl (sp_ends0 xs _ (zS (zJ z q) Ks X) (swP Ks (stA wa ms mt Ks) a b) N (by omega) B TN S hg) ?_
    rw [hE a b (by omega) (by omega) nw eb wa ms mt ho, nI_mul10]
    refine ev_call (y' := 169) rfl rfl rfl rfl (sp_jd xs _ z Ks X _ _ _ _ _ _ q (nI (10 * a + b)) (E a b)) ?_
    refine ev_go 2 (ls' := [some (.ref 0), some (.int (nI N)), some (.int w), some (.int (nI a)), some (.int (nI b + Int32.ofInt 1))]) (fun _ => rfl) ?_
    rw [nI_inc]
    exact h2
theorem lp_msO (N : Nat) (hN : N ≤ 100) (w : Int32) (E : Nat → Nat → Int32) (hv : VS Ks B TN S) (hE : ∀ a b, a < B → b < B → ∀ nw eb wa ms mt : List Int32, mOK nw eb wa ms mt → smT 9 (ghN (swP Ks (stA wa ms mt Ks) a b) B TN N).2.2 = E a b) : ∀ m a, a + m = B → ∀ (q : Int32 × Int32) (zz : Option Value) (nw eb wa ms mt : List Int32) (cc : C4), mOK nw eb wa ms mt → ∃ h', MHp (zJ z (jsO E B m a q)) Ks X h' ∧ Ev xs (d + 7) 175 31 [some (.ref 0), some (.int (nI N)), some (.int w), some (.int (nI a)), zz] [] (mH (zS (zJ z q) Ks X) nw eb wa ms mt cc) (some (.int (jA w (jsO E B m a q)))) h' := by
  have hB := hv.1.2.2.2.2.1
  have eB := hv.1.2.1
  intro m
  induction m with
  | zero =>
    intro a ha q zz nw eb wa ms mt cc ho
    have e : a = B := by omega
    subst e
    refine ⟨_, ⟨_, _, _, _, _, cc, ho, rfl⟩, ?_⟩
    refine ev_go 4 (fun _ => rfl) ?_
    refine ev_iald rfl rfl (k := 18) rfl ((sg (by decide)).trans fq_18) ?_
    rw [eB]
    refine ev_ic_ge rfl rfl (fun _ => ?_) (fun n => absurd (nI_le (Nat.le_refl _) (by omega)) n)
    refine ev_go 2 (fun _ => rfl) ?_
    refine ev_call (y' := 170) rfl rfl rfl rfl (sp_jA xs _ z Ks X nw eb wa ms mt cc q w) ?_
    exact ev_end 1 rfl
  | succ m ih =>
    intro a ha q zz nw eb wa ms mt cc ho
    unfold jsO
    obtain ⟨h', h1, h2⟩ := lp_msI xs d z Ks X B TN S N a (by omega) hN w E hv (zJ z (jsO E B m (a + 1) (jsI E a (B - (a + 1)) (a + 1) q))) (some (.int (jA w (jsO E B m (a + 1) (jsI E a (B - (a + 1)) (a + 1) q))))) hE (B - (a + 1)) (a + 1) (by omega) q nw eb wa ms mt cc ho (fun nw eb wa ms mt cc ho => ih (a + 1) (by omega) _ _ nw eb wa ms mt cc ho)
    refine ⟨h', h1, ?_⟩
    refine ev_go 4 (fun _ => rfl) ?_
    refine ev_iald rfl rfl (k := 18) rfl ((sg (by decide)).trans fq_18) ?_
    rw [eB]
    refine ev_ic_ge rfl rfl (fun n => absurd n (nI_ge (by omega) (by omega))) (fun _ => ?_)
    refine ev_go 4 (ls' := [some (.ref 0), some (.int (nI N)), some (.int w), some (.int (nI a)), some (.int (nI a + Int32.ofInt 1))]) (fun _ => rfl) ?_
    rw [nI_inc]
    exact h2
variable (nw eb wa ms mt : List Int32) (cc : C4)
theorem m_swap_bad (n w : Int32) (c : (wiI n 0 100 && wiI w 0 1) = false) (h : MH) : Ev xs (d + 2) 175 0 [some (.ref 0), some (.int n), some (.int w), none, none] [] h (some (.int (-1))) h := by
  refine ev_go 1 (fun _ => rfl) ?_
  refine ev_call (y' := 161) rfl rfl rfl rfl (sp_far xs _ h n) ?_
  cases c1 : wiI n 0 100 with
  | false => exact ev_end 3 rfl
  | true =>
    rw [c1] at c
    refine ev_go 2 (fun _ => rfl) ?_
    refine ev_call (y' := 132) rfl rfl rfl rfl (sp_part xs _ h w) ?_
    rw [show wiI w 0 1 = false from c]
    exact ev_end 3 rfl
theorem m_swap (N : Nat) (hN : N ≤ 100) (w : Int32) (cw : wiI w 0 1 = true) (E0 : Int32) (E : Nat → Nat → Int32) (hv : VS Ks B TN S) (ho : mOK nw eb wa ms mt) (h0 : ∀ nw eb wa ms mt : List Int32, mOK nw eb wa ms mt → smT 9 (ghN (stA wa ms mt Ks) B TN N).2.2 = E0) (hE : ∀ a b, a < B → b < B → ∀ nw eb wa ms mt : List Int32, mOK nw eb wa ms mt → smT 9 (ghN (swP Ks (stA wa ms mt Ks) a b) B TN N).2.2 = E a b) : ∃ h', MHp (zJ z (jsO E B B 0 (-4, E0))) Ks X h' ∧ Ev xs (d + 7) 175 0 [some (.ref 0), some (.int (nI N)), some (.int w), none, none] [] (mH (zS z Ks X) nw eb wa ms mt cc) (some (.int (jA w (jsO E B B 0 (-4, E0))))) h' := by
  have hs := GM_st hv ho
  have hg2 := GM_ghN N _ hs
  obtain ⟨h', h1, h2⟩ := lp_msO xs d z Ks X B TN S N hN w E hv hE B 0 (by omega) (-4, E0) none _ _ _ _ _ (cT (ghN (stA wa ms mt Ks) B TN N)) (mOK_T (GS_GM hg2))
  refine ⟨h', h1, ?_⟩
  refine ev_go 1 (fun _ => rfl) ?_
  refine ev_call (y' := 161) rfl rfl rfl rfl (sp_far xs _ _ (nI N)) ?_
  rw [show wiI (nI N) 0 100 = true from wi_nI (M := 100) hN (by decide)]
  refine ev_go 2 (fun _ => rfl) ?_
  refine ev_call (y' := 132) rfl rfl rfl rfl (sp_part xs _ _ w) ?_
  rw [cw]
  refine ev_go 2 (fun _ => rfl) ?_
  refine ev_call (y' := 133) rfl rfl rfl rfl (sp_stA xs _ z Ks X nw eb wa ms mt cc ho (CL6 hv.1.1)) ?_
  refine ev_go 3 (fun _ => rfl) ?_
  refine ev_call (y' := 149) rfl rfl rfl rfl (sp_ends0 xs _ (zS z Ks X) (stA wa ms mt Ks) N (by omega) B TN S hs) ?_
  rw [h0 nw eb wa ms mt ho]
  refine ev_call (y' := 168) rfl rfl rfl rfl (sp_sJ xs _ z Ks X _ _ _ _ _ _ E0) ?_
  refine ev_go 2 (fun _ => rfl) ?_
  exact h2
end MC7
/-- drift, as the reference reckons it -/
def mdG (x : Int32) : Int32 := (x >>> ((Int8.ofInt 16).toInt32 &&& 31)) &&& (Int16.ofInt 32767).toInt32
def gdK (B TN : Nat) (K : CK) (x : Int32) : CK := ghK false (putK K 2 (rmI (mdG x) (nI B)).toNatClampNeg (drV (mdG x))) B TN
def gdS (B TN m : Nat) (K : CK) (x : Int32) : CK := match m with
  | 0 => K
  | m + 1 => gdS B TN m (gdK B TN K (drN x)) (drN x)
theorem mdG_nI (x : Int32) : ∃ g, g < 32768 ∧ mdG x = nI g := by
  unfold mdG
  rw [show (Int16.ofInt 32767).toInt32 = 32767 by decide]
  exact and_nI _
theorem GM_gd {B TN S : Nat} {K : CK} {x : Int32} (h : GM K B TN S) : GM (gdK B TN K x) B TN S := GM_gh false (GM_put 2 _ _ h)
theorem GM_gdS {B TN S : Nat} : ∀ (m : Nat) (K : CK) (x : Int32), GM K B TN S → GM (gdS B TN m K x) B TN S := by
  intro m
  induction m with
  | zero => intro K x h; exact h
  | succ m ih =>
    intro K x h
    unfold gdS
    exact ih _ _ (GM_gd h)
theorem ev_md1 {xs : List Int32} {d : Nat} {ls : ML} {h h' : MH} {r : Option Value} {x : Int32} (hv : Ev xs d 189 55 ls [.int 1103515245, .int x] h r h') : Ev xs d 189 52 ls [.int x] h r h' :=
  ev_st (pc' := 55) (ls' := ls) (st' := [.int 1103515245, .int x]) (h1 := h) (i := .ldc_w 315) rfl rfl hv
theorem ev_md2 {xs : List Int32} {d : Nat} {ls : ML} {h h' : MH} {r : Option Value} {x c : Int32} (hv : Ev xs d 189 60 ls [.int (x * c + (Int16.ofInt 12345).toInt32)] h r h') : Ev xs d 189 55 ls [.int c, .int x] h r h' := ev_go 3 (fun _ => rfl) hv
theorem ev_mdN {xs : List Int32} {d : Nat} {ls : ML} {h h' : MH} {r : Option Value} {x : Int32} (hv : Ev xs d 189 60 ls [.int (drN x)] h r h') : Ev xs d 189 52 ls [.int x] h r h' := ev_md1 (ev_md2 (by unfold drN at hv; exact hv))
theorem ev_mdG {xs : List Int32} {d : Nat} {ls : ML} {h h' : MH} {r : Option Value} {x : Int32} (hv : Ev xs d 189 71 ls [.int (mdG x)] h r h') : Ev xs d 189 64 ls [.int x] h r h' := by
  unfold mdG at hv
  exact ev_go 4 (fun _ => rfl) hv
theorem ev_mdV {xs : List Int32} {d : Nat} {ls : ML} {st : List Value} {h h' : MH} {r : Option Value} {x : Int32} (hv : Ev xs d 189 103 ls (.int (drV x) :: st) h r h') : Ev xs d 189 95 ls (.int x :: st) h r h' := by
  unfold drV at hv
  exact ev_go 6 (fun _ => rfl) hv
section MC8
variable (xs : List Int32) (d : Nat) (z : ZT) (Ks : CK) (X : List Int32) (B TN S : Nat)
theorem st_mdrift (N g h : Nat) (eB : Ks.1.2.2.2.1 = nI B) (h0 : 0 < B) (hB : B ≤ 5) (x0 w x x1 x2 x3 : Int32) (K : CK) (zz : Option Value) (hK : GM K B TN S) (e1 : rmI x2 (nI B) = nI (g % B)) {rs : Option Value} {h' : MH}
    (hv1 : ∀ {ls : ML} {h h' : MH} {r : Option Value}, Ev xs (d + 5) 189 60 ls [.int x1] h r h' → Ev xs (d + 5) 189 52 ls [.int x] h r h')
    (hv2 : ∀ {ls : ML} {h h' : MH} {r : Option Value}, Ev xs (d + 5) 189 71 ls [.int x2] h r h' → Ev xs (d + 5) 189 64 ls [.int x1] h r h')
    (hv3 : ∀ {ls : ML} {st : List Value} {h h' : MH} {r : Option Value}, Ev xs (d + 5) 189 103 ls (.int x3 :: st) h r h' → Ev xs (d + 5) 189 95 ls (.int x2 :: st) h r h')
    (hv : Ev xs (d + 5) 189 44 [some (.ref 0), some (.int x0), some (.int (nI N)), some (.int w), some (.int x1), some (.int (nI (h + 1))), some (.int x2)] [] (mT (zS z Ks X) (ghK false (putK K 2 (g % B) x3) B TN)) rs h') : Ev xs (d + 5) 189 50 [some (.ref 0), some (.int x0), some (.int (nI N)), some (.int w), some (.int x), some (.int (nI h)), zz] [] (mT (zS z Ks X) K) rs h' := by
  have hm : g % B < B := Nat.mod_lt _ h0
  have hp := GM_put 2 (g % B) x3 hK
  refine ev_go 1 (fun _ => rfl) (hv1 ?_)
  refine ev_go 2 (ls' := [some (.ref 0), some (.int x0), some (.int (nI N)), some (.int w), some (.int x1), some (.int (nI h)), zz]) (st' := [.int x1]) (fun _ => rfl) (hv2 ?_)
  refine ev_go 9 (ls' := [some (.ref 0), some (.int x0), some (.int (nI N)), some (.int w), some (.int x1), some (.int (nI h)), some (.int x2)]) (st' := [.int ((Int8.ofInt 18).toInt32), .ref 1, .int x2, .int (Int32.ofInt 3), .int (Int32.ofInt 3), .ref 2]) (fun _ => rfl) ?_
  refine ev_iald rfl rfl (k := 18) rfl ((sg (by decide)).trans fq_18) ?_
  rw [eB]
  refine ev_irem rfl (nI_ne0 h0 (by omega)) ?_
  rw [e1]
  refine ev_go 5 (ls' := [some (.ref 0), some (.int x0), some (.int (nI N)), some (.int w), some (.int x1), some (.int (nI h)), some (.int x2)]) (st' := [.int x2, .int (Int32.ofInt 3 + Int32.ofInt 3 * nI (g % B) + Int32.ofInt 2), .ref 2]) (fun _ => rfl) (hv3 ?_)
  refine ev_iastE rfl (L := flK K) rfl (ix32 (by omega)) (by rw [flK_len]; omega) (mT_set hK.1.1.1 (by omega) (by decide)) ?_
  refine ev_go 2 (fun _ => rfl) ?_
  refine ev_call (y' := 147) rfl rfl rfl rfl (sp_hg xs _ (zS z Ks X) (putK K 2 (g % B) x3) false B TN S hp) ?_
  refine ev_go 2 (ls' := [some (.ref 0), some (.int x0), some (.int (nI N)), some (.int w), some (.int x1), some (.int (nI h + Int32.ofInt 1)), some (.int x2)]) (fun _ => rfl) ?_
  rw [nI_inc]
  exact hv
theorem lp_mdrift (N : Nat) (eB : Ks.1.2.2.2.1 = nI B) (h0 : 0 < B) (hB : B ≤ 5) (hN : N ≤ 100) (x0 w : Int32) : ∀ m h, h + m = N → ∀ (K : CK) (x : Int32) (zz : Option Value), GM K B TN S → Ev xs (d + 5) 189 44 [some (.ref 0), some (.int x0), some (.int (nI N)), some (.int w), some (.int x), some (.int (nI h)), zz] [] (mT (zS z Ks X) K) (some (.int (if w = 0 then smT 9 (gdS B TN m K x).2.2 else (gdS B TN m K x).1.2.2.2.2.2.2.1))) (mT (zS z Ks X) (gdS B TN m K x)) := by
  intro m
  induction m with
  | zero =>
    intro h hh K x zz hK
    have e : h = N := by omega
    subst e
    unfold gdS
    refine ev_go 2 (fun _ => rfl) ?_
    refine ev_ic_ge rfl rfl (fun _ => ?_) (fun n => absurd (nI_le (Nat.le_refl _) (by omega)) n)
    refine ev_go 1 (fun _ => rfl) ?_
    split
    · rename_i c
      refine ev_if_ne rfl rfl (fun n => absurd n (fun n => n c)) (fun _ => ?_)
      exact ev_end 4 rfl
    · rename_i c
      refine ev_if_ne rfl rfl (fun _ => ?_) (fun n => absurd (c) n)
      exact ev_end 3 rfl
  | succ m ih =>
    intro h hh K x zz hK
    obtain ⟨g, hg, eg2⟩ := mdG_nI (drN x)
    have hm : g % B < B := Nat.mod_lt _ h0
    have e1 : rmI (mdG (drN x)) (nI B) = nI (g % B) := by rw [eg2]; exact rmI_nI (by omega) (by omega) h0
    have e2 : (rmI (mdG (drN x)) (nI B)).toNatClampNeg = g % B := by rw [e1, nI_clamp (by omega)]
    have hd := GM_gd (x := drN x) hK
    have ed : gdK B TN K (drN x) = ghK false (putK K 2 (g % B) (drV (mdG (drN x)))) B TN := by unfold gdK; rw [e2]
    have hv := ih (h + 1) (by omega) _ (drN x) (some (.int (mdG (drN x)))) hd
    unfold gdS
    rw [ed] at hv ⊢
    refine ev_go 2 (fun _ => rfl) ?_
    refine ev_ic_ge rfl rfl (fun n => absurd n (nI_ge (by omega) (by omega))) (fun _ => ?_)
    exact st_mdrift xs d z Ks X B TN S N g h eB h0 hB x0 w x (drN x) (mdG (drN x)) (drV (mdG (drN x))) K zz hK e1 ev_mdN ev_mdG ev_mdV hv
variable (nw eb wa ms mt : List Int32) (cc : C4)
theorem m_drift_bad (x n w : Int32) (c : (wiI n 1 100 && wiI w 0 1) = false) (h : MH) : Ev xs (d + 2) 189 0 [some (.ref 0), some (.int x), some (.int n), some (.int w), none, none, none] [] h (some (.int (-1))) h := by
  refine ev_go 4 (fun _ => rfl) ?_
  refine ev_call (y' := 110) rfl rfl rfl rfl (sp_in xs _ h n 1 100) ?_
  cases c1 : wiI n 1 100 with
  | false => exact ev_end 3 rfl
  | true =>
    rw [c1] at c
    refine ev_go 2 (fun _ => rfl) ?_
    refine ev_call (y' := 132) rfl rfl rfl rfl (sp_part xs _ h w) ?_
    rw [show wiI w 0 1 = false from c]
    exact ev_end 3 rfl
theorem m_drift_st (x n w : Int32) (c1 : wiI n 1 100 = true) (c2 : wiI w 0 1 = true) (e : Ks.1.2.2.2.1 = 0) : Ev xs (d + 2) 189 0 [some (.ref 0), some (.int x), some (.int n), some (.int w), none, none, none] [] (mH (zS z Ks X) nw eb wa ms mt cc) (some (.int (-2))) (mH (zS z Ks X) nw eb wa ms mt cc) := by
  refine ev_go 4 (fun _ => rfl) ?_
  refine ev_call (y' := 110) rfl rfl rfl rfl (sp_in xs _ _ n 1 100) ?_
  rw [c1]
  refine ev_go 2 (fun _ => rfl) ?_
  refine ev_call (y' := 132) rfl rfl rfl rfl (sp_part xs _ _ w) ?_
  rw [c2]
  refine ev_go 4 (fun _ => rfl) ?_
  refine ev_iald rfl rfl (k := 18) rfl ((sg (by decide)).trans fq_18) ?_
  refine ev_if_ne rfl rfl (fun n => absurd n (fun n => n e)) (fun _ => ?_)
  exact ev_end 2 rfl
theorem m_drift (N : Nat) (x w : Int32) (hv : VS Ks B TN S) (ho : mOK nw eb wa ms mt) (h0 : 0 < B) (hN : N ≤ 100) (c1 : wiI (nI N) 1 100 = true) (c2 : wiI w 0 1 = true) : Ev xs (d + 5) 189 0 [some (.ref 0), some (.int x), some (.int (nI N)), some (.int w), none, none, none] [] (mH (zS z Ks X) nw eb wa ms mt cc) (some (.int (if w = 0 then smT 9 (gdS B TN N (stA wa ms mt Ks) x).2.2 else (gdS B TN N (stA wa ms mt Ks) x).1.2.2.2.2.2.2.1))) (mT (zS z Ks X) (gdS B TN N (stA wa ms mt Ks) x)) := by
  have hB := hv.1.2.2.2.2.1
  have eB := hv.1.2.1
  refine ev_go 4 (fun _ => rfl) ?_
  refine ev_call (y' := 110) rfl rfl rfl rfl (sp_in xs _ _ (nI N) 1 100) ?_
  rw [c1]
  refine ev_go 2 (fun _ => rfl) ?_
  refine ev_call (y' := 132) rfl rfl rfl rfl (sp_part xs _ _ w) ?_
  rw [c2]
  refine ev_go 4 (fun _ => rfl) ?_
  refine ev_iald rfl rfl (k := 18) rfl ((sg (by decide)).trans fq_18) ?_
  refine ev_if_ne rfl rfl (fun _ => ?_) (fun n => absurd (by rw [eB]; exact nI_ne0 h0 (by omega)) n)
  refine ev_go 3 (fun _ => rfl) ?_
  refine ev_call (y' := 133) rfl rfl rfl rfl (sp_stA xs _ z Ks X nw eb wa ms mt cc ho (CL6 hv.1.1)) ?_
  refine ev_go 2 (fun _ => rfl) ?_
  exact lp_mdrift xs d z Ks X B TN S N eB h0 hB hN x w N 0 (by omega) (stA wa ms mt Ks) x none (GM_st hv ho)
end MC8

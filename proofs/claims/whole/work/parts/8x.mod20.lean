/-! The reference's luck, mean -/
section MC19
variable (xs : List Int32) (d : Nat) (z : ZT) (Ks : CK) (X nw eb wa ms mt : List Int32) (cc : C4) (B TN S : Nat)
theorem sp_odds (v t : Int32) (n : Nat) (hn : n ≤ 8) (hv : VS Ks B TN S) (ho : mOK nw eb wa ms mt) (oE : Nat → Int64) (wd : Nat → Int32) (hO : ∀ s, s < 256 → ∀ nw eb wa ms mt : List Int32, mOK nw eb wa ms mt → (t = -4 ∧ oE s = 0) ∨ ∃ tt, tt < 6 ∧ t = nI tt ∧ oE s = (if ((gfK B TN s n 0 (stA wa ms mt Ks)).2.2.getD tt dT).2.2.2.2.2.2.2.2.1 = 0 then wyM v s n 0 1 else 0)) (hW : ∀ s, s < 256 → ∀ nw eb wa ms mt : List Int32, mOK nw eb wa ms mt → (gfK B TN s n 0 (stA wa ms mt Ks)).1.2.2.2.2.2.2.1 = wd s) : ∃ h', MHp (zO z (foS oE (2 ^ n) 0 0, foS (fun s => wyM v s n 0 1 * (wd s).toInt64) (2 ^ n) 0 0, p10 n)) Ks X h' ∧ Ev xs (d + 5) 178 0 [some (.ref 0), some (.int v), some (.int t), some (.int (nI n)), none, none, none, none, none] [] (mH (zS z Ks X) nw eb wa ms mt cc) none h' := by
  obtain ⟨h', q1, q2⟩ := lp_odds xs d z Ks X B TN S v t n hn hv (p10 n) oE wd hO hW (2 ^ n) 0 (by omega) 0 0 nw eb wa ms mt cc ho
  refine ⟨h', q1, ?_⟩
  refine ev_go 11 (ls' := [some (.ref 0), some (.int v), some (.int t), some (.int (nI n)), some (.int (nI 0)), none, none, none, none]) (h1 := mH (zS (zO z (0, 0, p10 0)) Ks X) nw eb wa ms mt cc) (fun _ => rfl) ?_
  refine lp_al xs _ z Ks X nw eb wa ms mt cc v t n (by omega) _ _ (fun z4 => ?_) n 0 (by omega)
  refine ev_go 2 (ls' := [some (.ref 0), some (.int v), some (.int t), some (.int (nI n)), some (.int (nI 0)), none, none, none, none]) (fun _ => rfl) ?_
  exact q2 _ _ _ _
theorem st_mluck (v t n w : Int32) (hv : VS Ks B TN S) (rs : Option Value) (h' : MH) (kt : lkC Ks v t n w = true → Ev xs (d + 2) 179 44 [some (.ref 0), some (.int v), some (.int t), some (.int n), some (.int w)] [] (mH (zS z Ks X) nw eb wa ms mt cc) rs h') (kf : lkC Ks v t n w = false → Ev xs (d + 2) 179 40 [some (.ref 0), some (.int v), some (.int t), some (.int n), some (.int w)] [] (mH (zS z Ks X) nw eb wa ms mt cc) rs h') : Ev xs (d + 2) 179 0 [some (.ref 0), some (.int v), some (.int t), some (.int n), some (.int w)] [] (mH (zS z Ks X) nw eb wa ms mt cc) rs h' := by
  unfold lkC at kt kf
  refine ev_go 4 (fun _ => rfl) ?_
  refine ev_call (y' := 110) rfl rfl rfl rfl (sp_in xs _ _ v 0 10) ?_
  cases c1 : wiI v 0 10 with
  | false =>
    rw [c1] at kf
    exact ev_go 1 (fun _ => rfl) (kf rfl)
  | true =>
    rw [c1] at kt kf
    refine ev_go 3 (fun _ => rfl) ?_
    refine ev_call (y' := 131) rfl rfl rfl rfl (sp_isT xs _ z Ks X nw eb wa ms mt cc t TN hv.1.2.2.1 (by have := hv.1.2.2.2.2.2.1; omega)) ?_
    cases c2 : hasI t Ks.1.2.2.2.2.1 with
    | false =>
      rw [c2] at kf
      exact ev_go 1 (fun _ => rfl) (kf rfl)
    | true =>
      rw [c2] at kt kf
      refine ev_go 5 (fun _ => rfl) ?_
      refine ev_call (y' := 110) rfl rfl rfl rfl (sp_in xs _ _ n 0 8) ?_
      cases c3 : wiI n 0 8 with
      | false =>
        rw [c3] at kf
        exact ev_go 1 (fun _ => rfl) (kf rfl)
      | true =>
        rw [c3] at kt kf
        refine ev_go 2 (fun _ => rfl) ?_
        refine ev_call (y' := 132) rfl rfl rfl rfl (sp_part xs _ _ w) ?_
        cases c4 : wiI w 0 1 with
        | false =>
          rw [c4] at kf
          exact ev_go 1 (fun _ => rfl) (kf rfl)
        | true =>
          rw [c4] at kt
          exact ev_go 1 (fun _ => rfl) (kt rfl)
theorem m_luck_bad (v t n w : Int32) (hv : VS Ks B TN S) (c : lkC Ks v t n w = false) : Ev xs (d + 2) 179 0 [some (.ref 0), some (.int v), some (.int t), some (.int n), some (.int w)] [] (mH (zS z Ks X) nw eb wa ms mt cc) (some (.long (-1))) (mH (zS z Ks X) nw eb wa ms mt cc) :=
  st_mluck xs d z Ks X nw eb wa ms mt cc B TN S v t n w hv _ _ (fun q => by rw [c] at q; cases q) (fun _ => ev_end 2 rfl)
/-- out of what findOdds leaves -/
theorem low_open {z : ZT} {Ks : CK} {X : List Int32} {h : MH} {q : Int64 × Int64 × Int64} (hp : MHp (zO z q) Ks X h) : ∃ (nw eb wa ms mt : List Int32) (cc : C4), mOK nw eb wa ms mt ∧ h = mH (zS (zO z q) Ks X) nw eb wa ms mt cc := hp
theorem m_luck (t n : Nat) (v w : Int32) (hv : VS Ks B TN S) (ho : mOK nw eb wa ms mt) (h0 : t < TN) (h1 : n ≤ 8) (cv : wiI v 0 10 = true) (cw : wiI w 0 1 = true) (oE : Nat → Int64) (wd : Nat → Int32) (hO : ∀ s, s < 256 → ∀ nw eb wa ms mt : List Int32, mOK nw eb wa ms mt → oE s = (if ((gfK B TN s n 0 (stA wa ms mt Ks)).2.2.getD t dT).2.2.2.2.2.2.2.2.1 = 0 then wyM v s n 0 1 else 0)) (hW : ∀ s, s < 256 → ∀ nw eb wa ms mt : List Int32, mOK nw eb wa ms mt → (gfK B TN s n 0 (stA wa ms mt Ks)).1.2.2.2.2.2.2.1 = wd s) (a b : Nat) (ha : a < 2 ^ 62) (hb : b < 2 ^ 62) (hb0 : 0 < b) (ea : foS oE (2 ^ n) 0 0 = lN a) (eb2 : p10 n = lN b) : ∃ (q : Int64 × Int64 × Int64) (h' : MH), MHp (zO z q) Ks X h' ∧ Ev xs (d + 6) 179 0 [some (.ref 0), some (.int v), some (.int (nI t)), some (.int (nI n)), some (.int w)] [] (mH (zS z Ks X) nw eb wa ms mt cc) (some (.long (lowN a b w))) h' := by
  have hTN := hv.1.2.2.2.2.2.1
  obtain ⟨h', q1, q2⟩ := sp_odds xs d z Ks X nw eb wa ms mt cc B TN S v (nI t) n h1 hv ho oE wd (fun s hs nw eb wa ms mt ho => Or.inr ⟨t, by omega, rfl, hO s hs nw eb wa ms mt ho⟩) hW
  rw [ea, eb2] at q1
  generalize foS (fun s => wyM v s n 0 1 * (wd s).toInt64) (2 ^ n) 0 0 = y at q1
  refine ⟨(lN a, y, lN b), h', q1, ?_⟩
  obtain ⟨nw', eb', wa', ms', mt', cc', ho', e⟩ := low_open q1
  have c : lkC Ks v (nI t) (nI n) w = true := by
    unfold lkC
    rw [cv, cw, show wiI (nI n) 0 8 = true from wi_nI (M := 8) h1 (by decide), hv.1.2.2.1, has_nI (by omega) h0]
    rfl
  refine st_mluck xs _ z Ks X nw eb wa ms mt cc B TN S v (nI t) (nI n) w hv _ _ (fun _ => ?_) (fun q => by rw [c] at q; cases q)
  refine ev_go 4 (fun _ => rfl) ?_
  refine ev_call (y' := 178) rfl rfl rfl rfl (q2) ?_
  rw [e]
  refine ev_go 5 (fun _ => rfl) ?_
  refine ev_call (y' := 177) rfl rfl rfl rfl (sp_low2 xs _ _ a b w ha hb hb0) ?_
  exact ev_end 1 rfl
theorem st_mmean (v n w : Int32) (h : MH) (rs : Option Value) (h' : MH) (kt : meC v n w = true → Ev xs (d + 2) 180 35 [some (.ref 0), some (.int v), some (.int n), some (.int w)] [] h rs h') (kf : meC v n w = false → Ev xs (d + 2) 180 31 [some (.ref 0), some (.int v), some (.int n), some (.int w)] [] h rs h') : Ev xs (d + 2) 180 0 [some (.ref 0), some (.int v), some (.int n), some (.int w)] [] h rs h' := by
  unfold meC at kt kf
  refine ev_go 4 (fun _ => rfl) ?_
  refine ev_call (y' := 110) rfl rfl rfl rfl (sp_in xs _ _ v 0 10) ?_
  cases c1 : wiI v 0 10 with
  | false =>
    rw [c1] at kf
    exact ev_go 1 (fun _ => rfl) (kf rfl)
  | true =>
    rw [c1] at kt kf
    refine ev_go 5 (fun _ => rfl) ?_
    refine ev_call (y' := 110) rfl rfl rfl rfl (sp_in xs _ _ n 0 8) ?_
    cases c3 : wiI n 0 8 with
    | false =>
      rw [c3] at kf
      exact ev_go 1 (fun _ => rfl) (kf rfl)
    | true =>
      rw [c3] at kt kf
      refine ev_go 2 (fun _ => rfl) ?_
      refine ev_call (y' := 132) rfl rfl rfl rfl (sp_part xs _ _ w) ?_
      cases c4 : wiI w 0 1 with
      | false =>
        rw [c4] at kf
        exact ev_go 1 (fun _ => rfl) (kf rfl)
      | true =>
        rw [c4] at kt
        exact ev_go 1 (fun _ => rfl) (kt rfl)
theorem m_mean_bad (v n w : Int32) (h : MH) (c : meC v n w = false) : Ev xs (d + 2) 180 0 [some (.ref 0), some (.int v), some (.int n), some (.int w)] [] h (some (.long (-1))) h :=
  st_mmean xs d v n w h _ _ (fun q => by rw [c] at q; cases q) (fun _ => ev_end 2 rfl)
theorem m_mean (n : Nat) (v w : Int32) (hv : VS Ks B TN S) (ho : mOK nw eb wa ms mt) (h1 : n ≤ 8) (cv : wiI v 0 10 = true) (cw : wiI w 0 1 = true) (wd : Nat → Int32) (hW : ∀ s, s < 256 → ∀ nw eb wa ms mt : List Int32, mOK nw eb wa ms mt → (gfK B TN s n 0 (stA wa ms mt Ks)).1.2.2.2.2.2.2.1 = wd s) (a b : Nat) (ha : a < 2 ^ 62) (hb : b < 2 ^ 62) (hb0 : 0 < b) (ea : foS (fun s => wyM v s n 0 1 * (wd s).toInt64) (2 ^ n) 0 0 = lN a) (eb2 : p10 n = lN b) : ∃ (q : Int64 × Int64 × Int64) (h' : MH), MHp (zO z q) Ks X h' ∧ Ev xs (d + 6) 180 0 [some (.ref 0), some (.int v), some (.int (nI n)), some (.int w)] [] (mH (zS z Ks X) nw eb wa ms mt cc) (some (.long (lowN a b w))) h' := by
  obtain ⟨h', q1, q2⟩ := sp_odds xs d z Ks X nw eb wa ms mt cc B TN S v (-4) n h1 hv ho (fun _ => 0) wd (fun s hs nw eb wa ms mt ho => Or.inl ⟨rfl, rfl⟩) hW
  rw [ea, eb2] at q1
  generalize foS (fun _ => 0) (2 ^ n) 0 0 = y at q1
  refine ⟨(y, lN a, lN b), h', q1, ?_⟩
  obtain ⟨nw', eb', wa', ms', mt', cc', ho', e⟩ := low_open q1
  have c : meC v (nI n) w = true := by
    unfold meC
    rw [cv, cw, show wiI (nI n) 0 8 = true from wi_nI (M := 8) h1 (by decide)]
    rfl
  refine st_mmean xs _ v (nI n) w _ _ _ (fun _ => ?_) (fun q => by rw [c] at q; cases q)
  refine ev_go 4 (fun _ => rfl) ?_
  refine ev_call (y' := 178) rfl rfl rfl rfl (q2) ?_
  rw [e]
  refine ev_go 5 (fun _ => rfl) ?_
  refine ev_call (y' := 177) rfl rfl rfl rfl (sp_low2 xs _ _ a b w ha hb hb0) ?_
  exact ev_end 1 rfl
end MC19

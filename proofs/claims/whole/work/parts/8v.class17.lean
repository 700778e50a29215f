/-! BargeTalks: mean -/
def mnS (E : Nat → Int64) (m t : Nat) (a : Int64) : Int64 := match m with
  | 0 => a
  | m + 1 => mnS E m (t + 1) (a + E t)
def meC (v n w : Int32) : Bool := wiI v 0 10 && (wiI n 0 8 && wiI w 0 1)
section CLS19
variable (xs : List Int32) (d : Nat) (now trial told im0 im1 : CK) (p : TP) (f : FP) (r : RS) (tr : Int32)
theorem st_mean (v n w : Int32) (rs : Option Value) (h' : MH) (kt : meC v n w = true → Ev xs (d + 1) 81 33 [some (.ref 0), some (.int v), some (.int n), some (.int w), none, none, none] [] (hCl now trial told im0 im1 p f r tr) rs h') (kf : meC v n w = false → Ev xs (d + 1) 81 29 [some (.ref 0), some (.int v), some (.int n), some (.int w), none, none, none] [] (hCl now trial told im0 im1 p f r tr) rs h') : Ev xs (d + 1) 81 0 [some (.ref 0), some (.int v), some (.int n), some (.int w), none, none, none] [] (hCl now trial told im0 im1 p f r tr) rs h' := by
  unfold meC at kt kf
  refine ev_go 3 (fun _ => rfl) ?_
  refine ev_call (y' := 95) rfl rfl rfl rfl (sp_within xs d _ v 0 10) ?_
  cases c1 : wiI v 0 10 with
  | false =>
    rw [c1] at kf
    exact ev_go 1 (fun _ => rfl) (kf rfl)
  | true =>
    rw [c1] at kt kf
    refine ev_go 4 (fun _ => rfl) ?_
    refine ev_call (y' := 95) rfl rfl rfl rfl (sp_within xs d _ n 0 8) ?_
    cases c3 : wiI n 0 8 with
    | false =>
      rw [c3] at kf
      exact ev_go 1 (fun _ => rfl) (kf rfl)
    | true =>
      rw [c3] at kt kf
      refine ev_go 4 (fun _ => rfl) ?_
      refine ev_call (y' := 95) rfl rfl rfl rfl (sp_within xs d _ w 0 1) ?_
      cases c4 : wiI w 0 1 with
      | false =>
        rw [c4] at kf
        exact ev_go 1 (fun _ => rfl) (kf rfl)
      | true =>
        rw [c4] at kt
        exact ev_go 1 (fun _ => rfl) (kt rfl)
theorem sp_mean_bad (v n w : Int32) (c : meC v n w = false) : Ev xs (d + 1) 81 0 [some (.ref 0), some (.int v), some (.int n), some (.int w), none, none, none] [] (hCl now trial told im0 im1 p f r tr) (some (.long (-1))) (hCl now trial told im0 im1 p f r tr) :=
  st_mean xs d now trial told im0 im1 p f r tr v n w _ _ (fun q => by rw [c] at q; cases q) (fun _ => ev_end 2 rfl)
theorem lp_mean (B TN S n : Nat) (v w : Int32) (E : Nat → Int64) (hn : CG now B TN S) (h1 : n ≤ 8) (hE : ∀ t, t < TN → ∀ (trial : CK) (f : FP), GS trial → fgOK f → lkW (tryK now trial B TN S) B n t v f = E t) : ∀ m t, t + m = TN → ∀ (a : Int64) (trial : CK) (f : FP), GS trial → fgOK f → ∃ (K' : CK) (f' : FP), GS K' ∧ fgOK f' ∧ Ev xs (d + 13) 81 39 [some (.ref 0), some (.int v), some (.int (nI n)), some (.int w), some (.long a), none, some (.int (nI t))] [] (hCl now trial told im0 im1 p f r tr) (some (.long (partA (mnS E m t a) (p10 n) w))) (hCl now K' told im0 im1 p f' r tr) := by
  have hTN := hn.1.2.2.2.2.2.1
  have eT := hn.1.2.2.1
  intro m
  induction m with
  | zero =>
    intro t htt a trial f ht hg
    have e : t = TN := by omega
    subst e
    refine ⟨trial, f, ht, hg, ?_⟩
    unfold mnS
    refine ev_go 4 (fun _ => rfl) ?_
    refine ev_ic_ge rfl rfl (fun _ => ?_) (fun n => absurd (by show now.1.2.2.2.2.1 ≤ nI t; rw [eT]; exact nI_le (Nat.le_refl _) (by omega)) n)
    refine ev_go 2 (fun _ => rfl) ?_
    refine ev_all xs _ rfl rfl rfl rfl (by omega) ?_
    refine ev_go 1 (fun _ => rfl) ?_
    refine ev_call (y' := 100) rfl rfl rfl rfl (sp_part2 xs _ _ a (p10 n) w) ?_
    exact ev_end 1 rfl
  | succ m ih =>
    intro t htt a trial f ht hg
    have h0 : t < TN := by omega
    have hT := CG_t hn ht
    have aT := getT_at (l := (tryK now trial B TN S).2.2) (k := t) (by rw [CG6 hT]; omega)
    have hok : okT ((tryK now trial B TN S).2.2.getD t dT) := by
      refine hT.2.1.2.2.2.2.2.2.2 _ ?_
      have e2 : ((tryK now trial B TN S).2.2.take TN)[t]? = some ((tryK now trial B TN S).2.2.getD t dT) := by
        rw [List.getElem?_take_of_lt h0]
        exact aT
      exact List.mem_of_getElem? e2
    obtain ⟨i, j, hi, hj, e1, e2, e3, e4⟩ := okT_cl hok
    have hm := CG_mw n hT
    have hf := fW_ok (K := tryK now trial B TN S) (B := B) (i := i) (j := j) (T := (tryK now trial B TN S).2.2.getD t dT) (v := v) h1 hg
    obtain ⟨bh', b1, b2⟩ := sp_wW xs (d + (8 - n)) v ((tryK now trial B TN S).2.1.1.getD i 0) ((tryK now trial B TN S).2.1.1.getD j 0) (tryK now trial B TN S).1.2.1 (up (wtM (tryK now trial B TN S).1.1 B (tryK now trial B TN S).2.1.2.2.1 (ksK (tryK now trial B TN S)) (5 * i + j)) n f.2.1.1) (up (wtN (tryK now trial B TN S).1.1 B (tryK now trial B TN S).2.1.2.2.1 (ksK (tryK now trial B TN S)) i) n f.2.1.2.1) (up (wtN (tryK now trial B TN S).1.1 B (tryK now trial B TN S).2.1.2.2.1 (ksK (tryK now trial B TN S)) j) n f.2.1.2.2) n h1 hf.1 hf.2.1 hf.2.2.1 n 0 (by omega) (f.2.2.set 0 ((tryK now trial B TN S).2.2.getD t dT)) ((tryK now trial B TN S).2.2.getD t dT) hf.2.2.2 (List.getElem?_set_self (by rw [hg.2.2.2]; decide))
    rw [show d + (8 - n) + n + 4 = d + 12 by omega] at b2
    have hb9 : bh'.length = 9 := b1.1.trans hf.2.2.2
    have elk := hE t h0 trial f ht hg
    unfold lkW at elk
    rw [e3, e4] at elk
    rw [elk] at b2
    obtain ⟨K', f', q1, q2, q3⟩ := ih (t + 1) (by omega) (a + E t) (mwK (tryK now trial B TN S) B n) ((fW (tryK now trial B TN S) B n i j ((tryK now trial B TN S).2.2.getD t dT) v f).1, (fW (tryK now trial B TN S) B n i j ((tryK now trial B TN S).2.2.getD t dT) v f).2.1, bh') (GS_CG hm) ⟨hf.1, hf.2.1, hf.2.2.1, hb9⟩
    refine ⟨K', f', q1, q2, ?_⟩
    unfold mnS
    refine ev_go 4 (fun _ => rfl) ?_
    refine ev_ic_ge rfl rfl (fun n => absurd n (by show ¬ now.1.2.2.2.2.1 ≤ nI t; rw [eT]; exact nI_ge (by omega) (by omega))) (fun _ => ?_)
    refine ev_go 1 (fun _ => rfl) ?_
    refine ev_call (y' := 96) rfl rfl rfl rfl (sp_try xs _ now trial told im0 im1 p f r tr B TN S hn.1 ht.1) ?_
    refine ev_go 7 (fun _ => rfl) ?_
    refine ev_watch xs _ now (tryK now trial B TN S) told im0 im1 p f r tr B TN S n t i j ((tryK now trial B TN S).2.2.getD t dT) v rfl rfl rfl hT hg h1 (by omega) aT hi hj e1 e2 ?_
    refine ev_go 4 (fun _ => rfl) ?_
    refine ev_fogL xs _ now _ told im0 im1 p _ r tr (y' := 31) bh' rfl rfl rfl rfl rfl rfl hf.2.2.2 hb9 b2 ?_
    refine ev_go 4 (ls' := [some (.ref 0), some (.int v), some (.int (nI n)), some (.int w), some (.long (a + E t)), none, some (.int (nI t + Int32.ofInt 1))]) (fun _ => rfl) ?_
    rw [nI_inc]
    exact q3
theorem sp_mean (B TN S n : Nat) (v w : Int32) (E : Nat → Int64) (hn : CG now B TN S) (ht : GS trial) (hg : fgOK f) (h1 : n ≤ 8) (cv : wiI v 0 10 = true) (cw : wiI w 0 1 = true) (hE : ∀ t, t < TN → ∀ (trial : CK) (f : FP), GS trial → fgOK f → lkW (tryK now trial B TN S) B n t v f = E t) : ∃ (K' : CK) (f' : FP), GS K' ∧ fgOK f' ∧ Ev xs (d + 13) 81 0 [some (.ref 0), some (.int v), some (.int (nI n)), some (.int w), none, none, none] [] (hCl now trial told im0 im1 p f r tr) (some (.long (partA (mnS E TN 0 0) (p10 n) w))) (hCl now K' told im0 im1 p f' r tr) := by
  obtain ⟨K', f', q1, q2, q3⟩ := lp_mean xs d now told im0 im1 p r tr B TN S n v w E hn h1 hE TN 0 (by omega) 0 trial f ht hg
  refine ⟨K', f', q1, q2, ?_⟩
  have c : meC v (nI n) w = true := by
    unfold meC
    rw [cv, cw, show wiI (nI n) 0 8 = true from wi_nI (M := 8) h1 (by decide)]
    rfl
  refine st_mean xs _ now trial told im0 im1 p f r tr v (nI n) w _ _ (fun _ => ?_) (fun q => by rw [c] at q; cases q)
  refine ev_go 4 (fun _ => rfl) ?_
  exact q3
end CLS19

/-! The reference's hours -/
def eT (T : TT) : Int32 := T.2.2.2.2.2.2.2.2.1
def mT (z : ZT) (K : CK) : MH := mE z (K.2.2.map eT) (smT 9 K.2.2) (smT 10 K.2.2) K.1.2.2.2.2.2.2.1 K
theorem fold_ad {k : Nat} : ∀ (l : List TT) (x y : Int32), l.foldl (fun a T => a + T_tell T k) (x + y) = l.foldl (fun a T => a + T_tell T k) x + y
  | [], _, _ => rfl
  | T :: l, x, y => by
    show l.foldl _ (x + y + T_tell T k) = l.foldl _ (x + T_tell T k) + y
    rw [← fold_ad l (x + T_tell T k) y]
    congr 1
    rw [Int32.add_assoc, Int32.add_comm y, ← Int32.add_assoc]
theorem smT_c {k : Nat} {T : TT} {l : List TT} : smT k (T :: l) = T_tell T k + smT k l := by
  unfold smT
  show l.foldl (fun a T => a + T_tell T k) (0 + T_tell T k) = _
  rw [fold_ad, Int32.add_comm]
theorem smT_set {k : Nat} {T T' : TT} : ∀ (l : List TT) (t : Nat), l[t]? = some T → smT k (l.set t T') = smT k l + (T_tell T' k - T_tell T k)
  | [], _, h => by cases h
  | U :: l, 0, h => by
    cases h
    show smT k (T' :: l) = smT k (T :: l) + _
    rw [smT_c, smT_c, Int32.add_comm (T_tell T k), Int32.add_assoc, i32_ad, Int32.add_comm]
  | U :: l, t + 1, h => by
    show smT k (U :: l.set t T') = _
    rw [smT_c, smT_c, smT_set l t h, Int32.add_assoc]
theorem mapE_set {l : List TT} {t : Nat} {T T' : TT} (h : l[t]? = some T) : (l.map eT).set t ((l.map eT).getD t 0 + dE T T') = (l.set t T').map eT := by
  rw [List.map_set]
  congr 1
  rw [List.getD_eq_getElem?_getD, List.getElem?_map, h]
  exact i32_ad _ _
/-- a Talk that may go on; a Canal whose hours may go -/
def wT (T : TT) : Prop := okT T ∧ ¬ T.2.2.2.1 = T.2.2.1 ∧ ¬ 0 = T.2.2.1
theorem wT_words {T : TT} (k m : Int32) (h : wT T) : wT (T_words T k m).2 := by
  obtain ⟨a, b, c⟩ := h
  obtain ⟨q1, q2, -, -⟩ := T_words_4 T k m
  exact ⟨okT_of a (T_words_2 T k m), by rw [q1, q2]; exact b, by rw [q1]; exact c⟩
theorem wT_goOn {T : TT} (w : Int32) (h : wT T) : wT (T_goOn T w) := by
  refine ⟨okT_of h.1 (T_goOn_2 T w), ?_⟩
  unfold T_goOn
  split
  · exact ⟨h.2.2, h.2.2⟩
  · rename_i c
    exact ⟨c, h.2.2⟩
theorem wT_silent {T : TT} (m : Int32) (h : wT T) : wT (T_silent T m) := by
  refine ⟨okT_of h.1 (T_silent_2 T m), ?_⟩
  unfold T_silent
  split
  · exact h.2
  · split
    · exact ⟨h.2.2, h.2.2⟩
    · exact h.2
theorem wT_pass {T : TT} (b : Bool) (k m e : Int32) (h : wT T) : wT (T_pass T b k m e).2 := by
  unfold T_pass
  split
  · split
    · exact wT_goOn _ (wT_words _ _ h)
    · exact wT_silent _ (wT_words _ _ h)
  · exact wT_silent _ h
def GM (K : CK) (B TN S : Nat) : Prop := CG K B TN S ∧ ∀ T ∈ K.2.2.take TN, wT T
theorem okM_nm {i j : Nat} {q : Bool} {s : NW3} (h : okM s.1) : okM (nmS i j q s).1 := okM_set h _ q
theorem okM_nI {f : Nat → Nat → Bool} {i : Nat} : ∀ (m j : Nat) (s : NW3), okM s.1 → okM (nmI f i m j s).1
  | 0, _, _, h => h
  | m + 1, j, s, h => okM_nI m (j + 1) _ (okM_nm h)
theorem okM_nO {f : Nat → Nat → Bool} {B : Nat} : ∀ (m i : Nat) (s : NW3), okM s.1 → okM (nmO f B m i s).1
  | 0, _, _, h => h
  | m + 1, i, s, h => okM_nO m (i + 1) _ (okM_nI _ _ _ h)
theorem nmO_len {f : Nat → Nat → Bool} {B : Nat} : ∀ (m i : Nat) (s : NW3), (nmO f B m i s).1.length = s.1.length ∧ (nmO f B m i s).2.1.length = s.2.1.length
  | 0, _, _ => ⟨rfl, rfl⟩
  | m + 1, i, s => by
    obtain ⟨a, b⟩ := nmO_len (f := f) (B := B) m (i + 1) (nmI f i B 0 s)
    obtain ⟨c, e⟩ := nmI_len (f := f) (i := i) B 0 s
    exact ⟨a.trans c, b.trans e⟩
theorem CG_gm {K : CK} {B TN S : Nat} (fog : Bool) (h : CG K B TN S) : CG (gmK fog K B) B TN S := by
  refine CG_on h ?_
  have hB := h.1.2.2.2.2.1
  obtain ⟨g1, g2, g3, g4, g5, g6, g7, g8⟩ := h.2.1
  obtain ⟨a, b⟩ := nmO_len (f := nmQ fog K.1.1 (paU K.1.1 K.2.1.2.1 B K.2.1.2.2.2.2.2.2.1) (phU K.1.1 K.2.1.2.1 K.2.1.2.2.1 B)) (B := B) B 0 (K.2.1.2.2.2.2.2.2.2.2.2, mtU B K.2.1.2.2.2.2.2.2.2.2.1, K.1.2.2.2.2.2.2.2)
  have c1 : K.2.1.2.1.length = 5 := g1
  have c2 : K.2.1.2.2.2.2.2.2.1.length = 5 := g2
  have c3 : K.2.1.2.2.2.2.2.2.2.1.length = 5 := g3
  have c4 : K.2.1.2.2.2.2.2.2.2.2.1.length = 5 := g4
  exact ⟨(up_len (by omega)).trans c1, (up_len (by omega)).trans c2, (up_len (by omega)).trans c3, b.trans ((up_len (by omega)).trans c4), a.trans g5, g6, okM_nO B 0 (K.2.1.2.2.2.2.2.2.2.2.2, mtU B K.2.1.2.2.2.2.2.2.2.2.1, K.1.2.2.2.2.2.2.2) g7, g8⟩
theorem GM_gm {K : CK} {B TN S : Nat} (fog : Bool) (h : GM K B TN S) : GM (gmK fog K B) B TN S := ⟨CG_gm fog h.1, h.2⟩
/-- the Talks' hour; the hour -/
def tkC (K : CK) (TN : Nat) : CK := onK K (tkK K.1.2.1 TN K.2.1.1 (ksK K))
def ghK (fog : Bool) (K : CK) (B TN : Nat) : CK := tkC (gmK fog K B) TN
theorem GM_tk {K : CK} {B TN S : Nat} (h : GM K B TN S) : GM (tkC K TN) B TN S := by
  refine ⟨CG_on h.1 (KOK_tk h.1.2.1), fun T hT => ?_⟩
  have hT2 : T ∈ (mapUp (fun T => (T_hr K.2.1.1 K.2.1.2.2.2.2.2.2.2.2.1 K.2.1.2.2.2.2.2.2.2.2.2 K.1.2.1 T).2) TN K.2.2).take TN := hT
  rw [take_mapUp] at hT2
  obtain ⟨U, hU, rfl⟩ := List.mem_map.mp hT2
  exact wT_pass _ _ _ _ (h.2 U hU)
theorem GM_gh {K : CK} {B TN S : Nat} (fog : Bool) (h : GM K B TN S) : GM (ghK fog K B TN) B TN S := GM_tk (GM_gm fog h)
def ghN (K : CK) (B TN n : Nat) : CK := match n with
  | 0 => K
  | n + 1 => ghN (ghK false K B TN) B TN n
theorem GM_ghN {B TN S : Nat} : ∀ (n : Nat) (K : CK), GM K B TN S → GM (ghN K B TN n) B TN S
  | 0, _, h => h
  | n + 1, K, h => GM_ghN n _ (GM_gh false h)
/-- the Canal with its first t Talks gone -/
def tkS (K : CK) (t : Nat) : CK := ((K.1.1, K.1.2.1, K.1.2.2.1, K.1.2.2.2.1, K.1.2.2.2.2.1, K.1.2.2.2.2.2.1, T_wd K.2.1.1 K.2.1.2.2.2.2.2.2.2.2.1 K.2.1.2.2.2.2.2.2.2.2.2 K.1.2.1 K.1.2.2.2.2.2.2.1 (K.2.2.take t), K.1.2.2.2.2.2.2.2), K.2.1, mapUp (fun T => (T_hr K.2.1.1 K.2.1.2.2.2.2.2.2.2.2.1 K.2.1.2.2.2.2.2.2.2.2.2 K.1.2.1 T).2) t K.2.2)
section HG
variable (xs : List Int32) (d : Nat) (z : ZT) (K : CK)
theorem sp_bgT (fog : Bool) (B TN S : Nat) (hn : CG K B TN S) : Ev xs (d + 3) 140 0 [some (.ref 0), some (.int (bI fog)), none, none, none] [] (mT z K) none (mT z (gmK fog K B)) := sp_bg xs d z (K.2.2.map eT) (smT 9 K.2.2) (smT 10 K.2.2) K.1.2.2.2.2.2.2.1 K fog B TN S hn.1 hn.2.2
theorem lp_tk (fog : Bool) (B TN S : Nat) (hn : GM K B TN S) (R : MH) (kk : ∀ zz, Ev xs (d + 4) 147 29 [some (.ref 0), some (.int (bI fog)), zz] [] (mT z (tkS K TN)) none R) : ∀ m t, t + m = TN → Ev xs (d + 4) 147 7 [some (.ref 0), some (.int (bI fog)), some (.int (nI t))] [] (mT z (tkS K t)) none R := by
  obtain ⟨⟨⟨hcl, eB, eT0, eS, hB, hTN, hS⟩, hk, hw⟩, hT⟩ := hn
  have h6 : K.2.2.length = 6 := CL6 hcl
  intro m
  induction m with
  | zero =>
    intro t ht
    have e : t = TN := by omega
    subst e
    refine ev_go 4 (fun _ => rfl) ?_
    refine ev_iald rfl rfl (k := 67) rfl fq_67 ?_
    show Ev _ _ _ _ _ [.int K.1.2.2.2.2.1, .int (nI t)] _ _ _
    rw [eT0]
    refine ev_ic_ge rfl rfl (fun _ => ?_) (fun n => absurd (nI_le (Nat.le_refl _) (by omega)) n)
    exact kk _
  | succ m ih =>
    intro t ht
    have h0 : K.2.2[t]? = some K.2.2[t] := List.getElem?_eq_getElem (by omega)
    have hok : wT K.2.2[t] := hT _ (List.mem_of_getElem? (i := t) (by rw [List.getElem?_take, if_pos (by omega)]; exact h0))
    have h2 : (tkS K t).2.2[t]? = some K.2.2[t] := mapUp_at.trans h0
    generalize K.2.2[t] = T at h0 hok h2
    obtain ⟨hok, hn1, hn2⟩ := hok
    obtain ⟨w, hw5, hw⟩ := okT_turn hok
    obtain ⟨i, j, hi, hj, e1, e2⟩ := hok
    obtain ⟨b, hb⟩ := hk.2.2.2.2.2.2.1 (5 * i + j) (by omega)
    have hb2 : K.2.1.2.2.2.2.2.2.2.2.2[5 * i + j]? = some (bI b) := hb
    have e3 : T_hr K.2.1.1 K.2.1.2.2.2.2.2.2.2.2.1 K.2.1.2.2.2.2.2.2.2.2.2 K.1.2.1 T = T_pass T b (K.2.1.1.getD w 0) (K.2.1.2.2.2.2.2.2.2.2.1.getD w 0) K.1.2.1 := by
      unfold T_hr
      rw [hw, e1, e2, nI_clamp (by omega), nI_clamp (by omega), nI_clamp (by omega), List.getD_eq_getElem?_getD (l := K.2.1.2.2.2.2.2.2.2.2.2), hb2]
      cases b <;> rfl
    have key := sp_tg xs d z ((tkS K t).2.2.map eT) K.2.1.2.2.2.2.2.2.1 K.2.1.2.2.2.2.2.2.2.2.2 K.2.1.2.2.2.2.2.2.2.2.1 (smT 9 (tkS K t).2.2) (smT 10 (tkS K t).2.2) (tkS K t).1.2.2.2.2.2.2.1 K.1.2.2.2.2.2.2.2 (tkS K t) (by omega) h2 hn1 hn2 i j w b (K.2.1.2.2.2.2.2.2.2.2.1.getD w 0) hi hj hw5 e1 e2 hw hb2 (getD_at (by rw [hcl.2.2.2.2.2.2.2.2.1]; exact hw5)) (by rw [List.length_map]; exact mapUp_len.trans h6)
    have q1 : T_pass T b ((tkS K t).2.1.1.getD w 0) (K.2.1.2.2.2.2.2.2.2.2.1.getD w 0) (tkS K t).1.2.1 = T_hr K.2.1.1 K.2.1.2.2.2.2.2.2.2.2.1 K.2.1.2.2.2.2.2.2.2.2.2 K.1.2.1 T := e3.symm
    rw [q1] at key
    have r0 : (tkS K t).2.2.set t (T_hr K.2.1.1 K.2.1.2.2.2.2.2.2.2.2.1 K.2.1.2.2.2.2.2.2.2.2.2 K.1.2.1 T).2 = (tkS K (t + 1)).2.2 := mapUp_s (f := fun T => (T_hr K.2.1.1 K.2.1.2.2.2.2.2.2.2.2.1 K.2.1.2.2.2.2.2.2.2.2.2 K.1.2.1 T).2) h0
    have r1 : smT 9 (tkS K t).2.2 + dE T (T_hr K.2.1.1 K.2.1.2.2.2.2.2.2.2.2.1 K.2.1.2.2.2.2.2.2.2.2.2 K.1.2.1 T).2 = smT 9 (tkS K (t + 1)).2.2 := by
      rw [← r0, smT_set (k := 9) _ t h2]
      rfl
    have r2 : smT 10 (tkS K t).2.2 + dL T (T_hr K.2.1.1 K.2.1.2.2.2.2.2.2.2.2.1 K.2.1.2.2.2.2.2.2.2.2.2 K.1.2.1 T).2 = smT 10 (tkS K (t + 1)).2.2 := by
      rw [← r0, smT_set (k := 10) _ t h2]
      rfl
    have r3 : (tkS K t).1.2.2.2.2.2.2.1 + (T_hr K.2.1.1 K.2.1.2.2.2.2.2.2.2.2.1 K.2.1.2.2.2.2.2.2.2.2.2 K.1.2.1 T).1 = (tkS K (t + 1)).1.2.2.2.2.2.2.1 := (T_wd_s h0).symm
    have r4 : ((tkS K t).2.2.map eT).set t (((tkS K t).2.2.map eT).getD t 0 + dE T (T_hr K.2.1.1 K.2.1.2.2.2.2.2.2.2.2.1 K.2.1.2.2.2.2.2.2.2.2.2 K.1.2.1 T).2) = (tkS K (t + 1)).2.2.map eT := by
      rw [mapE_set h2, r0]
    have r5 : flK (setR (tkS K t) t (T_hr K.2.1.1 K.2.1.2.2.2.2.2.2.2.2.1 K.2.1.2.2.2.2.2.2.2.2.2 K.1.2.1 T).2) = flK (tkS K (t + 1)) := by
      show flK ((tkS K t).1, (tkS K t).2.1, (tkS K t).2.2.set t (T_hr K.2.1.1 K.2.1.2.2.2.2.2.2.2.2.1 K.2.1.2.2.2.2.2.2.2.2.2 K.1.2.1 T).2) = _
      rw [r0]
      rfl
    rw [r1, r2, r3, r4, r5] at key
    refine ev_go 4 (fun _ => rfl) ?_
    refine ev_iald rfl rfl (k := 67) rfl fq_67 ?_
    show Ev _ _ _ _ _ [.int K.1.2.2.2.2.1, .int (nI t)] _ _ _
    rw [eT0]
    refine ev_ic_ge rfl rfl (fun n => absurd n (nI_ge (by omega) (by omega))) (fun _ => ?_)
    refine ev_go 2 (fun _ => rfl) ?_
    refine ev_call (y' := 146) rfl rfl rfl rfl (key) ?_
    refine ev_go 2 (ls' := [some (.ref 0), some (.int (bI fog)), some (.int (nI t + Int32.ofInt 1))]) (h1 := mT z (tkS K (t + 1))) (fun _ => rfl) ?_
    rw [nI_inc]
    exact ih (t + 1) (by omega)
theorem sp_hg (fog : Bool) (B TN S : Nat) (hn : GM K B TN S) : Ev xs (d + 4) 147 0 [some (.ref 0), some (.int (bI fog)), none] [] (mT z K) none (mT z (ghK fog K B TN)) := by
  refine ev_go 2 (fun _ => rfl) ?_
  refine ev_call (y' := 140) rfl rfl rfl rfl (sp_bgT xs _ z K fog B TN S hn.1) ?_
  have hg := GM_gm fog hn
  unfold ghK
  generalize gmK fog K B = K at hg ⊢
  refine ev_go 2 (ls' := [some (.ref 0), some (.int (bI fog)), some (.int (nI 0))]) (fun _ => rfl) ?_
  refine lp_tk xs d z K fog B TN S hg _ (fun zz => ?_) TN 0 (by omega)
  refine ev_go 4 (fun _ => rfl) ?_
  refine ev_iald rfl rfl (k := 2) rfl fq_2 ?_
  refine ev_go 2 (fun _ => rfl) ?_
  refine ev_iastE rfl (h2 := mT z (tkC K TN)) rfl (k := 2) rfl (by rw [flK_len]; decide) rfl ?_
  exact ev_end 1 rfl
theorem lp_hg (N : Nat) (hN : N < 2 ^ 31) (B TN S : Nat) : ∀ m h, h + m = N → ∀ K : CK, GM K B TN S → Ev xs (d + 5) 148 2 [some (.ref 0), some (.int (nI N)), some (.int (nI h))] [] (mT z K) none (mT z (ghN K B TN m)) := by
  intro m
  induction m with
  | zero =>
    intro h hh K hn
    have e : h = N := by omega
    subst e
    refine ev_go 2 (fun _ => rfl) ?_
    refine ev_ic_ge rfl rfl (fun _ => ?_) (fun n => absurd (nI_le (Nat.le_refl _) hN) n)
    exact ev_end 1 rfl
  | succ m ih =>
    intro h hh K hn
    refine ev_go 2 (fun _ => rfl) ?_
    refine ev_ic_ge rfl rfl (fun n => absurd n (nI_ge (by omega) hN)) (fun _ => ?_)
    refine ev_go 2 (fun _ => rfl) ?_
    refine ev_call (y' := 147) rfl rfl rfl rfl (sp_hg xs _ z K false B TN S hn) ?_
    refine ev_go 2 (ls' := [some (.ref 0), some (.int (nI N)), some (.int (nI h + Int32.ofInt 1))]) (fun _ => rfl) ?_
    rw [nI_inc]
    exact ih (h + 1) (by omega) _ (GM_gh false hn)
theorem sp_hsg (N : Nat) (hN : N < 2 ^ 31) (B TN S : Nat) (hn : GM K B TN S) : Ev xs (d + 5) 148 0 [some (.ref 0), some (.int (nI N)), none] [] (mT z K) none (mT z (ghN K B TN N)) := by
  refine ev_go 2 (fun _ => rfl) ?_
  exact lp_hg xs d z N hN B TN S N 0 (by omega) K hn
theorem sp_ends0 (N : Nat) (hN : N < 2 ^ 31) (B TN S : Nat) (hn : GM K B TN S) : Ev xs (d + 6) 149 0 [some (.ref 0), some (.int (nI N))] [] (mT z K) (some (.int (smT 9 (ghN K B TN N).2.2))) (mT z (ghN K B TN N)) := by
  refine ev_go 2 (fun _ => rfl) ?_
  refine ev_call (y' := 148) rfl rfl rfl rfl (sp_hsg xs _ z K N hN B TN S hn) ?_
  exact ev_end 3 rfl
end HG

/-- what an hour changes: (hour, words, meetings), (phases, places ahead, places then, met, meets), Talks -/
abbrev KS : Type := (Int32 × Int32 × Int32) × (List Int32 × List Int32 × List Int32 × List Int32 × List Int32) × List TT
def kH (len mem : Int32) (B TN : Nat) (sn : Int32) (kd pc sb st ss : List Int32) (s : KS) : MH := cH (cO len mem s.1.1 (nI B) (nI TN) sn s.1.2.1 s.1.2.2) kd s.2.1.1 pc sb st ss s.2.1.2.1 s.2.1.2.2.1 s.2.1.2.2.2.1 s.2.1.2.2.2.2 s.2.2
def mvK3 (len : Int32) (B : Nat) (pc : List Int32) (s : KS) : NW3 := mvN len s.2.1.1 pc s.2.1.2.1 s.2.1.2.2.1 s.2.1.2.2.2.1 s.2.1.2.2.2.2 s.1.2.2 B
/-- a move; an hour; hours -/
def mvK (len : Int32) (B : Nat) (pc : List Int32) (s : KS) : KS := ((s.1.1, s.1.2.1, (mvK3 len B pc s).2.2), (phU len s.2.1.1 pc B, paU len s.2.1.1 B s.2.1.2.1, ptU len s.2.1.1 pc B s.2.1.2.2.1, (mvK3 len B pc s).2.1, (mvK3 len B pc s).1), s.2.2)
def tkK (mem : Int32) (TN : Nat) (kd : List Int32) (s : KS) : KS := ((s.1.1 + 1, T_wd kd s.2.1.2.2.2.1 s.2.1.2.2.2.2 mem s.1.2.1 (s.2.2.take TN), s.1.2.2), s.2.1, mapUp (fun T => (T_hr kd s.2.1.2.2.2.1 s.2.1.2.2.2.2 mem T).2) TN s.2.2)
def hrK (len mem : Int32) (B TN : Nat) (kd pc : List Int32) (s : KS) : KS := tkK mem TN kd (mvK len B pc s)
def itK (len mem : Int32) (B TN : Nat) (kd pc : List Int32) (n : Nat) (s : KS) : KS := match n with
  | 0 => s
  | n + 1 => itK len mem B TN kd pc n (hrK len mem B TN kd pc s)
/-- it is as it should be -/
def KOK (TN : Nat) (s : KS) : Prop := s.2.1.1.length = 5 ∧ s.2.1.2.1.length = 5 ∧ s.2.1.2.2.1.length = 5 ∧ s.2.1.2.2.2.1.length = 5 ∧ s.2.1.2.2.2.2.length = 25 ∧ s.2.2.length = 6 ∧ okM s.2.1.2.2.2.2 ∧ ∀ T ∈ s.2.2.take TN, okT T
theorem okM_set {ms : List Int32} (h : okM ms) (k : Nat) (b : Bool) : okM (ms.set k (bI b)) := fun j hj => by
  obtain ⟨c, hc⟩ := h j hj
  by_cases e : k = j
  · subst e
    exact ⟨b, List.getElem?_set_self (List.getElem?_eq_some_iff.mp hc).1⟩
  · exact ⟨c, by rw [List.getElem?_set_ne e]; exact hc⟩
theorem okM_nw {i j : Nat} {M : Bool} {s : NW3} (h : okM s.1) : okM (nwS i j M s).1 := by
  cases M with
  | true => exact okM_set (okM_set h _ true) _ true
  | false => exact okM_set (okM_set h _ false) _ false
theorem okM_I {pa pt : List Int32} {i : Nat} : ∀ (m j : Nat) (s : NW3), okM s.1 → okM (nwI pa pt i m j s).1
  | 0, _, _, h => h
  | m + 1, j, s, h => okM_I m (j + 1) _ (okM_nw h)
theorem okM_O {pa pt : List Int32} {B : Nat} : ∀ (m i : Nat) (s : NW3), okM s.1 → okM (nwO pa pt B m i s).1
  | 0, _, _, h => h
  | m + 1, i, s, h => okM_O m (i + 1) _ (okM_I _ _ _ h)
theorem nwO_len {pa pt : List Int32} {B : Nat} : ∀ (m i : Nat) (s : NW3), (nwO pa pt B m i s).1.length = s.1.length ∧ (nwO pa pt B m i s).2.1.length = s.2.1.length
  | 0, _, _ => ⟨rfl, rfl⟩
  | m + 1, i, s => by
    obtain ⟨a, b⟩ := nwO_len (pa := pa) (pt := pt) (B := B) m (i + 1) (nwI pa pt i (B - (i + 1)) (i + 1) s)
    obtain ⟨c, e⟩ := nwI_len (pa := pa) (pt := pt) (i := i) (B - (i + 1)) (i + 1) s
    exact ⟨a.trans c, b.trans e⟩
theorem KOK_mv {len : Int32} {B TN : Nat} {pc : List Int32} {s : KS} (hB : B ≤ 5) (h : KOK TN s) : KOK TN (mvK len B pc s) := by
  obtain ⟨h1, h2, h3, h4, h5, h6, h7, h8⟩ := h
  obtain ⟨a, b⟩ := nwO_len (pa := paU len s.2.1.1 B s.2.1.2.1) (pt := ptU len s.2.1.1 pc B s.2.1.2.2.1) (B := B) B 0 (s.2.1.2.2.2.2, mtU B s.2.1.2.2.2.1, s.1.2.2)
  exact ⟨(up_len (by omega)).trans h1, (up_len (by omega)).trans h2, (up_len (by omega)).trans h3, b.trans ((up_len (by omega)).trans h4), a.trans h5, h6, okM_O B 0 (s.2.1.2.2.2.2, mtU B s.2.1.2.2.2.1, s.1.2.2) h7, h8⟩
theorem T_off_2 (T : TT) : (T_off T).1 = T.1 ∧ (T_off T).2.1 = T.2.1 := ⟨rfl, rfl⟩
theorem T_goOn_2 (T : TT) (w : Int32) : (T_goOn T w).1 = T.1 ∧ (T_goOn T w).2.1 = T.2.1 := by
  unfold T_goOn
  split <;> exact ⟨rfl, rfl⟩
theorem T_silent_2 (T : TT) (w : Int32) : (T_silent T w).1 = T.1 ∧ (T_silent T w).2.1 = T.2.1 := by
  unfold T_silent
  split
  · exact ⟨rfl, rfl⟩
  · split <;> exact ⟨rfl, rfl⟩
theorem T_words_2 (T : TT) (k m : Int32) : (T_words T k m).2.1 = T.1 ∧ (T_words T k m).2.2.1 = T.2.1 := by
  unfold T_words
  split
  · split <;> exact ⟨rfl, rfl⟩
  · split
    · exact ⟨rfl, rfl⟩
    · split <;> exact ⟨rfl, rfl⟩
theorem T_pass_2 (T : TT) (b : Bool) (k m w : Int32) : (T_pass T b k m w).2.1 = T.1 ∧ (T_pass T b k m w).2.2.1 = T.2.1 := by
  unfold T_pass
  split
  · split
    · obtain ⟨a, b⟩ := T_goOn_2 (T_words T k m).2 (T_words T k m).1
      exact ⟨a.trans (T_words_2 T k m).1, b.trans (T_words_2 T k m).2⟩
    · obtain ⟨a, b⟩ := T_silent_2 (T_words T k m).2 w
      exact ⟨a.trans (T_words_2 T k m).1, b.trans (T_words_2 T k m).2⟩
  · exact T_silent_2 T w
theorem okT_of {T U : TT} (h : okT T) (e : U.1 = T.1 ∧ U.2.1 = T.2.1) : okT U := by
  obtain ⟨i, j, h1, h2, h3, h4⟩ := h
  exact ⟨i, j, h1, h2, e.1.trans h3, e.2.trans h4⟩
theorem take_mapUp {α : Type} {f : α → α} {t : Nat} {l : List α} : (mapUp f t l).take t = (l.take t).map f := by
  unfold mapUp
  by_cases h : t ≤ l.length
  · rw [List.take_append_of_le_length (by rw [List.length_map, List.length_take]; omega)]
    rw [List.take_of_length_le (by rw [List.length_map, List.length_take]; omega)]
  · rw [List.drop_eq_nil_of_le (by omega), List.append_nil, List.take_of_length_le (by rw [List.length_map, List.length_take]; omega)]
theorem KOK_tk {mem : Int32} {TN : Nat} {kd : List Int32} {s : KS} (h : KOK TN s) : KOK TN (tkK mem TN kd s) := by
  obtain ⟨h1, h2, h3, h4, h5, h6, h7, h8⟩ := h
  refine ⟨h1, h2, h3, h4, h5, mapUp_len.trans h6, h7, fun T hT => ?_⟩
  have hT2 : T ∈ (mapUp (fun T => (T_hr kd s.2.1.2.2.2.1 s.2.1.2.2.2.2 mem T).2) TN s.2.2).take TN := hT
  rw [take_mapUp] at hT2
  obtain ⟨U, hU, rfl⟩ := List.mem_map.mp hT2
  exact okT_of (h8 U hU) (T_pass_2 _ _ _ _ _)
theorem KOK_hr {len mem : Int32} {B TN : Nat} {kd pc : List Int32} {s : KS} (hB : B ≤ 5) (h : KOK TN s) : KOK TN (hrK len mem B TN kd pc s) := KOK_tk (KOK_mv hB h)
theorem KOK_it {len mem : Int32} {B TN : Nat} {kd pc : List Int32} (hB : B ≤ 5) : ∀ (n : Nat) (s : KS), KOK TN s → KOK TN (itK len mem B TN kd pc n s)
  | 0, _, h => h
  | n + 1, s, h => KOK_it hB n _ (KOK_hr hB h)
section CN6
variable (xs : List Int32) (d : Nat) (len mem : Int32) (B TN : Nat) (sn : Int32) (kd pc sb st ss : List Int32)
theorem sp_moveK (s : KS) (hB : B ≤ 5) (hs : KOK TN s) (hpc : pc.length = 5) (hw : 0 < 2 * len) : Ev xs (d + 2) 19 0 [some (.ref 0), none, none] [] (kH len mem B TN sn kd pc sb st ss s) none (kH len mem B TN sn kd pc sb st ss (mvK len B pc s)) := sp_move xs d len mem s.1.1 (nI TN) sn s.1.2.1 s.1.2.2 kd s.2.1.1 pc sb st ss s.2.1.2.1 s.2.1.2.2.1 s.2.1.2.2.2.1 s.2.1.2.2.2.2 s.2.2 B hB hs.1 hpc hs.2.1 hs.2.2.1 hs.2.2.2.1 hs.2.2.2.2.1 hw
theorem sp_hour (s : KS) (hB : B ≤ 5) (hTN : TN ≤ 6) (hs : KOK TN s) (hkd : kd.length = 5) (hpc : pc.length = 5) (hw : 0 < 2 * len) : Ev xs (d + 3) 17 0 [some (.ref 0), none, none, none] [] (kH len mem B TN sn kd pc sb st ss s) none (kH len mem B TN sn kd pc sb st ss (hrK len mem B TN kd pc s)) := by
  refine ev_go 1 (fun _ => rfl) ?_
  refine ev_call (y' := 19) rfl rfl rfl rfl (sp_moveK xs d len mem B TN sn kd pc sb st ss s hB hs hpc hw) ?_
  have hs2 := KOK_mv (len := len) (pc := pc) hB hs
  unfold hrK
  generalize mvK len B pc s = s at hs2
  obtain ⟨h1, h2, h3, h4, h5, h6, h7, h8⟩ := hs2
  refine ev_go 2 (fun _ => rfl) ?_
  refine lp_hour xs d len mem s.1.1 sn s.1.2.1 s.1.2.2 kd s.2.1.1 pc sb st ss s.2.1.2.1 s.2.1.2.2.1 s.2.1.2.2.2.1 s.2.1.2.2.2.2 s.2.2 TN (nI B) hTN h6 hkd h4 h8 h7 _ (fun z1 z2 => ?_) TN 0 (by omega) none none
  exact ev_end 7 rfl
theorem lp_hours (N : Nat) (hN : N < 2 ^ 31) (hB : B ≤ 5) (hTN : TN ≤ 6) (hkd : kd.length = 5) (hpc : pc.length = 5) (hw : 0 < 2 * len) : ∀ m h, h + m = N → ∀ s : KS, KOK TN s → Ev xs (d + 4) 16 2 [some (.ref 0), some (.int (nI N)), some (.int (nI h))] [] (kH len mem B TN sn kd pc sb st ss s) none (kH len mem B TN sn kd pc sb st ss (itK len mem B TN kd pc m s)) := by
  intro m
  induction m with
  | zero =>
    intro h hh s hs
    have e : h = N := by omega
    subst e
    refine ev_go 2 (fun _ => rfl) ?_
    refine ev_ic_ge rfl rfl (fun _ => ?_) (fun n => absurd (nI_le (Nat.le_refl _) hN) n)
    exact ev_end 1 rfl
  | succ m ih =>
    intro h hh s hs
    refine ev_go 2 (fun _ => rfl) ?_
    refine ev_ic_ge rfl rfl (fun n => absurd n (nI_ge (by omega) hN)) (fun _ => ?_)
    refine ev_go 1 (fun _ => rfl) ?_
    refine ev_call (y' := 17) rfl rfl rfl rfl (sp_hour xs d len mem B TN sn kd pc sb st ss s hB hTN hs hkd hpc hw) ?_
    refine ev_go 2 (ls' := [some (.ref 0), some (.int (nI N)), some (.int (nI h + Int32.ofInt 1))]) (fun _ => rfl) ?_
    rw [nI_inc]
    exact ih (h + 1) (by omega) _ (KOK_hr hB hs)
theorem sp_hours (N : Nat) (s : KS) (hN : N < 2 ^ 31) (hB : B ≤ 5) (hTN : TN ≤ 6) (hs : KOK TN s) (hkd : kd.length = 5) (hpc : pc.length = 5) (hw : 0 < 2 * len) : Ev xs (d + 4) 16 0 [some (.ref 0), some (.int (nI N)), none] [] (kH len mem B TN sn kd pc sb st ss s) none (kH len mem B TN sn kd pc sb st ss (itK len mem B TN kd pc N s)) := by
  refine ev_go 2 (fun _ => rfl) ?_
  exact lp_hours xs d len mem B TN sn kd pc sb st ss N hN hB hTN hkd hpc hw N 0 (by omega) s hs
end CN6

/-! Fog.watch: a Fog, and a Canal behind it -/
def kC (len mem : Int32) (B TN : Nat) (sn : Int32) (kd pc sb st ss : List Int32) (s : KS) : CK := ((len, mem, s.1.1, nI B, nI TN, sn, s.1.2.1, s.1.2.2), (kd, s.2.1.1, pc, sb, st, ss, s.2.1.2.1, s.2.1.2.2.1, s.2.1.2.2.2.1, s.2.1.2.2.2.2), s.2.2)
theorem kC_H (len mem : Int32) (B TN : Nat) (sn : Int32) (kd pc sb st ss : List Int32) (s : KS) : bH 0 (kC len mem B TN sn kd pc sb st ss s) = kH len mem B TN sn kd pc sb st ss s := rfl
theorem hasF {P : MH} {n : Nat} {K : CK} (hP : P.length = n) (hK : K.2.2.length = 6) : HasC (P ++ bH n K) n K := by
  have := has_C (Q := []) hP hK
  rwa [List.append_nil] at this
theorem putF {P : MH} {n : Nat} {K K' : CK} (hP : P.length = n) (hK : K.2.2.length = 6) (hK' : K'.2.2.length = 6) : putL (P ++ bH n K) (vC n) (bH n K') = P ++ bH n K' := by
  have := put_C (Q := []) hP hK hK'
  rwa [List.append_nil, List.append_nil] at this
theorem fH_len {o : MC} {me m1 m2 : List Int32} {bh : List TT} (h : bh.length = 9) : (fH o me m1 m2 bh).length = 14 := by
  unfold fH
  simp [h]
theorem fX_tk {o : MC} {me m1 m2 : List Int32} {bh : List TT} {X : MH} {t : Nat} {T : TT} (ht : bh[t]? = some T) (h : bh.length = 9) : (fH o me m1 m2 bh ++ X)[5 + t]? = some (tkc T) := by
  have hl := (List.getElem?_eq_some_iff.mp ht).1
  rw [List.getElem?_append_left (by rw [fH_len h]; omega)]
  exact fH_tk ht
theorem fX_set {o : MC} {me m1 m2 : List Int32} {bh : List TT} {X : MH} {t : Nat} {T : TT} (ht : t < 9) (h : bh.length = 9) : (fH o me m1 m2 bh ++ X).set (5 + t) (tkc T) = fH o me m1 m2 (bh.set t T) ++ X := by
  rw [List.set_append_left _ _ (by rw [fH_len h]; omega), fH_set]
theorem bR_at {n t : Nat} (h : t < 6) : ([.ref (n + 12), .ref (n + 13), .ref (n + 14), .ref (n + 15), .ref (n + 16), .ref (n + 17)] : List Value)[t]? = some (.ref (n + (12 + t))) := by
  match t, h with
  | 0, _ => rfl
  | 1, _ => rfl
  | 2, _ => rfl
  | 3, _ => rfl
  | 4, _ => rfl
  | 5, _ => rfl
theorem bH_tk {n : Nat} {K : CK} {t : Nat} {T : TT} (h : K.2.2[t]? = some T) : (bH n K)[12 + t]? = some (tkc T) := by
  rw [Nat.add_comm]
  show (K.2.2.map tkc)[t]? = _
  rw [List.getElem?_map, h]
  rfl
/-- moves one behind another -/
def mvI (len : Int32) (B : Nat) (pc : List Int32) (n : Nat) (s : KS) : KS := match n with
  | 0 => s
  | n + 1 => mvK len B pc (mvI len B pc n s)
theorem mvI_rw {len : Int32} {B : Nat} {pc : List Int32} {s : KS} : ∀ n, (mvI len B pc n s).2.2 = s.2.2
  | 0 => rfl
  | n + 1 => mvI_rw n
theorem KOK_mvI {len : Int32} {B TN : Nat} {pc : List Int32} {s : KS} (hB : B ≤ 5) (h : KOK TN s) : ∀ n, KOK TN (mvI len B pc n s)
  | 0 => h
  | n + 1 => KOK_mv hB (KOK_mvI hB h n)
/-- what the Fog notes of an hour -/
def wtM (len : Int32) (B : Nat) (pc : List Int32) (s : KS) (k h : Nat) : Int32 := (mvI len B pc (h + 1) s).2.1.2.2.2.2.getD k 0
def wtN (len : Int32) (B : Nat) (pc : List Int32) (s : KS) (k h : Nat) : Int32 := (mvI len B pc (h + 1) s).2.1.2.2.2.1.getD k 0
section WT
variable (xs : List Int32) (d : Nat) (len mem : Int32) (B TN : Nat) (sn : Int32) (kd pc sb st ss : List Int32) (s : KS) (k1 k2 mm odds : Int32) (me m1 m2 : List Int32) (bh : List TT)
theorem lp_watch (SP t i j : Nat) (T : TT) (v n0 : Int32) (hSP : SP ≤ 8) (hB : B ≤ 5) (hs : KOK TN s) (hpc : pc.length = 5) (hw : 0 < 2 * len) (ht : t < 6) (hT : s.2.2[t]? = some T) (hi : i < 5) (hj : j < 5) (e1 : T.1 = nI i) (e2 : T.2.1 = nI j) (hbh : bh.length = 9) (l1 : me.length = 8) (l2 : m1.length = 8) (l3 : m2.length = 8) : ∀ m h, h + m = SP → Ev xs (d + 3) 27 74 [some (.ref 0), some (.ref 14), some (.int (nI t)), some (.int n0), some (.int v), some (.ref (14 + (12 + t))), some (.int (nI h))] [] (fH (fO (nI SP) odds k1 k2 mm) (up (wtM len B pc s (5 * i + j)) h me) (up (wtN len B pc s i) h m1) (up (wtN len B pc s j) h m2) bh ++ bH 14 (kC len mem B TN sn kd pc sb st ss (mvI len B pc h s))) none (fH (fO (nI SP) odds k1 k2 mm) (up (wtM len B pc s (5 * i + j)) SP me) (up (wtN len B pc s i) SP m1) (up (wtN len B pc s j) SP m2) bh ++ bH 14 (kC len mem B TN sn kd pc sb st ss (mvI len B pc SP s))) := by
  intro m
  induction m with
  | zero =>
    intro h hh
    have e : h = SP := by omega
    subst e
    refine ev_go 3 (fun _ => rfl) ?_
    exact ev_ic_ge rfl rfl (fun _ => ev_end 1 rfl) (fun n => absurd (nI_le (Nat.le_refl _) (by omega)) n)
  | succ m ih =>
    intro h hh
    have hk := KOK_mvI (len := len) (pc := pc) hB hs h
    have hk1 := KOK_mvI (len := len) (pc := pc) hB hs (h + 1)
    have ix : mm_ix (nI h) = some h := mm_ix_nI (by omega)
    have lf : ∀ {o : MC} {a b c : List Int32}, (fH o a b c bh).length = 14 := fun {o a b c} => fH_len hbh
    have hT1 : (kC len mem B TN sn kd pc sb st ss (mvI len B pc (h + 1) s)).2.2[t]? = some T := by
      show (mvI len B pc (h + 1) s).2.2[t]? = some T
      rw [mvI_rw]
      exact hT
    have hc1 : ∀ {o : MC} {a b c : List Int32}, HasC (fH o a b c bh ++ bH 14 (kC len mem B TN sn kd pc sb st ss (mvI len B pc (h + 1) s))) 14 (kC len mem B TN sn kd pc sb st ss (mvI len B pc (h + 1) s)) := fun {o a b c} => hasF lf hk1.2.2.2.2.2.1
    have htk : ∀ {o : MC} {a b c : List Int32}, (fH o a b c bh ++ bH 14 (kC len mem B TN sn kd pc sb st ss (mvI len B pc (h + 1) s)))[14 + (12 + t)]? = some (tkc T) := fun {o a b c} => (hc1.2 (12 + t) (by omega)).trans (bH_tk hT1)
    obtain ⟨b, hb⟩ := hk1.2.2.2.2.2.2.1 (5 * i + j) (by omega)
    refine ev_go 3 (fun _ => rfl) ?_
    refine ev_ic_ge rfl rfl (fun n => absurd n (nI_ge (by omega) (by omega))) (fun _ => ?_)
    refine ev_go 1 (fun _ => rfl) ?_
    refine ev_callC (d := d + 2) (y' := 19) (n := 14) (As := []) (K' := kC len mem B TN sn kd pc sb st ss (mvI len B pc (h + 1) s)) rfl rfl rfl rfl rfl (by intro v hv; cases hv) (hasF lf hk.2.2.2.2.2.1) rfl hk1.2.2.2.2.2.1 (sp_moveK xs d len mem B TN sn kd pc sb st ss (mvI len B pc h s) hB hk hpc hw) (Or.inl rfl) ?_
    rw [putF lf hk.2.2.2.2.2.1 hk1.2.2.2.2.2.1]
    refine ev_go 5 (fun _ => rfl) ?_
    refine ev_gfT rfl rfl htk rfl ?_
    refine ev_go 1 (fun _ => rfl) ?_
    refine ev_gfT rfl rfl htk rfl ?_
    rw [e1, e2]
    refine ev_callC (d := d + 2) (y' := 18) (n := 14) (As := [.int (nI i), .int (nI j)]) (K' := kC len mem B TN sn kd pc sb st ss (mvI len B pc (h + 1) s)) rfl rfl rfl rfl rfl (by intro v hv; simp at hv; rcases hv with rfl | rfl <;> exact ⟨_, rfl⟩) hc1 rfl hk1.2.2.2.2.2.1 (sp_doMeet xs _ len mem _ _ _ sn _ _ kd _ pc sb st ss _ _ _ _ _ i j b hi hj hb) (Or.inr ⟨_, rfl⟩) ?_
    rw [putF lf hk1.2.2.2.2.2.1 hk1.2.2.2.2.2.1]
    refine ev_zast rfl rfl ix (by rw [up_len (by omega)]; omega) ?_
    have hm : wtM len B pc s (5 * i + j) h = bI b := by
      unfold wtM
      rw [List.getD_eq_getElem?_getD, hb]
      rfl
    refine ev_go 4 (h1 := fH (fO (nI SP) odds k1 k2 mm) ((up (wtM len B pc s (5 * i + j)) h me).set h (bI b)) (up (wtN len B pc s i) h m1) (up (wtN len B pc s j) h m2) bh ++ bH 14 (kC len mem B TN sn kd pc sb st ss (mvI len B pc (h + 1) s))) (fun _ => rfl) ?_
    rw [← hm, up_s (by omega)]
    refine ev_gf rfl rfl (hc1.2 0 (by decide)) rfl ?_
    refine ev_go 1 (fun _ => rfl) ?_
    refine ev_gfT rfl rfl htk rfl ?_
    rw [e1]
    refine ev_iald rfl (hc1.2 10 (by decide)) (mm_ix_nI (by omega)) (getD_at (by show i < (mvI len B pc (h + 1) s).2.1.2.2.2.1.length; rw [hk1.2.2.2.1]; exact hi)) ?_
    refine ev_iast rfl rfl ix (by rw [up_len (by omega)]; omega) ?_
    refine ev_go 4 (h1 := fH (fO (nI SP) odds k1 k2 mm) (up (wtM len B pc s (5 * i + j)) (h + 1) me) ((up (wtN len B pc s i) h m1).set h (wtN len B pc s i h)) (up (wtN len B pc s j) h m2) bh ++ bH 14 (kC len mem B TN sn kd pc sb st ss (mvI len B pc (h + 1) s))) (fun _ => rfl) ?_
    rw [up_s (g := wtN len B pc s i) (by omega)]
    refine ev_gf rfl rfl (hc1.2 0 (by decide)) rfl ?_
    refine ev_go 1 (fun _ => rfl) ?_
    refine ev_gfT rfl rfl htk rfl ?_
    rw [e2]
    refine ev_iald rfl (hc1.2 10 (by decide)) (mm_ix_nI (by omega)) (getD_at (by show j < (mvI len B pc (h + 1) s).2.1.2.2.2.1.length; rw [hk1.2.2.2.1]; exact hj)) ?_
    refine ev_iast rfl rfl ix (by rw [up_len (by omega)]; omega) ?_
    refine ev_go 2 (ls' := [some (.ref 0), some (.ref 14), some (.int (nI t)), some (.int n0), some (.int v), some (.ref (14 + (12 + t))), some (.int (nI h + Int32.ofInt 1))]) (h1 := fH (fO (nI SP) odds k1 k2 mm) (up (wtM len B pc s (5 * i + j)) (h + 1) me) (up (wtN len B pc s i) (h + 1) m1) ((up (wtN len B pc s j) h m2).set h (wtN len B pc s j h)) bh ++ bH 14 (kC len mem B TN sn kd pc sb st ss (mvI len B pc (h + 1) s))) (fun _ => rfl) ?_
    rw [nI_inc, up_s (g := wtN len B pc s j) (by omega)]
    exact ih (h + 1) (by omega)
end WT

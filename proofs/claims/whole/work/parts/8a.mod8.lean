/-! The reference's rule, barge, talk, say, hours, runs, ahead, at -/
theorem GS_GM {K : CK} {B TN S : Nat} (h : GM K B TN S) : GS K := GS_CG h.1
theorem GM6 {K : CK} {B TN S : Nat} (h : GM K B TN S) : K.2.2.length = 6 := CG6 h.1
section MC2
variable (xs : List Int32) (d : Nat) (z : ZT) (Ks : CK) (X nw eb wa ms mt : List Int32) (cc : C4) (B TN S : Nat)
def mruleA (wa ms mt : List Int32) (Ks : CK) (B TN k : Nat) : Int32 := match k with
  | 0 => Ks.1.2.2.2.1
  | 1 => Ks.1.2.2.2.2.1
  | 2 => Ks.1.2.2.1
  | 3 => Ks.1.1
  | 4 => Ks.1.2.1
  | 5 => smT 5 (Ks.2.2.take TN)
  | 6 => smT 6 (Ks.2.2.take TN)
  | _ => (gmK false (stA wa ms mt Ks) B).1.2.2.2.2.2.2.2
theorem m_rule_bad (w : Int32) (c : wiI w 0 7 = false) (h : MH) : Ev xs d 152 0 [some (.ref 0), some (.int w)] [] h (some (.int (-1))) h := by
  refine ev_go 1 (fun _ => rfl) ?_
  refine ev_ts_d (t := 104) rfl rfl (wi_no (M := 7) (by decide) c) ?_
  exact ev_end 2 rfl
theorem sp_pairs (hv : VS Ks B TN S) (ho : mOK nw eb wa ms mt) : Ev xs (d + 4) 151 0 [some (.ref 0)] [] (mH (zS z Ks X) nw eb wa ms mt cc) (some (.int (gmK false (stA wa ms mt Ks) B).1.2.2.2.2.2.2.2)) (mT (zS z Ks X) (gmK false (stA wa ms mt Ks) B)) := by
  refine ev_go 1 (fun _ => rfl) ?_
  refine ev_call (y' := 133) rfl rfl rfl rfl (sp_stA xs _ z Ks X nw eb wa ms mt cc ho (CL6 hv.1.1)) ?_
  refine ev_go 2 (fun _ => rfl) ?_
  refine ev_call (y' := 140) rfl rfl rfl rfl (sp_bgT xs _ (zS z Ks X) (stA wa ms mt Ks) false B TN S (GM_st hv ho).1) ?_
  exact ev_end 3 rfl
theorem m_rule (k : Nat) (hk : k ≤ 7) (hv : VS Ks B TN S) (ho : mOK nw eb wa ms mt) : ∃ h', MHp z Ks X h' ∧ Ev xs (d + 5) 152 0 [some (.ref 0), some (.int (nI k))] [] (mH (zS z Ks X) nw eb wa ms mt cc) (some (.int (mruleA wa ms mt Ks B TN k))) h' := by
  have hp : MHp z Ks X (mH (zS z Ks X) nw eb wa ms mt cc) := ⟨_, _, _, _, _, _, ho, rfl⟩
  match k, hk with
  | 0, _ =>
    refine ⟨_, hp, ?_⟩
    refine ev_go 5 (fun _ => rfl) ?_
    refine ev_iald rfl rfl (k := 18) rfl ((sg (by decide)).trans fq_18) ?_
    exact ev_end 1 rfl
  | 1, _ =>
    refine ⟨_, hp, ?_⟩
    refine ev_go 5 (fun _ => rfl) ?_
    refine ev_iald rfl rfl (k := 67) rfl ((sg (by decide)).trans fq_67) ?_
    exact ev_end 1 rfl
  | 2, _ =>
    refine ⟨_, hp, ?_⟩
    refine ev_go 5 (fun _ => rfl) ?_
    refine ev_iald rfl rfl (k := 2) rfl ((sg (by decide)).trans fq_2) ?_
    exact ev_end 1 rfl
  | 3, _ =>
    refine ⟨_, hp, ?_⟩
    refine ev_go 5 (fun _ => rfl) ?_
    refine ev_iald rfl rfl (k := 0) rfl ((sg (by decide)).trans fq_0) ?_
    exact ev_end 1 rfl
  | 4, _ =>
    refine ⟨_, hp, ?_⟩
    refine ev_go 5 (fun _ => rfl) ?_
    refine ev_iald rfl rfl (k := 1) rfl ((sg (by decide)).trans fq_1) ?_
    exact ev_end 1 rfl
  | 5, _ =>
    refine ⟨_, hp, ?_⟩
    refine ev_go 4 (fun _ => rfl) ?_
    refine ev_call (y' := 150) rfl rfl rfl rfl (sp_smM xs _ z Ks X nw eb wa ms mt cc TN 6 5 hv.1.2.2.1 hv.1.2.2.2.2.2.1 (CL6 hv.1.1) (by decide) (fun _ => rfl)) ?_
    exact ev_end 1 rfl
  | 6, _ =>
    refine ⟨_, hp, ?_⟩
    refine ev_go 4 (fun _ => rfl) ?_
    refine ev_call (y' := 150) rfl rfl rfl rfl (sp_smM xs _ z Ks X nw eb wa ms mt cc TN 7 6 hv.1.2.2.1 hv.1.2.2.2.2.2.1 (CL6 hv.1.1) (by decide) (fun _ => rfl)) ?_
    exact ev_end 1 rfl
  | 7, _ =>
    refine ⟨_, MHp_T (GS_GM (GM_gm false (GM_st hv ho))), ?_⟩
    refine ev_go 3 (fun _ => rfl) ?_
    refine ev_call (y' := 151) rfl rfl rfl rfl (sp_pairs xs _ z Ks X nw eb wa ms mt cc B TN S hv ho) ?_
    exact ev_end 1 rfl
  | n + 8, h => exact absurd h (by omega)
def mbargeA (wa ms mt : List Int32) (Ks : CK) (B b k : Nat) : Int32 := match k with
  | 0 => Ks.2.1.1.getD b 0
  | 1 => Ks.2.1.2.1.getD b 0
  | 2 => Ks.2.1.2.2.1.getD b 0
  | 3 => plI Ks.1.1 (Ks.2.1.2.1.getD b 0)
  | _ => (gmK false (stA wa ms mt Ks) B).2.1.2.2.2.2.2.2.2.2.1.getD b 0
theorem m_barge_bad1 (b w : Int32) (hv : VS Ks B TN S) (c : hasI b Ks.1.2.2.2.1 = false) : Ev xs (d + 2) 153 0 [some (.ref 0), some (.int b), some (.int w)] [] (mH (zS z Ks X) nw eb wa ms mt cc) (some (.int (-1))) (mH (zS z Ks X) nw eb wa ms mt cc) := by
  refine ev_go 2 (fun _ => rfl) ?_
  refine ev_call (y' := 130) rfl rfl rfl rfl (sp_isB xs _ z Ks X nw eb wa ms mt cc b B hv.1.2.1 (by have := hv.1.2.2.2.2.1; omega)) ?_
  rw [c]
  exact ev_end 3 rfl
theorem m_barge_bad2 (b w : Int32) (hv : VS Ks B TN S) (c : hasI b Ks.1.2.2.2.1 = true) (c2 : wiI w 0 4 = false) : Ev xs (d + 2) 153 0 [some (.ref 0), some (.int b), some (.int w)] [] (mH (zS z Ks X) nw eb wa ms mt cc) (some (.int (-1))) (mH (zS z Ks X) nw eb wa ms mt cc) := by
  refine ev_go 2 (fun _ => rfl) ?_
  refine ev_call (y' := 130) rfl rfl rfl rfl (sp_isB xs _ z Ks X nw eb wa ms mt cc b B hv.1.2.1 (by have := hv.1.2.2.2.2.1; omega)) ?_
  rw [c]
  refine ev_go 5 (fun _ => rfl) ?_
  refine ev_call (y' := 110) rfl rfl rfl rfl (sp_in xs _ _ w 0 4) ?_
  rw [c2]
  exact ev_end 3 rfl
theorem m_barge (b k : Nat) (hb : b < B) (hk : k ≤ 4) (hv : VS Ks B TN S) (ho : mOK nw eb wa ms mt) : ∃ h', MHp z Ks X h' ∧ Ev xs (d + 4) 153 0 [some (.ref 0), some (.int (nI b)), some (.int (nI k))] [] (mH (zS z Ks X) nw eb wa ms mt cc) (some (.int (mbargeA wa ms mt Ks B b k))) h' := by
  have hB := hv.1.2.2.2.2.1
  have hg := GM_st hv ho
  have hh : hasI (nI b) Ks.1.2.2.2.1 = true := by rw [hv.1.2.1]; exact has_nI (by omega) hb
  have pre : ∀ (h' : MH) (r : Option Value), Ev xs (d + 4) 153 26 [some (.ref 0), some (.int (nI b)), some (.int (nI k))] [] (mT (zS z Ks X) (stA wa ms mt Ks)) r h' → Ev xs (d + 4) 153 0 [some (.ref 0), some (.int (nI b)), some (.int (nI k))] [] (mH (zS z Ks X) nw eb wa ms mt cc) r h' := by
    intro h' r hr
    refine ev_go 2 (fun _ => rfl) ?_
    refine ev_call (y' := 130) rfl rfl rfl rfl (sp_isB xs _ z Ks X nw eb wa ms mt cc (nI b) B hv.1.2.1 (by omega)) ?_
    rw [hh]
    refine ev_go 5 (fun _ => rfl) ?_
    refine ev_call (y' := 110) rfl rfl rfl rfl (sp_in xs _ _ (nI k) 0 4) ?_
    rw [show wiI (nI k) 0 4 = true from wi_nI (M := 4) hk (by decide)]
    refine ev_go 2 (fun _ => rfl) ?_
    refine ev_call (y' := 133) rfl rfl rfl rfl (sp_stA xs _ z Ks X nw eb wa ms mt cc ho (CL6 hv.1.1)) ?_
    exact hr
  match k, hk, pre with
  | 0, _, pre =>
    refine ⟨_, MHp_T (GS_GM hg), pre _ _ ?_⟩
    refine ev_go 9 (fun _ => rfl) ?_
    refine ev_call (y' := 135) rfl rfl rfl rfl (sp_of xs _ (zS z Ks X) _ _ _ _ _ (stA wa ms mt Ks) b 0 (by omega) (by decide)) ?_
    exact ev_end 1 rfl
  | 1, _, pre =>
    refine ⟨_, MHp_T (GS_GM hg), pre _ _ ?_⟩
    refine ev_go 9 (fun _ => rfl) ?_
    refine ev_call (y' := 135) rfl rfl rfl rfl (sp_of xs _ (zS z Ks X) _ _ _ _ _ (stA wa ms mt Ks) b 1 (by omega) (by decide)) ?_
    exact ev_end 1 rfl
  | 2, _, pre =>
    refine ⟨_, MHp_T (GS_GM hg), pre _ _ ?_⟩
    refine ev_go 9 (fun _ => rfl) ?_
    refine ev_call (y' := 135) rfl rfl rfl rfl (sp_of xs _ (zS z Ks X) _ _ _ _ _ (stA wa ms mt Ks) b 2 (by omega) (by decide)) ?_
    exact ev_end 1 rfl
  | 3, _, pre =>
    refine ⟨_, MHp_T (GS_GM hg), pre _ _ ?_⟩
    refine ev_go 8 (fun _ => rfl) ?_
    refine ev_call (y' := 138) rfl rfl rfl rfl (sp_pl xs _ (zS z Ks X) _ _ _ _ _ (stA wa ms mt Ks) b (by omega)) ?_
    exact ev_end 2 rfl
  | 4, _, pre =>
    have hg2 := GM_gm false hg
    refine ⟨_, MHp_T (GS_GM hg2), pre _ _ ?_⟩
    refine ev_go 5 (fun _ => rfl) ?_
    refine ev_call (y' := 140) rfl rfl rfl rfl (sp_bgT xs _ (zS z Ks X) (stA wa ms mt Ks) false B TN S hg.1) ?_
    refine ev_go 3 (fun _ => rfl) ?_
    refine ev_iald (L := (gmK false (stA wa ms mt Ks) B).2.1.2.2.2.2.2.2.2.2.1) rfl rfl (mm_ix_nI (by omega)) (getD_at (by rw [hg2.1.1.1.2.2.2.2.2.2.2.2.1]; omega)) ?_
    exact ev_end 1 rfl
  | n + 5, h, _ => exact absurd h (by omega)
theorem m_talk_bad1 (t w : Int32) (hv : VS Ks B TN S) (c : hasI t Ks.1.2.2.2.2.1 = false) : Ev xs (d + 2) 154 0 [some (.ref 0), some (.int t), some (.int w)] [] (mH (zS z Ks X) nw eb wa ms mt cc) (some (.int (-1))) (mH (zS z Ks X) nw eb wa ms mt cc) := by
  refine ev_go 2 (fun _ => rfl) ?_
  refine ev_call (y' := 131) rfl rfl rfl rfl (sp_isT xs _ z Ks X nw eb wa ms mt cc t TN hv.1.2.2.1 (by have := hv.1.2.2.2.2.2.1; omega)) ?_
  rw [c]
  exact ev_end 3 rfl
theorem m_talk_bad2 (t w : Int32) (hv : VS Ks B TN S) (ho : mOK nw eb wa ms mt) (c : hasI t Ks.1.2.2.2.2.1 = true) (c2 : wiI w 0 8 = false) : ∃ h', MHp z Ks X h' ∧ Ev xs (d + 2) 154 0 [some (.ref 0), some (.int t), some (.int w)] [] (mH (zS z Ks X) nw eb wa ms mt cc) (some (.int (-1))) h' := by
  refine ⟨_, MHp_T (GS_GM (GM_st hv ho)), ?_⟩
  refine ev_go 2 (fun _ => rfl) ?_
  refine ev_call (y' := 131) rfl rfl rfl rfl (sp_isT xs _ z Ks X nw eb wa ms mt cc t TN hv.1.2.2.1 (by have := hv.1.2.2.2.2.2.1; omega)) ?_
  rw [c]
  refine ev_go 2 (fun _ => rfl) ?_
  refine ev_call (y' := 133) rfl rfl rfl rfl (sp_stA xs _ z Ks X nw eb wa ms mt cc ho (CL6 hv.1.1)) ?_
  refine ev_go 1 (fun _ => rfl) ?_
  refine ev_ts_d (t := 100) rfl rfl (wi_no (M := 8) (by decide) c2) ?_
  exact ev_end 2 rfl
theorem stA_T {t : Nat} {T : TT} (hT : Ks.2.2[t]? = some T) : (stA wa ms mt Ks).2.2[t]? = some (T_clr T) := by
  show (Ks.2.2.map T_clr)[t]? = _
  rw [List.getElem?_map, hT]
  rfl
theorem m_talk (t k : Nat) (T : TT) (ht : t < TN) (hk : k ≤ 8) (hT : Ks.2.2[t]? = some T) (hv : VS Ks B TN S) (ho : mOK nw eb wa ms mt) : ∃ h', MHp z Ks X h' ∧ Ev xs (d + 2) 154 0 [some (.ref 0), some (.int (nI t)), some (.int (nI k))] [] (mH (zS z Ks X) nw eb wa ms mt cc) (some (.int (T_tell T k))) h' := by
  have h6 := hv.1.2.2.2.2.2.1
  refine ⟨_, MHp_T (GS_GM (GM_st hv ho)), ?_⟩
  have hT2 := stA_T Ks wa ms mt hT
  refine ev_go 2 (fun _ => rfl) ?_
  refine ev_call (y' := 131) rfl rfl rfl rfl (sp_isT xs _ z Ks X nw eb wa ms mt cc (nI t) TN hv.1.2.2.1 (by omega)) ?_
  rw [show hasI (nI t) Ks.1.2.2.2.2.1 = true by rw [hv.1.2.2.1]; exact has_nI (by omega) ht]
  refine ev_go 2 (fun _ => rfl) ?_
  refine ev_call (y' := 133) rfl rfl rfl rfl (sp_stA xs _ z Ks X nw eb wa ms mt cc ho (CL6 hv.1.1)) ?_
  match k, hk with
  | 0, _ =>
    refine ev_go 5 (fun _ => rfl) ?_
    refine ev_call (y' := 136) rfl rfl rfl rfl (sp_ofT xs _ (zS z Ks X) _ _ _ _ _ (stA wa ms mt Ks) (by omega) hT2 (k := 0) (by decide) rfl) ?_
    exact ev_end 1 rfl
  | 1, _ =>
    refine ev_go 5 (fun _ => rfl) ?_
    refine ev_call (y' := 136) rfl rfl rfl rfl (sp_ofT xs _ (zS z Ks X) _ _ _ _ _ (stA wa ms mt Ks) (by omega) hT2 (k := 1) (by decide) rfl) ?_
    exact ev_end 1 rfl
  | 2, _ =>
    refine ev_go 5 (fun _ => rfl) ?_
    refine ev_call (y' := 136) rfl rfl rfl rfl (sp_ofT xs _ (zS z Ks X) _ _ _ _ _ (stA wa ms mt Ks) (by omega) hT2 (k := 2) (by decide) rfl) ?_
    exact ev_end 1 rfl
  | 3, _ =>
    refine ev_go 5 (fun _ => rfl) ?_
    refine ev_call (y' := 136) rfl rfl rfl rfl (sp_ofT xs _ (zS z Ks X) _ _ _ _ _ (stA wa ms mt Ks) (by omega) hT2 (k := 3) (by decide) rfl) ?_
    exact ev_end 1 rfl
  | 4, _ =>
    refine ev_go 5 (fun _ => rfl) ?_
    refine ev_call (y' := 136) rfl rfl rfl rfl (sp_ofT xs _ (zS z Ks X) _ _ _ _ _ (stA wa ms mt Ks) (by omega) hT2 (k := 4) (by decide) rfl) ?_
    exact ev_end 1 rfl
  | 5, _ =>
    refine ev_go 5 (fun _ => rfl) ?_
    refine ev_call (y' := 136) rfl rfl rfl rfl (sp_ofT xs _ (zS z Ks X) _ _ _ _ _ (stA wa ms mt Ks) (by omega) hT2 (k := 6) (by decide) rfl) ?_
    exact ev_end 1 rfl
  | 6, _ =>
    refine ev_go 5 (fun _ => rfl) ?_
    refine ev_call (y' := 136) rfl rfl rfl rfl (sp_ofT xs _ (zS z Ks X) _ _ _ _ _ (stA wa ms mt Ks) (by omega) hT2 (k := 7) (by decide) rfl) ?_
    exact ev_end 1 rfl
  | 7, _ =>
    refine ev_go 4 (fun _ => rfl) ?_
    refine ev_call (y' := 141) rfl rfl rfl rfl (sp_spk xs _ (zS z Ks X) _ _ _ _ _ (stA wa ms mt Ks) (by omega) hT2) ?_
    exact ev_end 1 rfl
  | 8, _ =>
    refine ev_go 5 (fun _ => rfl) ?_
    refine ev_call (y' := 136) rfl rfl rfl rfl (sp_ofT xs _ (zS z Ks X) _ _ _ _ _ (stA wa ms mt Ks) (by omega) hT2 (k := 5) (by decide) rfl) ?_
    exact ev_end 1 rfl
  | n + 9, h => exact absurd h (by omega)
theorem m_say_bad (t : Int32) (hv : VS Ks B TN S) (c : hasI t Ks.1.2.2.2.2.1 = false) : Ev xs (d + 2) 160 0 [some (.ref 0), some (.int t), none] [] (mH (zS z Ks X) nw eb wa ms mt cc) (some (.int (-1))) (mH (zS z Ks X) nw eb wa ms mt cc) := by
  refine ev_go 2 (fun _ => rfl) ?_
  refine ev_call (y' := 131) rfl rfl rfl rfl (sp_isT xs _ z Ks X nw eb wa ms mt cc t TN hv.1.2.2.1 (by have := hv.1.2.2.2.2.2.1; omega)) ?_
  rw [c]
  exact ev_end 3 rfl
theorem mOK_K {K : CK} {eb : List Int32} (h : GS K) (heb : eb.length = 6) : mOK (flK K) eb K.2.1.2.2.2.2.2.2.1 K.2.1.2.2.2.2.2.2.2.2.2 K.2.1.2.2.2.2.2.2.2.2.1 := by
  obtain ⟨⟨h1, h2, h3, h4, h5, h6, h7, h8, h9, h10, h11⟩, hm⟩ := h
  exact ⟨flK_len K, heb, h7, h10, h9, hm⟩
theorem MHp_K {z : ZT} {K Ks : CK} {X eb wa ms mt : List Int32} (cc : C4) (h : mOK (flK K) eb wa ms mt) : MHp z Ks X (mH (zS z Ks X) (flK K) eb wa ms mt cc) := ⟨_, _, _, _, _, _, h, rfl⟩
theorem m_say (t : Nat) (T : TT) (ht : t < TN) (hT : Ks.2.2[t]? = some T) (hv : VS Ks B TN S) (ho : mOK nw eb wa ms mt) : ∃ h', MHp z (setR (stA wa ms mt Ks) t (sayT Ks.2.1.1 (T_clr T)).2) X h' ∧ Ev xs (d + 3) 160 0 [some (.ref 0), some (.int (nI t)), none] [] (mH (zS z Ks X) nw eb wa ms mt cc) (some (.int (sayT Ks.2.1.1 (T_clr T)).1)) h' := by
  have h6 := hv.1.2.2.2.2.2.1
  have hg := GM_st hv ho
  have hT2 := stA_T Ks wa ms mt hT
  have hwt : wT (T_clr T) := wT_clr (hv.2.2 T (List.mem_of_getElem? (i := t) (by rw [List.getElem?_take, if_pos ht]; exact hT)))
  have hl : t < (stA wa ms mt Ks).2.2.length := by rw [GM6 hg]; omega
  obtain ⟨w, hw5, hw⟩ := okT_turn hwt.1
  have e0 : sayT Ks.2.1.1 (T_clr T) = (if 0 < (T_words (T_clr T) (Ks.2.1.1.getD w 0) 1).1 then ((T_words (T_clr T) (Ks.2.1.1.getD w 0) 1).1, T_goOn (T_words (T_clr T) (Ks.2.1.1.getD w 0) 1).2 (T_words (T_clr T) (Ks.2.1.1.getD w 0) 1).1) else ((T_words (T_clr T) (Ks.2.1.1.getD w 0) 1).1, (T_words (T_clr T) (Ks.2.1.1.getD w 0) 1).2)) := by
    unfold sayT
    rw [hw, nI_clamp (by omega)]
  have hwq := wT_words (Ks.2.1.1.getD w 0) 1 hwt
  have heb : ((stA wa ms mt Ks).2.2.map eT).length = 6 := by rw [List.length_map]; exact GM6 hg
  have pre : ∀ (h' : MH) (r : Option Value), Ev xs (d + 3) 160 27 [some (.ref 0), some (.int (nI t)), some (.int (T_words (T_clr T) (Ks.2.1.1.getD w 0) 1).1)] [] (mH (zS z Ks X) (flK (setR (stA wa ms mt Ks) t (if 0 < (T_words (T_clr T) (Ks.2.1.1.getD w 0) 1).1 then T_say (T_words (T_clr T) (Ks.2.1.1.getD w 0) 1).2 (T_words (T_clr T) (Ks.2.1.1.getD w 0) 1).1 else (T_words (T_clr T) (Ks.2.1.1.getD w 0) 1).2))) ((stA wa ms mt Ks).2.2.map eT) wa ms mt (smT 9 (stA wa ms mt Ks).2.2, smT 10 (stA wa ms mt Ks).2.2, 0 + (T_words (T_clr T) (Ks.2.1.1.getD w 0) 1).1, 0)) r h' → Ev xs (d + 3) 160 0 [some (.ref 0), some (.int (nI t)), none] [] (mH (zS z Ks X) nw eb wa ms mt cc) r h' := by
    intro h' r hr
    refine ev_go 2 (fun _ => rfl) ?_
    refine ev_call (y' := 131) rfl rfl rfl rfl (sp_isT xs _ z Ks X nw eb wa ms mt cc (nI t) TN hv.1.2.2.1 (by omega)) ?_
    rw [show hasI (nI t) Ks.1.2.2.2.2.1 = true by rw [hv.1.2.2.1]; exact has_nI (by omega) ht]
    refine ev_go 2 (fun _ => rfl) ?_
    refine ev_call (y' := 133) rfl rfl rfl rfl (sp_stA xs _ z Ks X nw eb wa ms mt cc ho (CL6 hv.1.1)) ?_
    refine ev_go 3 (fun _ => rfl) ?_
    refine ev_call (y' := 142) rfl rfl rfl rfl (sp_wds xs _ (zS z Ks X) _ _ _ _ _ (stA wa ms mt Ks) (by omega) hT2 w hw5 hw 1) ?_
    have ek : (stA wa ms mt Ks).2.1.1.getD w 0 = Ks.2.1.1.getD w 0 := rfl
    rw [ek]
    generalize T_words (T_clr T) (Ks.2.1.1.getD w 0) 1 = q at hr
    obtain ⟨qw, Q⟩ := q
    dsimp only at hr ⊢
    refine ev_go 4 (fun _ => rfl) ?_
    by_cases c : 0 < qw
    · rw [if_pos c] at hr
      refine ev_call (y' := 144) rfl rfl rfl rfl (sp_says1 xs _ (zS z Ks X) _ wa ms mt _ _ _ _ _ (by omega) (setR_at hl) qw c) ?_
      rw [setR_R]
      exact hr
    · rw [if_neg c] at hr
      refine ev_call (y' := 144) rfl rfl rfl rfl (sp_says0 xs _ (zS z Ks X) _ wa ms mt _ _ _ _ _ (nI t) qw c) ?_
      exact hr
  rw [e0]
  generalize T_words (T_clr T) (Ks.2.1.1.getD w 0) 1 = q at pre hwq
  obtain ⟨qw, Q⟩ := q
  dsimp only at pre hwq ⊢
  by_cases c : 0 < qw
  · rw [if_pos c] at pre ⊢
    unfold T_goOn
    dsimp only
    by_cases c2 : mnI Q.2.2.1 (Q.2.2.2.1 + qw) = Q.2.2.1
    · rw [if_pos c2]
      refine ⟨mH (zS z (setR (stA wa ms mt Ks) t (T_end (T_say Q qw))) X) (flK (setR (stA wa ms mt Ks) t (T_end (T_say Q qw)))) (((stA wa ms mt Ks).2.2.map eT).set t (((stA wa ms mt Ks).2.2.map eT).getD t 0 + 1)) wa ms mt (smT 9 (stA wa ms mt Ks).2.2 + 1, smT 10 (stA wa ms mt Ks).2.2, 0 + qw, 0), MHp_K _ ⟨flK_len _, by rw [List.length_set]; exact heb, hg.1.1.1.2.2.2.2.2.2.1, hg.1.1.1.2.2.2.2.2.2.2.2.2.1, hg.1.1.1.2.2.2.2.2.2.2.2.1, hg.1.2.1.2.2.2.2.2.2.1⟩, pre _ _ ?_⟩
      refine ev_go 2 (fun _ => rfl) ?_
      refine ev_call (y' := 145) rfl rfl rfl rfl (sp_mayE1 xs _ (zS z Ks X) _ wa ms mt _ _ _ _ _ (by omega) (setR_at hl) c2 heb) ?_
      rw [setR_R]
      refine ev_go 1 (fun _ => rfl) ?_
      refine ev_call (y' := 134) rfl rfl rfl rfl (sp_settles xs _ z Ks X _ wa ms mt _ (setR (stA wa ms mt Ks) t (T_end (T_say Q qw)))) ?_
      exact ev_end 2 rfl
    · rw [if_neg c2]
      refine ⟨mH (zS z (setR (stA wa ms mt Ks) t (T_say Q qw)) X) (flK (setR (stA wa ms mt Ks) t (T_say Q qw))) ((stA wa ms mt Ks).2.2.map eT) wa ms mt (smT 9 (stA wa ms mt Ks).2.2, smT 10 (stA wa ms mt Ks).2.2, 0 + qw, 0), MHp_K _ ⟨flK_len _, heb, hg.1.1.1.2.2.2.2.2.2.1, hg.1.1.1.2.2.2.2.2.2.2.2.2.1, hg.1.1.1.2.2.2.2.2.2.2.2.1, hg.1.2.1.2.2.2.2.2.2.1⟩, pre _ _ ?_⟩
      refine ev_go 2 (fun _ => rfl) ?_
      refine ev_call (y' := 145) rfl rfl rfl rfl (sp_mayE0 xs _ (zS z Ks X) _ wa ms mt _ _ _ _ _ (by omega) (setR_at hl) c2) ?_
      refine ev_go 1 (fun _ => rfl) ?_
      refine ev_call (y' := 134) rfl rfl rfl rfl (sp_settles xs _ z Ks X _ wa ms mt _ (setR (stA wa ms mt Ks) t (T_say Q qw))) ?_
      exact ev_end 2 rfl
  · rw [if_neg c] at pre ⊢
    refine ⟨mH (zS z (setR (stA wa ms mt Ks) t Q) X) (flK (setR (stA wa ms mt Ks) t Q)) ((stA wa ms mt Ks).2.2.map eT) wa ms mt (smT 9 (stA wa ms mt Ks).2.2, smT 10 (stA wa ms mt Ks).2.2, 0 + qw, 0), MHp_K _ ⟨flK_len _, heb, hg.1.1.1.2.2.2.2.2.2.1, hg.1.1.1.2.2.2.2.2.2.2.2.2.1, hg.1.1.1.2.2.2.2.2.2.2.2.1, hg.1.2.1.2.2.2.2.2.2.1⟩, pre _ _ ?_⟩
    refine ev_go 2 (fun _ => rfl) ?_
    refine ev_call (y' := 145) rfl rfl rfl rfl (sp_mayE0 xs _ (zS z Ks X) _ wa ms mt _ _ _ _ _ (by omega) (setR_at hl) hwq.2.1) ?_
    refine ev_go 1 (fun _ => rfl) ?_
    refine ev_call (y' := 134) rfl rfl rfl rfl (sp_settles xs _ z Ks X _ wa ms mt _ (setR (stA wa ms mt Ks) t Q)) ?_
    exact ev_end 2 rfl
end MC2

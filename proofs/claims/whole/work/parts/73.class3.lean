/-- a Canal whose hours may go -/
def CG (K : CK) (B TN S : Nat) : Prop := CN K B TN S ∧ KOK TN (ksK K) ∧ 0 < 2 * K.1.1
theorem CG_on {K : CK} {B TN S : Nat} {s : KS} (h : CG K B TN S) (hs : KOK TN s) : CG (onK K s) B TN S := by
  obtain ⟨⟨⟨h1, h2, h3, h4, h5, h6, h7, h8, h9, h10, h11⟩, e1, e2, e3, hB, hT, hS⟩, -, hw⟩ := h
  obtain ⟨g1, g2, g3, g4, g5, g6, g7, g8⟩ := hs
  exact ⟨⟨⟨h1, g1, h3, h4, h5, h6, g2, g3, g4, g5, g6⟩, e1, e2, e3, hB, hT, hS⟩, ⟨g1, g2, g3, g4, g5, g6, g7, g8⟩, hw⟩
theorem CG_mv {K : CK} {B TN S : Nat} (h : CG K B TN S) : CG (mvC K B) B TN S := CG_on h (KOK_mv h.1.2.2.2.2.1 h.2.1)
theorem CG_hr {K : CK} {B TN S : Nat} (h : CG K B TN S) : CG (hrC K B TN) B TN S := CG_on h (KOK_hr h.1.2.2.2.2.1 h.2.1)
theorem CG_it {K : CK} {B TN S : Nat} (n : Nat) (h : CG K B TN S) : CG (itC K B TN n) B TN S := CG_on h (KOK_it h.1.2.2.2.2.1 n _ h.2.1)
theorem cpI_take {l old : List Int32} {t : Nat} : ∀ j, j < t → (cpI l t old).getD j 0 = l.getD j 0 := fun j hj => by
  rw [List.getD_eq_getElem?_getD, show (cpI l t old)[j]? = some (l.getD j 0) from up_lt hj]
  rfl
theorem T_clr_2 (T : TT) : (T_clr T).1 = T.1 ∧ (T_clr T).2.1 = T.2.1 := ⟨rfl, rfl⟩
theorem cpT_take {l old : List TT} {t : Nat} (hl : t ≤ l.length) : (cpT l t old).take t = l.take t := by
  unfold cpT up
  rw [List.take_append_of_le_length (by rw [List.length_map, List.length_range]; exact Nat.le_refl _), List.take_of_length_le (by rw [List.length_map, List.length_range]; exact Nat.le_refl _)]
  apply List.ext_getElem?
  intro j
  rw [List.getElem?_map, List.getElem?_take]
  by_cases hj : j < t
  · rw [List.getElem?_range hj, if_pos hj, List.getElem?_eq_getElem (by omega)]
    show some (l.getD j dT) = _
    rw [List.getD_eq_getElem?_getD, List.getElem?_eq_getElem (by omega)]
    rfl
  · rw [if_neg hj, List.getElem?_eq_none (by rw [List.length_range]; omega)]
    rfl
/-- what is tried may go, where now and the trial may -/
theorem CG_try {now trial : CK} {B TN S : Nat} (hn : CG now B TN S) (ht : CL trial) (hm : okM trial.2.1.2.2.2.2.2.2.2.2.2) : CG (tryK now trial B TN S) B TN S := by
  have hc := CN_try hn.1 ht
  refine ⟨hc, ⟨hc.1.2.1, hc.1.2.2.2.2.2.2.1, hc.1.2.2.2.2.2.2.2.1, hc.1.2.2.2.2.2.2.2.2.1, hc.1.2.2.2.2.2.2.2.2.2.1, hc.1.2.2.2.2.2.2.2.2.2.2, hm, fun T hT => ?_⟩, hn.2.2⟩
  have hT2 : T ∈ (mapUp T_clr TN (cpT now.2.2 TN trial.2.2)).take TN := hT
  rw [take_mapUp, cpT_take (by rw [hn.1.1.2.2.2.2.2.2.2.2.2.2]; exact hn.1.2.2.2.2.2.1)] at hT2
  obtain ⟨U, hU, rfl⟩ := List.mem_map.mp hT2
  exact okT_of (hn.2.1.2.2.2.2.2.2.2 U hU) (T_clr_2 U)
theorem wi_nI {N M : Nat} (h : N ≤ M) (hM : M < 2 ^ 31) : wiI (nI N) 0 (nI M) = true := by
  unfold wiI
  rw [decide_eq_true (nI_pos (by omega)), decide_eq_true (nI_nlt h hM)]
  rfl
theorem wi_of {v : Int32} {M : Nat} (hM : M < 2 ^ 31) (h : wiI v 0 (nI M) = true) : ∃ N, N ≤ M ∧ v = nI N := by
  unfold wiI at h
  rw [Bool.and_eq_true] at h
  have h1 := of_decide_eq_true h.1
  have h2 := of_decide_eq_true h.2
  obtain ⟨j, hj, e⟩ := nI_of h1
  refine ⟨j, ?_, e⟩
  rw [e] at h2
  exact Nat.not_lt.mp fun q => h2 (nI_lt q hj)
section CLS4
variable (xs : List Int32) (d : Nat) (now trial told im0 im1 : CK) (p : TP) (f : FP) (r : RS) (tr : Int32)
theorem sp_look (B TN S : Nat) (hn : CG now B TN S) (ht : CL trial) (hm : okM trial.2.1.2.2.2.2.2.2.2.2.2) : Ev xs (d + 3) 97 0 [some (.ref 0)] [] (hCl now trial told im0 im1 p f r tr) (some (.ref 19)) (hCl now (mvC (tryK now trial B TN S) B) told im0 im1 p f r tr) := by
  have hg := CG_try hn ht hm
  refine ev_go 1 (fun _ => rfl) ?_
  refine ev_call (d := d + 2) (y' := 96) rfl rfl rfl rfl (sp_try xs d now trial told im0 im1 p f r tr B TN S hn.1 ht) ?_
  refine ev_go 2 (fun _ => rfl) ?_
  refine ev_cTrial (d := d + 2) (y' := 19) (As := []) (K' := mvC (tryK now trial B TN S) B) rfl rfl rfl rfl rfl (by intro v hv; cases hv) hg.1.1.2.2.2.2.2.2.2.2.2.2 (CG_mv hg).1.1.2.2.2.2.2.2.2.2.2.2 (sp_moveC xs d _ B TN S hg.1 hg.2.1 hg.2.2) (Or.inl rfl) ?_
  exact ev_end 3 rfl
theorem sp_hours_bad (n : Int32) (c : wiI n 0 100 = false) : Ev xs (d + 1) 70 0 [some (.ref 0), some (.int n)] [] (hCl now trial told im0 im1 p f r tr) (some (.int (-1))) (hCl now trial told im0 im1 p f r tr) := by
  refine ev_go 3 (fun _ => rfl) ?_
  refine ev_call (y' := 95) rfl rfl rfl rfl (sp_within xs d _ n 0 100) ?_
  rw [show wiI n 0 100 = false from c]
  exact ev_end 3 rfl
theorem sp_hours_full (n : Int32) (c : wiI n 0 100 = true) (c2 : ¬ now.1.2.2.1 + n < 10000) : Ev xs (d + 1) 70 0 [some (.ref 0), some (.int n)] [] (hCl now trial told im0 im1 p f r tr) (some (.int (-3))) (hCl now trial told im0 im1 p f r tr) := by
  refine ev_go 3 (fun _ => rfl) ?_
  refine ev_call (y' := 95) rfl rfl rfl rfl (sp_within xs d _ n 0 100) ?_
  rw [show wiI n 0 100 = true from c]
  refine ev_go 7 (fun _ => rfl) ?_
  exact ev_ic_lt rfl rfl (fun n => absurd n c2) (fun _ => ev_end 2 rfl)
/-- the hours run over now, its counts from 0 -/
def hoursK (now : CK) (B TN n : Nat) : CK := itC (clK now TN) B TN n
theorem CG_cl {K : CK} {B TN S : Nat} (h : CG K B TN S) : CG (clK K TN) B TN S := by
  obtain ⟨⟨hl, e1, e2, e3, hB, hT, hS⟩, ⟨g1, g2, g3, g4, g5, g6, g7, g8⟩, hw⟩ := h
  refine ⟨⟨CL_cl hl, e1, e2, e3, hB, hT, hS⟩, ⟨g1, g2, g3, g4, g5, mapUp_len.trans g6, g7, fun T hT => ?_⟩, hw⟩
  have hT2 : T ∈ (mapUp T_clr TN K.2.2).take TN := hT
  rw [take_mapUp] at hT2
  obtain ⟨U, hU, rfl⟩ := List.mem_map.mp hT2
  exact okT_of (g8 U hU) (T_clr_2 U)
theorem sp_hours_ok (B TN S N : Nat) (hn : CG now B TN S) (hN : N ≤ 100) (c2 : now.1.2.2.1 + nI N < 10000) : Ev xs (d + 5) 70 0 [some (.ref 0), some (.int (nI N))] [] (hCl now trial told im0 im1 p f r tr) (some (.int (smT 9 ((hoursK now B TN N).2.2.take TN)))) (hCl (hoursK now B TN N) trial told im0 im1 p f r tr) := by
  have hw : wiI (nI N) 0 100 = true := wi_nI (M := 100) hN (by decide)
  have hc := CG_cl hn
  have hi := CG_it N hc
  refine ev_go 3 (fun _ => rfl) ?_
  refine ev_call (d := d + 4) (y' := 95) rfl rfl rfl rfl (sp_within xs _ _ (nI N) 0 100) ?_
  rw [show wiI (nI N) 0 100 = true from hw]
  refine ev_go 7 (fun _ => rfl) ?_
  refine ev_ic_lt rfl rfl (fun _ => ?_) (fun n => absurd c2 n)
  refine ev_go 2 (fun _ => rfl) ?_
  refine ev_cNow (d := d + 4) (y' := 15) (As := []) (K' := clK now TN) rfl rfl rfl rfl rfl (by intro v hv; cases hv) hn.1.1.2.2.2.2.2.2.2.2.2.2 hc.1.1.2.2.2.2.2.2.2.2.2.2 (sp_clearK xs _ now TN hn.1.2.2.1 hn.1.2.2.2.2.2.1 hn.1.1.2.2.2.2.2.2.2.2.2.2) (Or.inl rfl) ?_
  refine ev_go 3 (fun _ => rfl) ?_
  refine ev_cNow (d := d + 4) (y' := 16) (As := [.int (nI N)]) (K' := hoursK now B TN N) rfl rfl rfl rfl rfl (by intro v hv; simp at hv; exact ⟨_, hv⟩) hc.1.1.2.2.2.2.2.2.2.2.2.2 hi.1.1.2.2.2.2.2.2.2.2.2.2 (sp_hoursC xs d _ B TN S N hc.1 hc.2.1 hc.2.2 (by omega)) (Or.inl rfl) ?_
  refine ev_go 3 (fun _ => rfl) ?_
  refine ev_cNow (d := d + 4) (y' := 23) (As := [.int (nI 9)]) (K' := hoursK now B TN N) rfl rfl rfl rfl rfl (by intro v hv; simp at hv; exact ⟨_, hv⟩) hi.1.1.2.2.2.2.2.2.2.2.2.2 hi.1.1.2.2.2.2.2.2.2.2.2.2 (sp_sumC xs (d + 2) _ B TN S 9 hi.1 (by decide)) (Or.inr ⟨_, rfl⟩) ?_
  exact ev_end 1 rfl
end CLS4

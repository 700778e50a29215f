def setR (K : CK) (t : Nat) (T : TT) : CK := (K.1, K.2.1, K.2.2.set t T)
theorem bH_setR {n : Nat} {K : CK} {t : Nat} {T : TT} : (bH n K).set (12 + t) (tkc T) = bH n (setR K t T) := by
  rw [Nat.add_comm]
  unfold bH setR
  dsimp only
  rw [List.map_set]
  rfl
section CLS6
variable (xs : List Int32) (d : Nat) (now trial told im0 im1 : CK) (p : TP) (f : FP) (r : RS) (tr : Int32)
theorem at_nowT {t : Nat} {T : TT} (hK : now.2.2.length = 6) (hT : now.2.2[t]? = some T) : (hCl now trial told im0 im1 p f r tr)[1 + (12 + t)]? = some (tkc T) := by
  have ht := (List.getElem?_eq_some_iff.mp hT).1
  rw [(has_now now trial told im0 im1 p f r tr).2 (12 + t) (by omega), exK_eq hK]
  exact bH_tk hT
theorem set_nowT {t : Nat} {T : TT} (hK : now.2.2.length = 6) (ht : t < 6) : (hCl now trial told im0 im1 p f r tr).set (1 + (12 + t)) (tkc T) = hCl (setR now t T) trial told im0 im1 p f r tr := by
  have e : exK (setR now t T) = setR now t T := exK_eq (by show (now.2.2.set t T).length = 6; rw [List.length_set]; exact hK)
  unfold hCl
  rw [e, exK_eq hK, List.set_append_right _ _ (by show 1 ≤ 1 + (12 + t); omega)]
  show _ ++ List.set _ (1 + (12 + t) - 1) _ = _
  rw [Nat.add_sub_cancel_left, List.set_append_left _ _ (by rw [bH_len hK]; omega), bH_setR]
/-- talk -/
theorem st_talk (t w : Int32) (hK : now.2.2.length = 6) (rs : Option Value) (h' : MH) (kt : (hasI t now.1.2.2.2.2.1 && wiI w 0 8) = true → Ev xs (d + 1) 64 23 [some (.ref 0), some (.int t), some (.int w)] [] (hCl now trial told im0 im1 p f r tr) rs h') (kf : (hasI t now.1.2.2.2.2.1 && wiI w 0 8) = false → Ev xs (d + 1) 64 21 [some (.ref 0), some (.int t), some (.int w)] [] (hCl now trial told im0 im1 p f r tr) rs h') : Ev xs (d + 1) 64 0 [some (.ref 0), some (.int t), some (.int w)] [] (hCl now trial told im0 im1 p f r tr) rs h' := by
  refine ev_go 3 (fun _ => rfl) ?_
  refine ev_cNow (y' := 4) (As := [.int t]) (K' := now) rfl rfl rfl rfl rfl one_i hK hK (sp_hasTC xs _ now t) (Or.inr ⟨_, rfl⟩) ?_
  cases h1 : hasI t now.1.2.2.2.2.1 with
  | false =>
    rw [h1] at kf
    exact ev_go 1 (fun _ => rfl) (kf rfl)
  | true =>
    rw [h1] at kt kf
    refine ev_go 4 (fun _ => rfl) ?_
    refine ev_call (y' := 95) rfl rfl rfl rfl (sp_within xs d _ w 0 8) ?_
    cases h3 : wiI w 0 8 with
    | false =>
      rw [h3] at kf
      exact ev_go 1 (fun _ => rfl) (kf rfl)
    | true =>
      rw [h3] at kt
      exact ev_go 1 (fun _ => rfl) (kt rfl)
theorem sp_talk_bad (t w : Int32) (hK : now.2.2.length = 6) (c : (hasI t now.1.2.2.2.2.1 && wiI w 0 8) = false) : Ev xs (d + 1) 64 0 [some (.ref 0), some (.int t), some (.int w)] [] (hCl now trial told im0 im1 p f r tr) (some (.int (-1))) (hCl now trial told im0 im1 p f r tr) :=
  st_talk xs d now trial told im0 im1 p f r tr t w hK _ _ (fun e => by rw [c] at e; cases e) (fun _ => ev_end 2 rfl)
theorem sp_talk_ok (t k : Nat) (T : TT) (hK : now.2.2.length = 6) (c : hasI (nI t) now.1.2.2.2.2.1 = true) (ht : t < 6) (hk : k ≤ 8) (hT : now.2.2[t]? = some T) : Ev xs (d + 2) 64 0 [some (.ref 0), some (.int (nI t)), some (.int (nI k))] [] (hCl now trial told im0 im1 p f r tr) (some (.int (T_tell T k))) (hCl now trial told im0 im1 p f r tr) := by
  have hw : wiI (nI k) 0 8 = true := wi_nI (M := 8) hk (by decide)
  refine st_talk xs (d + 1) now trial told im0 im1 p f r tr (nI t) (nI k) hK _ _ (fun _ => ?_) (fun e => by rw [c, hw] at e; cases e)
  have x1 : exK now = now := exK_eq hK
  refine ev_go 4 (fun _ => rfl) ?_
  refine ev_aald rfl ((has_now now trial told im0 im1 p f r tr).2 4 (by decide)) (by decide) (mm_ix_nI (by omega)) (bR_at ht) ?_
  refine ev_go 1 (fun _ => rfl) ?_
  refine ev_callT (d := d + 1) (y' := 35) (q := 1 + (12 + t)) (As := [.int (nI k)]) rfl rfl rfl rfl rfl one_i (at_nowT now trial told im0 im1 p f r tr hK hT) (sp_tell xs d T k (by omega)) (Or.inr ⟨_, rfl⟩) ?_
  rw [set_self (at_nowT now trial told im0 im1 p f r tr hK hT)]
  exact ev_end 1 rfl
/-- say: the words, the Talk behind it -/
def sayT (kd : List Int32) (T : TT) : Int32 × TT := if 0 < (T_words T (kd.getD (T_turn T).toNatClampNeg 0) 1).1 then ((T_words T (kd.getD (T_turn T).toNatClampNeg 0) 1).1, T_goOn (T_words T (kd.getD (T_turn T).toNatClampNeg 0) 1).2 (T_words T (kd.getD (T_turn T).toNatClampNeg 0) 1).1) else ((T_words T (kd.getD (T_turn T).toNatClampNeg 0) 1).1, (T_words T (kd.getD (T_turn T).toNatClampNeg 0) 1).2)
theorem sp_say_bad (t : Int32) (hK : now.2.2.length = 6) (c : hasI t now.1.2.2.2.2.1 = false) : Ev xs (d + 1) 69 0 [some (.ref 0), some (.int t), none, none] [] (hCl now trial told im0 im1 p f r tr) (some (.int (-1))) (hCl now trial told im0 im1 p f r tr) := by
  refine ev_go 3 (fun _ => rfl) ?_
  refine ev_cNow (y' := 4) (As := [.int t]) (K' := now) rfl rfl rfl rfl rfl one_i hK hK (sp_hasTC xs _ now t) (Or.inr ⟨_, rfl⟩) ?_
  rw [c]
  exact ev_end 3 rfl
theorem sp_say_ok (t : Nat) (T : TT) (hl : CL now) (c : hasI (nI t) now.1.2.2.2.2.1 = true) (ht : t < 6) (hT : now.2.2[t]? = some T) (hok : okT T) : Ev xs (d + 2) 69 0 [some (.ref 0), some (.int (nI t)), none, none] [] (hCl now trial told im0 im1 p f r tr) (some (.int (sayT now.2.1.1 T).1)) (hCl (setR now t (sayT now.2.1.1 T).2) trial told im0 im1 p f r tr) := by
  have hK : now.2.2.length = 6 := hl.2.2.2.2.2.2.2.2.2.2
  obtain ⟨w, hw5, hw⟩ := okT_turn hok
  have aT := at_nowT now trial told im0 im1 p f r tr hK hT
  refine ev_go 3 (fun _ => rfl) ?_
  refine ev_cNow (d := d + 1) (y' := 4) (As := [.int (nI t)]) (K' := now) rfl rfl rfl rfl rfl one_i hK hK (sp_hasTC xs _ now (nI t)) (Or.inr ⟨_, rfl⟩) ?_
  rw [c]
  refine ev_go 5 (fun _ => rfl) ?_
  refine ev_aald rfl ((has_now now trial told im0 im1 p f r tr).2 4 (by decide)) (by decide) (mm_ix_nI (by omega)) (bR_at ht) ?_
  refine ev_go 6 (fun _ => rfl) ?_
  refine ev_callT (d := d + 1) (y' := 36) (q := 1 + (12 + t)) (As := []) rfl rfl rfl rfl rfl (by intro v hv; cases hv) aT (sp_turn xs _ T) (Or.inr ⟨_, rfl⟩) ?_
  rw [set_self aT]
  have e0 : sayT now.2.1.1 T = (if 0 < (T_words T (now.2.1.1.getD w 0) 1).1 then ((T_words T (now.2.1.1.getD w 0) 1).1, T_goOn (T_words T (now.2.1.1.getD w 0) 1).2 (T_words T (now.2.1.1.getD w 0) 1).1) else ((T_words T (now.2.1.1.getD w 0) 1).1, (T_words T (now.2.1.1.getD w 0) 1).2)) := by
    unfold sayT
    rw [hw, nI_clamp (by omega)]
  rw [hw, e0]
  refine ev_iald rfl ((has_now now trial told im0 im1 p f r tr).2 1 (by decide)) (mm_ix_nI (by omega)) (getD_at (by show w < now.2.1.1.length; rw [hl.1]; exact hw5)) ?_
  refine ev_go 1 (fun _ => rfl) ?_
  refine ev_callT (d := d + 1) (y' := 37) (q := 1 + (12 + t)) (As := [.int (now.2.1.1.getD w 0), .int 1]) rfl rfl rfl rfl rfl (by intro v hv; simp at hv; rcases hv with rfl | rfl <;> exact ⟨_, rfl⟩) aT (sp_words xs _ T (now.2.1.1.getD w 0) 1) (Or.inr ⟨_, rfl⟩) ?_
  rw [set_nowT now trial told im0 im1 p f r tr hK ht]
  generalize T_words T (now.2.1.1.getD w 0) 1 = q
  have hK2 : (setR now t q.2).2.2.length = 6 := by show (now.2.2.set t q.2).length = 6; rw [List.length_set]; exact hK
  have hT2 : (setR now t q.2).2.2[t]? = some q.2 := List.getElem?_set_self (by omega)
  have ss : ∀ U : TT, setR (setR now t q.2) t U = setR now t U := fun U => by
    unfold setR
    dsimp only
    rw [List.set_set]
  refine ev_go 2 (fun _ => rfl) ?_
  by_cases c2 : 0 < q.1
  · rw [if_pos c2]
    refine ev_if_le rfl rfl (fun n => absurd n (i32_lt_nle c2)) (fun _ => ?_)
    refine ev_go 2 (fun _ => rfl) ?_
    refine ev_callT (d := d + 1) (y' := 39) (q := 1 + (12 + t)) (As := [.int q.1]) rfl rfl rfl rfl rfl one_i (at_nowT (setR now t q.2) trial told im0 im1 p f r tr hK2 hT2) (sp_goOn xs d q.2 q.1) (Or.inl rfl) ?_
    rw [set_nowT (setR now t q.2) trial told im0 im1 p f r tr hK2 ht, ss]
    exact ev_end 2 rfl
  · rw [if_neg c2]
    exact ev_if_le rfl rfl (fun _ => ev_end 2 rfl) (fun n => absurd (i32_nlt c2) n)
end CLS6

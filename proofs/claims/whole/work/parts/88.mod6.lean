/-! The reference between calls; its calls -/
def mOK (nw eb wa ms mt : List Int32) : Prop := nw.length = 87 ∧ eb.length = 6 ∧ wa.length = 5 ∧ ms.length = 25 ∧ mt.length = 5 ∧ okM ms
/-- a heap of the reference whose Canal is Ks -/
def MHp (z : ZT) (Ks : CK) (X : List Int32) (h : MH) : Prop := ∃ (nw eb wa ms mt : List Int32) (cc : C4), mOK nw eb wa ms mt ∧ h = mH (zS z Ks X) nw eb wa ms mt cc
theorem MHp_T {z : ZT} {Ks K : CK} {X : List Int32} (h : GS K) : MHp z Ks X (mT (zS z Ks X) K) := by
  obtain ⟨⟨h1, h2, h3, h4, h5, h6, h7, h8, h9, h10, h11⟩, hm⟩ := h
  exact ⟨_, _, _, _, _, _, ⟨flK_len K, by rw [List.length_map]; exact h11, h7, h10, h9, hm⟩, rfl⟩
/-- the Canal begun from Ks beside what notes there are -/
def stA (wa ms mt : List Int32) (Ks : CK) : CK := ((Ks.1.1, Ks.1.2.1, Ks.1.2.2.1, Ks.1.2.2.2.1, Ks.1.2.2.2.2.1, Ks.1.2.2.2.2.2.1, 0, 0), (Ks.2.1.1, Ks.2.1.2.1, Ks.2.1.2.2.1, Ks.2.1.2.2.2.1, Ks.2.1.2.2.2.2.1, Ks.2.1.2.2.2.2.2.1, wa, wa, mt, ms), Ks.2.2.map T_clr)
theorem flK_stA (wa ms mt : List Int32) (Ks : CK) : flK (stA wa ms mt Ks) = flK Ks := by
  unfold flK
  rw [show flW (stA wa ms mt Ks).2.2 = flW Ks.2.2 from flW_clr _]
  rfl
/-- the Canal of the reference is as it should be -/
def VS (Ks : CK) (B TN S : Nat) : Prop := CN Ks B TN S ∧ (0 < 2 * Ks.1.1) ∧ ∀ T ∈ Ks.2.2.take TN, wT T
theorem wT_clr {T : TT} (h : wT T) : wT (T_clr T) := ⟨okT_of h.1 (T_clr_2 T), h.2⟩
theorem GM_st {nw eb wa ms mt : List Int32} {Ks : CK} {B TN S : Nat} (hv : VS Ks B TN S) (ho : mOK nw eb wa ms mt) : GM (stA wa ms mt Ks) B TN S := by
  obtain ⟨⟨⟨h1, h2, h3, h4, h5, h6, h7, h8, h9, h10, h11⟩, e1, e2, e3, hB, hT, hS⟩, hw, ht⟩ := hv
  obtain ⟨o1, o2, o3, o4, o5, o6⟩ := ho
  have hl : (Ks.2.2.map T_clr).length = 6 := by rw [List.length_map]; exact h11
  have hq : ∀ T ∈ (Ks.2.2.map T_clr).take TN, wT T := fun T hm => by
    rw [← List.map_take] at hm
    obtain ⟨U, hU, rfl⟩ := List.mem_map.mp hm
    exact wT_clr (ht U hU)
  exact ⟨⟨⟨⟨h1, h2, h3, h4, h5, h6, o3, o3, o5, o4, hl⟩, e1, e2, e3, hB, hT, hS⟩, ⟨h2, o3, o3, o5, o4, hl, o6, fun T hm => (hq T hm).1⟩, hw⟩, hq⟩
section MC0
variable (xs : List Int32) (d : Nat) (z : ZT) (Ks : CK) (X nw eb wa ms mt : List Int32) (cc : C4)
theorem sp_stA (ho : mOK nw eb wa ms mt) (h6 : Ks.2.2.length = 6) : Ev xs d 133 0 [some (.ref 0), none] [] (mH (zS z Ks X) nw eb wa ms mt cc) none (mT (zS z Ks X) (stA wa ms mt Ks)) := by
  have h := sp_starts xs d z Ks X nw eb wa ms mt cc ho.1 ho.2.1
  unfold mT mE
  rw [flK_stA, show (stA wa ms mt Ks).2.2 = Ks.2.2.map T_clr from rfl, eT_clr _ h6, sm_clr (Or.inl rfl), sm_clr (Or.inr rfl)]
  exact h
theorem m_memory_bad (v : Int32) (c : wiI v 1 99 = false) (h : MH) : Ev xs (d + 1) 157 0 [some (.ref 0), some (.int v)] [] h (some (.int (-1))) h := by
  refine ev_go 4 (fun _ => rfl) ?_
  refine ev_call (y' := 110) rfl rfl rfl rfl (sp_in xs d h v 1 99) ?_
  rw [c]
  exact ev_end 3 rfl
theorem m_memory (v : Int32) (c : wiI v 1 99 = true) : Ev xs (d + 1) 157 0 [some (.ref 0), some (.int v)] [] (mH (zS z Ks X) nw eb wa ms mt cc) (some (.int Ks.1.2.1)) (mH (zS z ((Ks.1.1, v, Ks.1.2.2), Ks.2) X) nw eb wa ms mt cc) := by
  refine ev_go 4 (fun _ => rfl) ?_
  refine ev_call (y' := 110) rfl rfl rfl rfl (sp_in xs d _ v 1 99) ?_
  rw [c]
  refine ev_go 4 (fun _ => rfl) ?_
  refine ev_call (y' := 155) rfl rfl rfl rfl (sp_bec xs _ z Ks X nw eb wa ms mt cc 1 v _ 1 _ rfl (by decide) fq_1 fs_1) ?_
  exact ev_end 2 rfl
theorem m_cut_bad (v : Int32) (c : wiI v 0 Ks.1.2.2.2.2.1 = false) : Ev xs (d + 1) 159 0 [some (.ref 0), some (.int v)] [] (mH (zS z Ks X) nw eb wa ms mt cc) (some (.int (-1))) (mH (zS z Ks X) nw eb wa ms mt cc) := by
  refine ev_go 6 (fun _ => rfl) ?_
  refine ev_iald rfl rfl (k := 67) rfl ((sg (by decide)).trans fq_67) ?_
  refine ev_go 1 (fun _ => rfl) ?_
  refine ev_call (y' := 110) rfl rfl rfl rfl (sp_in xs d _ v 0 Ks.1.2.2.2.2.1) ?_
  rw [c]
  exact ev_end 3 rfl
theorem m_cut (v : Int32) (c : wiI v 0 Ks.1.2.2.2.2.1 = true) : Ev xs (d + 1) 159 0 [some (.ref 0), some (.int v)] [] (mH (zS z Ks X) nw eb wa ms mt cc) (some (.int Ks.1.2.2.2.2.1)) (mH (zS z ((Ks.1.1, Ks.1.2.1, Ks.1.2.2.1, Ks.1.2.2.2.1, v, Ks.1.2.2.2.2.2), Ks.2) X) nw eb wa ms mt cc) := by
  refine ev_go 6 (fun _ => rfl) ?_
  refine ev_iald rfl rfl (k := 67) rfl ((sg (by decide)).trans fq_67) ?_
  refine ev_go 1 (fun _ => rfl) ?_
  refine ev_call (y' := 110) rfl rfl rfl rfl (sp_in xs d _ v 0 Ks.1.2.2.2.2.1) ?_
  rw [c]
  refine ev_go 4 (fun _ => rfl) ?_
  refine ev_call (y' := 155) rfl rfl rfl rfl (sp_bec xs _ z Ks X nw eb wa ms mt cc 67 v _ 67 _ rfl (by decide) fq_67 fs_67) ?_
  exact ev_end 2 rfl
theorem m_forget_bad (v : Int32) (c : wiI v 0 Ks.1.2.2.2.2.2.1 = false) : Ev xs (d + 1) 182 0 [some (.ref 0), some (.int v)] [] (mH (zS z Ks X) nw eb wa ms mt cc) (some (.int (-1))) (mH (zS z Ks X) nw eb wa ms mt cc) := by
  refine ev_go 6 (fun _ => rfl) ?_
  refine ev_iald rfl rfl (k := 68) rfl ((sg (by decide)).trans fq_68) ?_
  refine ev_go 1 (fun _ => rfl) ?_
  refine ev_call (y' := 110) rfl rfl rfl rfl (sp_in xs d _ v 0 Ks.1.2.2.2.2.2.1) ?_
  rw [c]
  exact ev_end 3 rfl
theorem m_forget (v : Int32) (c : wiI v 0 Ks.1.2.2.2.2.2.1 = true) : Ev xs (d + 1) 182 0 [some (.ref 0), some (.int v)] [] (mH (zS z Ks X) nw eb wa ms mt cc) (some (.int Ks.1.2.2.2.2.2.1)) (mH (zS z ((Ks.1.1, Ks.1.2.1, Ks.1.2.2.1, Ks.1.2.2.2.1, Ks.1.2.2.2.2.1, v, Ks.1.2.2.2.2.2.2), Ks.2) X) nw eb wa ms mt cc) := by
  refine ev_go 6 (fun _ => rfl) ?_
  refine ev_iald rfl rfl (k := 68) rfl ((sg (by decide)).trans fq_68) ?_
  refine ev_go 1 (fun _ => rfl) ?_
  refine ev_call (y' := 110) rfl rfl rfl rfl (sp_in xs d _ v 0 Ks.1.2.2.2.2.2.1) ?_
  rw [c]
  refine ev_go 4 (fun _ => rfl) ?_
  refine ev_call (y' := 155) rfl rfl rfl rfl (sp_bec xs _ z Ks X nw eb wa ms mt cc 68 v _ 68 _ rfl (by decide) fq_68 fs_68) ?_
  exact ev_end 2 rfl
theorem m_torn : Ev xs d 197 0 [some (.ref 0)] [] (mH (zS z Ks X) nw eb wa ms mt cc) (some (.int z.2.2.1)) (mH (zS z Ks X) nw eb wa ms mt cc) := ev_end 3 rfl
theorem m_fault : Ev xs d 129 0 [some (.ref 0)] [] (mH (zS z Ks X) nw eb wa ms mt cc) (some (.int z.1.2.2.2.2.2.2.2.2.1)) (mH (zS z Ks X) nw eb wa ms mt cc) := ev_end 3 rfl
/-- alter -/
theorem may_n {len w v : Int32} (h0 : ¬ w = 0) (h1 : ¬ w = 1) (h2 : ¬ w = 2) : mayI len w v = false := by
  cases hq : mayI len w v with
  | false => rfl
  | true =>
    exfalso
    obtain ⟨k, hk, rfl⟩ := may_w hq
    match k, hk with
    | 0, _ => exact h0 rfl
    | 1, _ => exact h1 rfl
    | 2, _ => exact h2 rfl
theorem bI_br {b : Bool} {y pc q : Nat} {ls : ML} {st : List Value} {h h' : MH} {r : Option Value} {off : Int} (hf : fetT y pc = some (.ifCond .eq off)) (ht : mm_to pc off = some q) (k0 : b = false → Ev xs d y q ls st h r h') (k1 : b = true → Ev xs d y (pc + 3) ls st h r h') : Ev xs d y pc ls (.int (bI b) :: st) h r h' := by
  refine ev_if_eq hf ht (fun e => k0 ?_) (fun e => k1 ?_)
  · cases b with
    | true => exact absurd e (by decide)
    | false => rfl
  · cases b with
    | true => rfl
    | false => exact absurd rfl e
/-- alter, from the word on whether it may be -/
theorem al_tl (b w v : Int32) (B : Nat) (q : Bool) (eB : Ks.1.2.2.2.1 = nI B) (hB : B ≤ 5) (rs : Option Value) (h' : MH) (k0 : (hasI b Ks.1.2.2.2.1 && q) = false → Ev xs (d + 2) 156 93 [some (.ref 0), some (.int b), some (.int w), some (.int v), some (.int (bI q))] [] (mH (zS z Ks X) nw eb wa ms mt cc) rs h') (k1 : (hasI b Ks.1.2.2.2.1 && q) = true → Ev xs (d + 2) 156 78 [some (.ref 0), some (.int b), some (.int w), some (.int v), some (.int (bI q))] [] (mH (zS z Ks X) nw eb wa ms mt cc) rs h') : Ev xs (d + 2) 156 63 [some (.ref 0), some (.int b), some (.int w), some (.int v), none] [.int (bI q)] (mH (zS z Ks X) nw eb wa ms mt cc) rs h' := by
  refine ev_go 3 (fun _ => rfl) ?_
  refine ev_call (y' := 130) rfl rfl rfl rfl (sp_isB xs _ z Ks X nw eb wa ms mt cc b B eB (by omega)) ?_
  refine bI_br xs _ rfl rfl (fun e => k0 (by rw [e]; rfl)) (fun e => ?_)
  refine ev_go 1 (fun _ => rfl) ?_
  exact bI_br xs _ rfl rfl (fun e2 => k0 (by rw [e, e2]; rfl)) (fun e2 => k1 (by rw [e, e2]; rfl))
theorem st_alter (b w v : Int32) (B : Nat) (eB : Ks.1.2.2.2.1 = nI B) (hB : B ≤ 5) (rs : Option Value) (h' : MH) (k0 : ∀ zz, (hasI b Ks.1.2.2.2.1 && mayI Ks.1.1 w v) = false → Ev xs (d + 2) 156 93 [some (.ref 0), some (.int b), some (.int w), some (.int v), zz] [] (mH (zS z Ks X) nw eb wa ms mt cc) rs h') (k1 : ∀ zz, (hasI b Ks.1.2.2.2.1 && mayI Ks.1.1 w v) = true → Ev xs (d + 2) 156 78 [some (.ref 0), some (.int b), some (.int w), some (.int v), zz] [] (mH (zS z Ks X) nw eb wa ms mt cc) rs h') : Ev xs (d + 2) 156 0 [some (.ref 0), some (.int b), some (.int w), some (.int v), none] [] (mH (zS z Ks X) nw eb wa ms mt cc) rs h' := by
  have tl := fun q => al_tl xs d z Ks X nw eb wa ms mt cc b w v B q eB hB rs h'
  by_cases c0 : w = 0
  · subst c0
    refine ev_go 6 (fun _ => rfl) ?_
    refine ev_call (y' := 110) rfl rfl rfl rfl (sp_in xs _ _ v 0 3) ?_
    refine ev_go 1 (fun _ => rfl) ?_
    exact tl (wiI v 0 3) (fun e => k0 _ e) (fun e => k1 _ e)
  · by_cases c1 : w = 1
    · subst c1
      refine ev_go 12 (fun _ => rfl) ?_
      refine ev_iald rfl rfl (k := 0) rfl ((sg (by decide)).trans fq_0) ?_
      refine ev_go 4 (fun _ => rfl) ?_
      refine ev_call (y' := 110) rfl rfl rfl rfl (sp_in xs _ _ v 0 (2 * Ks.1.1 - 1)) ?_
      refine ev_go 1 (fun _ => rfl) ?_
      exact tl (wiI v 0 (2 * Ks.1.1 - 1)) (fun e => k0 _ e) (fun e => k1 _ e)
    · by_cases c2 : w = 2
      · subst c2
        refine ev_go 12 (fun _ => rfl) ?_
        refine ev_call (y' := 110) rfl rfl rfl rfl (sp_in xs _ _ v 1 9) ?_
        have hm : mayI Ks.1.1 2 v = wiI v 1 9 := rfl
        rw [hm] at k0 k1
        cases hq : wiI v 1 9 with
        | true =>
          rw [hq] at k0 k1
          refine ev_go 3 (fun _ => rfl) ?_
          exact tl true (fun e => k0 _ e) (fun e => k1 _ e)
        | false =>
          rw [hq] at k0 k1
          refine ev_go 2 (fun _ => rfl) ?_
          exact tl false (fun e => k0 _ e) (fun e => k1 _ e)
      · rw [may_n c0 c1 c2] at k0 k1
        refine ev_go 1 (fun _ => rfl) ?_
        refine ev_if_ne rfl rfl (fun _ => ?_) (fun n => absurd (c0) n)
        refine ev_go 2 (fun _ => rfl) ?_
        refine ev_ic_ne rfl rfl (fun _ => ?_) (fun n => absurd (c1) n)
        refine ev_go 2 (fun _ => rfl) ?_
        refine ev_ic_ne rfl rfl (fun _ => ?_) (fun n => absurd (c2) n)
        refine ev_go 1 (fun _ => rfl) ?_
        exact tl false (fun e => k0 _ e) (fun e => k1 _ e)
theorem m_alter_bad (b w v : Int32) (B : Nat) (eB : Ks.1.2.2.2.1 = nI B) (hB : B ≤ 5) (c : (hasI b Ks.1.2.2.2.1 && mayI Ks.1.1 w v) = false) : Ev xs (d + 2) 156 0 [some (.ref 0), some (.int b), some (.int w), some (.int v), none] [] (mH (zS z Ks X) nw eb wa ms mt cc) (some (.int (-1))) (mH (zS z Ks X) nw eb wa ms mt cc) :=
  st_alter xs d z Ks X nw eb wa ms mt cc b w v B eB hB _ _ (fun _ _ => ev_end 2 rfl) (fun _ e => by rw [c] at e; cases e)
theorem m_alter (b w : Nat) (v : Int32) (B : Nat) (hK : CL Ks) (eB : Ks.1.2.2.2.1 = nI B) (hB : B ≤ 5) (hb : b < B) (hw : w ≤ 2) (c : mayI Ks.1.1 (nI w) v = true) : Ev xs (d + 2) 156 0 [some (.ref 0), some (.int (nI b)), some (.int (nI w)), some (.int v), none] [] (mH (zS z Ks X) nw eb wa ms mt cc) (some (.int (gtK Ks w b))) (mH (zS z (putK Ks w b v) X) nw eb wa ms mt cc) := by
  refine st_alter xs d z Ks X nw eb wa ms mt cc (nI b) (nI w) v B eB hB _ _ (fun _ e => ?_) (fun zz _ => ?_)
  · rw [eB, has_nI (by omega) hb, c] at e
    cases e
  · skip
    refine ev_go 9 (fun _ => rfl) ?_
    refine ev_call (y' := 155) rfl rfl rfl rfl (sp_bec xs _ z Ks X nw eb wa ms mt cc _ v _ (3 + 3 * b + w) _ (ix3 (by omega)) (by omega) (fq_B (by omega) hw) (fs_B hK (by omega) hw)) ?_
    exact ev_end 2 rfl
end MC0

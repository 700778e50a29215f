/-! need: hour by hour -/
theorem mx_le (a b x : Int32) : mxI a b ≤ x ↔ a ≤ x ∧ b ≤ x := by
  unfold mxI
  by_cases c : a < b
  · rw [if_pos c]
    rw [Int32.lt_iff_toInt_lt] at c
    rw [Int32.le_iff_toInt_le, Int32.le_iff_toInt_le]
    omega
  · rw [if_neg c]
    rw [Int32.lt_iff_toInt_lt] at c
    rw [Int32.le_iff_toInt_le, Int32.le_iff_toInt_le]
    omega
theorem lg_fold (x : Int32) : ∀ (l : List TT) (a : Int32), l.foldl (fun a T => mxI a T.2.2.2.2.1) a ≤ x ↔ (a ≤ x ∧ ∀ T ∈ l, T.2.2.2.2.1 ≤ x)
  | [], a => ⟨fun h => ⟨h, fun T hT => by cases hT⟩, fun h => h.1⟩
  | T :: l, a => by
    rw [List.foldl_cons, lg_fold x l, mx_le]
    constructor
    · intro ⟨⟨h1, h2⟩, h3⟩
      refine ⟨h1, fun U hU => ?_⟩
      rcases List.mem_cons.mp hU with q | q
      · rw [q]
        exact h2
      · exact h3 U q
    · intro ⟨h1, h2⟩
      exact ⟨⟨h1, h2 T List.mem_cons_self⟩, fun U hU => h2 U (List.mem_cons_of_mem _ hU)⟩
theorem lg_le {v TN : Nat} {l : List TT} (hv : v < 2 ^ 31) (hl : TN ≤ l.length) : lgT (l.take TN) ≤ nI v ↔ ∀ t, t < TN → (l.getD t dT).2.2.2.2.1 ≤ nI v := by
  unfold lgT
  rw [lg_fold]
  constructor
  · intro ⟨_, h⟩ t ht
    refine h _ ?_
    rw [take_gd hl]
    exact List.mem_map.mpr ⟨t, List.mem_range.mpr ht, rfl⟩
  · intro h
    refine ⟨z_le hv, fun T hT => ?_⟩
    obtain ⟨t, a, b⟩ := mem_gd hl hT
    rw [← b]
    exact h t a
/-- an hour with memory v, beside one with memory without end -/
theorem hr_mem {B TN S s v : Nat} {K : CK} (hs : s < 999999) (hv : v < 2 ^ 31) (hg : CG K B TN S) (hT : ∀ t, t < TN → wTs B s (K.2.2.getD t dT)) : (∀ t, t < TN → mmP B s v (K.2.2.getD t dT) ((hrC (memK K 1000000) B TN).2.2.getD t dT) ((hrC (memK K (nI v)) B TN).2.2.getD t dT)) ∧ ((∀ t, t < TN → ((hrC (memK K 1000000) B TN).2.2.getD t dT).2.2.2.2.1 ≤ nI v) → hrC (memK K (nI v)) B TN = memK (hrC (memK K 1000000) B TN) (nI v)) := by
  have l6 := CG6 hg
  have hTN := hg.1.2.2.2.2.2.1
  have e : ∀ m : Int32, (hrC (memK K m) B TN).2.2 = mapUp (fun T => (T_hr K.2.1.1 (mvC K B).2.1.2.2.2.2.2.2.2.2.1 (mvC K B).2.1.2.2.2.2.2.2.2.2.2 m T).2) TN K.2.2 := fun _ => rfl
  have hp : ∀ t, t < TN → mmP B s v (K.2.2.getD t dT) ((hrC (memK K 1000000) B TN).2.2.getD t dT) ((hrC (memK K (nI v)) B TN).2.2.getD t dT) := by
    intro t ht
    rw [e, e, mapUp_gd ht (by omega), mapUp_gd ht (by omega)]
    exact (mm_pass _ _ _ hs hv (hT t ht)).2
  refine ⟨hp, fun h => ?_⟩
  have e1 : mapUp (fun T => (T_hr K.2.1.1 (mvC K B).2.1.2.2.2.2.2.2.2.2.1 (mvC K B).2.1.2.2.2.2.2.2.2.2.2 (nI v) T).2) TN K.2.2 = mapUp (fun T => (T_hr K.2.1.1 (mvC K B).2.1.2.2.2.2.2.2.2.2.1 (mvC K B).2.1.2.2.2.2.2.2.2.2.2 1000000 T).2) TN K.2.2 := by
    unfold mapUp
    congr 1
    refine List.map_congr_left (fun T hT2 => ?_)
    obtain ⟨t, a, b⟩ := mem_gd (by omega) hT2
    obtain ⟨-, -, q⟩ := hp t a
    have h2 := h t a
    rw [e, e, mapUp_gd a (by omega), mapUp_gd a (by omega), b] at q
    rw [e, mapUp_gd a (by omega), b] at h2
    rcases q with ⟨_, q⟩ | ⟨q, _⟩
    · exact q
    · exact absurd h2 q
  have e2 : T_wd K.2.1.1 (mvC K B).2.1.2.2.2.2.2.2.2.2.1 (mvC K B).2.1.2.2.2.2.2.2.2.2.2 (nI v) K.1.2.2.2.2.2.2.1 (K.2.2.take TN) = T_wd K.2.1.1 (mvC K B).2.1.2.2.2.2.2.2.2.2.1 (mvC K B).2.1.2.2.2.2.2.2.2.2.2 1000000 K.1.2.2.2.2.2.2.1 (K.2.2.take TN) := by
    unfold T_wd
    refine fold_congr _ _ (fun T hT2 => ?_)
    obtain ⟨t, a, b⟩ := mem_gd (by omega) hT2
    rw [← b]
    exact (mm_pass _ _ _ hs hv (hT t a)).1
  have c1 : ∀ m : Int32, hrC (memK K m) B TN = onK (memK K m) ((K.1.2.2.1 + 1, T_wd K.2.1.1 (mvC K B).2.1.2.2.2.2.2.2.2.2.1 (mvC K B).2.1.2.2.2.2.2.2.2.2.2 m K.1.2.2.2.2.2.2.1 (K.2.2.take TN), (mvC K B).1.2.2.2.2.2.2.2), ((mvC K B).2.1.2.1, (mvC K B).2.1.2.2.2.2.2.2.1, (mvC K B).2.1.2.2.2.2.2.2.2.1, (mvC K B).2.1.2.2.2.2.2.2.2.2.1, (mvC K B).2.1.2.2.2.2.2.2.2.2.2), mapUp (fun T => (T_hr K.2.1.1 (mvC K B).2.1.2.2.2.2.2.2.2.2.1 (mvC K B).2.1.2.2.2.2.2.2.2.2.2 m T).2) TN K.2.2) := fun _ => rfl
  rw [c1, c1, e1, e2]
  rfl
theorem CG_memK {K : CK} {B TN S : Nat} {m : Int32} (h : CG K B TN S) : CG (memK K m) B TN S := h
theorem need_eq {B TN S v : Nat} (hv : v < 2 ^ 31) : ∀ (n s : Nat) (K : CK) (q : Int32), s + n < 500 → n ≤ 100 → K.1.2.1 = 1000000 → CG K B TN S → (∀ t, t < TN → wTs B s (K.2.2.getD t dT)) → (∀ t, t < TN → (K.2.2.getD t dT).2.2.2.2.2.2.2.2.2 = 0) → (ndS B TN n K q ≤ nI v ↔ (q ≤ nI v ∧ smT 10 ((itC (memK K (nI v)) B TN n).2.2.take TN) = 0))
  | 0, s, K, q, _, _, _, hg, _, h0 => by
    have l6 := CG6 hg
    have hTN := hg.1.2.2.2.2.2.1
    have e : smT 10 ((itC (memK K (nI v)) B TN 0).2.2.take TN) = 0 := by
      show smT 10 (K.2.2.take TN) = 0
      obtain ⟨x, x1, x2, x3, -⟩ := r10_sum (n := 0) (by decide) (K.2.2.take TN) 0 (fun T hT => by
        obtain ⟨t, a, b⟩ := mem_gd (by omega) hT
        rw [← b]
        exact ⟨0, by omega, by omega, h0 t a⟩)
      have e2 : smT 10 (K.2.2.take TN) = nI x := x3
      rw [e2, show x = 0 by omega]
      rfl
    exact ⟨fun h => ⟨h, e⟩, fun h => h.1⟩
  | n + 1, s, K, q, hs, hn, hm, hg, hT, h0 => by
    have l6 := CG6 hg
    have hTN := hg.1.2.2.2.2.2.1
    have eK : memK K 1000000 = K := by
      rw [← hm]
      rfl
    obtain ⟨hp, hq⟩ := hr_mem (v := v) (by omega) hv hg hT
    rw [eK] at hp hq
    have hg2 := CG_hr hg
    have ih := need_eq (S := S) hv n (s + 1) (hrC K B TN) (mxI q (lgT ((hrC K B TN).2.2.take TN))) (by omega) (by omega) hm hg2 (fun t ht => (hp t ht).1) (fun t ht => (hp t ht).2.1.trans (h0 t ht))
    have hl := lg_le (v := v) (TN := TN) (l := (hrC K B TN).2.2) hv (by have := CG6 hg2; omega)
    have e1 : ndS B TN (n + 1) K q = ndS B TN n (hrC K B TN) (mxI q (lgT ((hrC K B TN).2.2.take TN))) := rfl
    have e2 : itC (memK K (nI v)) B TN (n + 1) = itC (hrC (memK K (nI v)) B TN) B TN n := itC_s _ _ _ _
    rw [e1, e2, ih, mx_le, hl]
    by_cases c : ∀ t, t < TN → ((hrC K B TN).2.2.getD t dT).2.2.2.2.1 ≤ nI v
    · rw [hq c]
      constructor
      · intro ⟨⟨a, _⟩, b⟩
        exact ⟨a, b⟩
      · intro ⟨a, b⟩
        exact ⟨⟨a, c⟩, b⟩
    · constructor
      · intro ⟨⟨_, a⟩, _⟩
        exact absurd a c
      · intro ⟨_, a⟩
        exfalso
        have ⟨t, ht, hc⟩ : ∃ t, t < TN ∧ ¬ ((hrC K B TN).2.2.getD t dT).2.2.2.2.1 ≤ nI v := by
          apply Classical.byContradiction
          intro hh
          apply c
          intro t ht
          apply Classical.byContradiction
          intro h3
          exact hh ⟨t, ht, h3⟩
        have hgv : CG (hrC (memK K (nI v)) B TN) B TN S := CG_hr (CG_memK hg)
        have hgi := CG_it n hgv
        have li := CG6 hgi
        have h1 : r10 1 1 ((hrC (memK K (nI v)) B TN).2.2.getD t dT) := by
          rcases (hp t ht).2.2 with ⟨q1, _⟩ | ⟨_, q2⟩
          · exact absurd q1 hc
          · exact ⟨1, by omega, by omega, by rw [q2, h0 t ht]; rfl⟩
        have h2 : ∀ t, t < TN → r10 0 1 ((hrC (memK K (nI v)) B TN).2.2.getD t dT) := by
          intro t ht
          rcases (hp t ht).2 with ⟨q0, ⟨_, q2⟩ | ⟨_, q2⟩⟩
          · exact ⟨0, by omega, by omega, by rw [q2, q0, h0 t ht]; rfl⟩
          · exact ⟨1, by omega, by omega, by rw [q2, h0 t ht]; rfl⟩
        obtain ⟨x, x1, x2, x3, x4⟩ := r10_sum (n := 1 + n) (by omega) ((itC (hrC (memK K (nI v)) B TN) B TN n).2.2.take TN) 0 (fun T hT2 => by
          obtain ⟨t, a, b⟩ := mem_gd (by omega) hT2
          rw [← b]
          exact r10_it (S := S) a n 1 _ hgv (h2 t a))
        have x5 := x4 ⟨_, by
          rw [take_gd (by omega)]
          exact List.mem_map.mpr ⟨t, List.mem_range.mpr ht, rfl⟩, r10_it (S := S) ht n 1 _ hgv h1⟩
        have h5 : ((itC (hrC (memK K (nI v)) B TN) B TN n).2.2.take TN).length ≤ 6 := by
          rw [List.length_take]
          omega
        have h6 : ((itC (hrC (memK K (nI v)) B TN) B TN n).2.2.take TN).length * (1 + n) ≤ 6 * 100 := Nat.mul_le_mul h5 (by omega)
        have e3 : smT 10 ((itC (hrC (memK K (nI v)) B TN) B TN n).2.2.take TN) = nI x := x3
        rw [e3] at a
        have e4 : x = 0 := (nI_eq (b := 0) (by omega) (by decide)).mp a
        omega
theorem ndM_eq {E : Nat → Int32} {D : Int32} (hE : ∀ v, v ≤ 99 → (D ≤ nI v ↔ E v = 0)) : ∀ (m v : Nat), v + 1 + m = 100 → ¬ D ≤ nI v → ndM E m (v + 1) = (if D ≤ 99 then D else -4)
  | 0, v, hv, h => by
    have e : v = 99 := by omega
    subst e
    rw [if_neg (show ¬ D ≤ 99 from h)]
    rfl
  | m + 1, v, hv, h => by
    unfold ndM
    by_cases c : E (v + 1) = 0
    · rw [if_pos c]
      have h2 := (hE (v + 1) (by omega)).mpr c
      rw [Int32.le_iff_toInt_le, nI_toInt (by omega)] at h h2
      have e : nI (v + 1) = D := by
        apply Int32.toInt_inj.mp
        rw [nI_toInt (by omega)]
        omega
      rw [if_pos (show D ≤ 99 by rw [← e]; exact nI_le (b := 99) (by omega) (by decide))]
      exact e
    · rw [if_neg c]
      exact ndM_eq hE m (v + 1) (by omega) (fun q => c ((hE (v + 1) (by omega)).mp q))
section LKN
variable (xs : List Int32) (d : Nat) (now trial told im0 im1 : CK) (p : TP) (f : FP) (r : RS) (tr : Int32) (z : ZT) (Ks : CK) (I0 I1 nw eb wa ms mt : List Int32) (cc : C4) (B TN S : Nat)
variable {now trial told im0 im1 p f r tr z Ks I0 I1 nw eb wa ms mt cc B TN S}
theorem run_mem {v N : Nat} (ht : GS trial) (ho : mOK nw eb wa ms mt) (hC : caI B TN S now Ks) : smT 10 ((itC (memK (tryK now trial B TN S) (nI v)) B TN N).2.2.take TN) = smT 10 (ghN (memK (stA wa ms mt Ks) (nI v)) B TN N).2.2 := by
  have hv : HV (memK (tryK now trial B TN S) (nI v)) B TN S := HV_try hC.1 ht
  have hg := GM_mem (nI v) (GM_st (VS_ca hC) ho)
  have hL := Lv_ca (wa := wa) (ms := ms) (mt := mt) ht hC
  have hl : Lv B TN (memK (tryK now trial B TN S) (nI v)) (memK (stA wa ms mt Ks) (nI v)) := ⟨hL.1, rfl, hL.2.2⟩
  exact sm_run (Or.inr rfl) (Lv_it N _ _ hl hv hg.1) (CG_it N hv.1).1 (GM_ghN N _ hg).1.1 (cl0_gh N _ (cl0_st (CL6 hC.2.1.1)))
theorem k_need (n : Int32) (hC : caI B TN S now Ks) (ht : GS trial) (hd : CL told) (ho : mOK nw eb wa ms mt) (hR : rsI im0 im1 p f r tr z I0 I1) : Alk xs d 78 174 [n] (hCl now trial told im0 im1 p f r tr) (mH (zS z Ks (I0 ++ I1)) nw eb wa ms mt cc) := by
  cases c : wiI n 0 100 with
  | false => exact ⟨.int (-1), _, _, int_nr _, Inv_mk hC ht hd ho hR, sp_need_bad xs (d + 19) now trial told im0 im1 p f r tr n c, m_need_bad (d := d + 18) (c := c) ..⟩
  | true =>
    obtain ⟨N, hN, rfl⟩ := wi_of (M := 100) (by decide) c
    have hg := CG_t (wK_CG hC.1) ht
    obtain ⟨K1, g1, h1⟩ := sp_need xs (d + 16) now trial told im0 im1 p f r tr B TN S N (wK_CG hC.1) ht hN
    obtain ⟨h', hp, h2⟩ := m_need xs (d + 14) z Ks (I0 ++ I1) nw eb wa ms mt cc B TN S N hN (fun v => smT 10 ((itC (memK (tryK now trial B TN S) (nI v)) B TN N).2.2.take TN)) (VS_ca hC) ho (fun v hv nw' eb' wa' ms' mt' ho' => (run_mem ht ho' hC).symm)
    have key : ∀ v, v < 2 ^ 31 → (ndS B TN N (endK (tryK now trial B TN S)) 1 ≤ nI v ↔ ((1 : Int32) ≤ nI v ∧ smT 10 ((itC (memK (tryK now trial B TN S) (nI v)) B TN N).2.2.take TN) = 0)) := by
      intro v hv
      refine need_eq (S := S) (K := endK (tryK now trial B TN S)) hv N 99 1 (by omega) hN rfl (CG_end hg) (fun t htt => ?_) (fun t htt => ?_)
      · show wTs B 99 ((tryK now trial B TN S).2.2.getD t dT)
        rw [try_T hC.1.1 ht.1 htt]
        exact wTs_k (wTk_clr (T := now.2.2.getD t dT) rfl (hC.1.2.2.2.2.2.1 t htt))
      · show ((tryK now trial B TN S).2.2.getD t dT).2.2.2.2.2.2.2.2.2 = 0
        rw [try_T hC.1.1 ht.1 htt]
        rfl
    have h0 : ¬ ndS B TN N (endK (tryK now trial B TN S)) 1 ≤ nI 0 := fun q => absurd ((key 0 (by decide)).mp q).1 (by decide)
    have hE : ∀ v, v ≤ 99 → 1 ≤ v → (ndS B TN N (endK (tryK now trial B TN S)) 1 ≤ nI v ↔ smT 10 ((itC (memK (tryK now trial B TN S) (nI v)) B TN N).2.2.take TN) = 0) := by
      intro v hv hv1
      rw [key v (by omega)]
      exact ⟨fun q => q.2, fun q => ⟨nI_le (a := 1) hv1 (by omega), q⟩⟩
    have e := ndM_eq (E := fun v => if v = 0 then 1 else smT 10 ((itC (memK (tryK now trial B TN S) (nI v)) B TN N).2.2.take TN)) (D := ndS B TN N (endK (tryK now trial B TN S)) 1) (fun v hv => by
      by_cases c : v = 0
      · rw [if_pos c, c]
        exact ⟨fun q => absurd q h0, fun q => absurd q (by decide)⟩
      · rw [if_neg c]
        exact hE v hv (by omega)) 99 0 (by omega) h0
    have e2 : ∀ (m v : Nat), ndM (fun v => if v = 0 then 1 else smT 10 ((itC (memK (tryK now trial B TN S) (nI v)) B TN N).2.2.take TN)) m (v + 1) = ndM (fun v => smT 10 ((itC (memK (tryK now trial B TN S) (nI v)) B TN N).2.2.take TN)) m (v + 1) := by
      intro m
      induction m with
      | zero => intro v; rfl
      | succ m ih =>
        intro v
        unfold ndM
        rw [if_neg (show ¬ v + 1 = 0 by omega), ih (v + 1)]
    rw [e2] at e
    rw [← e] at h1
    exact ⟨_, _, _, int_nr _, Inv_p hC g1 hd hp hR, h1, h2⟩
end LKN

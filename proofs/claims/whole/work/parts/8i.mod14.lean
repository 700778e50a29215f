/-! The reference's see, keep, back, count, feed, end -/
theorem fs_S {K : CK} {i k : Nat} {v : Int32} (hK : CL K) (hi : i < 6) (hk : k < 3) (A' : CA) (hA : fl3 A'.2.2.2.1 A'.2.2.2.2.1 A'.2.2.2.2.2.1 i = (fl3 K.2.1.2.2.2.1 K.2.1.2.2.2.2.1 K.2.1.2.2.2.2.2.1 i).set k v) (hB : flB A' = flB K.2.1) (hj : ∀ j, j ≠ i → fl3 A'.2.2.2.1 A'.2.2.2.2.1 A'.2.2.2.2.2.1 j = fl3 K.2.1.2.2.2.1 K.2.1.2.2.2.2.1 K.2.1.2.2.2.2.2.1 j) : (flK K).set (69 + 3 * i + k) v = flK (K.1, A', K.2.2) := by
  unfold flK
  rw [show 69 + 3 * i + k = 3 + (15 + (1 + (48 + (2 + (3 * i + k))))) by omega, st_r (n := 3) rfl, st_r (flB_len _), st_r (n := 1) rfl, st_r (flW_len _), st_r (n := 2) rfl]
  have e : (flS K.2.1).set (3 * i + k) v = flS A' := by
    unfold flS
    exact fm_set (m := 3) (fun _ => rfl) hk hj hA 6 hi
  rw [e]
  dsimp only
  rw [hB]
theorem fS_add {K : CK} {k : Nat} {n t v : Int32} (hK : CL K) (hk : k < 6) : ((((flK K).set (69 + 3 * k + 0) n).set (69 + 3 * k + 1) t).set (69 + 3 * k + 2) v).set 68 (nI (k + 1)) = flK (addSK K k n t v) := by
  obtain ⟨g1, g2, g3, g4, g5, g6, g7, g8, g9, g10, g11⟩ := hK
  rw [fs_S (K := K) ⟨g1, g2, g3, g4, g5, g6, g7, g8, g9, g10, g11⟩ hk (by decide) (K.2.1.1, K.2.1.2.1, K.2.1.2.2.1, K.2.1.2.2.2.1.set k n, K.2.1.2.2.2.2) (by unfold fl3; dsimp only; rw [gd_self (by omega)]; rfl) rfl (fun j hj => by unfold fl3; dsimp only; rw [gd_ne (fun q => hj q.symm)])]
  rw [fs_S (K := (K.1, (K.2.1.1, K.2.1.2.1, K.2.1.2.2.1, K.2.1.2.2.2.1.set k n, K.2.1.2.2.2.2), K.2.2)) ⟨g1, g2, g3, List.length_set.trans g4, g5, g6, g7, g8, g9, g10, g11⟩ hk (by decide) (K.2.1.1, K.2.1.2.1, K.2.1.2.2.1, K.2.1.2.2.2.1.set k n, K.2.1.2.2.2.2.1.set k t, K.2.1.2.2.2.2.2) (by unfold fl3; dsimp only; rw [gd_self (l := K.2.1.2.2.2.2.1) (by omega)]; rfl) rfl (fun j hj => by unfold fl3; dsimp only; rw [gd_ne (l := K.2.1.2.2.2.2.1) (fun q => hj q.symm)])]
  rw [fs_S (K := (K.1, (K.2.1.1, K.2.1.2.1, K.2.1.2.2.1, K.2.1.2.2.2.1.set k n, K.2.1.2.2.2.2.1.set k t, K.2.1.2.2.2.2.2), K.2.2)) ⟨g1, g2, g3, List.length_set.trans g4, List.length_set.trans g5, g6, g7, g8, g9, g10, g11⟩ hk (by decide) (K.2.1.1, K.2.1.2.1, K.2.1.2.2.1, K.2.1.2.2.2.1.set k n, K.2.1.2.2.2.2.1.set k t, K.2.1.2.2.2.2.2.1.set k v, K.2.1.2.2.2.2.2.2) (by unfold fl3; dsimp only; rw [gd_self (l := K.2.1.2.2.2.2.2.1) (by omega)]; rfl) rfl (fun j hj => by unfold fl3; dsimp only; rw [gd_ne (l := K.2.1.2.2.2.2.2.1) (fun q => hj q.symm)])]
  rw [fs_68]
  rfl
theorem nI_neq {a b : Nat} (h : a ≠ b) (ha : a < 2 ^ 31) (hb : b < 2 ^ 31) : ¬ nI a = nI b := fun q => h ((nI_eq ha hb).mp q)
theorem ix69 {k : Nat} : (Int8.ofInt 69).toInt32 + Int32.ofInt 3 * nI k = nI (69 + 3 * k) := by
  rw [show (Int8.ofInt 69).toInt32 = nI 69 from rfl, show Int32.ofInt 3 = nI 3 from rfl, nI_mulA, nI_add]
section MC9
variable (xs : List Int32) (d : Nat) (z : ZT) (Ks : CK) (X nw eb wa ms mt : List Int32) (cc : C4) (B TN S : Nat)
theorem st_msee (n t v : Int32) (hv : VS Ks B TN S) (rs : Option Value) (h' : MH) (kt : seeC Ks n t v = true → Ev xs (d + 2) 181 34 [some (.ref 0), some (.int n), some (.int t), some (.int v), none] [] (mH (zS z Ks X) nw eb wa ms mt cc) rs h') (kf : seeC Ks n t v = false → Ev xs (d + 2) 181 32 [some (.ref 0), some (.int n), some (.int t), some (.int v), none] [] (mH (zS z Ks X) nw eb wa ms mt cc) rs h') : Ev xs (d + 2) 181 0 [some (.ref 0), some (.int n), some (.int t), some (.int v), none] [] (mH (zS z Ks X) nw eb wa ms mt cc) rs h' := by
  unfold seeC at kt kf
  refine ev_go 4 (fun _ => rfl) ?_
  refine ev_call (y' := 110) rfl rfl rfl rfl (sp_in xs _ _ n 0 20) ?_
  cases c1 : wiI n 0 20 with
  | false =>
    rw [c1] at kf
    exact ev_go 1 (fun _ => rfl) (kf rfl)
  | true =>
    rw [c1] at kt kf
    refine ev_go 3 (fun _ => rfl) ?_
    refine ev_call (y' := 131) rfl rfl rfl rfl (sp_isT xs _ z Ks X nw eb wa ms mt cc t TN hv.1.2.2.1 (by have := hv.1.2.2.2.2.2.1; omega)) ?_
    cases c2 : hasI t Ks.1.2.2.2.2.1 with
    | false =>
      rw [c2] at kf
      exact ev_go 1 (fun _ => rfl) (kf rfl)
    | true =>
      rw [c2] at kt kf
      refine ev_go 5 (fun _ => rfl) ?_
      refine ev_call (y' := 110) rfl rfl rfl rfl (sp_in xs _ _ v 0 20) ?_
      cases c3 : wiI v 0 20 with
      | false =>
        rw [c3] at kf
        exact ev_go 1 (fun _ => rfl) (kf rfl)
      | true =>
        rw [c3] at kt
        exact ev_go 1 (fun _ => rfl) (kt rfl)
theorem m_see_bad (n t v : Int32) (hv : VS Ks B TN S) (c : seeC Ks n t v = false) : Ev xs (d + 2) 181 0 [some (.ref 0), some (.int n), some (.int t), some (.int v), none] [] (mH (zS z Ks X) nw eb wa ms mt cc) (some (.int (-1))) (mH (zS z Ks X) nw eb wa ms mt cc) :=
  st_msee xs d z Ks X nw eb wa ms mt cc B TN S n t v hv _ _ (fun e => by rw [c] at e; cases e) (fun _ => ev_end 2 rfl)
theorem m_see_full (n t v : Int32) (hv : VS Ks B TN S) (c : seeC Ks n t v = true) (e : Ks.1.2.2.2.2.2.1 = nI 6) : Ev xs (d + 2) 181 0 [some (.ref 0), some (.int n), some (.int t), some (.int v), none] [] (mH (zS z Ks X) nw eb wa ms mt cc) (some (.int (-3))) (mH (zS z Ks X) nw eb wa ms mt cc) := by
  refine st_msee xs d z Ks X nw eb wa ms mt cc B TN S n t v hv _ _ (fun _ => ?_) (fun q => by rw [c] at q; cases q)
  refine ev_go 3 (fun _ => rfl) ?_
  refine ev_iald rfl rfl (k := 68) rfl ((sg (by decide)).trans fq_68) ?_
  rw [e]
  exact ev_end 4 rfl
theorem m_see (n t v : Int32) (k : Nat) (hv : VS Ks B TN S) (c : seeC Ks n t v = true) (e : Ks.1.2.2.2.2.2.1 = nI k) (hk : k < 6) : Ev xs (d + 2) 181 0 [some (.ref 0), some (.int n), some (.int t), some (.int v), none] [] (mH (zS z Ks X) nw eb wa ms mt cc) (some (.int (nI (k + 1)))) (mH (zS z (addSK Ks k n t v) X) nw eb wa ms mt cc) := by
  have hcl := hv.1.1
  have hsub : 69 + 3 * k + 2 < 87 := by omega
  have s1 : (zL z (flK Ks ++ X)) = zS z Ks X := rfl
  refine st_msee xs d z Ks X nw eb wa ms mt cc B TN S n t v hv _ _ (fun _ => ?_) (fun q => by rw [c] at q; cases q)
  refine ev_go 3 (fun _ => rfl) ?_
  refine ev_iald rfl rfl (k := 68) rfl ((sg (by decide)).trans fq_68) ?_
  rw [e]
  refine ev_go 1 (fun _ => rfl) ?_
  refine ev_ic_ne rfl rfl (fun _ => ?_) (fun n => absurd (nI_neq (a := k) (b := 6) (by omega) (by omega) (by omega)) n)
  refine ev_go 5 (fun _ => rfl) ?_
  refine ev_iald rfl rfl (k := 68) rfl ((sg (by decide)).trans fq_68) ?_
  rw [e]
  refine ev_go 7 (ls' := [some (.ref 0), some (.int n), some (.int t), some (.int v), some (.int ((Int8.ofInt 69).toInt32 + Int32.ofInt 3 * nI k))]) (fun _ => rfl) ?_
  rw [ix69]
  refine ev_iastE rfl (L := flK Ks ++ X) (h2 := mH (zL z ((flK Ks).set (69 + 3 * k + 0) n ++ X)) nw eb wa ms mt cc) rfl (mm_ix_nI (n := 69 + 3 * k) (by omega)) (sl (by omega)) (congrArg (fun l => mH (zL z l) nw eb wa ms mt cc) (ss (by omega))) ?_
  refine ev_go 6 (fun _ => rfl) ?_
  refine ev_iastE rfl (L := (flK Ks).set (69 + 3 * k + 0) n ++ X) (h2 := mH (zL z (((flK Ks).set (69 + 3 * k + 0) n).set (69 + 3 * k + 1) t ++ X)) nw eb wa ms mt cc) rfl (ixa (c := 69 + 3 * k) (k := 1) (by omega)) (by rw [List.length_append, List.length_set, flK_len]; omega) (congrArg (fun l => mH (zL z l) nw eb wa ms mt cc) (st_l (by rw [List.length_set, flK_len]; omega))) ?_
  refine ev_go 6 (fun _ => rfl) ?_
  refine ev_iastE rfl (L := ((flK Ks).set (69 + 3 * k + 0) n).set (69 + 3 * k + 1) t ++ X) (h2 := mH (zL z ((((flK Ks).set (69 + 3 * k + 0) n).set (69 + 3 * k + 1) t).set (69 + 3 * k + 2) v ++ X)) nw eb wa ms mt cc) rfl (ixa (c := 69 + 3 * k) (k := 2) (by omega)) (by rw [List.length_append, List.length_set, List.length_set, flK_len]; omega) (congrArg (fun l => mH (zL z l) nw eb wa ms mt cc) (st_l (by rw [List.length_set, List.length_set, flK_len]; omega))) ?_
  have e68 : ((((flK Ks).set (69 + 3 * k + 0) n).set (69 + 3 * k + 1) t).set (69 + 3 * k + 2) v ++ X)[68]? = some (nI k) := by
    rw [ap_l (by rw [List.length_set, List.length_set, List.length_set, flK_len]; decide), List.getElem?_set_ne (by omega), List.getElem?_set_ne (by omega), List.getElem?_set_ne (by omega), fq_68, e]
  have e2 : ((((flK Ks).set (69 + 3 * k + 0) n).set (69 + 3 * k + 1) t).set (69 + 3 * k + 2) v ++ X).set 68 (nI k + Int32.ofInt 1) = flK (addSK Ks k n t v) ++ X := by
    rw [st_l (by rw [List.length_set, List.length_set, List.length_set, flK_len]; decide), nI_inc, fS_add hcl hk]
  refine ev_go 4 (fun _ => rfl) ?_
  refine ev_iald rfl rfl (k := 68) rfl e68 ?_
  refine ev_go 2 (fun _ => rfl) ?_
  refine ev_iastE rfl (h2 := mH (zS z (addSK Ks k n t v) X) nw eb wa ms mt cc) rfl (k := 68) rfl (by show 68 < ((((flK Ks).set (69 + 3 * k + 0) n).set (69 + 3 * k + 1) t).set (69 + 3 * k + 2) v ++ X).length; rw [List.length_append, List.length_set, List.length_set, List.length_set, flK_len]; omega) (congrArg (fun l => mH (zL z l) nw eb wa ms mt cc) e2) ?_
  refine ev_go 3 (fun _ => rfl) ?_
  refine ev_iald rfl rfl (k := 68) rfl ((sg (by decide)).trans fq_68) ?_
  exact ev_end 1 rfl
/-- cells copied one behind another -/
def cpN (L : List Int32) (to src t : Nat) : List Int32 := match t with
  | 0 => L
  | t + 1 => (cpN L to src t).set (to + t) ((cpN L to src t).getD (src + t) 0)
theorem cpN_len {L : List Int32} {to src : Nat} : ∀ t, (cpN L to src t).length = L.length
  | 0 => rfl
  | t + 1 => by
    unfold cpN
    rw [List.length_set, cpN_len t]
theorem cpN_out {L : List Int32} {to src j : Nat} : ∀ t, (j < to ∨ to + t ≤ j) → (cpN L to src t)[j]? = L[j]?
  | 0, _ => rfl
  | t + 1, h => by
    unfold cpN
    rw [List.getElem?_set_ne (by omega), cpN_out t (by omega)]
theorem cpN_in {L : List Int32} {to src j : Nat} : ∀ t, (src + t ≤ to ∨ to + t ≤ src) → to + t ≤ L.length → src + t ≤ L.length → j < t → (cpN L to src t)[to + j]? = L[src + j]?
  | 0, _, _, _, h => by omega
  | t + 1, hd, h1, h2, h => by
    unfold cpN
    by_cases c : j = t
    · subst c
      rw [List.getElem?_set_self (by rw [cpN_len]; omega), List.getD_eq_getElem?_getD, cpN_out j (by omega), List.getElem?_eq_getElem (by omega)]
      rfl
    · rw [List.getElem?_set_ne (by omega), cpN_in t (by omega) (by omega) (by omega) (by omega)]
theorem lp_cp (to src : Nat) (L : List Int32) (hL : L.length = 261) (h1 : to + 87 ≤ 261) (h2 : src + 87 ≤ 261) : ∀ m t, t + m = 87 → Ev xs d 190 2 [some (.ref 0), some (.int (nI to)), some (.int (nI src)), some (.int (nI t))] [] (mH (zL z (cpN L to src t)) nw eb wa ms mt cc) none (mH (zL z (cpN L to src 87)) nw eb wa ms mt cc) := by
  intro m
  induction m with
  | zero =>
    intro t ht
    have e : t = 87 := by omega
    subst e
    exact ev_end 4 rfl
  | succ m ih =>
    intro t ht
    refine ev_go 2 (fun _ => rfl) ?_
    refine ev_ic_ge rfl rfl (fun n => absurd n (nI_ge (a := t) (b := 87) (by omega) (by omega))) (fun _ => ?_)
    refine ev_go 10 (fun _ => rfl) ?_
    refine ev_iald rfl (L := cpN L to src t) rfl (ixa (by omega)) (getD_at (by rw [cpN_len]; omega)) ?_
    refine ev_iastE rfl (L := cpN L to src t) (h2 := mH (zL z (cpN L to src (t + 1))) nw eb wa ms mt cc) rfl (ixa (by omega)) (by rw [cpN_len]; omega) rfl ?_
    refine ev_go 2 (ls' := [some (.ref 0), some (.int (nI to)), some (.int (nI src)), some (.int (nI t + Int32.ofInt 1))]) (fun _ => rfl) ?_
    rw [nI_inc]
    exact ih (t + 1) (by omega)
theorem sp_cps (to src : Nat) (L : List Int32) (hL : L.length = 261) (h1 : to + 87 ≤ 261) (h2 : src + 87 ≤ 261) : Ev xs d 190 0 [some (.ref 0), some (.int (nI to)), some (.int (nI src)), none] [] (mH (zL z L) nw eb wa ms mt cc) none (mH (zL z (cpN L to src 87)) nw eb wa ms mt cc) := by
  refine ev_go 2 (fun _ => rfl) ?_
  exact lp_cp xs d z nw eb wa ms mt cc to src L hL h1 h2 87 0 (by omega)
end MC9
/-- three Canals laid one behind another; the first copied over another, and back -/
theorem cp_1 {a b c : List Int32} (ha : a.length = 87) (hb : b.length = 87) (hc : c.length = 87) : cpN (a ++ (b ++ c)) 87 0 87 = a ++ (a ++ c) := by
  apply List.ext_getElem?
  intro j
  by_cases h1 : j < 87
  · rw [cpN_out 87 (by omega), ap_l (by omega), ap_l (by omega)]
  · obtain ⟨i, rfl⟩ : ∃ i, j = 87 + i := ⟨j - 87, by omega⟩
    by_cases h2 : i < 87
    · rw [cpN_in 87 (by omega) (by rw [List.length_append, List.length_append]; omega) (by rw [List.length_append, List.length_append]; omega) h2, Nat.zero_add, ap_l (by omega), ap_r ha, ap_l (by omega)]
    · rw [cpN_out 87 (by omega), ap_r ha, ap_r ha]
      obtain ⟨k, rfl⟩ : ∃ k, i = 87 + k := ⟨i - 87, by omega⟩
      rw [ap_r hb, ap_r ha]
theorem cp_2 {a b c : List Int32} (ha : a.length = 87) (hb : b.length = 87) (hc : c.length = 87) : cpN (a ++ (b ++ c)) 174 0 87 = a ++ (b ++ a) := by
  apply List.ext_getElem?
  intro j
  by_cases h1 : j < 174
  · rw [cpN_out 87 (by omega)]
    by_cases h2 : j < 87
    · rw [ap_l (by omega), ap_l (by omega)]
    · obtain ⟨i, rfl⟩ : ∃ i, j = 87 + i := ⟨j - 87, by omega⟩
      rw [ap_r ha, ap_r ha, ap_l (by omega), ap_l (by omega)]
  · obtain ⟨i, rfl⟩ : ∃ i, j = 174 + i := ⟨j - 174, by omega⟩
    by_cases h2 : i < 87
    · rw [cpN_in 87 (by omega) (by rw [List.length_append, List.length_append]; omega) (by rw [List.length_append, List.length_append]; omega) h2, Nat.zero_add, ap_l (by omega), show 174 + i = 87 + (87 + i) by omega, ap_r ha, ap_r hb]
    · rw [cpN_out 87 (by omega), List.getElem?_eq_none (by rw [List.length_append, List.length_append]; omega), List.getElem?_eq_none (by rw [List.length_append, List.length_append]; omega)]
theorem cp_b1 {a b c : List Int32} (ha : a.length = 87) (hb : b.length = 87) (hc : c.length = 87) : cpN (a ++ (b ++ c)) 0 87 87 = b ++ (b ++ c) := by
  apply List.ext_getElem?
  intro j
  by_cases h1 : j < 87
  · have := cpN_in (L := a ++ (b ++ c)) (to := 0) (src := 87) (j := j) 87 (by omega) (by rw [List.length_append, List.length_append]; omega) (by rw [List.length_append, List.length_append]; omega) h1
    rw [Nat.zero_add] at this
    rw [this, ap_r ha, ap_l (by omega), ap_l (by omega)]
  · obtain ⟨i, rfl⟩ : ∃ i, j = 87 + i := ⟨j - 87, by omega⟩
    rw [cpN_out 87 (by omega), ap_r ha, ap_r hb]
theorem cp_b2 {a b c : List Int32} (ha : a.length = 87) (hb : b.length = 87) (hc : c.length = 87) : cpN (a ++ (b ++ c)) 0 174 87 = c ++ (b ++ c) := by
  apply List.ext_getElem?
  intro j
  by_cases h1 : j < 87
  · have := cpN_in (L := a ++ (b ++ c)) (to := 0) (src := 174) (j := j) 87 (by omega) (by rw [List.length_append, List.length_append]; omega) (by rw [List.length_append, List.length_append]; omega) h1
    rw [Nat.zero_add] at this
    rw [this, show 174 + j = 87 + (87 + j) by omega, ap_r ha, ap_r hb, ap_l (by omega)]
  · obtain ⟨i, rfl⟩ : ∃ i, j = 87 + i := ⟨j - 87, by omega⟩
    rw [cpN_out 87 (by omega), ap_r ha, ap_r hc]
def zK (z : ZT) (k : List Int32) : ZT := (z.1, z.2.1, z.2.2.1, z.2.2.2.1, z.2.2.2.2.1, k, z.2.2.2.2.2.2)
section MC10
variable (xs : List Int32) (d : Nat) (z : ZT) (Ks : CK) (I0 I1 nw eb wa ms mt : List Int32) (cc : C4) (k0 k1 : Bool)
theorem m_keep_bad (k : Int32) (c : wiI k 0 1 = false) (h : MH) : Ev xs (d + 1) 191 0 [some (.ref 0), some (.int k), none] [] h (some (.int (-1))) h := by
  refine ev_go 4 (fun _ => rfl) ?_
  refine ev_call (y' := 110) rfl rfl rfl rfl (sp_in xs _ h k 0 1) ?_
  rw [c]
  exact ev_end 3 rfl
theorem m_keep0 (h0 : I0.length = 87) (h1 : I1.length = 87) : Ev xs (d + 1) 191 0 [some (.ref 0), some (.int 0), none] [] (mH (zS (zK z [bI k0, bI k1]) Ks (I0 ++ I1)) nw eb wa ms mt cc) (some (.int (bI k0))) (mH (zS (zK z [1, bI k1]) Ks (flK Ks ++ I1)) nw eb wa ms mt cc) := by
  have h2 := sp_cps xs d (zK z [1, bI k1]) nw eb wa ms mt cc 87 0 (flK Ks ++ (I0 ++ I1)) (by rw [List.length_append, List.length_append, flK_len]; omega) (by omega) (by omega)
  rw [cp_1 (flK_len Ks) h0 h1] at h2
  refine ev_go 4 (fun _ => rfl) ?_
  refine ev_call (y' := 110) rfl rfl rfl rfl (sp_in xs _ _ 0 0 1) ?_
  refine ev_go 4 (fun _ => rfl) ?_
  refine ev_zald rfl (L := [bI k0, bI k1]) rfl (k := 0) rfl rfl ?_
  refine ev_call (y' := 111) rfl rfl rfl rfl (sp_flag xs _ _ k0) ?_
  refine ev_go 5 (fun _ => rfl) ?_
  refine ev_zast rfl (L := [bI k0, bI k1]) (b := true) rfl (k := 0) rfl (Nat.le_of_ble_eq_true rfl) ?_
  refine ev_go 7 (fun _ => rfl) ?_
  refine ev_call (y' := 190) rfl rfl rfl rfl (h2) ?_
  exact ev_end 2 rfl
theorem m_keep1 (h0 : I0.length = 87) (h1 : I1.length = 87) : Ev xs (d + 1) 191 0 [some (.ref 0), some (.int 1), none] [] (mH (zS (zK z [bI k0, bI k1]) Ks (I0 ++ I1)) nw eb wa ms mt cc) (some (.int (bI k1))) (mH (zS (zK z [bI k0, 1]) Ks (I0 ++ flK Ks)) nw eb wa ms mt cc) := by
  have h2 := sp_cps xs d (zK z [bI k0, 1]) nw eb wa ms mt cc 174 0 (flK Ks ++ (I0 ++ I1)) (by rw [List.length_append, List.length_append, flK_len]; omega) (by omega) (by omega)
  rw [cp_2 (flK_len Ks) h0 h1] at h2
  refine ev_go 4 (fun _ => rfl) ?_
  refine ev_call (y' := 110) rfl rfl rfl rfl (sp_in xs _ _ 1 0 1) ?_
  refine ev_go 4 (fun _ => rfl) ?_
  refine ev_zald rfl (L := [bI k0, bI k1]) rfl (k := 1) rfl rfl ?_
  refine ev_call (y' := 111) rfl rfl rfl rfl (sp_flag xs _ _ k1) ?_
  refine ev_go 5 (fun _ => rfl) ?_
  refine ev_zast rfl (L := [bI k0, bI k1]) (b := true) rfl (k := 1) rfl (Nat.le_of_ble_eq_true rfl) ?_
  refine ev_go 7 (fun _ => rfl) ?_
  refine ev_call (y' := 190) rfl rfl rfl rfl (h2) ?_
  exact ev_end 2 rfl
theorem m_back_bad (k : Int32) (c : wiI k 0 1 = false) (h : MH) : Ev xs (d + 1) 192 0 [some (.ref 0), some (.int k)] [] h (some (.int (-1))) h := by
  refine ev_go 4 (fun _ => rfl) ?_
  refine ev_call (y' := 110) rfl rfl rfl rfl (sp_in xs _ h k 0 1) ?_
  rw [c]
  exact ev_end 3 rfl
theorem m_back0_no : Ev xs (d + 1) 192 0 [some (.ref 0), some (.int 0)] [] (mH (zS (zK z [0, bI k1]) Ks (I0 ++ I1)) nw eb wa ms mt cc) (some (.int (-2))) (mH (zS (zK z [0, bI k1]) Ks (I0 ++ I1)) nw eb wa ms mt cc) := by
  refine ev_go 4 (fun _ => rfl) ?_
  refine ev_call (y' := 110) rfl rfl rfl rfl (sp_in xs _ _ 0 0 1) ?_
  refine ev_go 4 (fun _ => rfl) ?_
  refine ev_zald rfl (L := [0, bI k1]) rfl (k := 0) rfl rfl ?_
  exact ev_end 3 rfl
theorem m_back1_no : Ev xs (d + 1) 192 0 [some (.ref 0), some (.int 1)] [] (mH (zS (zK z [bI k0, 0]) Ks (I0 ++ I1)) nw eb wa ms mt cc) (some (.int (-2))) (mH (zS (zK z [bI k0, 0]) Ks (I0 ++ I1)) nw eb wa ms mt cc) := by
  refine ev_go 4 (fun _ => rfl) ?_
  refine ev_call (y' := 110) rfl rfl rfl rfl (sp_in xs _ _ 1 0 1) ?_
  refine ev_go 4 (fun _ => rfl) ?_
  refine ev_zald rfl (L := [bI k0, 0]) rfl (k := 1) rfl rfl ?_
  exact ev_end 3 rfl
theorem m_back0 (K0 : CK) (h1 : I1.length = 87) : Ev xs (d + 1) 192 0 [some (.ref 0), some (.int 0)] [] (mH (zS (zK z [1, bI k1]) Ks (flK K0 ++ I1)) nw eb wa ms mt cc) (some (.int K0.1.2.2.1)) (mH (zS (zK z [1, bI k1]) K0 (flK K0 ++ I1)) nw eb wa ms mt cc) := by
  have h2 := sp_cps xs d (zK z [1, bI k1]) nw eb wa ms mt cc 0 87 (flK Ks ++ (flK K0 ++ I1)) (by rw [List.length_append, List.length_append, flK_len, flK_len]; omega) (by omega) (by omega)
  rw [cp_b1 (flK_len Ks) (flK_len K0) h1] at h2
  refine ev_go 4 (fun _ => rfl) ?_
  refine ev_call (y' := 110) rfl rfl rfl rfl (sp_in xs _ _ 0 0 1) ?_
  refine ev_go 4 (fun _ => rfl) ?_
  refine ev_zald rfl (L := [1, bI k1]) rfl (k := 0) rfl rfl ?_
  refine ev_go 8 (fun _ => rfl) ?_
  refine ev_call (y' := 190) rfl rfl rfl rfl (h2) ?_
  refine ev_go 3 (fun _ => rfl) ?_
  refine ev_iald rfl (L := flK K0 ++ (flK K0 ++ I1)) rfl (k := 2) rfl ((sg (by decide)).trans fq_2) ?_
  exact ev_end 1 rfl
theorem m_back1 (K1 : CK) (h0 : I0.length = 87) : Ev xs (d + 1) 192 0 [some (.ref 0), some (.int 1)] [] (mH (zS (zK z [bI k0, 1]) Ks (I0 ++ flK K1)) nw eb wa ms mt cc) (some (.int K1.1.2.2.1)) (mH (zS (zK z [bI k0, 1]) K1 (I0 ++ flK K1)) nw eb wa ms mt cc) := by
  have h2 := sp_cps xs d (zK z [bI k0, 1]) nw eb wa ms mt cc 0 174 (flK Ks ++ (I0 ++ flK K1)) (by rw [List.length_append, List.length_append, flK_len, flK_len]; omega) (by omega) (by omega)
  rw [cp_b2 (flK_len Ks) h0 (flK_len K1)] at h2
  refine ev_go 4 (fun _ => rfl) ?_
  refine ev_call (y' := 110) rfl rfl rfl rfl (sp_in xs _ _ 1 0 1) ?_
  refine ev_go 4 (fun _ => rfl) ?_
  refine ev_zald rfl (L := [bI k0, 1]) rfl (k := 1) rfl rfl ?_
  refine ev_go 8 (fun _ => rfl) ?_
  refine ev_call (y' := 190) rfl rfl rfl rfl (h2) ?_
  refine ev_go 3 (fun _ => rfl) ?_
  refine ev_iald rfl (L := flK K1 ++ (I0 ++ flK K1)) rfl (k := 2) rfl ((sg (by decide)).trans fq_2) ?_
  exact ev_end 1 rfl
end MC10

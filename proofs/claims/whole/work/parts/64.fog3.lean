theorem nI_sub1 {S k m : Nat} (h : k + (m + 1) = S) : nI S - nI k - Int32.ofInt 1 = nI m := by
  subst h
  have e1 : nI (k + (m + 1)) = nI k + (nI m + 1) := by rw [← nI_add, ← nI_1]
  have e2 : Int32.ofInt 1 = 1 := rfl
  rw [e1, e2]
  have : nI k + (nI m + 1) - nI k - 1 = nI m := by
    apply Int32.toBitVec_inj.mp
    simp only [Int32.toBitVec_sub, Int32.toBitVec_add]
    bv_omega
  exact this
section FG3
variable (xs : List Int32) (d : Nat) (odds k1 k2 mm : Int32) (me m1 m2 : List Int32) (SP : Nat)
theorem sp_wW (hSP : SP ≤ 8) (hme : me.length = 8) (h1 : m1.length = 8) (h2 : m2.length = 8) : ∀ m k, k + m = SP → ∀ (bh : List TT) (T : TT), bh.length = 9 → bh[k]? = some T → ∃ bh', sameU k bh' bh ∧ Ev xs (d + m + 4) 31 0 [some (.ref 0), some (.int (nI k)), none, none, none, none, none] [] (fH (fO (nI SP) odds k1 k2 mm) me m1 m2 bh) (some (.long (wW odds k1 k2 mm me m1 m2 m k T))) (fH (fO (nI SP) odds k1 k2 mm) me m1 m2 bh') := by
  intro m
  induction m with
  | zero =>
    intro k hk bh T hl hT
    refine ⟨bh, sameU_rf, ?_⟩
    have e : k = SP := by omega
    subst e
    refine ev_go 3 (fun _ => rfl) ?_
    exact ev_ic_lt rfl rfl (fun n => absurd n (nI_nlt (Nat.le_refl _) (by omega))) (fun _ => ev_end 2 rfl)
  | succ m ih =>
    intro k hk bh T hl hT
    have ix : mm_ix (nI k) = some k := mm_ix_nI (by omega)
    have ix1 : mm_ix (nI k + Int32.ofInt 1) = some (k + 1) := by rw [nI_inc]; exact mm_ix_nI (by omega)
    generalize ha : F_ap me odds k = a
    have half2 : ∀ (bh1 : List TT) (w : Int64), sameU k bh1 bh → ∃ bh', sameU k bh' bh ∧ Ev xs (d + (m + 1) + 4) 31 42 [some (.ref 0), some (.int (nI k)), some (.int a), some (.long w), none, none, none] [] (fH (fO (nI SP) odds k1 k2 mm) me m1 m2 bh1) (some (.long (if 10 ≤ a then w else w + (10 - a).toInt64 * ((F_q k1 k2 mm m1 m2 true T k).1.toInt64 * p10 m + wW odds k1 k2 mm me m1 m2 m (k + 1) (F_q k1 k2 mm m1 m2 true T k).2)))) (fH (fO (nI SP) odds k1 k2 mm) me m1 m2 bh') := by
      intro bh1 w hs
      have hl1 : bh1.length = 9 := hs.1.trans hl
      have hT1 : bh1[k]? = some T := (hs.2 k (Nat.le_refl _)).trans hT
      by_cases c : 10 ≤ a
      · refine ⟨bh1, hs, ?_⟩
        rw [if_pos c]
        refine ev_go 2 (fun _ => rfl) ?_
        exact ev_ic_ge rfl rfl (fun _ => ev_end 2 rfl) (fun n => absurd c n)
      · rw [if_neg c]
        have hset : (bh1.set (k + 1) (F_q k1 k2 mm m1 m2 true T k).2)[k + 1]? = some (F_q k1 k2 mm m1 m2 true T k).2 := List.getElem?_set_self (by omega)
        have hs2 : sameU k (bh1.set (k + 1) (F_q k1 k2 mm m1 m2 true T k).2) bh := sameU_tr (sameU_set (by omega)) hs
        obtain ⟨bh', hs', hv'⟩ := ih (k + 1) (by omega) _ _ (by rw [List.length_set]; exact hl1) hset
        refine ⟨bh', sameU_tr (sameU_lo hs' (by omega)) hs2, ?_⟩
        refine ev_go 2 (fun _ => rfl) ?_
        refine ev_ic_ge rfl rfl (fun n => absurd n c) (fun _ => ?_)
        refine ev_go 3 (fun _ => rfl) ?_
        refine ev_call (d := d + (m + 1) + 3) (y' := 29) rfl rfl rfl rfl (sp_fpass xs (d + (m + 1)) odds k1 k2 mm me m1 m2 (nI SP) bh1 k true T (by omega) hl1 hT1 h1 h2) ?_
        refine ev_go 7 (st' := [.int (nI SP - nI k - Int32.ofInt 1), .long (F_q k1 k2 mm m1 m2 true T k).1.toInt64]) (fun _ => rfl) ?_
        rw [nI_sub1 hk]
        refine ev_call (d := d + (m + 1) + 3) (y' := 26) rfl rfl rfl rfl (sp_all10 xs _ _ m (by omega)) ?_
        refine ev_go 12 (st' := [.int (nI k + Int32.ofInt 1), .ref 0, .long ((F_q k1 k2 mm m1 m2 true T k).1.toInt64 * p10 m), .long (10 - a).toInt64, .long w]) (fun _ => rfl) ?_
        rw [nI_inc]
        refine ev_call (d := d + (m + 1) + 3) (y' := 31) rfl rfl rfl rfl (by rw [show d + (m + 1) + 3 = d + m + 4 by omega]; exact hv') ?_
        exact ev_end 6 rfl
    have half1 : ∀ bh1 w, Ev xs (d + (m + 1) + 4) 31 18 [some (.ref 0), some (.int (nI k)), some (.int a), some (.long 0), none, none, none] [] (fH (fO (nI SP) odds k1 k2 mm) me m1 m2 bh) w bh1 → Ev xs (d + (m + 1) + 4) 31 0 [some (.ref 0), some (.int (nI k)), none, none, none, none, none] [] (fH (fO (nI SP) odds k1 k2 mm) me m1 m2 bh) w bh1 := by
      intro bh1 w hv
      refine ev_go 3 (fun _ => rfl) ?_
      refine ev_ic_lt rfl rfl (fun _ => ?_) (fun n => absurd (nI_lt (by omega) (by omega)) n)
      refine ev_go 2 (fun _ => rfl) ?_
      refine ev_call (d := d + (m + 1) + 3) (y' := 28) rfl rfl rfl rfl (sp_apart xs _ odds k1 k2 mm me m1 m2 (nI SP) bh k (by omega) hme) ?_
      rw [ha]
      exact ev_go 3 (fun _ => rfl) hv
    have hstep : wW odds k1 k2 mm me m1 m2 (m + 1) k T = (if 10 ≤ a then (if a ≤ 0 then 0 else 0 + a.toInt64 * wW odds k1 k2 mm me m1 m2 m (k + 1) (F_q k1 k2 mm m1 m2 false T k).2) else (if a ≤ 0 then 0 else 0 + a.toInt64 * wW odds k1 k2 mm me m1 m2 m (k + 1) (F_q k1 k2 mm m1 m2 false T k).2) + (10 - a).toInt64 * ((F_q k1 k2 mm m1 m2 true T k).1.toInt64 * p10 m + wW odds k1 k2 mm me m1 m2 m (k + 1) (F_q k1 k2 mm m1 m2 true T k).2)) := by
      rw [← ha]
      rfl
    rw [hstep]
    by_cases c : a ≤ 0
    · rw [if_pos c]
      obtain ⟨bh', hs', hv'⟩ := half2 bh 0 sameU_rf
      refine ⟨bh', hs', half1 _ _ ?_⟩
      refine ev_go 1 (fun _ => rfl) ?_
      exact ev_if_le rfl rfl (fun _ => hv') (fun n => absurd c n)
    · rw [if_neg c]
      have hset : (bh.set (k + 1) (F_q k1 k2 mm m1 m2 false T k).2)[k + 1]? = some (F_q k1 k2 mm m1 m2 false T k).2 := List.getElem?_set_self (by omega)
      obtain ⟨bh1, hs1, hv1⟩ := ih (k + 1) (by omega) _ _ (by rw [List.length_set]; exact hl) hset
      have hs2 : sameU k bh1 bh := sameU_tr (sameU_lo hs1 (by omega)) (sameU_set (by omega))
      obtain ⟨bh', hs', hv'⟩ := half2 bh1 (0 + a.toInt64 * wW odds k1 k2 mm me m1 m2 m (k + 1) (F_q k1 k2 mm m1 m2 false T k).2) hs2
      refine ⟨bh', hs', half1 _ _ ?_⟩
      refine ev_go 1 (fun _ => rfl) ?_
      refine ev_if_le rfl rfl (fun n => absurd n c) (fun _ => ?_)
      refine ev_go 3 (fun _ => rfl) ?_
      refine ev_call (d := d + (m + 1) + 3) (y' := 29) rfl rfl rfl rfl (sp_fpass xs (d + (m + 1)) odds k1 k2 mm me m1 m2 (nI SP) bh k false T (by omega) hl hT h1 h2) ?_
      refine ev_go 8 (st' := [.int (nI k + Int32.ofInt 1), .ref 0, .long a.toInt64, .long 0]) (fun _ => rfl) ?_
      rw [nI_inc]
      refine ev_call (d := d + (m + 1) + 3) (y' := 31) rfl rfl rfl rfl (by rw [show d + (m + 1) + 3 = d + m + 4 by omega]; exact hv1) ?_
      exact ev_go 3 (fun _ => rfl) hv'
end FG3

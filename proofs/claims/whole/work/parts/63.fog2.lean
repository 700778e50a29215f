/-- rows that are the same up to k -/
def sameU (k : Nat) (a b : List TT) : Prop := a.length = b.length ∧ ∀ j, j ≤ k → a[j]? = b[j]?
theorem sameU_rf {k : Nat} {a : List TT} : sameU k a a := ⟨rfl, fun _ _ => rfl⟩
theorem sameU_tr {k : Nat} {a b c : List TT} (h1 : sameU k a b) (h2 : sameU k b c) : sameU k a c := ⟨h1.1.trans h2.1, fun j hj => (h1.2 j hj).trans (h2.2 j hj)⟩
theorem sameU_lo {k k' : Nat} {a b : List TT} (h : sameU k' a b) (hk : k ≤ k') : sameU k a b := ⟨h.1, fun j hj => h.2 j (by omega)⟩
theorem sameU_set {k t : Nat} {a : List TT} {T : TT} (h : k < t) : sameU k (a.set t T) a := ⟨List.length_set, fun j hj => List.getElem?_set_ne (by omega)⟩
section FG2
variable (xs : List Int32) (d : Nat) (odds k1 k2 mm : Int32) (me m1 m2 : List Int32) (SP : Nat)
theorem sp_wE (hSP : SP ≤ 8) (hme : me.length = 8) (h1 : m1.length = 8) (h2 : m2.length = 8) : ∀ m k, k + m = SP → ∀ (bh : List TT) (T : TT), bh.length = 9 → bh[k]? = some T → ∃ bh', sameU k bh' bh ∧ Ev xs (d + m + 4) 30 0 [some (.ref 0), some (.int (nI k)), none, none, none] [] (fH (fO (nI SP) odds k1 k2 mm) me m1 m2 bh) (some (.long (wE odds k1 k2 mm me m1 m2 m k T))) (fH (fO (nI SP) odds k1 k2 mm) me m1 m2 bh') := by
  intro m
  induction m with
  | zero =>
    intro k hk bh T hl hT
    refine ⟨bh, sameU_rf, ?_⟩
    have e : k = SP := by omega
    subst e
    refine ev_go 3 (fun _ => rfl) ?_
    exact ev_ic_lt rfl rfl (fun n => absurd n (nI_nlt (Nat.le_refl _) (by omega))) (fun _ => ev_end 2 rfl)
  | succ m ih =>
    intro k hk bh T hl hT
    have ix : mm_ix (nI k) = some k := mm_ix_nI (by omega)
    have ix1 : mm_ix (nI k + Int32.ofInt 1) = some (k + 1) := by rw [nI_inc]; exact mm_ix_nI (by omega)
    -- what the first half leaves
    generalize ha : F_ap me odds k = a
    have half2 : ∀ (bh1 : List TT) (w : Int64), sameU k bh1 bh → ∃ bh', sameU k bh' bh ∧ Ev xs (d + (m + 1) + 4) 30 42 [some (.ref 0), some (.int (nI k)), some (.int a), some (.long w), none] [] (fH (fO (nI SP) odds k1 k2 mm) me m1 m2 bh1) (some (.long (if 10 ≤ a then w else if (F_q k1 k2 mm m1 m2 true T k).2.2.2.2.2.2.2.2.2.1 = T.2.2.2.2.2.2.2.2.1 then w + (10 - a).toInt64 * wE odds k1 k2 mm me m1 m2 m (k + 1) (F_q k1 k2 mm m1 m2 true T k).2 else w))) (fH (fO (nI SP) odds k1 k2 mm) me m1 m2 bh') := by
      intro bh1 w hs
      have hl1 : bh1.length = 9 := hs.1.trans hl
      have hT1 : bh1[k]? = some T := (hs.2 k (Nat.le_refl _)).trans hT
      by_cases c : 10 ≤ a
      · refine ⟨bh1, hs, ?_⟩
        rw [if_pos c]
        refine ev_go 2 (fun _ => rfl) ?_
        exact ev_ic_ge rfl rfl (fun _ => ev_end 2 rfl) (fun n => absurd c n)
      · rw [if_neg c]
        have hset : (bh1.set (k + 1) (F_q k1 k2 mm m1 m2 true T k).2)[k + 1]? = some (F_q k1 k2 mm m1 m2 true T k).2 := List.getElem?_set_self (by omega)
        have hT2 : (bh1.set (k + 1) (F_q k1 k2 mm m1 m2 true T k).2)[k]? = some T := by rw [List.getElem?_set_ne (by omega)]; exact hT1
        have hs2 : sameU k (bh1.set (k + 1) (F_q k1 k2 mm m1 m2 true T k).2) bh := sameU_tr (sameU_set (by omega)) hs
        have pre : ∀ bh', (Ev xs (d + (m + 1) + 4) 30 75 [some (.ref 0), some (.int (nI k)), some (.int a), some (.long w), none] [.int T.2.2.2.2.2.2.2.2.1, .int (F_q k1 k2 mm m1 m2 true T k).2.2.2.2.2.2.2.2.2.1] (fH (fO (nI SP) odds k1 k2 mm) me m1 m2 (bh1.set (k + 1) (F_q k1 k2 mm m1 m2 true T k).2)) (some (.long (if (F_q k1 k2 mm m1 m2 true T k).2.2.2.2.2.2.2.2.2.1 = T.2.2.2.2.2.2.2.2.1 then w + (10 - a).toInt64 * wE odds k1 k2 mm me m1 m2 m (k + 1) (F_q k1 k2 mm m1 m2 true T k).2 else w))) (fH (fO (nI SP) odds k1 k2 mm) me m1 m2 bh')) → Ev xs (d + (m + 1) + 4) 30 42 [some (.ref 0), some (.int (nI k)), some (.int a), some (.long w), none] [] (fH (fO (nI SP) odds k1 k2 mm) me m1 m2 bh1) (some (.long (if (F_q k1 k2 mm m1 m2 true T k).2.2.2.2.2.2.2.2.2.1 = T.2.2.2.2.2.2.2.2.1 then w + (10 - a).toInt64 * wE odds k1 k2 mm me m1 m2 m (k + 1) (F_q k1 k2 mm m1 m2 true T k).2 else w))) (fH (fO (nI SP) odds k1 k2 mm) me m1 m2 bh') := by
          intro bh' hv
          refine ev_go 2 (fun _ => rfl) ?_
          refine ev_ic_ge rfl rfl (fun n => absurd n c) (fun _ => ?_)
          refine ev_go 3 (fun _ => rfl) ?_
          refine ev_call (d := d + (m + 1) + 3) (y' := 29) rfl rfl rfl rfl (sp_fpass xs (d + (m + 1)) odds k1 k2 mm me m1 m2 (nI SP) bh1 k true T (by omega) hl1 hT1 h1 h2) ?_
          refine ev_go 6 (fun _ => rfl) ?_
          refine ev_aald rfl rfl (by decide) ix1 (fR_at (by omega)) ?_
          refine ev_gfT rfl rfl (fH_tk hset) rfl ?_
          refine ev_go 3 (fun _ => rfl) ?_
          refine ev_aald rfl rfl (by decide) ix (fR_at (by omega)) ?_
          refine ev_gfT rfl rfl (fH_tk hT2) rfl ?_
          exact hv
        by_cases c2 : (F_q k1 k2 mm m1 m2 true T k).2.2.2.2.2.2.2.2.2.1 = T.2.2.2.2.2.2.2.2.1
        · obtain ⟨bh', hs', hv'⟩ := ih (k + 1) (by omega) _ _ (by rw [List.length_set]; exact hl1) hset
          refine ⟨bh', sameU_tr (sameU_lo hs' (by omega)) hs2, pre bh' ?_⟩
          rw [if_pos c2]
          refine ev_ic_ne rfl rfl (fun n => absurd c2 n) (fun _ => ?_)
          refine ev_go 9 (st' := [.int (nI k + Int32.ofInt 1), .ref 0, .long (10 - a).toInt64, .long w]) (fun _ => rfl) ?_
          rw [nI_inc]
          refine ev_call (d := d + (m + 1) + 3) (y' := 30) rfl rfl rfl rfl (by rw [show d + (m + 1) + 3 = d + m + 4 by omega]; exact hv') ?_
          exact ev_end 5 rfl
        · refine ⟨_, hs2, pre _ ?_⟩
          rw [if_neg c2]
          exact ev_ic_ne rfl rfl (fun _ => ev_end 2 rfl) (fun n => absurd c2 n)
    have half1 : ∀ bh1 w, Ev xs (d + (m + 1) + 4) 30 18 [some (.ref 0), some (.int (nI k)), some (.int a), some (.long 0), none] [] (fH (fO (nI SP) odds k1 k2 mm) me m1 m2 bh) w bh1 → Ev xs (d + (m + 1) + 4) 30 0 [some (.ref 0), some (.int (nI k)), none, none, none] [] (fH (fO (nI SP) odds k1 k2 mm) me m1 m2 bh) w bh1 := by
      intro bh1 w hv
      refine ev_go 3 (fun _ => rfl) ?_
      refine ev_ic_lt rfl rfl (fun _ => ?_) (fun n => absurd (nI_lt (by omega) (by omega)) n)
      refine ev_go 2 (fun _ => rfl) ?_
      refine ev_call (d := d + (m + 1) + 3) (y' := 28) rfl rfl rfl rfl (sp_apart xs _ odds k1 k2 mm me m1 m2 (nI SP) bh k (by omega) hme) ?_
      rw [ha]
      exact ev_go 3 (fun _ => rfl) hv
    have hstep : wE odds k1 k2 mm me m1 m2 (m + 1) k T = (if 10 ≤ a then (if a ≤ 0 then 0 else 0 + a.toInt64 * wE odds k1 k2 mm me m1 m2 m (k + 1) (F_q k1 k2 mm m1 m2 false T k).2) else if (F_q k1 k2 mm m1 m2 true T k).2.2.2.2.2.2.2.2.2.1 = T.2.2.2.2.2.2.2.2.1 then (if a ≤ 0 then 0 else 0 + a.toInt64 * wE odds k1 k2 mm me m1 m2 m (k + 1) (F_q k1 k2 mm m1 m2 false T k).2) + (10 - a).toInt64 * wE odds k1 k2 mm me m1 m2 m (k + 1) (F_q k1 k2 mm m1 m2 true T k).2 else (if a ≤ 0 then 0 else 0 + a.toInt64 * wE odds k1 k2 mm me m1 m2 m (k + 1) (F_q k1 k2 mm m1 m2 false T k).2)) := by
      rw [← ha]
      rfl
    rw [hstep]
    by_cases c : a ≤ 0
    · rw [if_pos c]
      obtain ⟨bh', hs', hv'⟩ := half2 bh 0 sameU_rf
      refine ⟨bh', hs', half1 _ _ ?_⟩
      refine ev_go 1 (fun _ => rfl) ?_
      exact ev_if_le rfl rfl (fun _ => hv') (fun n => absurd c n)
    · rw [if_neg c]
      have hset : (bh.set (k + 1) (F_q k1 k2 mm m1 m2 false T k).2)[k + 1]? = some (F_q k1 k2 mm m1 m2 false T k).2 := List.getElem?_set_self (by omega)
      obtain ⟨bh1, hs1, hv1⟩ := ih (k + 1) (by omega) _ _ (by rw [List.length_set]; exact hl) hset
      have hs2 : sameU k bh1 bh := sameU_tr (sameU_lo hs1 (by omega)) (sameU_set (by omega))
      obtain ⟨bh', hs', hv'⟩ := half2 bh1 (0 + a.toInt64 * wE odds k1 k2 mm me m1 m2 m (k + 1) (F_q k1 k2 mm m1 m2 false T k).2) hs2
      refine ⟨bh', hs', half1 _ _ ?_⟩
      refine ev_go 1 (fun _ => rfl) ?_
      refine ev_if_le rfl rfl (fun n => absurd n c) (fun _ => ?_)
      refine ev_go 3 (fun _ => rfl) ?_
      refine ev_call (d := d + (m + 1) + 3) (y' := 29) rfl rfl rfl rfl (sp_fpass xs (d + (m + 1)) odds k1 k2 mm me m1 m2 (nI SP) bh k false T (by omega) hl hT h1 h2) ?_
      refine ev_go 8 (st' := [.int (nI k + Int32.ofInt 1), .ref 0, .long a.toInt64, .long 0]) (fun _ => rfl) ?_
      rw [nI_inc]
      refine ev_call (d := d + (m + 1) + 3) (y' := 30) rfl rfl rfl rfl (by rw [show d + (m + 1) + 3 = d + m + 4 by omega]; exact hv1) ?_
      exact ev_go 3 (fun _ => rfl) hv'
end FG2

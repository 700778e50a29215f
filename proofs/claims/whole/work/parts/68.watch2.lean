section WT2
variable (xs : List Int32) (d : Nat) (len mem : Int32) (B TN : Nat) (sn : Int32) (kd pc sb st ss : List Int32) (s : KS) (k1 k2 mm odds span : Int32) (me m1 m2 : List Int32) (bh : List TT)
theorem sp_watch (SP t i j : Nat) (T : TT) (v : Int32) (hSP : SP ≤ 8) (hB : B ≤ 5) (hs : KOK TN s) (hkd : kd.length = 5) (hpc : pc.length = 5) (hw : 0 < 2 * len) (ht : t < 6) (hT : s.2.2[t]? = some T) (hi : i < 5) (hj : j < 5) (e1 : T.1 = nI i) (e2 : T.2.1 = nI j) (hbh : bh.length = 9) (l1 : me.length = 8) (l2 : m1.length = 8) (l3 : m2.length = 8) : Ev xs (d + 3) 27 0 [some (.ref 0), some (.ref 14), some (.int (nI t)), some (.int (nI SP)), some (.int v), none, none] [] (fH (fO span odds k1 k2 mm) me m1 m2 bh ++ bH 14 (kC len mem B TN sn kd pc sb st ss s)) none (fH (fO (nI SP) v (kd.getD i 0) (kd.getD j 0) mem) (up (wtM len B pc s (5 * i + j)) SP me) (up (wtN len B pc s i) SP m1) (up (wtN len B pc s j) SP m2) (bh.set 0 T) ++ bH 14 (kC len mem B TN sn kd pc sb st ss (mvI len B pc SP s))) := by
  have hrw : (kC len mem B TN sn kd pc sb st ss s).2.2.length = 6 := hs.2.2.2.2.2.1
  have hc : ∀ {o : MC} {a b c : List Int32} {q : List TT}, q.length = 9 → HasC (fH o a b c q ++ bH 14 (kC len mem B TN sn kd pc sb st ss s)) 14 (kC len mem B TN sn kd pc sb st ss s) := fun {o a b c q} hq => hasF (fH_len hq) hrw
  have htk : ∀ {o : MC} {a b c : List Int32} {q : List TT}, q.length = 9 → (fH o a b c q ++ bH 14 (kC len mem B TN sn kd pc sb st ss s))[14 + (12 + t)]? = some (tkc T) := fun {o a b c q} hq => ((hc hq).2 (12 + t) (by omega)).trans (bH_tk hT)
  have g0 : bh[0]? = some bh[0] := List.getElem?_eq_getElem (by omega)
  have hb2 : (bh.set 0 T).length = 9 := by rw [List.length_set]; exact hbh
  refine ev_go 1 (fun _ => rfl) ?_
  refine ev_gf rfl rfl ((hc hbh).2 0 (by decide)) rfl ?_
  refine ev_go 1 (fun _ => rfl) ?_
  refine ev_aald rfl ((hc hbh).2 4 (by decide)) (by decide) (mm_ix_nI (by omega)) (bR_at ht) ?_
  refine ev_go 6 (fun _ => rfl) ?_
  refine ev_callT2 (q := 5 + 0) (p := 14 + (12 + t)) rfl rfl rfl rfl (by omega) (fX_tk g0 hbh) (htk hbh) ?_
  rw [fX_set (by omega) hbh]
  refine ev_go 2 (fun _ => rfl) ?_
  refine ev_gf rfl rfl ((hc hb2).2 0 (by decide)) rfl ?_
  refine ev_go 1 (fun _ => rfl) ?_
  refine ev_gfT rfl rfl (htk hb2) rfl ?_
  rw [e1]
  refine ev_iald rfl ((hc hb2).2 1 (by decide)) (mm_ix_nI (by omega)) (getD_at (by show i < kd.length; omega)) ?_
  refine ev_go 3 (h1 := fH (fO span odds (kd.getD i 0) k2 mm) me m1 m2 (bh.set 0 T) ++ bH 14 (kC len mem B TN sn kd pc sb st ss s)) (fun _ => rfl) ?_
  refine ev_gf rfl rfl ((hc hb2).2 0 (by decide)) rfl ?_
  refine ev_go 1 (fun _ => rfl) ?_
  refine ev_gfT rfl rfl (htk hb2) rfl ?_
  rw [e2]
  refine ev_iald rfl ((hc hb2).2 1 (by decide)) (mm_ix_nI (by omega)) (getD_at (by show j < kd.length; omega)) ?_
  refine ev_go 3 (h1 := fH (fO span odds (kd.getD i 0) (kd.getD j 0) mm) me m1 m2 (bh.set 0 T) ++ bH 14 (kC len mem B TN sn kd pc sb st ss s)) (fun _ => rfl) ?_
  refine ev_gf rfl rfl ((hc hb2).2 0 (by decide)) rfl ?_
  have hmin : (if (8 : Int32) < nI SP then (8 : Int32) else nI SP) = nI SP := if_neg (by have := nI_nlt (a := 8) (b := SP) hSP (by decide); exact this)
  refine ev_go 5 (st' := [.int (if (8 : Int32) < nI SP then (8 : Int32) else nI SP), .ref 0]) (h1 := fH (fO span odds (kd.getD i 0) (kd.getD j 0) mem) me m1 m2 (bh.set 0 T) ++ bH 14 (kC len mem B TN sn kd pc sb st ss s)) (fun _ => rfl) ?_
  rw [hmin]
  refine ev_go 6 (ls' := [some (.ref 0), some (.ref 14), some (.int (nI t)), some (.int (nI SP)), some (.int v), some (.ref (14 + (12 + t))), some (.int (nI 0))]) (h1 := fH (fO (nI SP) v (kd.getD i 0) (kd.getD j 0) mem) me m1 m2 (bh.set 0 T) ++ bH 14 (kC len mem B TN sn kd pc sb st ss s)) (fun _ => rfl) ?_
  exact lp_watch xs d len mem B TN sn kd pc sb st ss s (kd.getD i 0) (kd.getD j 0) mem v me m1 m2 (bh.set 0 T) SP t i j T v (nI SP) hSP hB hs hpc hw ht hT hi hj e1 e2 hb2 l1 l2 l3 SP 0 (by omega)
end WT2

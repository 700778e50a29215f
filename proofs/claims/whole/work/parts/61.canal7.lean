section CPY
variable (xs : List Int32) (d : Nat) (len mem hour bg tn sn wd mg : Int32) (kd ph pc sb st ss pa pt mt ms : List Int32) (rw : List TT)
variable (len2 mem2 hour2 wd2 mg2 : Int32) (B T2 S : Nat) (kd2 ph2 pc2 sb2 st2 ss2 pa2 pt2 mt2 ms2 : List Int32) (rw2 : List TT)
theorem sp_copy (hB : B ≤ 5) (hT : T2 ≤ 6) (hS : S ≤ 6) (hrw : rw.length = 6) (hrw2 : rw2.length = 6) (a1 : kd.length = 5) (a2 : ph.length = 5) (a3 : pc.length = 5) (b1 : kd2.length = 5) (b2 : ph2.length = 5) (b3 : pc2.length = 5) (a4 : sb.length = 6) (a5 : st.length = 6) (a6 : ss.length = 6) (b4 : sb2.length = 6) (b5 : st2.length = 6) (b6 : ss2.length = 6) : Ev xs (d + 1) 2 0 [some (.ref 0), some (.ref 18), none] [] (cH (cO len mem hour bg tn sn wd mg) kd ph pc sb st ss pa pt mt ms rw ++ dH (dO len2 mem2 hour2 (nI B) (nI T2) (nI S) wd2 mg2) kd2 ph2 pc2 sb2 st2 ss2 pa2 pt2 mt2 ms2 rw2) none (cH (cO len2 mem2 hour2 (nI B) (nI T2) (nI S) wd mg) (cpI kd2 B kd) (cpI ph2 B ph) (cpI pc2 B pc) (cpI sb2 S sb) (cpI st2 S st) (cpI ss2 S ss) pa pt mt ms (cpT rw2 T2 rw) ++ dH (dO len2 mem2 hour2 (nI B) (nI T2) (nI S) wd2 mg2) kd2 ph2 pc2 sb2 st2 ss2 pa2 pt2 mt2 ms2 rw2) := by
  have l6 : (cpT rw2 T2 rw).length = 6 := (up_len (by omega)).trans hrw
  refine ev_go 2 (fun _ => rfl) ?_
  refine ev_gf rfl rfl (cX_at hrw 0) rfl ?_
  refine ev_go 3 (h1 := cH (cO len2 mem hour bg tn sn wd mg) kd ph pc sb st ss pa pt mt ms rw ++ dH (dO len2 mem2 hour2 (nI B) (nI T2) (nI S) wd2 mg2) kd2 ph2 pc2 sb2 st2 ss2 pa2 pt2 mt2 ms2 rw2) (fun _ => rfl) ?_
  refine ev_gf rfl rfl (cX_at hrw 0) rfl ?_
  refine ev_go 3 (h1 := cH (cO len2 mem2 hour bg tn sn wd mg) kd ph pc sb st ss pa pt mt ms rw ++ dH (dO len2 mem2 hour2 (nI B) (nI T2) (nI S) wd2 mg2) kd2 ph2 pc2 sb2 st2 ss2 pa2 pt2 mt2 ms2 rw2) (fun _ => rfl) ?_
  refine ev_gf rfl rfl (cX_at hrw 0) rfl ?_
  refine ev_go 3 (h1 := cH (cO len2 mem2 hour2 bg tn sn wd mg) kd ph pc sb st ss pa pt mt ms rw ++ dH (dO len2 mem2 hour2 (nI B) (nI T2) (nI S) wd2 mg2) kd2 ph2 pc2 sb2 st2 ss2 pa2 pt2 mt2 ms2 rw2) (fun _ => rfl) ?_
  refine ev_gf rfl rfl (cX_at hrw 0) rfl ?_
  refine ev_go 3 (h1 := cH (cO len2 mem2 hour2 (nI B) tn sn wd mg) kd ph pc sb st ss pa pt mt ms rw ++ dH (dO len2 mem2 hour2 (nI B) (nI T2) (nI S) wd2 mg2) kd2 ph2 pc2 sb2 st2 ss2 pa2 pt2 mt2 ms2 rw2) (fun _ => rfl) ?_
  refine lp_cp1 xs d len2 mem2 hour2 tn sn wd mg kd ph pc sb st ss pa pt mt ms rw len2 mem2 hour2 wd2 mg2 B kd2 ph2 pc2 sb2 st2 ss2 pa2 pt2 mt2 ms2 rw2 hB hrw a1 a2 a3 b1 b2 b3 (nI T2) (nI S) _ (fun z => ?_) B 0 (by omega)
  refine ev_go 2 (fun _ => rfl) ?_
  refine ev_gf rfl rfl (cX_at hrw 0) rfl ?_
  refine ev_go 3 (ls' := [some (.ref 0), some (.ref 18), some (.int (nI 0))]) (h1 := cH (cO len2 mem2 hour2 (nI B) (nI T2) sn wd mg) (cpI kd2 B kd) (cpI ph2 B ph) (cpI pc2 B pc) sb st ss pa pt mt ms rw ++ dH (dO len2 mem2 hour2 (nI B) (nI T2) (nI S) wd2 mg2) kd2 ph2 pc2 sb2 st2 ss2 pa2 pt2 mt2 ms2 rw2) (fun _ => rfl) ?_
  refine lp_cp2 xs d len2 mem2 hour2 (nI B) sn wd mg (cpI kd2 B kd) (cpI ph2 B ph) (cpI pc2 B pc) sb st ss pa pt mt ms rw len2 mem2 hour2 wd2 mg2 T2 kd2 ph2 pc2 sb2 st2 ss2 pa2 pt2 mt2 ms2 rw2 hT hrw2 (nI B) (nI S) _ (fun z2 => ?_) hrw T2 0 (by omega)
  refine ev_go 2 (fun _ => rfl) ?_
  refine ev_gf rfl rfl (cX_at l6 0) rfl ?_
  refine ev_go 3 (ls' := [some (.ref 0), some (.ref 18), some (.int (nI 0))]) (h1 := cH (cO len2 mem2 hour2 (nI B) (nI T2) (nI S) wd mg) (cpI kd2 B kd) (cpI ph2 B ph) (cpI pc2 B pc) sb st ss pa pt mt ms (cpT rw2 T2 rw) ++ dH (dO len2 mem2 hour2 (nI B) (nI T2) (nI S) wd2 mg2) kd2 ph2 pc2 sb2 st2 ss2 pa2 pt2 mt2 ms2 rw2) (fun _ => rfl) ?_
  exact lp_cp3 xs d len2 mem2 hour2 (nI B) (nI T2) wd mg (cpI kd2 B kd) (cpI ph2 B ph) (cpI pc2 B pc) sb st ss pa pt mt ms (cpT rw2 T2 rw) len2 mem2 hour2 wd2 mg2 S kd2 ph2 pc2 sb2 st2 ss2 pa2 pt2 mt2 ms2 rw2 hS l6 a4 a5 a6 b4 b5 b6 (nI B) (nI T2) S 0 (by omega)
end CPY

/-! Each call of both -/
theorem as0 {l : List Int32} (h : l.length = 0) : l = [] := List.eq_nil_of_length_eq_zero h
theorem as1 {l : List Int32} (h : l.length = 1) : ∃ a, l = [a] := by
  match l, h with
  | a :: t, h => exact ⟨a, by rw [as0 (Nat.succ.inj h)]⟩
theorem as2 {l : List Int32} (h : l.length = 2) : ∃ a b, l = [a, b] := by
  match l, h with
  | a :: t, h =>
    obtain ⟨b, e⟩ := as1 (Nat.succ.inj h)
    exact ⟨a, b, by rw [e]⟩
theorem as3 {l : List Int32} (h : l.length = 3) : ∃ a b c, l = [a, b, c] := by
  match l, h with
  | a :: t, h =>
    obtain ⟨b, c, e⟩ := as2 (Nat.succ.inj h)
    exact ⟨a, b, c, by rw [e]⟩
theorem as4 {l : List Int32} (h : l.length = 4) : ∃ a b c e, l = [a, b, c, e] := by
  match l, h with
  | a :: t, h =>
    obtain ⟨b, c, e, q⟩ := as3 (Nat.succ.inj h)
    exact ⟨a, b, c, e, by rw [q]⟩
theorem ok_58 : callOK 58 115 1 := by
  intro xs d hc hm as ha hI
  obtain ⟨now, trial, told, im0, im1, p, f, r, tr, z, Ks, I0, I1, nw, eb, wa, ms, mt, cc, B, TN, S, rfl, rfl, hC, ht, hd, ho, hR⟩ := hI
  obtain ⟨a1, rfl⟩ := as1 ha
  exact k_feed xs d a1 hC ht hd ho hR
theorem ok_59 : callOK 59 116 1 := by
  intro xs d hc hm as ha hI
  obtain ⟨now, trial, told, im0, im1, p, f, r, tr, z, Ks, I0, I1, nw, eb, wa, ms, mt, cc, B, TN, S, rfl, rfl, hC, ht, hd, ho, hR⟩ := hI
  obtain ⟨a1, rfl⟩ := as1 ha
  exact k_end xs d a1 hC ht hd ho hR
theorem ok_60 : callOK 60 128 0 := by
  intro xs d hc hm as ha hI
  obtain ⟨now, trial, told, im0, im1, p, f, r, tr, z, Ks, I0, I1, nw, eb, wa, ms, mt, cc, B, TN, S, rfl, rfl, hC, ht, hd, ho, hR⟩ := hI
  rw [as0 ha]
  exact k_text xs d hC ht hd ho hR
theorem ok_61 : callOK 61 129 0 := by
  intro xs d hc hm as ha hI
  obtain ⟨now, trial, told, im0, im1, p, f, r, tr, z, Ks, I0, I1, nw, eb, wa, ms, mt, cc, B, TN, S, rfl, rfl, hC, ht, hd, ho, hR⟩ := hI
  rw [as0 ha]
  exact k_fault xs d hC ht hd ho hR
theorem ok_62 : callOK 62 152 1 := by
  intro xs d hc hm as ha hI
  obtain ⟨now, trial, told, im0, im1, p, f, r, tr, z, Ks, I0, I1, nw, eb, wa, ms, mt, cc, B, TN, S, rfl, rfl, hC, ht, hd, ho, hR⟩ := hI
  obtain ⟨a1, rfl⟩ := as1 ha
  exact k_rule xs d a1 hC ht hd ho hR
theorem ok_63 : callOK 63 153 2 := by
  intro xs d hc hm as ha hI
  obtain ⟨now, trial, told, im0, im1, p, f, r, tr, z, Ks, I0, I1, nw, eb, wa, ms, mt, cc, B, TN, S, rfl, rfl, hC, ht, hd, ho, hR⟩ := hI
  obtain ⟨a1, a2, rfl⟩ := as2 ha
  exact k_barge xs d a1 a2 hC ht hd ho hR
theorem ok_64 : callOK 64 154 2 := by
  intro xs d hc hm as ha hI
  obtain ⟨now, trial, told, im0, im1, p, f, r, tr, z, Ks, I0, I1, nw, eb, wa, ms, mt, cc, B, TN, S, rfl, rfl, hC, ht, hd, ho, hR⟩ := hI
  obtain ⟨a1, a2, rfl⟩ := as2 ha
  exact k_talk xs d a1 a2 hC ht hd ho hR
theorem ok_65 : callOK 65 156 3 := by
  intro xs d hc hm as ha hI
  obtain ⟨now, trial, told, im0, im1, p, f, r, tr, z, Ks, I0, I1, nw, eb, wa, ms, mt, cc, B, TN, S, rfl, rfl, hC, ht, hd, ho, hR⟩ := hI
  obtain ⟨a1, a2, a3, rfl⟩ := as3 ha
  exact k_alter xs d a1 a2 a3 hC ht hd ho hR
theorem ok_66 : callOK 66 157 1 := by
  intro xs d hc hm as ha hI
  obtain ⟨now, trial, told, im0, im1, p, f, r, tr, z, Ks, I0, I1, nw, eb, wa, ms, mt, cc, B, TN, S, rfl, rfl, hC, ht, hd, ho, hR⟩ := hI
  obtain ⟨a1, rfl⟩ := as1 ha
  exact k_memory xs d a1 hC ht hd ho hR
theorem ok_67 : callOK 67 158 3 := by
  intro xs d hc hm as ha hI
  obtain ⟨now, trial, told, im0, im1, p, f, r, tr, z, Ks, I0, I1, nw, eb, wa, ms, mt, cc, B, TN, S, rfl, rfl, hC, ht, hd, ho, hR⟩ := hI
  obtain ⟨a1, a2, a3, rfl⟩ := as3 ha
  exact k_start xs d a1 a2 a3 hC ht hd ho hR
theorem ok_68 : callOK 68 159 1 := by
  intro xs d hc hm as ha hI
  obtain ⟨now, trial, told, im0, im1, p, f, r, tr, z, Ks, I0, I1, nw, eb, wa, ms, mt, cc, B, TN, S, rfl, rfl, hC, ht, hd, ho, hR⟩ := hI
  obtain ⟨a1, rfl⟩ := as1 ha
  exact k_cut xs d a1 hC ht hd ho hR
theorem ok_69 : callOK 69 160 1 := by
  intro xs d hc hm as ha hI
  obtain ⟨now, trial, told, im0, im1, p, f, r, tr, z, Ks, I0, I1, nw, eb, wa, ms, mt, cc, B, TN, S, rfl, rfl, hC, ht, hd, ho, hR⟩ := hI
  obtain ⟨a1, rfl⟩ := as1 ha
  exact k_say xs d a1 hC ht hd ho hR
theorem ok_70 : callOK 70 162 1 := by
  intro xs d hc hm as ha hI
  obtain ⟨now, trial, told, im0, im1, p, f, r, tr, z, Ks, I0, I1, nw, eb, wa, ms, mt, cc, B, TN, S, rfl, rfl, hC, ht, hd, ho, hR⟩ := hI
  obtain ⟨a1, rfl⟩ := as1 ha
  exact k_hours xs d a1 hC ht hd ho hR
theorem ok_71 : callOK 71 163 2 := by
  intro xs d hc hm as ha hI
  obtain ⟨now, trial, told, im0, im1, p, f, r, tr, z, Ks, I0, I1, nw, eb, wa, ms, mt, cc, B, TN, S, rfl, rfl, hC, ht, hd, ho, hR⟩ := hI
  obtain ⟨a1, a2, rfl⟩ := as2 ha
  exact k_runs xs d a1 a2 hC ht hd ho hR
theorem ok_72 : callOK 72 164 3 := by
  intro xs d hc hm as ha hI
  obtain ⟨now, trial, told, im0, im1, p, f, r, tr, z, Ks, I0, I1, nw, eb, wa, ms, mt, cc, B, TN, S, rfl, rfl, hC, ht, hd, ho, hR⟩ := hI
  obtain ⟨a1, a2, a3, rfl⟩ := as3 ha
  exact k_ahead xs d a1 a2 a3 hC ht hd ho hR
theorem ok_73 : callOK 73 165 2 := by
  intro xs d hc hm as ha hI
  obtain ⟨now, trial, told, im0, im1, p, f, r, tr, z, Ks, I0, I1, nw, eb, wa, ms, mt, cc, B, TN, S, rfl, rfl, hC, ht, hd, ho, hR⟩ := hI
  obtain ⟨a1, a2, rfl⟩ := as2 ha
  exact k_at xs d a1 a2 hC ht hd ho hR
theorem ok_74 : callOK 74 166 2 := by
  intro xs d hc hm as ha hI
  obtain ⟨now, trial, told, im0, im1, p, f, r, tr, z, Ks, I0, I1, nw, eb, wa, ms, mt, cc, B, TN, S, rfl, rfl, hC, ht, hd, ho, hR⟩ := hI
  obtain ⟨a1, a2, rfl⟩ := as2 ha
  exact k_when xs d a1 a2 hC ht hd ho hR
theorem ok_75 : callOK 75 167 0 := by
  intro xs d hc hm as ha hI
  obtain ⟨now, trial, told, im0, im1, p, f, r, tr, z, Ks, I0, I1, nw, eb, wa, ms, mt, cc, B, TN, S, rfl, rfl, hC, ht, hd, ho, hR⟩ := hI
  rw [as0 ha]
  exact k_again xs d hC ht hd ho hR
theorem ok_76 : callOK 76 172 4 := by
  intro xs d hc hm as ha hI
  obtain ⟨now, trial, told, im0, im1, p, f, r, tr, z, Ks, I0, I1, nw, eb, wa, ms, mt, cc, B, TN, S, rfl, rfl, hC, ht, hd, ho, hR⟩ := hI
  obtain ⟨a1, a2, a3, a4, rfl⟩ := as4 ha
  exact k_best xs d a1 a2 a3 a4 hC ht hd ho hR
theorem ok_77 : callOK 77 173 3 := by
  intro xs d hc hm as ha hI
  obtain ⟨now, trial, told, im0, im1, p, f, r, tr, z, Ks, I0, I1, nw, eb, wa, ms, mt, cc, B, TN, S, rfl, rfl, hC, ht, hd, ho, hR⟩ := hI
  obtain ⟨a1, a2, a3, rfl⟩ := as3 ha
  exact k_kind xs d a1 a2 a3 hC ht hd ho hR
theorem ok_78 : callOK 78 174 1 := by
  intro xs d hc hm as ha hI
  obtain ⟨now, trial, told, im0, im1, p, f, r, tr, z, Ks, I0, I1, nw, eb, wa, ms, mt, cc, B, TN, S, rfl, rfl, hC, ht, hd, ho, hR⟩ := hI
  obtain ⟨a1, rfl⟩ := as1 ha
  exact k_need xs d a1 hC ht hd ho hR
theorem ok_79 : callOK 79 175 2 := by
  intro xs d hc hm as ha hI
  obtain ⟨now, trial, told, im0, im1, p, f, r, tr, z, Ks, I0, I1, nw, eb, wa, ms, mt, cc, B, TN, S, rfl, rfl, hC, ht, hd, ho, hR⟩ := hI
  obtain ⟨a1, a2, rfl⟩ := as2 ha
  exact k_swap xs d a1 a2 hC ht hd ho hR
theorem ok_82 : callOK 82 181 3 := by
  intro xs d hc hm as ha hI
  obtain ⟨now, trial, told, im0, im1, p, f, r, tr, z, Ks, I0, I1, nw, eb, wa, ms, mt, cc, B, TN, S, rfl, rfl, hC, ht, hd, ho, hR⟩ := hI
  obtain ⟨a1, a2, a3, rfl⟩ := as3 ha
  exact k_see xs d a1 a2 a3 hC ht hd ho hR
theorem ok_83 : callOK 83 182 1 := by
  intro xs d hc hm as ha hI
  obtain ⟨now, trial, told, im0, im1, p, f, r, tr, z, Ks, I0, I1, nw, eb, wa, ms, mt, cc, B, TN, S, rfl, rfl, hC, ht, hd, ho, hR⟩ := hI
  obtain ⟨a1, rfl⟩ := as1 ha
  exact k_forget xs d a1 hC ht hd ho hR
theorem ok_84 : callOK 84 185 1 := by
  intro xs d hc hm as ha hI
  obtain ⟨now, trial, told, im0, im1, p, f, r, tr, z, Ks, I0, I1, nw, eb, wa, ms, mt, cc, B, TN, S, rfl, rfl, hC, ht, hd, ho, hR⟩ := hI
  obtain ⟨a1, rfl⟩ := as1 ha
  exact k_kinds xs d a1 hC ht hd ho hR
theorem ok_85 : callOK 85 186 1 := by
  intro xs d hc hm as ha hI
  obtain ⟨now, trial, told, im0, im1, p, f, r, tr, z, Ks, I0, I1, nw, eb, wa, ms, mt, cc, B, TN, S, rfl, rfl, hC, ht, hd, ho, hR⟩ := hI
  obtain ⟨a1, rfl⟩ := as1 ha
  exact k_paces xs d a1 hC ht hd ho hR
theorem ok_86 : callOK 86 188 2 := by
  intro xs d hc hm as ha hI
  obtain ⟨now, trial, told, im0, im1, p, f, r, tr, z, Ks, I0, I1, nw, eb, wa, ms, mt, cc, B, TN, S, rfl, rfl, hC, ht, hd, ho, hR⟩ := hI
  obtain ⟨a1, a2, rfl⟩ := as2 ha
  exact k_ask xs d a1 a2 hC ht hd ho hR
theorem ok_87 : callOK 87 189 3 := by
  intro xs d hc hm as ha hI
  obtain ⟨now, trial, told, im0, im1, p, f, r, tr, z, Ks, I0, I1, nw, eb, wa, ms, mt, cc, B, TN, S, rfl, rfl, hC, ht, hd, ho, hR⟩ := hI
  obtain ⟨a1, a2, a3, rfl⟩ := as3 ha
  exact k_drift xs d a1 a2 a3 hC ht hd ho hR
theorem ok_88 : callOK 88 191 1 := by
  intro xs d hc hm as ha hI
  obtain ⟨now, trial, told, im0, im1, p, f, r, tr, z, Ks, I0, I1, nw, eb, wa, ms, mt, cc, B, TN, S, rfl, rfl, hC, ht, hd, ho, hR⟩ := hI
  obtain ⟨a1, rfl⟩ := as1 ha
  exact k_keep xs d a1 hC ht hd ho hR
theorem ok_89 : callOK 89 192 1 := by
  intro xs d hc hm as ha hI
  obtain ⟨now, trial, told, im0, im1, p, f, r, tr, z, Ks, I0, I1, nw, eb, wa, ms, mt, cc, B, TN, S, rfl, rfl, hC, ht, hd, ho, hR⟩ := hI
  obtain ⟨a1, rfl⟩ := as1 ha
  exact k_back xs d a1 hC ht hd ho hR
theorem ok_90 : callOK 90 194 3 := by
  intro xs d hc hm as ha hI
  obtain ⟨now, trial, told, im0, im1, p, f, r, tr, z, Ks, I0, I1, nw, eb, wa, ms, mt, cc, B, TN, S, rfl, rfl, hC, ht, hd, ho, hR⟩ := hI
  obtain ⟨a1, a2, a3, rfl⟩ := as3 ha
  exact k_sheet xs d a1 a2 a3 hC ht hd ho hR
theorem ok_91 : callOK 91 195 3 := by
  intro xs d hc hm as ha hI
  obtain ⟨now, trial, told, im0, im1, p, f, r, tr, z, Ks, I0, I1, nw, eb, wa, ms, mt, cc, B, TN, S, rfl, rfl, hC, ht, hd, ho, hR⟩ := hI
  obtain ⟨a1, a2, a3, rfl⟩ := as3 ha
  exact k_lay xs d a1 a2 a3 hC ht hd ho hR
theorem ok_92 : callOK 92 196 4 := by
  intro xs d hc hm as ha hI
  obtain ⟨now, trial, told, im0, im1, p, f, r, tr, z, Ks, I0, I1, nw, eb, wa, ms, mt, cc, B, TN, S, rfl, rfl, hC, ht, hd, ho, hR⟩ := hI
  obtain ⟨a1, a2, a3, a4, rfl⟩ := as4 ha
  exact k_read xs d a1 a2 a3 a4 hC ht hd ho hR
theorem ok_93 : callOK 93 197 0 := by
  intro xs d hc hm as ha hI
  obtain ⟨now, trial, told, im0, im1, p, f, r, tr, z, Ks, I0, I1, nw, eb, wa, ms, mt, cc, B, TN, S, rfl, rfl, hC, ht, hd, ho, hR⟩ := hI
  rw [as0 ha]
  exact k_torn xs d hC ht hd ho hR
theorem ok_94 : callOK 94 198 1 := by
  intro xs d hc hm as ha hI
  obtain ⟨now, trial, told, im0, im1, p, f, r, tr, z, Ks, I0, I1, nw, eb, wa, ms, mt, cc, B, TN, S, rfl, rfl, hC, ht, hd, ho, hR⟩ := hI
  obtain ⟨a1, rfl⟩ := as1 ha
  exact k_count xs d a1 hC ht hd ho hR
theorem ok_80 : callOK 80 179 4 := by
  intro xs d hc hm as ha hI
  obtain ⟨now, trial, told, im0, im1, p, f, r, tr, z, Ks, I0, I1, nw, eb, wa, ms, mt, cc, B, TN, S, rfl, rfl, hC, ht, hd, ho, hR⟩ := hI
  obtain ⟨a1, a2, a3, a4, rfl⟩ := as4 ha
  exact k_luck xs d a1 a2 a3 a4 hC ht hd ho hR
theorem ok_81 : callOK 81 180 3 := by
  intro xs d hc hm as ha hI
  obtain ⟨now, trial, told, im0, im1, p, f, r, tr, z, Ks, I0, I1, nw, eb, wa, ms, mt, cc, B, TN, S, rfl, rfl, hC, ht, hd, ho, hR⟩ := hI
  obtain ⟨a1, a2, a3, rfl⟩ := as3 ha
  exact k_mean xs d a1 a2 a3 hC ht hd ho hR

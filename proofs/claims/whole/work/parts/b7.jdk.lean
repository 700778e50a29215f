/-! The JDK's String.length, String.charAt on the literals -/
def yS_len : MethodName := ⟨"java/lang/String", "length", "()I"⟩
def yS_cod : MethodName := ⟨"java/lang/String", "coder", "()B"⟩
def yS_cha : MethodName := ⟨"java/lang/String", "charAt", "(I)C"⟩
def yS_lat : MethodName := ⟨"java/lang/String", "isLatin1", "()Z"⟩
def yL_cha : MethodName := ⟨"java/lang/StringLatin1", "charAt", "([BI)C"⟩
def yS_chk : MethodName := ⟨"java/lang/String", "checkIndex", "(II)V"⟩
def yP_chk : MethodName := ⟨"jdk/internal/util/Preconditions", "checkIndex", "(IILjava/util/function/BiFunction;)I"⟩
abbrev cS_len : ByteArray := prog_10_method_54_code
abbrev cS_cod : ByteArray := prog_10_method_152_code
abbrev cS_cha : ByteArray := prog_10_method_56_code
abbrev cS_lat : ByteArray := prog_10_method_154_code
abbrev cL_cha : ByteArray := prog_11_method_2_code
abbrev cS_chk : ByteArray := prog_10_method_155_code
abbrev cP_chk : ByteArray := prog_13_method_11_code
def jw (y : MethodName) (c : ByteArray) (n : Nat) (r : Option FieldType) : List Cond := Cond.code y c n r :: TBw
theorem jg {y : MethodName} {c : ByteArray} {n : Nat} {r : Option FieldType} (h : Cond.code y c n r ∈ TBw) : GoodIn TBw (jw y c n r) := by
  intro w hw
  have : w ∈ TBw := by
    rcases List.mem_cons.mp hw with rfl | h2
    · exact h
    · exact h2
  exact ⟨this, good_of_word (TBw_good w this)⟩
set_option maxRecDepth 100000 in
theorem jm_S_len : lw_tbl[443]? = some (.code yS_len cS_len 1 (some .int)) := rfl
theorem jc_S_len : Cond.code yS_len cS_len 1 (some .int) ∈ TBw := List.mem_filter.mpr ⟨List.mem_of_getElem? jm_S_len, rfl⟩
set_option maxRecDepth 100000 in
theorem jm_S_cod : lw_tbl[447]? = some (.code yS_cod cS_cod 1 (some .byte)) := rfl
theorem jc_S_cod : Cond.code yS_cod cS_cod 1 (some .byte) ∈ TBw := List.mem_filter.mpr ⟨List.mem_of_getElem? jm_S_cod, rfl⟩
set_option maxRecDepth 100000 in
theorem jm_S_cha : lw_tbl[453]? = some (.code yS_cha cS_cha 2 (some .char)) := rfl
theorem jc_S_cha : Cond.code yS_cha cS_cha 2 (some .char) ∈ TBw := List.mem_filter.mpr ⟨List.mem_of_getElem? jm_S_cha, rfl⟩
set_option maxRecDepth 100000 in
theorem jm_S_lat : lw_tbl[457]? = some (.code yS_lat cS_lat 1 (some .boolean)) := rfl
theorem jc_S_lat : Cond.code yS_lat cS_lat 1 (some .boolean) ∈ TBw := List.mem_filter.mpr ⟨List.mem_of_getElem? jm_S_lat, rfl⟩
set_option maxRecDepth 100000 in
theorem jm_L_cha : lw_tbl[460]? = some (.code yL_cha cL_cha 2 (some .char)) := rfl
theorem jc_L_cha : Cond.code yL_cha cL_cha 2 (some .char) ∈ TBw := List.mem_filter.mpr ⟨List.mem_of_getElem? jm_L_cha, rfl⟩
set_option maxRecDepth 100000 in
theorem jm_S_chk : lw_tbl[463]? = some (.code yS_chk cS_chk 2 none) := rfl
theorem jc_S_chk : Cond.code yS_chk cS_chk 2 none ∈ TBw := List.mem_filter.mpr ⟨List.mem_of_getElem? jm_S_chk, rfl⟩
set_option maxRecDepth 100000 in
theorem jm_P_chk : lw_tbl[468]? = some (.code yP_chk cP_chk 3 (some .int)) := rfl
theorem jc_P_chk : Cond.code yP_chk cP_chk 3 (some .int) ∈ TBw := List.mem_filter.mpr ⟨List.mem_of_getElem? jm_P_chk, rfl⟩
theorem jl_len : Cond.methodLink "BargeTalks$Tape" 102 yS_len ∈ TBw := ck_in_ok (i := 440) (by decide +kernel)
theorem jn_len : Cond.instanceMethod yS_len ∈ TBw := ck_in_ok (i := 441) (by decide +kernel)
theorem je_len : Cond.selects "java/lang/String" yS_len yS_len ∈ TBw := ck_in_ok (i := 442) (by decide +kernel)
theorem jl_cod : Cond.methodLink "java/lang/String" 335 yS_cod ∈ TBw := ck_in_ok (i := 444) (by decide +kernel)
theorem jn_cod : Cond.instanceMethod yS_cod ∈ TBw := ck_in_ok (i := 445) (by decide +kernel)
theorem je_cod : Cond.selects "java/lang/String" yS_cod yS_cod ∈ TBw := ck_in_ok (i := 446) (by decide +kernel)
theorem jf_cmp : Cond.fieldLink "java/lang/String" 38 "java/lang/String" "COMPACT_STRINGS" "Z" ∈ TBw := ck_in_ok (i := 448) (by decide +kernel)
theorem jl_cha : Cond.methodLink "BargeTalks$Tape" 106 yS_cha ∈ TBw := ck_in_ok (i := 450) (by decide +kernel)
theorem jn_cha : Cond.instanceMethod yS_cha ∈ TBw := ck_in_ok (i := 451) (by decide +kernel)
theorem je_cha : Cond.selects "java/lang/String" yS_cha yS_cha ∈ TBw := ck_in_ok (i := 452) (by decide +kernel)
theorem jl_lat : Cond.methodLink "java/lang/String" 492 yS_lat ∈ TBw := ck_in_ok (i := 454) (by decide +kernel)
theorem jn_lat : Cond.instanceMethod yS_lat ∈ TBw := ck_in_ok (i := 455) (by decide +kernel)
theorem je_lat : Cond.selects "java/lang/String" yS_lat yS_lat ∈ TBw := ck_in_ok (i := 456) (by decide +kernel)
theorem jl_lch : Cond.methodLink "java/lang/String" 495 yL_cha ∈ TBw := ck_in_ok (i := 458) (by decide +kernel)
theorem js_lch : Cond.static yL_cha ∈ TBw := ck_in_ok (i := 459) (by decide +kernel)
theorem jl_chk : Cond.methodLink "java/lang/StringLatin1" 9 yS_chk ∈ TBw := ck_in_ok (i := 461) (by decide +kernel)
theorem js_chk : Cond.static yS_chk ∈ TBw := ck_in_ok (i := 462) (by decide +kernel)
theorem jf_sio : Cond.fieldLink "java/lang/String" 1053 "jdk/internal/util/Preconditions" "SIOOBE_FORMATTER" "Ljava/util/function/BiFunction;" ∈ TBw := ck_in_ok (i := 464) (by decide +kernel)
theorem jl_pch : Cond.methodLink "java/lang/String" 1059 yP_chk ∈ TBw := ck_in_ok (i := 466) (by decide +kernel)
theorem js_pch : Cond.static yP_chk ∈ TBw := ck_in_ok (i := 467) (by decide +kernel)
theorem jf_val : Cond.fieldLink "java/lang/String" 9 "java/lang/String" "value" "[B" ∈ TBw := ck_in_ok (i := 1387) (by decide +kernel)
theorem jf_coz : Cond.fieldLink "java/lang/String" 15 "java/lang/String" "coder" "B" ∈ TBw := ck_in_ok (i := 1388) (by decide +kernel)
theorem ji_S : Cond.initialized "java/lang/String" ∈ TBw := ck_in_ok (i := 114) (by decide +kernel)
theorem ji_L : Cond.initialized "java/lang/StringLatin1" ∈ TBw := ck_in_ok (i := 115) (by decide +kernel)
theorem ji_P : Cond.initialized "jdk/internal/util/Preconditions" ∈ TBw := ck_in_ok (i := 116) (by decide +kernel)
theorem dS_cod_0 : decode cS_cod 0 = .ok (.getstatic 38, 3) := by decide +kernel
theorem dS_cod_3 : decode cS_cod 3 = .ok (.ifCond .eq 10, 3) := by decide +kernel
theorem dS_cod_6 : decode cS_cod 6 = .ok (.aload_n 0, 1) := by decide +kernel
theorem dS_cod_7 : decode cS_cod 7 = .ok (.getfield 15, 3) := by decide +kernel
theorem dS_cod_10 : decode cS_cod 10 = .ok (.goto 4, 3) := by decide +kernel
theorem dS_cod_14 : decode cS_cod 14 = .ok (.ireturn, 1) := by decide +kernel
theorem dS_lat_0 : decode cS_lat 0 = .ok (.getstatic 38, 3) := by decide +kernel
theorem dS_lat_3 : decode cS_lat 3 = .ok (.ifCond .eq 14, 3) := by decide +kernel
theorem dS_lat_6 : decode cS_lat 6 = .ok (.aload_n 0, 1) := by decide +kernel
theorem dS_lat_7 : decode cS_lat 7 = .ok (.getfield 15, 3) := by decide +kernel
theorem dS_lat_10 : decode cS_lat 10 = .ok (.ifCond .ne 7, 3) := by decide +kernel
theorem dS_lat_13 : decode cS_lat 13 = .ok (.iconst 1, 1) := by decide +kernel
theorem dS_lat_14 : decode cS_lat 14 = .ok (.goto 4, 3) := by decide +kernel
theorem dS_lat_18 : decode cS_lat 18 = .ok (.ireturn, 1) := by decide +kernel
theorem dS_len_0 : decode cS_len 0 = .ok (.aload_n 0, 1) := by decide +kernel
theorem dS_len_1 : decode cS_len 1 = .ok (.getfield 9, 3) := by decide +kernel
theorem dS_len_4 : decode cS_len 4 = .ok (.arraylength, 1) := by decide +kernel
theorem dS_len_5 : decode cS_len 5 = .ok (.aload_n 0, 1) := by decide +kernel
theorem dS_len_6 : decode cS_len 6 = .ok (.invokevirtual 335, 3) := by decide +kernel
theorem dS_len_9 : decode cS_len 9 = .ok (.ishr, 1) := by decide +kernel
theorem dS_len_10 : decode cS_len 10 = .ok (.ireturn, 1) := by decide +kernel
theorem dP_chk_0 : decode cP_chk 0 = .ok (.iload_n 0, 1) := by decide +kernel
theorem dP_chk_1 : decode cP_chk 1 = .ok (.ifCond .lt 8, 3) := by decide +kernel
theorem dP_chk_4 : decode cP_chk 4 = .ok (.iload_n 0, 1) := by decide +kernel
theorem dP_chk_5 : decode cP_chk 5 = .ok (.iload_n 1, 1) := by decide +kernel
theorem dP_chk_6 : decode cP_chk 6 = .ok (.if_icmp .lt 10, 3) := by decide +kernel
theorem dP_chk_16 : decode cP_chk 16 = .ok (.iload_n 0, 1) := by decide +kernel
theorem dP_chk_17 : decode cP_chk 17 = .ok (.ireturn, 1) := by decide +kernel
theorem dS_chk_0 : decode cS_chk 0 = .ok (.iload_n 0, 1) := by decide +kernel
theorem dS_chk_1 : decode cS_chk 1 = .ok (.iload_n 1, 1) := by decide +kernel
theorem dS_chk_2 : decode cS_chk 2 = .ok (.getstatic 1053, 3) := by decide +kernel
theorem dS_chk_5 : decode cS_chk 5 = .ok (.invokestatic 1059, 3) := by decide +kernel
theorem dS_chk_8 : decode cS_chk 8 = .ok (.pop, 1) := by decide +kernel
theorem dS_chk_9 : decode cS_chk 9 = .ok (.return_, 1) := by decide +kernel
theorem dL_cha_0 : decode cL_cha 0 = .ok (.iload_n 1, 1) := by decide +kernel
theorem dL_cha_1 : decode cL_cha 1 = .ok (.aload_n 0, 1) := by decide +kernel
theorem dL_cha_2 : decode cL_cha 2 = .ok (.arraylength, 1) := by decide +kernel
theorem dL_cha_3 : decode cL_cha 3 = .ok (.invokestatic 9, 3) := by decide +kernel
theorem dL_cha_6 : decode cL_cha 6 = .ok (.aload_n 0, 1) := by decide +kernel
theorem dL_cha_7 : decode cL_cha 7 = .ok (.iload_n 1, 1) := by decide +kernel
theorem dL_cha_8 : decode cL_cha 8 = .ok (.baload, 1) := by decide +kernel
theorem dL_cha_9 : decode cL_cha 9 = .ok (.sipush 255, 3) := by decide +kernel
theorem dL_cha_12 : decode cL_cha 12 = .ok (.iand, 1) := by decide +kernel
theorem dL_cha_13 : decode cL_cha 13 = .ok (.i2c, 1) := by decide +kernel
theorem dL_cha_14 : decode cL_cha 14 = .ok (.ireturn, 1) := by decide +kernel
theorem dS_cha_0 : decode cS_cha 0 = .ok (.aload_n 0, 1) := by decide +kernel
theorem dS_cha_1 : decode cS_cha 1 = .ok (.invokevirtual 492, 3) := by decide +kernel
theorem dS_cha_4 : decode cS_cha 4 = .ok (.ifCond .eq 12, 3) := by decide +kernel
theorem dS_cha_7 : decode cS_cha 7 = .ok (.aload_n 0, 1) := by decide +kernel
theorem dS_cha_8 : decode cS_cha 8 = .ok (.getfield 9, 3) := by decide +kernel
theorem dS_cha_11 : decode cS_cha 11 = .ok (.iload_n 1, 1) := by decide +kernel
theorem dS_cha_12 : decode cS_cha 12 = .ok (.invokestatic 495, 3) := by decide +kernel
theorem dS_cha_15 : decode cS_cha 15 = .ok (.ireturn, 1) := by decide +kernel
/-- what a state keeps of the start; what the start says of the literals -/
def js_St (s00 : State) (lo : Nat) (U : State) : Prop := lo ≤ U.heap.size ∧ (∀ q : Nat, q < lo → U.heap[q]? = s00.heap[q]?) ∧ s00.vm.Alike U.vm
def jlen : List Nat := [5, 5, 3, 4, 3, 6, 4]
def jF (lo : Nat) (adK adV : Nat → Nat) (A : Nat → Prop) (U : State) : Prop := vk_S 7 jlen mt_tx adK adV A U U.heap ∧ va_Z "java/lang/String" "COMPACT_STRINGS" "Z" (.int 1) A U U.heap ∧ va_Zq "jdk/internal/util/Preconditions" "SIOOBE_FORMATTER" "Ljava/util/function/BiFunction;" A U U.heap
theorem jF_at {s00 U : State} {lo : Nat} {adK adV : Nat → Nat} (hF : jF lo adK adV (fun q => lo ≤ q) s00) (hU : js_St s00 lo U) : jF lo adK adV (fun _ => False) U := by
  obtain ⟨h1, h2, h3⟩ := hF
  have hq : ∀ a : Nat, a < s00.heap.size → ¬ lo ≤ a → U.heap[a]? = s00.heap[a]? := fun a _ h => hU.2.1 a (Nat.not_le.mp h)
  exact ⟨((vk_S.moved hU.2.2 h1).kept hq).narrow (fun _ h => h.elim), ((va_Z.moved hU.2.2 h2).kept hq).narrow (fun _ h => h.elim), ((va_Zq.moved hU.2.2 h3).kept hq).narrow (fun _ h => h.elim)⟩
theorem js_of {s00 s U : State} {lo : Nat} (hSt : js_St s00 lo s) (hU : U.heap = s.heap) (hW : s.WarmedH U.vm) : js_St s00 lo U := ⟨by rw [hU]; exact hSt.1, fun q hq => by rw [hU]; exact hSt.2.1 q hq, hSt.2.2.trans hW.alike⟩
theorem js_blind {s00 : State} {lo : Nat} {vs : List Value} : FrameBlind (va_Pc vs (js_St s00 lo)) := fun a U g mk q => ⟨q.1, q.2.1, q.2.2.1, q.2.2.2⟩
def jQ (r : Option Value) : Array Value → State → Outcome → State → Prop := fun _ st oc t => oc = .returned r ∧ t.heap = st.heap
theorem js_call {p : Program} {l : Launch} {e : Env} {R : Room} {s : State} {m : MethodId} {args : Array Value} {below : List Frame} {meth : Method} {c : Code} {H : Heap} {locs : List Loc} {cells slots : Nat} {Q : State → Prop} {pc : Nat} {ls : Array Slot} {rest st0 : List Value} {a : Array Value} {r : Option Value} (hr : va_Run p l e R s m args below meth c H locs cells slots 0 0 (F0 m pc ls st0) rest (jQ r a) (fun _ => False)) (kk : W p l e R s m args below meth c H locs cells slots Q (F0 m (pc + 3) ls (r.toList ++ rest))) : W p l e R s m args below meth c H locs cells slots Q (F0 m pc ls st0) := by
  intro T hT X
  obtain ⟨v, st₀, t, T', L, h0, X', hL, e1, e2, ⟨hv, hh⟩, st⟩ := hr T hT X
  cases hv
  have hL0 : L = [] := by
    cases L with
    | nil => rfl
    | cons q L => exact (hL q List.mem_cons_self).elim
  subst hL0
  rw [List.append_nil] at X'
  obtain ⟨t2, a1, b1⟩ := kk T' (by rw [e1, hh, h0]) X'
  exact ⟨t2, st t2 a1, b1⟩
section JS
variable {l : Launch} {s00 : State} {lo : Nat} {adK adV : Nat → Nat}
set_option maxHeartbeats 4000000 in
theorem c_S_cod (hF : jF lo adK adV (fun q => lo ≤ q) s00) {i : Nat} (hi : i < 7) : Met l yS_cod (jw yS_cod cS_cod 1 (some .byte)) (mm_rm 0) (va_Pc [.ref (adK i)] (js_St s00 lo)) (jQ (some (.int 0))) 0 0 (fun _ => False) := by
  refine Met.ofW (cc := cS_cod) (maxL := 1) (ret := (some .byte)) (by decide) rfl ?_
  intro p e s m args below meth c s₁ B hml hv
  obtain ⟨rfl, hSt⟩ := hv
  have hx := B.exec
  have hb := B.bytes
  have hr := B.returns
  have htb : ∀ w ∈ TBw, w.before _ s = true := fun w hw => atoms_spec (ws := jw yS_cod cS_cod 1 (some .byte)) B.pre w (List.mem_cons_of_mem _ hw)
  have hown : s.vm.findClass "java/lang/String" = some m.cls := findClass_of_methodNamed B.named
  have hlocks := B.notSynchronized
  obtain ⟨hS7, hZ, hQ⟩ := jF_at hF hSt
  have hS : va_S (fun _ => False) s.heap s.heap [] := va_S.rf
  have hl := lv_entry [.ref (adK i)] (n := 1) (Nat.le_of_ble_eq_true rfl)
  rw [lg_entry_eq]
  generalize (lg_sl [.ref (adK i)] ++ List.replicate (1 - (lg_sl [.ref (adK i)]).length) Slot.unset).toArray = ls at hl ⊢
  have hl : lv_has ls 1 [(0, .ref (adK i))] := hl
  refine va_gets hx hb hZ hS hown (htb _ jf_cmp) (fun _ h => h) dS_cod_0 ?_
  refine lv_if_eq hx hb dS_cod_3 (tgt := 13) rfl (fun q => absurd q (by decide)) (fun _ => ?_)
  refine lv_aload_n hx hb dS_cod_6 rfl (lv_at hl 0 rfl) ?_
  refine vk_getf hx hb (hS7.1 i hi).2.1 hS hown (htb _ jf_coz) (fun _ h => h) dS_cod_7 ?_
  refine lv_goto hx hb dS_cod_10 (tgt := 14) rfl ?_
  exact W.zret (v := 0) hx hb hr rfl (fun t ht hW => ⟨rfl, ht⟩) (fun q hq => by cases hq) dS_cod_14
set_option maxHeartbeats 4000000 in
theorem c_S_lat (hF : jF lo adK adV (fun q => lo ≤ q) s00) {i : Nat} (hi : i < 7) : Met l yS_lat (jw yS_lat cS_lat 1 (some .boolean)) (mm_rm 0) (va_Pc [.ref (adK i)] (js_St s00 lo)) (jQ (some (.int 1))) 0 0 (fun _ => False) := by
  refine Met.ofW (cc := cS_lat) (maxL := 1) (ret := (some .boolean)) (by decide) rfl ?_
  intro p e s m args below meth c s₁ B hml hv
  obtain ⟨rfl, hSt⟩ := hv
  have hx := B.exec
  have hb := B.bytes
  have hr := B.returns
  have htb : ∀ w ∈ TBw, w.before _ s = true := fun w hw => atoms_spec (ws := jw yS_lat cS_lat 1 (some .boolean)) B.pre w (List.mem_cons_of_mem _ hw)
  have hown : s.vm.findClass "java/lang/String" = some m.cls := findClass_of_methodNamed B.named
  have hlocks := B.notSynchronized
  obtain ⟨hS7, hZ, hQ⟩ := jF_at hF hSt
  have hS : va_S (fun _ => False) s.heap s.heap [] := va_S.rf
  have hl := lv_entry [.ref (adK i)] (n := 1) (Nat.le_of_ble_eq_true rfl)
  rw [lg_entry_eq]
  generalize (lg_sl [.ref (adK i)] ++ List.replicate (1 - (lg_sl [.ref (adK i)]).length) Slot.unset).toArray = ls at hl ⊢
  have hl : lv_has ls 1 [(0, .ref (adK i))] := hl
  refine va_gets hx hb hZ hS hown (htb _ jf_cmp) (fun _ h => h) dS_lat_0 ?_
  refine lv_if_eq hx hb dS_lat_3 (tgt := 17) rfl (fun q => absurd q (by decide)) (fun _ => ?_)
  refine lv_aload_n hx hb dS_lat_6 rfl (lv_at hl 0 rfl) ?_
  refine vk_getf hx hb (hS7.1 i hi).2.1 hS hown (htb _ jf_coz) (fun _ h => h) dS_lat_7 ?_
  refine lv_if_ne hx hb dS_lat_10 (tgt := 17) rfl (fun q => absurd rfl q) (fun _ => ?_)
  refine lv_iconst (v := 1) hx hb dS_lat_13 (by decide) ?_
  refine lv_goto hx hb dS_lat_14 (tgt := 18) rfl ?_
  exact W.zret (v := 1) hx hb hr rfl (fun t ht hW => ⟨rfl, ht⟩) (fun q hq => by cases hq) dS_lat_18
theorem jl_sh : ∀ i : Fin 7, nI (jlen.getD i.val 0) >>> ((0 : Int32) &&& 31) = nI (jlen.getD i.val 0) := by decide
set_option maxHeartbeats 4000000 in
theorem c_S_len (hF : jF lo adK adV (fun q => lo ≤ q) s00) {i : Nat} (hi : i < 7) : Met l yS_len (jw yS_len cS_len 1 (some .int)) (mm_rm 1) (va_Pc [.ref (adK i)] (js_St s00 lo)) (jQ (some (.int (nI (jlen.getD i 0))))) 0 0 (fun _ => False) := by
  refine Met.ofW (cc := cS_len) (maxL := 1) (ret := (some .int)) (by decide) rfl ?_
  intro p e s m args below meth c s₁ B hml hv
  obtain ⟨rfl, hSt⟩ := hv
  have hx := B.exec
  have hb := B.bytes
  have hr := B.returns
  have htb : ∀ w ∈ TBw, w.before _ s = true := fun w hw => atoms_spec (ws := jw yS_len cS_len 1 (some .int)) B.pre w (List.mem_cons_of_mem _ hw)
  have hown : s.vm.findClass "java/lang/String" = some m.cls := findClass_of_methodNamed B.named
  have hlocks := B.notSynchronized
  obtain ⟨hS7, hZ, hQ⟩ := jF_at hF hSt
  have hS : va_S (fun _ => False) s.heap s.heap [] := va_S.rf
  have hl := lv_entry [.ref (adK i)] (n := 1) (Nat.le_of_ble_eq_true rfl)
  rw [lg_entry_eq]
  generalize (lg_sl [.ref (adK i)] ++ List.replicate (1 - (lg_sl [.ref (adK i)]).length) Slot.unset).toArray = ls at hl ⊢
  have hl : lv_has ls 1 [(0, .ref (adK i))] := hl
  refine lv_aload_n hx hb dS_len_0 rfl (lv_at hl 0 rfl) ?_
  refine vk_getf hx hb (hS7.1 i hi).2.2.1 hS hown (htb _ jf_val) (fun _ h => h) dS_len_1 ?_
  refine va_tlen hx hb (hS7.1 i hi).2.2.2 hS (v := nI (jlen.getD i 0)) rfl dS_len_4 ?_
  refine lv_aload_n hx hb dS_len_5 rfl (lv_at hl 0 rfl) ?_
  refine js_call (va_runV (As := []) (rest := [.int (nI (jlen.getD i 0))]) (C := "java/lang/String") (bytes := cS_cod) (maxL := 1) (ret := (some .byte)) ⟨hx, hb, hml, hown, htb⟩ (c_S_cod hF hi) ⟨callB_of 0 htb (jg jc_S_cod) rfl rfl rfl (htb _ ji_S) (htb _ jl_cod) ⟨by decide, by decide, by decide +kernel⟩ ⟨Nat.le_of_ble_eq_true rfl, Nat.le_of_ble_eq_true rfl⟩, htb _ jn_cod, htb _ je_cod⟩ ⟨js_blind, vk_recv hS7 hi hS, fun U hU hW => ⟨rfl, js_of hSt hU hW⟩⟩ rfl rfl hl.1 rfl (lv_room (Nat.le_of_ble_eq_true rfl)) dS_len_6 ⟨Nat.zero_le _, Nat.zero_le _⟩) ?_
  refine W.eq (g2 := F0 m 9 ls [.int 0, .int (nI (jlen.getD i 0))]) rfl ?_
  refine lv_ishr hx hb dS_len_9 ?_
  rw [jl_sh ⟨i, hi⟩]
  exact W.iret hx hb hr (fun t ht hW => ⟨rfl, ht⟩) (fun q hq => by cases hq) dS_len_10
set_option maxHeartbeats 4000000 in
theorem c_P_chkn {k N : Nat} (hk : k < N) (hN : N < 2 ^ 31) : Met l yP_chk (jw yP_chk cP_chk 3 (some .int)) (mm_rm 0) (va_Pc [.int (nI k), .int (nI N), .null] (js_St s00 lo)) (jQ (some (.int (nI k)))) 0 0 (fun _ => False) := by
  refine Met.ofW (cc := cP_chk) (maxL := 3) (ret := (some .int)) (by decide) rfl ?_
  intro p e s m args below meth c s₁ B hml hv
  obtain ⟨rfl, hSt⟩ := hv
  have hx := B.exec
  have hb := B.bytes
  have hr := B.returns
  have htb : ∀ w ∈ TBw, w.before _ s = true := fun w hw => atoms_spec (ws := jw yP_chk cP_chk 3 (some .int)) B.pre w (List.mem_cons_of_mem _ hw)
  have hown : s.vm.findClass "jdk/internal/util/Preconditions" = some m.cls := findClass_of_methodNamed B.named
  have hlocks := B.notSynchronized
  have hS : va_S (fun _ => False) s.heap s.heap [] := va_S.rf
  have hl := lv_entry [.int (nI k), .int (nI N), .null] (n := 3) (Nat.le_of_ble_eq_true rfl)
  rw [lg_entry_eq]
  generalize (lg_sl [.int (nI k), .int (nI N), .null] ++ List.replicate (3 - (lg_sl [.int (nI k), .int (nI N), .null]).length) Slot.unset).toArray = ls at hl ⊢
  have hl : lv_has ls 3 [(0, .int (nI k)), (1, .int (nI N)), (2, .null)] := hl
  refine lv_iload_n hx hb dP_chk_0 rfl (lv_at hl 0 rfl) ?_
  refine lv_if_lt hx hb dP_chk_1 (tgt := 9) rfl (fun q => absurd q (nI_pos (by omega))) (fun _ => ?_)
  refine lv_iload_n hx hb dP_chk_4 rfl (lv_at hl 0 rfl) ?_
  refine lv_iload_n hx hb dP_chk_5 rfl (lv_at hl 1 rfl) ?_
  refine lv_icmp_lt hx hb dP_chk_6 (tgt := 16) rfl (fun _ => ?_) (fun q => absurd (nI_lt hk hN) q)
  refine lv_iload_n hx hb dP_chk_16 rfl (lv_at hl 0 rfl) ?_
  exact W.iret hx hb hr (fun t ht hW => ⟨rfl, ht⟩) (fun q hq => by cases hq) dP_chk_17
set_option maxHeartbeats 4000000 in
theorem c_P_chkr {k N : Nat} (hk : k < N) (hN : N < 2 ^ 31) (t : Nat) : Met l yP_chk (jw yP_chk cP_chk 3 (some .int)) (mm_rm 0) (va_Pc [.int (nI k), .int (nI N), .ref t] (js_St s00 lo)) (jQ (some (.int (nI k)))) 0 0 (fun _ => False) := by
  refine Met.ofW (cc := cP_chk) (maxL := 3) (ret := (some .int)) (by decide) rfl ?_
  intro p e s m args below meth c s₁ B hml hv
  obtain ⟨rfl, hSt⟩ := hv
  have hx := B.exec
  have hb := B.bytes
  have hr := B.returns
  have htb : ∀ w ∈ TBw, w.before _ s = true := fun w hw => atoms_spec (ws := jw yP_chk cP_chk 3 (some .int)) B.pre w (List.mem_cons_of_mem _ hw)
  have hown : s.vm.findClass "jdk/internal/util/Preconditions" = some m.cls := findClass_of_methodNamed B.named
  have hlocks := B.notSynchronized
  have hS : va_S (fun _ => False) s.heap s.heap [] := va_S.rf
  have hl := lv_entry [.int (nI k), .int (nI N), .ref t] (n := 3) (Nat.le_of_ble_eq_true rfl)
  rw [lg_entry_eq]
  generalize (lg_sl [.int (nI k), .int (nI N), .ref t] ++ List.replicate (3 - (lg_sl [.int (nI k), .int (nI N), .ref t]).length) Slot.unset).toArray = ls at hl ⊢
  have hl : lv_has ls 3 [(0, .int (nI k)), (1, .int (nI N)), (2, .ref t)] := hl
  refine lv_iload_n hx hb dP_chk_0 rfl (lv_at hl 0 rfl) ?_
  refine lv_if_lt hx hb dP_chk_1 (tgt := 9) rfl (fun q => absurd q (nI_pos (by omega))) (fun _ => ?_)
  refine lv_iload_n hx hb dP_chk_4 rfl (lv_at hl 0 rfl) ?_
  refine lv_iload_n hx hb dP_chk_5 rfl (lv_at hl 1 rfl) ?_
  refine lv_icmp_lt hx hb dP_chk_6 (tgt := 16) rfl (fun _ => ?_) (fun q => absurd (nI_lt hk hN) q)
  refine lv_iload_n hx hb dP_chk_16 rfl (lv_at hl 0 rfl) ?_
  exact W.iret hx hb hr (fun t ht hW => ⟨rfl, ht⟩) (fun q hq => by cases hq) dP_chk_17
set_option maxHeartbeats 4000000 in
theorem c_S_chk (hF : jF lo adK adV (fun q => lo ≤ q) s00) {k N : Nat} (hk : k < N) (hN : N < 2 ^ 31) : Met l yS_chk (jw yS_chk cS_chk 2 none) (mm_rm 1) (va_Pc [.int (nI k), .int (nI N)] (js_St s00 lo)) (jQ none) 0 0 (fun _ => False) := by
  refine Met.ofW (cc := cS_chk) (maxL := 2) (ret := none) (by decide) rfl ?_
  intro p e s m args below meth c s₁ B hml hv
  obtain ⟨rfl, hSt⟩ := hv
  have hx := B.exec
  have hb := B.bytes
  have hr := B.returns
  have htb : ∀ w ∈ TBw, w.before _ s = true := fun w hw => atoms_spec (ws := jw yS_chk cS_chk 2 none) B.pre w (List.mem_cons_of_mem _ hw)
  have hown : s.vm.findClass "java/lang/String" = some m.cls := findClass_of_methodNamed B.named
  have hlocks := B.notSynchronized
  obtain ⟨hS7, hZ, hQ⟩ := jF_at hF hSt
  have hS : va_S (fun _ => False) s.heap s.heap [] := va_S.rf
  have hl := lv_entry [.int (nI k), .int (nI N)] (n := 2) (Nat.le_of_ble_eq_true rfl)
  rw [lg_entry_eq]
  generalize (lg_sl [.int (nI k), .int (nI N)] ++ List.replicate (2 - (lg_sl [.int (nI k), .int (nI N)]).length) Slot.unset).toArray = ls at hl ⊢
  have hl : lv_has ls 2 [(0, .int (nI k)), (1, .int (nI N))] := hl
  refine lv_iload_n hx hb dS_chk_0 rfl (lv_at hl 0 rfl) ?_
  refine lv_iload_n hx hb dS_chk_1 rfl (lv_at hl 1 rfl) ?_
  rcases hQ with hQ | ⟨t, hQ⟩
  · refine va_gets hx hb hQ hS hown (htb _ jf_sio) (fun _ h => h) dS_chk_2 ?_
    refine js_call (va_runS (As := [.int (nI k), .int (nI N), .null]) (rest := []) (bytes := cP_chk) (maxL := 3) (ret := (some .int)) ⟨hx, hb, hml, hown, htb⟩ (c_P_chkn hk hN) ⟨callB_of 3 htb (jg jc_P_chk) rfl rfl rfl (htb _ ji_P) (htb _ jl_pch) ⟨by decide, by decide, by decide +kernel⟩ ⟨Nat.le_of_ble_eq_true rfl, Nat.le_of_ble_eq_true rfl⟩, htb _ js_pch⟩ ⟨js_blind, fun U hU hW => ⟨rfl, js_of hSt hU hW⟩⟩ rfl rfl hl.1 rfl (lv_room (Nat.le_of_ble_eq_true rfl)) dS_chk_5 ⟨Nat.zero_le _, Nat.zero_le _⟩) ?_
    refine W.eq (g2 := F0 m 8 ls [.int (nI k)]) rfl ?_
    refine lv_pop hx hb dS_chk_8 rfl ?_
    exact W.vret hx hb hr (fun t ht hW => ⟨rfl, ht⟩) (fun q hq => by cases hq) dS_chk_9
  · refine va_gets hx hb hQ hS hown (htb _ jf_sio) (fun _ h => h) dS_chk_2 ?_
    refine js_call (va_runS (As := [.int (nI k), .int (nI N), .ref t]) (rest := []) (bytes := cP_chk) (maxL := 3) (ret := (some .int)) ⟨hx, hb, hml, hown, htb⟩ (c_P_chkr hk hN t) ⟨callB_of 3 htb (jg jc_P_chk) rfl rfl rfl (htb _ ji_P) (htb _ jl_pch) ⟨by decide, by decide, by decide +kernel⟩ ⟨Nat.le_of_ble_eq_true rfl, Nat.le_of_ble_eq_true rfl⟩, htb _ js_pch⟩ ⟨js_blind, fun U hU hW => ⟨rfl, js_of hSt hU hW⟩⟩ rfl rfl hl.1 rfl (lv_room (Nat.le_of_ble_eq_true rfl)) dS_chk_5 ⟨Nat.zero_le _, Nat.zero_le _⟩) ?_
    refine W.eq (g2 := F0 m 8 ls [.int (nI k)]) rfl ?_
    refine lv_pop hx hb dS_chk_8 rfl ?_
    exact W.vret hx hb hr (fun t ht hW => ⟨rfl, ht⟩) (fun q hq => by cases hq) dS_chk_9
theorem jl_ch : ∀ (i : Fin 7) (k : Fin 6), k.val < jlen.getD i.val 0 → ((((mt_tx.getD i.val []).getD k.val 0) &&& (Int16.ofInt 255).toInt32).toUInt32 % 65536).toInt32 = (mt_tx.getD i.val []).getD k.val 0 ∧ narrow .char (.int ((mt_tx.getD i.val []).getD k.val 0)) = .int ((mt_tx.getD i.val []).getD k.val 0) := by decide +kernel
theorem jl_6 : ∀ i : Fin 7, jlen.getD i.val 0 ≤ 6 := by decide
set_option maxHeartbeats 4000000 in
theorem c_L_cha (hF : jF lo adK adV (fun q => lo ≤ q) s00) {i k : Nat} (hi : i < 7) (hk : k < jlen.getD i 0) : Met l yL_cha (jw yL_cha cL_cha 2 (some .char)) (mm_rm 2) (va_Pc [.ref (adV i), .int (nI k)] (js_St s00 lo)) (jQ (some (.int ((mt_tx.getD i []).getD k 0)))) 0 0 (fun _ => False) := by
  refine Met.ofW (cc := cL_cha) (maxL := 2) (ret := (some .char)) (by decide) rfl ?_
  intro p e s m args below meth c s₁ B hml hv
  obtain ⟨rfl, hSt⟩ := hv
  have hx := B.exec
  have hb := B.bytes
  have hr := B.returns
  have htb : ∀ w ∈ TBw, w.before _ s = true := fun w hw => atoms_spec (ws := jw yL_cha cL_cha 2 (some .char)) B.pre w (List.mem_cons_of_mem _ hw)
  have hown : s.vm.findClass "java/lang/StringLatin1" = some m.cls := findClass_of_methodNamed B.named
  have hlocks := B.notSynchronized
  obtain ⟨hS7, hZ, hQ⟩ := jF_at hF hSt
  have hS : va_S (fun _ => False) s.heap s.heap [] := va_S.rf
  have hl := lv_entry [.ref (adV i), .int (nI k)] (n := 2) (Nat.le_of_ble_eq_true rfl)
  rw [lg_entry_eq]
  generalize (lg_sl [.ref (adV i), .int (nI k)] ++ List.replicate (2 - (lg_sl [.ref (adV i), .int (nI k)]).length) Slot.unset).toArray = ls at hl ⊢
  have hl : lv_has ls 2 [(0, .ref (adV i)), (1, .int (nI k))] := hl
  have h6 : jlen.getD i 0 ≤ 6 := jl_6 ⟨i, hi⟩
  obtain ⟨g1, g2⟩ := jl_ch ⟨i, hi⟩ ⟨k, by omega⟩ hk
  dsimp only at g1 g2
  refine lv_iload_n hx hb dL_cha_0 rfl (lv_at hl 1 rfl) ?_
  refine lv_aload_n hx hb dL_cha_1 rfl (lv_at hl 0 rfl) ?_
  refine va_tlen hx hb (hS7.1 i hi).2.2.2 hS (v := nI (jlen.getD i 0)) rfl dL_cha_2 ?_
  refine js_call (va_runS (As := [.int (nI k), .int (nI (jlen.getD i 0))]) (rest := []) (bytes := cS_chk) (maxL := 2) (ret := none) ⟨hx, hb, hml, hown, htb⟩ (c_S_chk hF hk (by omega)) ⟨callB_of 2 htb (jg jc_S_chk) rfl rfl rfl (htb _ ji_S) (htb _ jl_chk) ⟨by decide, by decide, by decide +kernel⟩ ⟨Nat.le_of_ble_eq_true rfl, Nat.le_of_ble_eq_true rfl⟩, htb _ js_chk⟩ ⟨js_blind, fun U hU hW => ⟨rfl, js_of hSt hU hW⟩⟩ rfl rfl hl.1 rfl (lv_room (Nat.le_of_ble_eq_true rfl)) dL_cha_3 ⟨Nat.zero_le _, Nat.zero_le _⟩) ?_
  refine W.eq (g2 := F0 m 6 ls []) rfl ?_
  refine lv_aload_n hx hb dL_cha_6 rfl (lv_at hl 0 rfl) ?_
  refine lv_iload_n hx hb dL_cha_7 rfl (lv_at hl 1 rfl) ?_
  refine va_tb hx hb (hS7.1 i hi).2.2.2 hS (nI_in hk (by omega)) (v := .int ((mt_tx.getD i []).getD k 0)) (by rw [nI_clamp (by omega)]) dL_cha_8 ?_
  refine lv_sipush (v := (Int16.ofInt 255).toInt32) hx hb dL_cha_9 rfl ?_
  refine lv_iand hx hb dL_cha_12 ?_
  refine lv_i2c hx hb dL_cha_13 g1 ?_
  exact W.zret hx hb hr g2 (fun t ht hW => ⟨rfl, ht⟩) (fun q hq => by cases hq) dL_cha_14
set_option maxHeartbeats 4000000 in
theorem c_S_cha (hF : jF lo adK adV (fun q => lo ≤ q) s00) {i k : Nat} (hi : i < 7) (hk : k < jlen.getD i 0) : Met l yS_cha (jw yS_cha cS_cha 2 (some .char)) (mm_rm 3) (va_Pc [.ref (adK i), .int (nI k)] (js_St s00 lo)) (jQ (some (.int ((mt_tx.getD i []).getD k 0)))) 0 0 (fun _ => False) := by
  refine Met.ofW (cc := cS_cha) (maxL := 2) (ret := (some .char)) (by decide) rfl ?_
  intro p e s m args below meth c s₁ B hml hv
  obtain ⟨rfl, hSt⟩ := hv
  have hx := B.exec
  have hb := B.bytes
  have hr := B.returns
  have htb : ∀ w ∈ TBw, w.before _ s = true := fun w hw => atoms_spec (ws := jw yS_cha cS_cha 2 (some .char)) B.pre w (List.mem_cons_of_mem _ hw)
  have hown : s.vm.findClass "java/lang/String" = some m.cls := findClass_of_methodNamed B.named
  have hlocks := B.notSynchronized
  obtain ⟨hS7, hZ, hQ⟩ := jF_at hF hSt
  have hS : va_S (fun _ => False) s.heap s.heap [] := va_S.rf
  have hl := lv_entry [.ref (adK i), .int (nI k)] (n := 2) (Nat.le_of_ble_eq_true rfl)
  rw [lg_entry_eq]
  generalize (lg_sl [.ref (adK i), .int (nI k)] ++ List.replicate (2 - (lg_sl [.ref (adK i), .int (nI k)]).length) Slot.unset).toArray = ls at hl ⊢
  have hl : lv_has ls 2 [(0, .ref (adK i)), (1, .int (nI k))] := hl
  have h6 : jlen.getD i 0 ≤ 6 := jl_6 ⟨i, hi⟩
  obtain ⟨g1, g2⟩ := jl_ch ⟨i, hi⟩ ⟨k, by omega⟩ hk
  dsimp only at g1 g2
  refine lv_aload_n hx hb dS_cha_0 rfl (lv_at hl 0 rfl) ?_
  refine js_call (va_runV (As := []) (rest := []) (C := "java/lang/String") (bytes := cS_lat) (maxL := 1) (ret := (some .boolean)) ⟨hx, hb, hml, hown, htb⟩ (c_S_lat hF hi) ⟨callB_of 0 htb (jg jc_S_lat) rfl rfl rfl (htb _ ji_S) (htb _ jl_lat) ⟨by decide, by decide, by decide +kernel⟩ ⟨Nat.le_of_ble_eq_true rfl, Nat.le_of_ble_eq_true rfl⟩, htb _ jn_lat, htb _ je_lat⟩ ⟨js_blind, vk_recv hS7 hi hS, fun U hU hW => ⟨rfl, js_of hSt hU hW⟩⟩ rfl rfl hl.1 rfl (lv_room (Nat.le_of_ble_eq_true rfl)) dS_cha_1 ⟨Nat.zero_le _, Nat.zero_le _⟩) ?_
  refine W.eq (g2 := F0 m 4 ls [.int 1]) rfl ?_
  refine lv_if_eq hx hb dS_cha_4 (tgt := 16) rfl (fun q => absurd q (by decide)) (fun _ => ?_)
  refine lv_aload_n hx hb dS_cha_7 rfl (lv_at hl 0 rfl) ?_
  refine vk_getf hx hb (hS7.1 i hi).2.2.1 hS hown (htb _ jf_val) (fun _ h => h) dS_cha_8 ?_
  refine lv_iload_n hx hb dS_cha_11 rfl (lv_at hl 1 rfl) ?_
  refine js_call (va_runS (As := [.ref (adV i), .int (nI k)]) (rest := []) (bytes := cL_cha) (maxL := 2) (ret := (some .char)) ⟨hx, hb, hml, hown, htb⟩ (c_L_cha hF hi hk) ⟨callB_of 2 htb (jg jc_L_cha) rfl rfl rfl (htb _ ji_L) (htb _ jl_lch) ⟨by decide, by decide, by decide +kernel⟩ ⟨Nat.le_of_ble_eq_true rfl, Nat.le_of_ble_eq_true rfl⟩, htb _ js_lch⟩ ⟨js_blind, fun U hU hW => ⟨rfl, js_of hSt hU hW⟩⟩ rfl rfl hl.1 rfl (lv_room (Nat.le_of_ble_eq_true rfl)) dS_cha_12 ⟨Nat.zero_le _, Nat.zero_le _⟩) ?_
  refine W.eq (g2 := F0 m 15 ls [.int ((mt_tx.getD i []).getD k 0)]) rfl ?_
  exact W.zret hx hb hr g2 (fun t ht hW => ⟨rfl, ht⟩) (fun q hq => by cases hq) dS_cha_15
end JS

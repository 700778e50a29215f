/-! Runs that make cells: constructors, and the law -/
section MMR1
variable (fet : Nat → Nat → Option Instr) (fld : Nat → Nat → Option (Nat × Nat × FieldType × Bool)) (mth : Nat → Nat → Option (Nat × Bool)) (inf : Nat → MI) (prm : Nat → Nat → Instr → List Value → Option (Nat × List Value)) (bsz : Nat → Nat)
variable (nwc : Nat → Nat → Option (Nat × List Value)) (anc : Nat → Nat → Option Nat) (mnc : Nat → Nat → Bool) (arc : Nat → Bool) (ini : Nat → Option Nat) (spc : Nat → Nat → Option (Option Nat))
/-- a call of a method that makes none, as in mm_run: the answer and the cells behind it -/
def mm_cl1 (n d y : Nat) (virt : Bool) (idx : Nat) (st : List Value) (h : MH) : Option (Nat × Option Value × MH) := match mm_cal mth inf virt y idx st h with
  | none => none
  | some (y', vw) => match vw with
    | false => match mm_run fet fld mth inf prm bsz n d y' 0 (mm_en (inf y').2.1 ((st.take (inf y').1).reverse)) [] h with
      | some (r, h') => some ((inf y').1, r, h')
      | none => none
    | true => match mm_sub (mm_view bsz h ((st.take (inf y').1).reverse)) (mm_view bsz h ((st.take (inf y').1).reverse)) h, mm_rnL (mm_view bsz h ((st.take (inf y').1).reverse)) ((st.take (inf y').1).reverse), mm_vok (mm_view bsz h ((st.take (inf y').1).reverse)) with
      | some hs, some vs, true => match mm_run fet fld mth inf prm bsz n d y' 0 (mm_en (inf y').2.1 vs) [] hs with
        | some (r, hs') => match mm_bkO (mm_view bsz h ((st.take (inf y').1).reverse)) r, mm_bk (mm_view bsz h ((st.take (inf y').1).reverse)) (mm_view bsz h ((st.take (inf y').1).reverse)) hs' h with
          | some r', some h' => some ((inf y').1, r', h')
          | _, _ => none
        | none => none
      | _, _, _ => none
/-- may a constructor be called -/
def mm_iok (f : MI) (ls : ML) (st : List Value) (h : MH) : Bool := decide (f.1 ≤ st.length) && decide (mm_ct (st.drop f.1) ≤ 8) && decide ((mm_sl ((st.take f.1).reverse)).length ≤ f.2.1) && (match (st.take f.1).reverse with
  | .ref _ :: _ => true
  | _ => false) && ls.all (mm_vO h.length) && (st.drop f.1).all (mm_vv h.length)
def mm_run1 (n d y pc : Nat) (ls : ML) (st : List Value) (h : MH) (nc ns : Nat) : Option (Nat × ML × List Value × MH × Nat × Nat) := match n with
  | 0 => none
  | n + 1 => match fet y pc with
    | none => none
    | some i => match mm_stp fld prm d y i pc ls st h with
      | some (pc', ls', st', h') => mm_run1 n d y pc' ls' st' h' nc ns
      | none => match mm_s2 (fld y) arc (ini y) i pc st h with
        | some (pc', st', h') => mm_run1 n d y pc' ls st' h' nc ns
        | none => match mm_new (nwc y) (anc y) (mnc y) h.length i pc st with
          | some (pc', st', g) => match mm_vS h.length ls st h && Nat.blt (h.length + g.length) 1000000 with
            | true => mm_run1 n d y pc' ls st' (h ++ g) (nc + g.length) (ns + mm_sz g)
            | false => none
          | none => match mm_isI i with
            | some (virt, idx) => match d with
              | 0 => none
              | d' + 1 => match mm_cl1 fet fld mth inf prm bsz n d' y virt idx st h with
                | some (np, r, h') => mm_run1 n (d' + 1) y (pc + 3) ls (r.toList ++ st.drop np) h' nc ns
                | none => none
            | none => match i with
              | .invokespecial idx => match spc y idx with
                | none => none
                | some none => match st with
                  | .ref _ :: st' => match Nat.ble (mm_ct st') 8 with
                    | true => mm_run1 n d y (pc + 3) ls st' h nc ns
                    | false => none
                  | _ => none
                | some (some y') => match d with
                  | 0 => none
                  | d' + 1 => match mm_iok (inf y') ls st h with
                    | false => none
                    | true => match mm_run1 n d' y' 0 (mm_en (inf y').2.1 ((st.take (inf y').1).reverse)) [] h 0 0 with
                      | some (pcr, _, [], h', mc, ms) => match fet y' pcr with
                        | some .return_ => mm_run1 n (d' + 1) y (pc + 3) ls (st.drop (inf y').1) h' (nc + mc) (ns + ms)
                        | _ => none
                      | _ => none
              | .ireturn => some (pc, ls, st, h, nc, ns)
              | .return_ => some (pc, ls, st, h, nc, ns)
              | _ => none
end MMR1

/-! The program as the small machine reads it -/
def fetT (y pc : Nat) : Option Instr := mm_lk (mt_tb.getD y []) pc
def nmT (y : Nat) : MethodName := mt_nm.getD y ⟨"", "", ""⟩
def codeT (y : Nat) : ByteArray := mt_co.getD y ⟨#[]⟩
def infT (y : Nat) : MI := mt_in.getD y (0, 0, none, 0, false)
def fldT (y idx : Nat) : Option (Nat × Nat × FieldType × Bool) := match mm_lk (mt_fl.getD (mt_cl.getD y 99) []) idx with
  | some q => some q.1
  | none => none
def mthT (y idx : Nat) : Option (Nat × Bool) := match mm_lk (mt_ml.getD (mt_cl.getD y 99) []) idx with
  | some q => some q.1
  | none => none
/-- how many cells an object of a class begins: Canal, Fog, Talk, Tape, BargeTalks, BargeTalksModel -/
def bszT (ci : Nat) : Nat := [18, 14, 1, 20, 128, 16].getD ci 1
/-- the texts of the literals -/
def mt_st : List (Nat × Nat) := [(81, 0), (87, 1), (89, 2), (91, 3), (93, 4), (95, 5), (97, 6)]
def mt_tx : List (List Int32) := [[112, 108, 97, 105, 110], [113, 117, 105, 99, 107], [115, 104, 121], [100, 101, 97, 102], [99, 117, 116], [109, 101, 109, 111, 114, 121], [116, 97, 108, 107]]
/-- what the small machine answers itself: Math.max, Math.min, constants, the script -/
def prm0T (xs : List Int32) (y d : Nat) (i : Instr) (st : List Value) : Option (Nat × List Value) := match i, st with
  | .invokestatic idx, .int b :: .int a :: st => match mm_lk (mt_mx.getD (mt_cl.getD y 99) []) idx, Nat.ble (mm_ct st) 8 with
    | some (true, _), true => some (3, .int (if a < b then b else a) :: st)
    | some (false, _), true => some (3, .int (if b < a then b else a) :: st)
    | _, _ => none
  | .ldc idx, st => match mm_lk (mt_ki.getD (mt_cl.getD y 99) []) idx with
    | some (v, _) => some (2, .int v :: st)
    | none => none
  | .ldc_w idx, st => match mm_lk (mt_ki.getD (mt_cl.getD y 99) []) idx with
    | some (v, _) => some (3, .int v :: st)
    | none => none
  | .ldc2_w idx, st => match mm_lk (mt_kl.getD (mt_cl.getD y 99) []) idx with
    | some (v, _) => some (3, .long v :: st)
    | none => none
  | .iaload, .int i :: .ref k :: st => if k = 1000000 then match mm_ix i with
      | some j => match xs[j]? with
        | some x => some (1, .int x :: st)
        | none => none
      | none => none
    else none
  | .arraylength, .ref k :: st => if k = 1000000 then some (1, .int (Int32.ofNat xs.length) :: st) else none
  | _, _ => none
/-- the literals, their length and their signs -/
def mt_tk : List (Nat × List Int32) := [(2000000, [112, 108, 97, 105, 110]), (2000001, [113, 117, 105, 99, 107]), (2000002, [115, 104, 121]), (2000003, [100, 101, 97, 102]), (2000004, [99, 117, 116]), (2000005, [109, 101, 109, 111, 114, 121]), (2000006, [116, 97, 108, 107])]
def prmS (y d : Nat) (i : Instr) (st : List Value) : Option (Nat × List Value) := match i, st with
  | .ldc idx, st => match Nat.beq y 45, mm_lk mt_st idx with
    | true, some k => some (2, .ref (2000000 + k) :: st)
    | _, _ => none
  | .invokevirtual idx, .ref k :: st => match Nat.beq y 46 && Nat.beq idx 102 && Nat.ble 6 d && Nat.ble (mm_ct st) 8, mm_lk mt_tk k with
    | true, some L => some (3, .int (Int32.ofNat L.length) :: st)
    | _, _ => none
  | .invokevirtual idx, .int i :: .ref k :: st => match Nat.beq y 46 && Nat.beq idx 106 && Nat.ble 6 d && Nat.ble (mm_ct st) 8, mm_lk mt_tk k, mm_ix i with
    | true, some L, some j => match L[j]? with
      | some x => some (3, .int x :: st)
      | none => none
    | _, _, _ => none
  | _, _ => none
def prmT (xs : List Int32) (y d : Nat) (i : Instr) (st : List Value) : Option (Nat × List Value) := match prm0T xs y d i st with
  | some q => some q
  | none => prmS y d i st
/-- a run, and that there is one -/
def rnT (xs : List Int32) (n d y pc : Nat) (ls : ML) (st : List Value) (h : MH) : Option (Option Value × MH) := mm_run fetT fldT mthT infT (prmT xs) bszT n d y pc ls st h
def Ev (xs : List Int32) (d y pc : Nat) (ls : ML) (st : List Value) (h : MH) (r : Option Value) (h' : MH) : Prop := ∃ n, rnT xs n d y pc ls st h = some (r, h')

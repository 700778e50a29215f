/-! ask: how many are left at the worst -/
/-- how many are x; the most alike -/
def cnE (l : List Int32) (x : Int32) : Nat := l.countP (fun y => decide (x = y))
def mxL (l : List Int32) (k : List Int32) : Nat := k.foldl (fun w x => max w (cnE l x)) 0
def mxP (l : List Int32) : Nat := mxL l l
theorem cnE_s (l : List Int32) (x y : Int32) : cnE (l ++ [y]) x = cnE l x + (if x = y then 1 else 0) := by
  unfold cnE
  rw [List.countP_append, List.countP_singleton]
  by_cases c : x = y
  · rw [if_pos c, decide_eq_true c]
    rfl
  · rw [if_neg c, decide_eq_false c]
    rfl
theorem cnE_le (l : List Int32) (x : Int32) : cnE l x ≤ l.length := List.countP_le_length
theorem fold_max (g : Int32 → Nat) : ∀ (k : List Int32) (a : Nat), k.foldl (fun w x => max w (g x)) a = max a (k.foldl (fun w x => max w (g x)) 0)
  | [], a => by simp
  | x :: k, a => by
    rw [List.foldl_cons, List.foldl_cons, fold_max g k (max a (g x)), fold_max g k (max 0 (g x))]
    omega
theorem mxL_s (l k : List Int32) (x : Int32) : mxL l (k ++ [x]) = max (mxL l k) (cnE l x) := by
  unfold mxL
  rw [List.foldl_append]
  rfl
theorem mxL_mem (l : List Int32) (x : Int32) : ∀ k : List Int32, x ∈ k → cnE l x ≤ mxL l k
  | [], h => by cases h
  | y :: k, h => by
    have e : mxL l (y :: k) = max (cnE l y) (mxL l k) := by
      unfold mxL
      rw [List.foldl_cons, fold_max (cnE l) k (max 0 (cnE l y))]
      omega
    rw [e]
    rcases List.mem_cons.mp h with h | h
    · subst h
      omega
    · have := mxL_mem l x k h
      omega
theorem mxL_le (l : List Int32) (n : Nat) : ∀ k : List Int32, (∀ x ∈ k, cnE l x ≤ n) → mxL l k ≤ n
  | [], _ => Nat.zero_le _
  | y :: k, h => by
    have e : mxL l (y :: k) = max (cnE l y) (mxL l k) := by
      unfold mxL
      rw [List.foldl_cons, fold_max (cnE l) k (max 0 (cnE l y))]
      omega
    rw [e]
    have h1 := h y List.mem_cons_self
    have h2 := mxL_le l n k (fun x hx => h x (List.mem_cons_of_mem _ hx))
    omega
theorem mxP_s (l : List Int32) (x : Int32) : mxP (l ++ [x]) = max (mxP l) (cnE l x + 1) := by
  unfold mxP
  rw [mxL_s, cnE_s, if_pos rfl]
  apply Nat.le_antisymm
  · refine Nat.max_le.mpr ⟨mxL_le _ _ _ (fun y hy => ?_), by omega⟩
    rw [cnE_s]
    have h1 := mxL_mem l y l hy
    by_cases c : y = x
    · subst c
      rw [if_pos rfl]
      omega
    · rw [if_neg c]
      omega
  · refine Nat.max_le.mpr ⟨mxL_le _ _ _ (fun y hy => ?_), by omega⟩
    have h1 := mxL_mem (l ++ [x]) y l hy
    have h2 := cnE_s l y x
    omega
theorem mxP_le (l : List Int32) : mxP l ≤ l.length := mxL_le _ _ _ (fun x _ => cnE_le l x)
/-- the values by which all is as seen -/
def flt (A : Nat → Bool) (m v : Nat) : List Nat := match m with
  | 0 => []
  | m + 1 => (match A v with
    | true => [v]
    | false => []) ++ flt A m (v + 1)
theorem flt_len (A : Nat → Bool) : ∀ m v, (flt A m v).length ≤ m
  | 0, _ => Nat.le_refl _
  | m + 1, v => by
    unfold flt
    rw [List.length_append]
    have := flt_len A m (v + 1)
    cases A v with
    | true =>
      show 1 + _ ≤ _
      omega
    | false =>
      show 0 + _ ≤ _
      omega
/-- what is judged: how few are left, by which question -/
def akS (E : Nat → Nat → Nat) (h t : Nat) (q : Nat × Int32) : Nat × Int32 := if E h t < q.1 then (E h t, nI (10 * h + t)) else q
def akI (E : Nat → Nat → Nat) (h m t : Nat) (q : Nat × Int32) : Nat × Int32 := match m with
  | 0 => q
  | m + 1 => akI E h m (t + 1) (akS E h t q)
def akO (E : Nat → Nat → Nat) (TN m h : Nat) (q : Nat × Int32) : Nat × Int32 := match m with
  | 0 => q
  | m + 1 => akO E TN m (h + 1) (akI E h TN 0 q)
theorem akS_le {E : Nat → Nat → Nat} {h t : Nat} {q : Nat × Int32} : (akS E h t q).1 ≤ q.1 := by
  unfold akS
  by_cases c : E h t < q.1
  · rw [if_pos c]
    exact Nat.le_of_lt c
  · rw [if_neg c]
    exact Nat.le_refl _
theorem akI_le {E : Nat → Nat → Nat} {h : Nat} : ∀ (m t : Nat) (q : Nat × Int32), (akI E h m t q).1 ≤ q.1
  | 0, _, _ => Nat.le_refl _
  | m + 1, t, q => Nat.le_trans (akI_le m (t + 1) _) akS_le
def akA (w : Int32) (q : Nat × Int32) : Int32 := if q.2 = -4 then -4 else if w = 0 then q.2 else nI q.1
/-- bits of nine -/
def bit9 (a1 a2 a3 a4 a5 a6 a7 a8 a9 : Bool) : Int32 := vaS (fun v => [false, a1, a2, a3, a4, a5, a6, a7, a8, a9].getD v false) 9 1 0
def ush (x y : Int32) : Int32 := (x.toUInt32 >>> (y.toUInt32 &&& Int32.toUInt32 31)).toInt32
def bc1 (x : Int32) : Int32 := x - (ush x (Int32.ofInt 1) &&& 1431655765)
def bc2 (x : Int32) : Int32 := (x &&& 858993459) + (ush x (Int32.ofInt 2) &&& 858993459)
def bc3 (x : Int32) : Int32 := (x + ush x (Int32.ofInt 4)) &&& 252645135
def bc4 (x : Int32) : Int32 := x + ush x (Int8.ofInt 8).toInt32
def bc5 (x : Int32) : Int32 := x + ush x (Int8.ofInt 16).toInt32
def bcX (x : Int32) : Int32 := bc5 (bc4 (bc3 (bc2 (bc1 x)))) &&& (Int8.ofInt 63).toInt32
theorem bit9_ok : ∀ a1 a2 a3 a4 a5 a6 a7 a8 a9 : Bool, bcX (bit9 a1 a2 a3 a4 a5 a6 a7 a8 a9) = nI (flt (fun v => [false, a1, a2, a3, a4, a5, a6, a7, a8, a9].getD v false) 9 1).length := by decide +kernel
theorem bit9_at : ∀ a1 a2 a3 a4 a5 a6 a7 a8 a9 : Bool, ∀ p, p < 10 → (bit9 a1 a2 a3 a4 a5 a6 a7 a8 a9 >>> (nI p &&& 31)) &&& Int32.ofInt 1 = bI ([false, a1, a2, a3, a4, a5, a6, a7, a8, a9].getD p false) := by decide +kernel
def nine (A : Nat → Bool) : Nat → Bool := fun v => [false, A 1, A 2, A 3, A 4, A 5, A 6, A 7, A 8, A 9].getD v false
theorem vaS_9 (A : Nat → Bool) : vaS A 9 1 0 = bit9 (A 1) (A 2) (A 3) (A 4) (A 5) (A 6) (A 7) (A 8) (A 9) := rfl
theorem flt_9 (A : Nat → Bool) : flt (nine A) 9 1 = flt A 9 1 := rfl
theorem nine_at (A : Nat → Bool) (p : Nat) (h1 : 1 ≤ p) (h : p < 10) : nine A p = A p := by
  match p, h1, h with
  | 1, _, _ => rfl
  | 2, _, _ => rfl
  | 3, _, _ => rfl
  | 4, _, _ => rfl
  | 5, _, _ => rfl
  | 6, _, _ => rfl
  | 7, _, _ => rfl
  | 8, _, _ => rfl
  | 9, _, _ => rfl
theorem vaS_bc (A : Nat → Bool) : bcX (vaS A 9 1 0) = nI (flt A 9 1).length := by
  rw [vaS_9, bit9_ok]
  rfl
theorem vaS_at (A : Nat → Bool) (p : Nat) (h1 : 1 ≤ p) (h : p < 10) : (vaS A 9 1 0 >>> (nI p &&& 31)) &&& Int32.ofInt 1 = bI (A p) := by
  rw [vaS_9, bit9_at _ _ _ _ _ _ _ _ _ p h]
  exact congrArg bI (nine_at A p h1 h)
section BC
variable (xs : List Int32) (d : Nat) (h : MH)
theorem sp_bc1 (x : Int32) (r : Option Value) (R : MH) (kk : Ev xs d 199 10 [some (.int (bc1 x))] [] h r R) : Ev xs d 199 0 [some (.int x)] [] h r R := by
  unfold bc1 ush at kk
  exact ev_go 8 (fun _ => rfl) kk
theorem sp_bc2 (x : Int32) (r : Option Value) (R : MH) (kk : Ev xs d 199 24 [some (.int (bc2 x))] [] h r R) : Ev xs d 199 10 [some (.int x)] [] h r R := by
  unfold bc2 ush at kk
  exact ev_go 10 (fun _ => rfl) kk
theorem sp_bc3 (x : Int32) (r : Option Value) (R : MH) (kk : Ev xs d 199 34 [some (.int (bc3 x))] [] h r R) : Ev xs d 199 24 [some (.int x)] [] h r R := by
  unfold bc3 ush at kk
  exact ev_go 8 (fun _ => rfl) kk
theorem sp_bc4 (x : Int32) (r : Option Value) (R : MH) (kk : Ev xs d 199 41 [some (.int (bc4 x))] [] h r R) : Ev xs d 199 34 [some (.int x)] [] h r R := by
  unfold bc4 ush at kk
  exact ev_go 6 (fun _ => rfl) kk
theorem sp_bc5 (x : Int32) (r : Option Value) (R : MH) (kk : Ev xs d 199 48 [some (.int (bc5 x))] [] h r R) : Ev xs d 199 41 [some (.int x)] [] h r R := by
  unfold bc5 ush at kk
  exact ev_go 6 (fun _ => rfl) kk
theorem sp_bc6 (x : Int32) : Ev xs d 199 48 [some (.int x)] [] h (some (.int (x &&& (Int8.ofInt 63).toInt32))) h := ev_end 4 rfl
theorem sp_bc (x : Int32) : Ev xs d 199 0 [some (.int x)] [] h (some (.int (bcX x))) h := sp_bc1 xs d h _ _ _ (sp_bc2 xs d h _ _ _ (sp_bc3 xs d h _ _ _ (sp_bc4 xs d h _ _ _ (sp_bc5 xs d h _ _ _ (sp_bc6 xs d h _)))))
end BC

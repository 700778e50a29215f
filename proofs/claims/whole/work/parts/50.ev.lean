/-! Runs by rules: 'there is fuel' -/
section FU
variable {fet : Nat → Nat → Option Instr} {fld : Nat → Nat → Option (Nat × Nat × FieldType × Bool)} {mth : Nat → Nat → Option (Nat × Bool)} {inf : Nat → MI} {prm : Nat → Nat → Instr → List Value → Option (Nat × List Value)} {bsz : Nat → Nat}
theorem mm_run_s : ∀ (n d y pc : Nat) (ls : ML) (st : List Value) (h : MH) (R : Option Value × MH), mm_run fet fld mth inf prm bsz n d y pc ls st h = some R → mm_run fet fld mth inf prm bsz (n + 1) d y pc ls st h = some R := by
  intro n
  induction n with
  | zero => intro d y pc ls st h R hq; cases hq
  | succ n ih =>
    intro d y pc ls st h R hq
    unfold mm_run at hq ⊢
    split at hq
    · cases hq
    · rename_i i hi
      split at hq
      · rename_i hs
        exact ih _ _ _ _ _ _ _ hq
      · rename_i hs
        split at hq
        · exact hq
        · rename_i virt idx hI
          split at hq
          · cases hq
          · rename_i y' vw hc
            split at hq
            · cases hq
            · split at hq
              · split at hq
                · rename_i hr
                  rw [ih _ _ _ _ _ _ _ hr]
                  exact ih _ _ _ _ _ _ _ hq
                · cases hq
              · split at hq
                · rename_i e1 e2 e3
                  split at hq
                  · rename_i hr
                    split at hq
                    · rename_i f1 f2
                      rw [ih _ _ _ _ _ _ _ hr]
                      dsimp only
                      rw [f1, f2]
                      exact ih _ _ _ _ _ _ _ hq
                    · cases hq
                  · cases hq
                · cases hq
theorem mm_run_k {n d y pc : Nat} {ls : ML} {st : List Value} {h : MH} {R : Option Value × MH} (hq : mm_run fet fld mth inf prm bsz n d y pc ls st h = some R) (k : Nat) : mm_run fet fld mth inf prm bsz (n + k) d y pc ls st h = some R := by
  induction k with
  | zero => exact hq
  | succ k ih => exact mm_run_s _ _ _ _ _ _ _ _ ih
end FU

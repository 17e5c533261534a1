/-- the place j lies in a row of n -/
abbrev zix (j : Int32) (n : Nat) : Prop := ¬ (j < 0 ∨ n ≤ j.toNatClampNeg)

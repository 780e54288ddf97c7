/-! WHAT IS LEFT: the interpreter's answer to the law, on every script -/
theorem law_pure {L : Nat} {xs : Nat → Int32} (hL : L ≤ 3072) : ∃ (fuel : Nat) (RL : List Shp) (Rc : Nat → Int → Int), run fuel 356 106 0 (mkl 4 [vR (-1)]) [] ([], scm L xs) = some (some (vI 1), (RL, Rc)) ∧ RL.length ≤ 600000 ∧ slz RL ≤ 7302249 := by
  sorry

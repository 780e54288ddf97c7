/-! PIECES: two values joined -/
def bnr (d a b : Int) : Int := if d = 2 then a + b else if d = 3 then a - b else if d = 4 then a * b else if d = 5 then (if b = 0 then 0 else Int.tdiv a b) else if d = 6 then (if a < b then 1 else 0) else if d = 7 then (if b < a then 1 else 0) else (if a = b then 1 else 0)
def bin (d a b : Int) : Option Int := if d = 5 ∧ b = 0 then none else if 1000000000 < bnr d a b ∨ bnr d a b < -1000000000 then none else some (bnr d a b)
theorem bin_bd {d a b y : Int} (h : bin d a b = some y) : -1000000000 ≤ y ∧ y ≤ 1000000000 := by
  unfold bin at h
  by_cases e : d = 5 ∧ b = 0
  · rw [if_pos e] at h; exact absurd h (by simp)
  · rw [if_neg e] at h
    by_cases f : 1000000000 < bnr d a b ∨ bnr d a b < -1000000000
    · rw [if_pos f] at h; exact absurd h (by simp)
    · rw [if_neg f] at h
      have := Option.some.inj h
      omega
theorem mul_big {a b : Int} (ha : -1000000000 ≤ a ∧ a ≤ 1000000000) (hb : -1000000000 ≤ b ∧ b ≤ 1000000000) : -1000000000000000000 ≤ a * b ∧ a * b ≤ 1000000000000000000 := by
  have h1 : (a * b).natAbs ≤ 1000000000 * 1000000000 := by
    rw [Int.natAbs_mul]
    exact Nat.mul_le_mul (by omega) (by omega)
  omega
theorem tdiv_big {a b : Int} (ha : -1000000000 ≤ a ∧ a ≤ 1000000000) : -1000000000 ≤ Int.tdiv a b ∧ Int.tdiv a b ≤ 1000000000 := by
  have h1 : (Int.tdiv a b).natAbs ≤ a.natAbs := by
    rw [Int.natAbs_tdiv]
    exact Nat.div_le_self _ _
  omega

/-! WHAT STANDS, with one number written on both sides -/
def rU (R : Int → Int) (a v : Int) : Int → Int := fun j => if j = a then v else R j
theorem rU_s {R : Int → Int} {a v : Int} : rU R a v a = v := if_pos rfl
theorem rU_o {R : Int → Int} {a v j : Int} (h : j ≠ a) : rU R a v j = R j := if_neg h
theorem up_rU {c : Cm} {q : Nat} {a v : Int} : up c q a v q = rU (c q) a v := funext fun _ => up_at
theorem CS.p2 {c : Cm} {R : Int → Int} {i v : Int} (h : CS c R) (hi : 0 ≤ i ∧ i < 25) : CS (up c 2 i v) (rU R (233 + i) v) := by
  obtain ⟨⟨a0, a1, a2, a3, a4, a5, a6, a7, a8, a9, a10, a11⟩, b2, b3, b6, b7, b8, b9⟩ := h
  refine ⟨⟨?_, ?_, ?_, ?_, ?_, ?_, ?_, ?_, ?_, ?_, ?_, ?_⟩, fun j a b => ?_, fun j a b => ?_, fun j a b => ?_, fun j a b => ?_, fun j a b => ?_, fun j a b => ?_⟩
  · rw [rU_o (by omega), up_cell (by decide)]; exact a0
  · rw [rU_o (by omega), up_cell (by decide)]; exact a1
  · rw [rU_o (by omega), up_cell (by decide)]; exact a2
  · rw [rU_o (by omega), up_cell (by decide)]; exact a3
  · rw [rU_o (by omega), up_cell (by decide)]; exact a4
  · rw [rU_o (by omega), up_cell (by decide)]; exact a5
  · rw [rU_o (by omega), up_cell (by decide)]; exact a6
  · rw [rU_o (by omega), up_cell (by decide)]; exact a7
  · rw [rU_o (by omega), up_cell (by decide)]; exact a8
  · rw [rU_o (by omega), up_cell (by decide)]; exact a9
  · rw [rU_o (by omega), up_cell (by decide)]; exact a10
  · rw [rU_o (by omega), up_cell (by decide)]; exact a11
  · rw [up_at]
    unfold rU
    by_cases e : j = i
    · rw [if_pos e, if_pos (by omega)]
    · rw [if_neg e, if_neg (by omega)]; exact b2 j a b
  · rw [rU_o (by omega)] at b
    rw [rU_o (by omega), up_cell (by decide)]; exact b3 j a b
  · rw [rU_o (by omega), up_cell (by decide)]; exact b6 j a b
  · rw [rU_o (by omega), up_cell (by decide)]; exact b7 j a b
  · rw [rU_o (by omega), up_cell (by decide)]; exact b8 j a b
  · rw [rU_o (by omega), up_cell (by decide)]; exact b9 j a b
theorem CS.p3 {c : Cm} {R : Int → Int} {i v : Int} (h : CS c R) (hi : 0 ≤ i ∧ i < 18) : CS (up c 3 i v) (rU R (258 + i) v) := by
  obtain ⟨⟨a0, a1, a2, a3, a4, a5, a6, a7, a8, a9, a10, a11⟩, b2, b3, b6, b7, b8, b9⟩ := h
  refine ⟨⟨?_, ?_, ?_, ?_, ?_, ?_, ?_, ?_, ?_, ?_, ?_, ?_⟩, fun j a b => ?_, fun j a b => ?_, fun j a b => ?_, fun j a b => ?_, fun j a b => ?_, fun j a b => ?_⟩
  · rw [rU_o (by omega), up_cell (by decide)]; exact a0
  · rw [rU_o (by omega), up_cell (by decide)]; exact a1
  · rw [rU_o (by omega), up_cell (by decide)]; exact a2
  · rw [rU_o (by omega), up_cell (by decide)]; exact a3
  · rw [rU_o (by omega), up_cell (by decide)]; exact a4
  · rw [rU_o (by omega), up_cell (by decide)]; exact a5
  · rw [rU_o (by omega), up_cell (by decide)]; exact a6
  · rw [rU_o (by omega), up_cell (by decide)]; exact a7
  · rw [rU_o (by omega), up_cell (by decide)]; exact a8
  · rw [rU_o (by omega), up_cell (by decide)]; exact a9
  · rw [rU_o (by omega), up_cell (by decide)]; exact a10
  · rw [rU_o (by omega), up_cell (by decide)]; exact a11
  · rw [rU_o (by omega), up_cell (by decide)]; exact b2 j a b
  · rw [rU_o (by omega)] at b; rw [up_at]
    unfold rU
    by_cases e : j = i
    · rw [if_pos e, if_pos (by omega)]
    · rw [if_neg e, if_neg (by omega)]; exact b3 j a b
  · rw [rU_o (by omega), up_cell (by decide)]; exact b6 j a b
  · rw [rU_o (by omega), up_cell (by decide)]; exact b7 j a b
  · rw [rU_o (by omega), up_cell (by decide)]; exact b8 j a b
  · rw [rU_o (by omega), up_cell (by decide)]; exact b9 j a b
theorem CS.p6 {c : Cm} {R : Int → Int} {i v : Int} (h : CS c R) (hi : 0 ≤ i ∧ i < 17) : CS (up c 6 i v) (rU R (216 + i) v) := by
  obtain ⟨⟨a0, a1, a2, a3, a4, a5, a6, a7, a8, a9, a10, a11⟩, b2, b3, b6, b7, b8, b9⟩ := h
  refine ⟨⟨?_, ?_, ?_, ?_, ?_, ?_, ?_, ?_, ?_, ?_, ?_, ?_⟩, fun j a b => ?_, fun j a b => ?_, fun j a b => ?_, fun j a b => ?_, fun j a b => ?_, fun j a b => ?_⟩
  · rw [rU_o (by omega), up_cell (by decide)]; exact a0
  · rw [rU_o (by omega), up_cell (by decide)]; exact a1
  · rw [rU_o (by omega), up_cell (by decide)]; exact a2
  · rw [rU_o (by omega), up_cell (by decide)]; exact a3
  · rw [rU_o (by omega), up_cell (by decide)]; exact a4
  · rw [rU_o (by omega), up_cell (by decide)]; exact a5
  · rw [rU_o (by omega), up_cell (by decide)]; exact a6
  · rw [rU_o (by omega), up_cell (by decide)]; exact a7
  · rw [rU_o (by omega), up_cell (by decide)]; exact a8
  · rw [rU_o (by omega), up_cell (by decide)]; exact a9
  · rw [rU_o (by omega), up_cell (by decide)]; exact a10
  · rw [rU_o (by omega), up_cell (by decide)]; exact a11
  · rw [rU_o (by omega), up_cell (by decide)]; exact b2 j a b
  · rw [rU_o (by omega)] at b
    rw [rU_o (by omega), up_cell (by decide)]; exact b3 j a b
  · rw [up_at]
    unfold rU
    by_cases e : j = i
    · rw [if_pos e, if_pos (by omega)]
    · rw [if_neg e, if_neg (by omega)]; exact b6 j a b
  · rw [rU_o (by omega), up_cell (by decide)]; exact b7 j a b
  · rw [rU_o (by omega), up_cell (by decide)]; exact b8 j a b
  · rw [rU_o (by omega), up_cell (by decide)]; exact b9 j a b
theorem CS.p7 {c : Cm} {R : Int → Int} {i v : Int} (h : CS c R) (hi : 0 ≤ i ∧ i < 204) : CS (up c 7 i v) (rU R (12 + i) v) := by
  obtain ⟨⟨a0, a1, a2, a3, a4, a5, a6, a7, a8, a9, a10, a11⟩, b2, b3, b6, b7, b8, b9⟩ := h
  refine ⟨⟨?_, ?_, ?_, ?_, ?_, ?_, ?_, ?_, ?_, ?_, ?_, ?_⟩, fun j a b => ?_, fun j a b => ?_, fun j a b => ?_, fun j a b => ?_, fun j a b => ?_, fun j a b => ?_⟩
  · rw [rU_o (by omega), up_cell (by decide)]; exact a0
  · rw [rU_o (by omega), up_cell (by decide)]; exact a1
  · rw [rU_o (by omega), up_cell (by decide)]; exact a2
  · rw [rU_o (by omega), up_cell (by decide)]; exact a3
  · rw [rU_o (by omega), up_cell (by decide)]; exact a4
  · rw [rU_o (by omega), up_cell (by decide)]; exact a5
  · rw [rU_o (by omega), up_cell (by decide)]; exact a6
  · rw [rU_o (by omega), up_cell (by decide)]; exact a7
  · rw [rU_o (by omega), up_cell (by decide)]; exact a8
  · rw [rU_o (by omega), up_cell (by decide)]; exact a9
  · rw [rU_o (by omega), up_cell (by decide)]; exact a10
  · rw [rU_o (by omega), up_cell (by decide)]; exact a11
  · rw [rU_o (by omega), up_cell (by decide)]; exact b2 j a b
  · rw [rU_o (by omega)] at b
    rw [rU_o (by omega), up_cell (by decide)]; exact b3 j a b
  · rw [rU_o (by omega), up_cell (by decide)]; exact b6 j a b
  · rw [up_at]
    unfold rU
    by_cases e : j = i
    · rw [if_pos e, if_pos (by omega)]
    · rw [if_neg e, if_neg (by omega)]; exact b7 j a b
  · rw [rU_o (by omega), up_cell (by decide)]; exact b8 j a b
  · rw [rU_o (by omega), up_cell (by decide)]; exact b9 j a b
theorem CS.p8 {c : Cm} {R : Int → Int} {i v : Int} (h : CS c R) (h3 : R 3 ≤ 6) (hi : 0 ≤ i ∧ i < 72) : CS (up c 8 i v) (rU R (276 + i) v) := by
  obtain ⟨⟨a0, a1, a2, a3, a4, a5, a6, a7, a8, a9, a10, a11⟩, b2, b3, b6, b7, b8, b9⟩ := h
  refine ⟨⟨?_, ?_, ?_, ?_, ?_, ?_, ?_, ?_, ?_, ?_, ?_, ?_⟩, fun j a b => ?_, fun j a b => ?_, fun j a b => ?_, fun j a b => ?_, fun j a b => ?_, fun j a b => ?_⟩
  · rw [rU_o (by omega), up_cell (by decide)]; exact a0
  · rw [rU_o (by omega), up_cell (by decide)]; exact a1
  · rw [rU_o (by omega), up_cell (by decide)]; exact a2
  · rw [rU_o (by omega), up_cell (by decide)]; exact a3
  · rw [rU_o (by omega), up_cell (by decide)]; exact a4
  · rw [rU_o (by omega), up_cell (by decide)]; exact a5
  · rw [rU_o (by omega), up_cell (by decide)]; exact a6
  · rw [rU_o (by omega), up_cell (by decide)]; exact a7
  · rw [rU_o (by omega), up_cell (by decide)]; exact a8
  · rw [rU_o (by omega), up_cell (by decide)]; exact a9
  · rw [rU_o (by omega), up_cell (by decide)]; exact a10
  · rw [rU_o (by omega), up_cell (by decide)]; exact a11
  · rw [rU_o (by omega), up_cell (by decide)]; exact b2 j a b
  · rw [rU_o (by omega)] at b
    rw [rU_o (by have := h3; omega), up_cell (by decide)]; exact b3 j a b
  · rw [rU_o (by omega), up_cell (by decide)]; exact b6 j a b
  · rw [rU_o (by omega), up_cell (by decide)]; exact b7 j a b
  · rw [up_at]
    unfold rU
    by_cases e : j = i
    · rw [if_pos e, if_pos (by omega)]
    · rw [if_neg e, if_neg (by omega)]; exact b8 j a b
  · rw [rU_o (by omega), up_cell (by decide)]; exact b9 j a b
theorem CS.p9 {c : Cm} {R : Int → Int} {i v : Int} (h : CS c R) (h3 : R 3 ≤ 6) (hi : 0 ≤ i ∧ i < 32) : CS (up c 9 i v) (rU R (348 + i) v) := by
  obtain ⟨⟨a0, a1, a2, a3, a4, a5, a6, a7, a8, a9, a10, a11⟩, b2, b3, b6, b7, b8, b9⟩ := h
  refine ⟨⟨?_, ?_, ?_, ?_, ?_, ?_, ?_, ?_, ?_, ?_, ?_, ?_⟩, fun j a b => ?_, fun j a b => ?_, fun j a b => ?_, fun j a b => ?_, fun j a b => ?_, fun j a b => ?_⟩
  · rw [rU_o (by omega), up_cell (by decide)]; exact a0
  · rw [rU_o (by omega), up_cell (by decide)]; exact a1
  · rw [rU_o (by omega), up_cell (by decide)]; exact a2
  · rw [rU_o (by omega), up_cell (by decide)]; exact a3
  · rw [rU_o (by omega), up_cell (by decide)]; exact a4
  · rw [rU_o (by omega), up_cell (by decide)]; exact a5
  · rw [rU_o (by omega), up_cell (by decide)]; exact a6
  · rw [rU_o (by omega), up_cell (by decide)]; exact a7
  · rw [rU_o (by omega), up_cell (by decide)]; exact a8
  · rw [rU_o (by omega), up_cell (by decide)]; exact a9
  · rw [rU_o (by omega), up_cell (by decide)]; exact a10
  · rw [rU_o (by omega), up_cell (by decide)]; exact a11
  · rw [rU_o (by omega), up_cell (by decide)]; exact b2 j a b
  · rw [rU_o (by omega)] at b
    rw [rU_o (by have := h3; omega), up_cell (by decide)]; exact b3 j a b
  · rw [rU_o (by omega), up_cell (by decide)]; exact b6 j a b
  · rw [rU_o (by omega), up_cell (by decide)]; exact b7 j a b
  · rw [rU_o (by omega), up_cell (by decide)]; exact b8 j a b
  · rw [up_at]
    unfold rU
    by_cases e : j = i
    · rw [if_pos e, if_pos (by omega)]
    · rw [if_neg e, if_neg (by omega)]; exact b9 j a b
theorem CS.p4 {c : Cm} {R : Int → Int} {i v : Int} (h : CS c R) (hi : 0 ≤ i ∧ i < 5) : CS (up c 4 i v) (rU R (7 + i) v) := by
  obtain ⟨⟨a0, a1, a2, a3, a4, a5, a6, a7, a8, a9, a10, a11⟩, b2, b3, b6, b7, b8, b9⟩ := h
  refine ⟨⟨?_, ?_, ?_, ?_, ?_, ?_, ?_, ?_, ?_, ?_, ?_, ?_⟩, fun j a b => ?_, fun j a b => ?_, fun j a b => ?_, fun j a b => ?_, fun j a b => ?_, fun j a b => ?_⟩
  · rw [rU_o (by omega), up_cell (by decide)]; exact a0
  · rw [rU_o (by omega), up_cell (by decide)]; exact a1
  · rw [rU_o (by omega), up_cell (by decide)]; exact a2
  · rw [rU_o (by omega), up_cell (by decide)]; exact a3
  · rw [rU_o (by omega), up_cell (by decide)]; exact a4
  · rw [rU_o (by omega), up_cell (by decide)]; exact a5
  · rw [rU_o (by omega), up_cell (by decide)]; exact a6
  · rw [up_at]
    unfold rU
    by_cases e : (0 : Int) = i
    · rw [if_pos e, if_pos (by omega)]
    · rw [if_neg e, if_neg (by omega)]; exact a7
  · rw [up_at]
    unfold rU
    by_cases e : (1 : Int) = i
    · rw [if_pos e, if_pos (by omega)]
    · rw [if_neg e, if_neg (by omega)]; exact a8
  · rw [up_at]
    unfold rU
    by_cases e : (2 : Int) = i
    · rw [if_pos e, if_pos (by omega)]
    · rw [if_neg e, if_neg (by omega)]; exact a9
  · rw [up_at]
    unfold rU
    by_cases e : (3 : Int) = i
    · rw [if_pos e, if_pos (by omega)]
    · rw [if_neg e, if_neg (by omega)]; exact a10
  · rw [up_at]
    unfold rU
    by_cases e : (4 : Int) = i
    · rw [if_pos e, if_pos (by omega)]
    · rw [if_neg e, if_neg (by omega)]; exact a11
  · rw [rU_o (by omega), up_cell (by decide)]; exact b2 j a b
  · rw [rU_o (by omega)] at b
    rw [rU_o (by omega), up_cell (by decide)]; exact b3 j a b
  · rw [rU_o (by omega), up_cell (by decide)]; exact b6 j a b
  · rw [rU_o (by omega), up_cell (by decide)]; exact b7 j a b
  · rw [rU_o (by omega), up_cell (by decide)]; exact b8 j a b
  · rw [rU_o (by omega), up_cell (by decide)]; exact b9 j a b
theorem CS.f0 {c : Cm} {R : Int → Int} {v : Int} (h : CS c R) : CS (up c 1 0 v) (rU R 0 v) := by
  obtain ⟨⟨a0, a1, a2, a3, a4, a5, a6, a7, a8, a9, a10, a11⟩, b2, b3, b6, b7, b8, b9⟩ := h
  refine ⟨⟨?_, ?_, ?_, ?_, ?_, ?_, ?_, ?_, ?_, ?_, ?_, ?_⟩, fun j a b => ?_, fun j a b => ?_, fun j a b => ?_, fun j a b => ?_, fun j a b => ?_, fun j a b => ?_⟩
  · rw [rU_s, up_same]
  · rw [rU_o (by decide), up_ne (by decide)]; exact a1
  · rw [rU_o (by decide), up_ne (by decide)]; exact a2
  · rw [rU_o (by decide), up_ne (by decide)]; exact a3
  · rw [rU_o (by decide), up_ne (by decide)]; exact a4
  · rw [rU_o (by decide), up_ne (by decide)]; exact a5
  · rw [rU_o (by decide), up_ne (by decide)]; exact a6
  · rw [rU_o (by decide), up_cell (by decide)]; exact a7
  · rw [rU_o (by decide), up_cell (by decide)]; exact a8
  · rw [rU_o (by decide), up_cell (by decide)]; exact a9
  · rw [rU_o (by decide), up_cell (by decide)]; exact a10
  · rw [rU_o (by decide), up_cell (by decide)]; exact a11
  · rw [rU_o (by omega), up_cell (by decide)]; exact b2 j a b
  · rw [rU_o (by decide)] at b
    rw [rU_o (by omega), up_cell (by decide)]; exact b3 j a b
  · rw [rU_o (by omega), up_cell (by decide)]; exact b6 j a b
  · rw [rU_o (by omega), up_cell (by decide)]; exact b7 j a b
  · rw [rU_o (by omega), up_cell (by decide)]; exact b8 j a b
  · rw [rU_o (by omega), up_cell (by decide)]; exact b9 j a b
theorem CS.f2 {c : Cm} {R : Int → Int} {v : Int} (h : CS c R) (hb : ∀ j, 0 ≤ j → j < 3 * v → c 3 j = R (258 + j)) : CS (up c 1 2 v) (rU R 3 v) := by
  obtain ⟨⟨a0, a1, a2, a3, a4, a5, a6, a7, a8, a9, a10, a11⟩, b2, b3, b6, b7, b8, b9⟩ := h
  refine ⟨⟨?_, ?_, ?_, ?_, ?_, ?_, ?_, ?_, ?_, ?_, ?_, ?_⟩, fun j a b => ?_, fun j a b => ?_, fun j a b => ?_, fun j a b => ?_, fun j a b => ?_, fun j a b => ?_⟩
  · rw [rU_o (by decide), up_ne (by decide)]; exact a0
  · rw [rU_s, up_same]
  · rw [rU_o (by decide), up_ne (by decide)]; exact a2
  · rw [rU_o (by decide), up_ne (by decide)]; exact a3
  · rw [rU_o (by decide), up_ne (by decide)]; exact a4
  · rw [rU_o (by decide), up_ne (by decide)]; exact a5
  · rw [rU_o (by decide), up_ne (by decide)]; exact a6
  · rw [rU_o (by decide), up_cell (by decide)]; exact a7
  · rw [rU_o (by decide), up_cell (by decide)]; exact a8
  · rw [rU_o (by decide), up_cell (by decide)]; exact a9
  · rw [rU_o (by decide), up_cell (by decide)]; exact a10
  · rw [rU_o (by decide), up_cell (by decide)]; exact a11
  · rw [rU_o (by omega), up_cell (by decide)]; exact b2 j a b
  · rw [rU_s] at b
    rw [rU_o (by omega), up_cell (by decide)]; exact hb j a b
  · rw [rU_o (by omega), up_cell (by decide)]; exact b6 j a b
  · rw [rU_o (by omega), up_cell (by decide)]; exact b7 j a b
  · rw [rU_o (by omega), up_cell (by decide)]; exact b8 j a b
  · rw [rU_o (by omega), up_cell (by decide)]; exact b9 j a b
theorem CS.f5 {c : Cm} {R : Int → Int} {v : Int} (h : CS c R) : CS (up c 1 5 v) (rU R 1 v) := by
  obtain ⟨⟨a0, a1, a2, a3, a4, a5, a6, a7, a8, a9, a10, a11⟩, b2, b3, b6, b7, b8, b9⟩ := h
  refine ⟨⟨?_, ?_, ?_, ?_, ?_, ?_, ?_, ?_, ?_, ?_, ?_, ?_⟩, fun j a b => ?_, fun j a b => ?_, fun j a b => ?_, fun j a b => ?_, fun j a b => ?_, fun j a b => ?_⟩
  · rw [rU_o (by decide), up_ne (by decide)]; exact a0
  · rw [rU_o (by decide), up_ne (by decide)]; exact a1
  · rw [rU_s, up_same]
  · rw [rU_o (by decide), up_ne (by decide)]; exact a3
  · rw [rU_o (by decide), up_ne (by decide)]; exact a4
  · rw [rU_o (by decide), up_ne (by decide)]; exact a5
  · rw [rU_o (by decide), up_ne (by decide)]; exact a6
  · rw [rU_o (by decide), up_cell (by decide)]; exact a7
  · rw [rU_o (by decide), up_cell (by decide)]; exact a8
  · rw [rU_o (by decide), up_cell (by decide)]; exact a9
  · rw [rU_o (by decide), up_cell (by decide)]; exact a10
  · rw [rU_o (by decide), up_cell (by decide)]; exact a11
  · rw [rU_o (by omega), up_cell (by decide)]; exact b2 j a b
  · rw [rU_o (by decide)] at b
    rw [rU_o (by omega), up_cell (by decide)]; exact b3 j a b
  · rw [rU_o (by omega), up_cell (by decide)]; exact b6 j a b
  · rw [rU_o (by omega), up_cell (by decide)]; exact b7 j a b
  · rw [rU_o (by omega), up_cell (by decide)]; exact b8 j a b
  · rw [rU_o (by omega), up_cell (by decide)]; exact b9 j a b
theorem CS.f7 {c : Cm} {R : Int → Int} {v : Int} (h : CS c R) : CS (up c 1 7 v) (rU R 2 v) := by
  obtain ⟨⟨a0, a1, a2, a3, a4, a5, a6, a7, a8, a9, a10, a11⟩, b2, b3, b6, b7, b8, b9⟩ := h
  refine ⟨⟨?_, ?_, ?_, ?_, ?_, ?_, ?_, ?_, ?_, ?_, ?_, ?_⟩, fun j a b => ?_, fun j a b => ?_, fun j a b => ?_, fun j a b => ?_, fun j a b => ?_, fun j a b => ?_⟩
  · rw [rU_o (by decide), up_ne (by decide)]; exact a0
  · rw [rU_o (by decide), up_ne (by decide)]; exact a1
  · rw [rU_o (by decide), up_ne (by decide)]; exact a2
  · rw [rU_s, up_same]
  · rw [rU_o (by decide), up_ne (by decide)]; exact a4
  · rw [rU_o (by decide), up_ne (by decide)]; exact a5
  · rw [rU_o (by decide), up_ne (by decide)]; exact a6
  · rw [rU_o (by decide), up_cell (by decide)]; exact a7
  · rw [rU_o (by decide), up_cell (by decide)]; exact a8
  · rw [rU_o (by decide), up_cell (by decide)]; exact a9
  · rw [rU_o (by decide), up_cell (by decide)]; exact a10
  · rw [rU_o (by decide), up_cell (by decide)]; exact a11
  · rw [rU_o (by omega), up_cell (by decide)]; exact b2 j a b
  · rw [rU_o (by decide)] at b
    rw [rU_o (by omega), up_cell (by decide)]; exact b3 j a b
  · rw [rU_o (by omega), up_cell (by decide)]; exact b6 j a b
  · rw [rU_o (by omega), up_cell (by decide)]; exact b7 j a b
  · rw [rU_o (by omega), up_cell (by decide)]; exact b8 j a b
  · rw [rU_o (by omega), up_cell (by decide)]; exact b9 j a b
theorem CS.f8 {c : Cm} {R : Int → Int} {v : Int} (h : CS c R) : CS (up c 1 8 v) (rU R 4 v) := by
  obtain ⟨⟨a0, a1, a2, a3, a4, a5, a6, a7, a8, a9, a10, a11⟩, b2, b3, b6, b7, b8, b9⟩ := h
  refine ⟨⟨?_, ?_, ?_, ?_, ?_, ?_, ?_, ?_, ?_, ?_, ?_, ?_⟩, fun j a b => ?_, fun j a b => ?_, fun j a b => ?_, fun j a b => ?_, fun j a b => ?_, fun j a b => ?_⟩
  · rw [rU_o (by decide), up_ne (by decide)]; exact a0
  · rw [rU_o (by decide), up_ne (by decide)]; exact a1
  · rw [rU_o (by decide), up_ne (by decide)]; exact a2
  · rw [rU_o (by decide), up_ne (by decide)]; exact a3
  · rw [rU_s, up_same]
  · rw [rU_o (by decide), up_ne (by decide)]; exact a5
  · rw [rU_o (by decide), up_ne (by decide)]; exact a6
  · rw [rU_o (by decide), up_cell (by decide)]; exact a7
  · rw [rU_o (by decide), up_cell (by decide)]; exact a8
  · rw [rU_o (by decide), up_cell (by decide)]; exact a9
  · rw [rU_o (by decide), up_cell (by decide)]; exact a10
  · rw [rU_o (by decide), up_cell (by decide)]; exact a11
  · rw [rU_o (by omega), up_cell (by decide)]; exact b2 j a b
  · rw [rU_o (by decide)] at b
    rw [rU_o (by omega), up_cell (by decide)]; exact b3 j a b
  · rw [rU_o (by omega), up_cell (by decide)]; exact b6 j a b
  · rw [rU_o (by omega), up_cell (by decide)]; exact b7 j a b
  · rw [rU_o (by omega), up_cell (by decide)]; exact b8 j a b
  · rw [rU_o (by omega), up_cell (by decide)]; exact b9 j a b
theorem CS.f11 {c : Cm} {R : Int → Int} {v : Int} (h : CS c R) : CS (up c 1 11 v) (rU R 5 v) := by
  obtain ⟨⟨a0, a1, a2, a3, a4, a5, a6, a7, a8, a9, a10, a11⟩, b2, b3, b6, b7, b8, b9⟩ := h
  refine ⟨⟨?_, ?_, ?_, ?_, ?_, ?_, ?_, ?_, ?_, ?_, ?_, ?_⟩, fun j a b => ?_, fun j a b => ?_, fun j a b => ?_, fun j a b => ?_, fun j a b => ?_, fun j a b => ?_⟩
  · rw [rU_o (by decide), up_ne (by decide)]; exact a0
  · rw [rU_o (by decide), up_ne (by decide)]; exact a1
  · rw [rU_o (by decide), up_ne (by decide)]; exact a2
  · rw [rU_o (by decide), up_ne (by decide)]; exact a3
  · rw [rU_o (by decide), up_ne (by decide)]; exact a4
  · rw [rU_s, up_same]
  · rw [rU_o (by decide), up_ne (by decide)]; exact a6
  · rw [rU_o (by decide), up_cell (by decide)]; exact a7
  · rw [rU_o (by decide), up_cell (by decide)]; exact a8
  · rw [rU_o (by decide), up_cell (by decide)]; exact a9
  · rw [rU_o (by decide), up_cell (by decide)]; exact a10
  · rw [rU_o (by decide), up_cell (by decide)]; exact a11
  · rw [rU_o (by omega), up_cell (by decide)]; exact b2 j a b
  · rw [rU_o (by decide)] at b
    rw [rU_o (by omega), up_cell (by decide)]; exact b3 j a b
  · rw [rU_o (by omega), up_cell (by decide)]; exact b6 j a b
  · rw [rU_o (by omega), up_cell (by decide)]; exact b7 j a b
  · rw [rU_o (by omega), up_cell (by decide)]; exact b8 j a b
  · rw [rU_o (by omega), up_cell (by decide)]; exact b9 j a b
theorem CS.f13 {c : Cm} {R : Int → Int} {v : Int} (h : CS c R) : CS (up c 1 13 v) (rU R 6 v) := by
  obtain ⟨⟨a0, a1, a2, a3, a4, a5, a6, a7, a8, a9, a10, a11⟩, b2, b3, b6, b7, b8, b9⟩ := h
  refine ⟨⟨?_, ?_, ?_, ?_, ?_, ?_, ?_, ?_, ?_, ?_, ?_, ?_⟩, fun j a b => ?_, fun j a b => ?_, fun j a b => ?_, fun j a b => ?_, fun j a b => ?_, fun j a b => ?_⟩
  · rw [rU_o (by decide), up_ne (by decide)]; exact a0
  · rw [rU_o (by decide), up_ne (by decide)]; exact a1
  · rw [rU_o (by decide), up_ne (by decide)]; exact a2
  · rw [rU_o (by decide), up_ne (by decide)]; exact a3
  · rw [rU_o (by decide), up_ne (by decide)]; exact a4
  · rw [rU_o (by decide), up_ne (by decide)]; exact a5
  · rw [rU_s, up_same]
  · rw [rU_o (by decide), up_cell (by decide)]; exact a7
  · rw [rU_o (by decide), up_cell (by decide)]; exact a8
  · rw [rU_o (by decide), up_cell (by decide)]; exact a9
  · rw [rU_o (by decide), up_cell (by decide)]; exact a10
  · rw [rU_o (by decide), up_cell (by decide)]; exact a11
  · rw [rU_o (by omega), up_cell (by decide)]; exact b2 j a b
  · rw [rU_o (by decide)] at b
    rw [rU_o (by omega), up_cell (by decide)]; exact b3 j a b
  · rw [rU_o (by omega), up_cell (by decide)]; exact b6 j a b
  · rw [rU_o (by omega), up_cell (by decide)]; exact b7 j a b
  · rw [rU_o (by omega), up_cell (by decide)]; exact b8 j a b
  · rw [rU_o (by omega), up_cell (by decide)]; exact b9 j a b

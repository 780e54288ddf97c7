/-! ORDERS: the class acts -/
def pwk (F : List Clz) (R : Int → Int) (p : Int) : Int × (Int → Int) := if 0 ≤ p ∧ p < R 0 then (if brp F R p (R 4 + 1) = true ∨ rst R p (R 4 + 1) = true then (-3, R) else if R 4 < 16 then (0, pRw F R p) else (-5, R)) else (-3, R)
def oac (F : List Clz) (R : Int → Int) (k : Int) (P : Int → Int) : Int × (Int → Int) := if k = 4 then (if R 5 < 6 then (0, cpR R) else (-5, R)) else if k = 3 then (if R 4 = 0 then (-3, R) else (0, scR R)) else if k = 5 then (if (0 ≤ P 0 ∧ P 0 < R 5) ∧ (0 ≤ P 1 ∧ P 1 < 12) ∧ 0 ≤ P 2 ∧ P 2 < 10 then (0, toR R (P 0) (P 1) (P 2)) else (-3, R)) else pwk F R (if k = 2 then P 0 else if 0 < (pln F R k 1).1 then (pln F R k 1).2.2.2 0 else -1)
theorem CS.scrape {c : Cm} {R : Int → Int} (h : CS c R) : CS (up c 1 8 (R 4 - 1)) (scR R) := by
  obtain ⟨⟨a0, a1, a2, a3, a4, a5, a6, a7, a8, a9, a10, a11⟩, b1, b2, b3, b4, b5, b6⟩ := h
  refine ⟨⟨(up_ne (by decide)).trans a0, (up_ne (by decide)).trans a1, (up_ne (by decide)).trans a2, (up_ne (by decide)).trans a3, up_same, (up_ne (by decide)).trans a5, (up_ne (by decide)).trans a6, (congrFun (up_cell (by decide)) _).trans a7, (congrFun (up_cell (by decide)) _).trans a8, (congrFun (up_cell (by decide)) _).trans a9, (congrFun (up_cell (by decide)) _).trans a10, (congrFun (up_cell (by decide)) _).trans a11⟩, fun i a b => ?_, fun i a b => ?_, fun i a b => ?_, fun i a b => ?_, fun i a b => ?_, fun i a b => ?_⟩
  · rw [scR_o (by omega), up_cell (by decide)]; exact b1 i a b
  · rw [scR_o (by omega), up_cell (by decide)]; exact b2 i a b
  · rw [scR_o (by omega), up_cell (by decide)]; exact b3 i a b
  · rw [scR_o (by omega), up_cell (by decide)]; exact b4 i a b
  · rw [scR_o (by omega), up_cell (by decide)]; exact b5 i a b
  · rw [scR_o (by omega), up_cell (by decide)]; exact b6 i a b
theorem CS.touch {c : Cm} {R : Int → Int} {a x t : Int} (h : CS c R) (hR : RNG R) (ha : 0 ≤ a ∧ a < 6) (hx : 0 ≤ x ∧ x < 12) : CS (up c 8 (a * 12 + x) t) (toR R a x t) := by
  have h1 := hR.1
  obtain ⟨⟨a0, a1, a2, a3, a4, a5, a6, a7, a8, a9, a10, a11⟩, b1, b2, b3, b4, b5, b6⟩ := h
  have o : ∀ j, j < 276 → toR R a x t j = R j := fun j hj => toR_o (by omega)
  have o3 : toR R a x t 3 = R 3 := o 3 (by omega)
  refine ⟨⟨?_, ?_, ?_, ?_, ?_, ?_, ?_, ?_, ?_, ?_, ?_, ?_⟩, fun i a b => ?_, fun i a b => ?_, fun i a b => ?_, fun i a b => ?_, fun i p q => ?_, fun i a b => ?_⟩
  · rw [o _ (by omega), up_cell (by decide)]; exact a0
  · rw [o _ (by omega), up_cell (by decide)]; exact a1
  · rw [o _ (by omega), up_cell (by decide)]; exact a2
  · rw [o _ (by omega), up_cell (by decide)]; exact a3
  · rw [o _ (by omega), up_cell (by decide)]; exact a4
  · rw [o _ (by omega), up_cell (by decide)]; exact a5
  · rw [o _ (by omega), up_cell (by decide)]; exact a6
  · rw [o _ (by omega), up_cell (by decide)]; exact a7
  · rw [o _ (by omega), up_cell (by decide)]; exact a8
  · rw [o _ (by omega), up_cell (by decide)]; exact a9
  · rw [o _ (by omega), up_cell (by decide)]; exact a10
  · rw [o _ (by omega), up_cell (by decide)]; exact a11
  · rw [o _ (by omega), up_cell (by decide)]; exact b1 i a b
  · rw [o3] at b
    rw [o _ (by omega), up_cell (by decide)]; exact b2 i a b
  · rw [o _ (by omega), up_cell (by decide)]; exact b3 i a b
  · rw [o _ (by omega), up_cell (by decide)]; exact b4 i a b
  · rw [up_at]
    unfold toR
    by_cases e : i = a * 12 + x
    · rw [if_pos e, if_pos (by omega)]
    · rw [if_neg e, if_neg (by omega)]; exact b5 i p q
  · rw [toR_o (by omega), up_cell (by decide)]; exact b6 i a b

/-! ORDERS: what acting makes of a row of numbers; the ranges keep -/
theorem RNG.keep {R R' : Int → Int} (h : RNG R) (e : ∀ j, 0 ≤ j → j ≤ 11 → j ≠ 4 → j ≠ 5 → R' j = R j) (h4 : 0 ≤ R' 4 ∧ R' 4 ≤ 16) (h5 : 0 ≤ R' 5 ∧ R' 5 ≤ 6) (ht : ∀ i, 0 ≤ i → i < 204 → 0 ≤ R' (12 + i) ∧ R' (12 + i) ≤ 9) (hl : ∀ l, 1 ≤ l → l ≤ R' 4 → 0 ≤ R' (216 + l) ∧ R' (216 + l) < R 0) (hc : ∀ i, 0 ≤ i → i < 72 → 0 ≤ R' (276 + i) ∧ R' (276 + i) ≤ 9) (eo : ∀ j, 233 ≤ j → (j < 276 ∨ 348 ≤ j) → R' j = R j) : RNG R' := by
  have h1 := h.1
  have e0 := e 0 (by omega) (by omega) (by omega) (by omega)
  have e3 := e 3 (by omega) (by omega) (by omega) (by omega)
  have e6 := e 6 (by omega) (by omega) (by omega) (by omega)
  refine ⟨?_, ht, ?_, ?_, ?_, ?_, hc, ?_⟩
  · rw [e0, e3, e6, e 1 (by omega) (by omega) (by omega) (by omega), e 2 (by omega) (by omega) (by omega) (by omega), e 7 (by omega) (by omega) (by omega) (by omega), e 8 (by omega) (by omega) (by omega) (by omega), e 9 (by omega) (by omega) (by omega) (by omega), e 10 (by omega) (by omega) (by omega) (by omega), e 11 (by omega) (by omega) (by omega) (by omega)]
    omega
  · intro l a b
    rw [e0]
    exact hl l a b
  · intro q a b
    rw [e0] at b
    rw [eo _ (by omega) (.inl (by omega)), eo _ (by omega) (.inl (by omega))]
    exact h.2.2.2.1 q a b
  · intro q k a b a2 b2
    rw [e0] at b
    rw [eo _ (by omega) (.inl (by omega))]
    exact h.2.2.2.2.1 q k a b a2 b2
  · intro s a b
    rw [e3] at b
    rw [eo _ (by omega) (.inl (by omega)), eo _ (by omega) (.inl (by omega)), eo _ (by omega) (.inl (by omega))]
    exact h.2.2.2.2.2.1 s a b
  · intro q a b
    rw [e6] at b
    rw [eo _ (by omega) (.inr (by omega)), eo _ (by omega) (.inr (by omega)), eo _ (by omega) (.inr (by omega)), eo _ (by omega) (.inr (by omega))]
    exact h.2.2.2.2.2.2.2 q a b
theorem pRw_rng {F : List Clz} {R : Int → Int} {p : Int} (h : RNG R) (h4 : R 4 ≤ 15) (hp : 0 ≤ p ∧ p < R 0) : RNG (pRw F R p) := by
  have h1 := h.1
  have t := tR_rng (F := F) (p := p) (i := 12) h h4 (by omega)
  have e4 : pRw F R p 4 = R 4 + 1 := rfl
  have o : ∀ j, j ≠ 4 → j ≠ 217 + R 4 → (j < 24 + 12 * R 4 ∨ 36 + 12 * R 4 ≤ j) → pRw F R p j = R j := fun j a b c => pRw_o a b c
  refine h.keep (fun j a b c d => o j c (by omega) (.inl (by omega))) (by omega) (by rw [o 5 (by omega) (by omega) (.inl (by omega))]; omega) (fun i a b => ?_) (fun l a b => ?_) (fun i a b => ?_) (fun j a b => o j (by omega) (by omega) (.inr (by omega)))
  · have := t.2.1 i a b
    unfold pRw
    rw [if_neg (by omega), if_neg (by omega)]
    exact this
  · by_cases e : 216 + l = 217 + R 4
    · have : pRw F R p (216 + l) = p := by unfold pRw; rw [if_neg (by omega), if_pos e]
      rw [this]; exact hp
    · rw [o _ (by omega) e (.inr (by omega))]
      rw [e4] at b
      exact h.2.2.1 l a (by omega)
  · rw [o _ (by omega) (by omega) (.inr (by omega))]
    exact h.2.2.2.2.2.2.1 i a b
theorem cpR_o {R : Int → Int} {j : Int} (h5 : j ≠ 5) (h : ¬ (276 + 12 * R 5 ≤ j ∧ j < 288 + 12 * R 5)) : cpR R j = R j := by
  unfold cpR
  rw [if_neg h5, if_neg h]
theorem cpR_rng {R : Int → Int} (h : RNG R) (h5 : R 5 < 6) : RNG (cpR R) := by
  have h1 := h.1
  have e5 : cpR R 5 = R 5 + 1 := rfl
  refine h.keep (fun j a b c d => cpR_o d (by omega)) (by rw [cpR_o (by omega) (by omega)]; omega) (by omega) (fun i a b => ?_) (fun l a b => ?_) (fun i a b => ?_) (fun j a b => cpR_o (by omega) (by omega))
  · rw [cpR_o (by omega) (by omega)]; exact h.2.1 i a b
  · rw [cpR_o (by omega) (by omega)] at b
    rw [cpR_o (by omega) (by omega)]; exact h.2.2.1 l a b
  · by_cases e : 276 + 12 * R 5 ≤ 276 + i ∧ 276 + i < 288 + 12 * R 5
    · have t := h.tone (l := R 4) (x := 276 + i - (276 + 12 * R 5)) (by omega) (by omega)
      unfold cpR
      rw [if_neg (by omega), if_pos e]
      exact t
    · rw [cpR_o (by omega) e]; exact h.2.2.2.2.2.2.1 i a b
/-- one layer less -/
def scR (R : Int → Int) : Int → Int := fun j => if j = 4 then R 4 - 1 else R j
theorem scR_o {R : Int → Int} {j : Int} (h : j ≠ 4) : scR R j = R j := if_neg h
theorem scR_rng {R : Int → Int} (h : RNG R) (h4 : R 4 ≠ 0) : RNG (scR R) := by
  have h1 := h.1
  have e4 : scR R 4 = R 4 - 1 := rfl
  refine h.keep (fun j a b c d => scR_o c) (by omega) (by rw [scR_o (by omega)]; omega) (fun i a b => ?_) (fun l a b => ?_) (fun i a b => ?_) (fun j a b => scR_o (by omega))
  · rw [scR_o (by omega)]; exact h.2.1 i a b
  · rw [scR_o (by omega)]; exact h.2.2.1 l a (by omega)
  · rw [scR_o (by omega)]; exact h.2.2.2.2.2.2.1 i a b
/-- one cell of a paper touched -/
def toR (R : Int → Int) (a x t : Int) : Int → Int := fun j => if j = 276 + 12 * a + x then t else R j
theorem toR_o {R : Int → Int} {a x t j : Int} (h : j ≠ 276 + 12 * a + x) : toR R a x t j = R j := if_neg h
theorem toR_rng {R : Int → Int} {a x t : Int} (h : RNG R) (ha : 0 ≤ a ∧ a < 6) (hx : 0 ≤ x ∧ x < 12) (ht : 0 ≤ t ∧ t ≤ 9) : RNG (toR R a x t) := by
  have h1 := h.1
  refine h.keep (fun j _ b c d => toR_o (by omega)) (by rw [toR_o (by omega)]; omega) (by rw [toR_o (by omega)]; omega) (fun i _ b => ?_) (fun l _ b => ?_) (fun i k b => ?_) (fun j _ b => toR_o (by omega))
  · rw [toR_o (by omega)]; exact h.2.1 i (by omega) b
  · rw [toR_o (by omega)] at b
    rw [toR_o (by omega)]; exact h.2.2.1 l (by omega) b
  · unfold toR
    split
    · exact ht
    · exact h.2.2.2.2.2.2.1 i k b

/-! WHAT CHANGES THE WORLD: the ranges keep -/
theorem RNG.keep2 {R R' : Int → Int} (h : RNG R) (h0 : 0 ≤ R' 0 ∧ R' 0 ≤ 5) (b0 : R 0 ≤ R' 0) (h12 : R' 1 = R 1 ∧ -1 ≤ R' 2 ∧ R' 2 < R 1) (h3 : 0 ≤ R' 3 ∧ R' 3 ≤ 6) (h45 : R' 4 = R 4 ∧ R' 5 = R 5) (h6 : 0 ≤ R' 6 ∧ R' 6 ≤ 8) (ht : (0 ≤ R' 7 ∧ R' 7 ≤ 99) ∧ (0 ≤ R' 8 ∧ R' 8 ≤ 5) ∧ (0 ≤ R' 9 ∧ R' 9 ≤ 9) ∧ (0 ≤ R' 10 ∧ R' 10 ≤ 999) ∧ 0 ≤ R' 11 ∧ R' 11 ≤ 3) (et : ∀ j, (12 ≤ j ∧ j < 233) ∨ (276 ≤ j ∧ j < 348) → R' j = R j)
    (pp : ∀ p, 0 ≤ p → p < R' 0 → 1 ≤ R' (233 + 5 * p) ∧ R' (233 + 5 * p) ≤ 9 ∧ 0 ≤ R' (233 + 5 * p + 1) ∧ R' (233 + 5 * p + 1) ≤ 99) (pe : ∀ p k, 0 ≤ p → p < R' 0 → 0 ≤ k → k < 3 → 0 ≤ R' (233 + 5 * p + 2 + k) ∧ R' (233 + 5 * p + 2 + k) ≤ 6) (ps : ∀ s, 0 ≤ s → s < R' 3 → 0 ≤ R' (258 + 3 * s) ∧ R' (258 + 3 * s) ≤ 11 ∧ 0 ≤ R' (258 + 3 * s + 1) ∧ R' (258 + 3 * s + 1) ≤ 99 ∧ 0 ≤ R' (258 + 3 * s + 2) ∧ R' (258 + 3 * s + 2) ≤ 9)
    (pq : ∀ q, 0 ≤ q → q < R' 6 → -1 ≤ R' (348 + 4 * q) ∧ R' (348 + 4 * q) < q ∧ 0 ≤ R' (348 + 4 * q + 1) ∧ R' (348 + 4 * q + 1) ≤ 99 ∧ R' (348 + 4 * q + 1) < R' (348 + 4 * q + 2) ∧ R' (348 + 4 * q + 2) ≤ 150 ∧ -1 ≤ R' (348 + 4 * q + 3) ∧ R' (348 + 4 * q + 3) ≤ 5) : RNG R' := by
  have r := h.1
  refine ⟨by omega, fun i a b => ?_, fun l a b => ?_, pp, pe, ps, fun i a b => ?_, pq⟩
  · rw [et _ (.inl (by omega))]; exact h.2.1 i a b
  · rw [et _ (.inl (by omega))]
    have := h.2.2.1 l a (by omega)
    omega
  · rw [et _ (.inr (by omega))]; exact h.2.2.2.2.2.2.1 i a b
/-- one number behind the pictures or among the painters, scars, claimants -/
theorem RNG.one {R : Int → Int} {a v : Int} (h : RNG R) (ha : (233 ≤ a ∧ a < 276) ∨ 348 ≤ a) (pp : ∀ p, 0 ≤ p → p < R 0 → (a = 233 + 5 * p → 1 ≤ v ∧ v ≤ 9) ∧ (a = 233 + 5 * p + 1 → 0 ≤ v ∧ v ≤ 99)) (pe : ∀ p k, 0 ≤ p → p < R 0 → 0 ≤ k → k < 3 → a = 233 + 5 * p + 2 + k → 0 ≤ v ∧ v ≤ 6) (ps : 258 ≤ a → a < 276 → False) (pq : ∀ q, 0 ≤ q → q < R 6 → a ≠ 348 + 4 * q ∧ a ≠ 348 + 4 * q + 1 ∧ (a = 348 + 4 * q + 2 → R (348 + 4 * q + 1) < v ∧ v ≤ 150) ∧ (a = 348 + 4 * q + 3 → -1 ≤ v ∧ v ≤ 5)) : RNG (rU R a v) := by
  have r := h.1
  have o : ∀ j, j ≠ a → rU R a v j = R j := fun j b => rU_o b
  have e0 := o 0 (by omega)
  have e3 := o 3 (by omega)
  have e6 := o 6 (by omega)
  refine h.keep2 (by omega) (by omega) ⟨o 1 (by omega), by rw [o 2 (by omega)]; omega⟩ (by omega) ⟨o 4 (by omega), o 5 (by omega)⟩ (by omega) (by rw [o 7 (by omega), o 8 (by omega), o 9 (by omega), o 10 (by omega), o 11 (by omega)]; omega) (fun j b => o j (by omega)) (fun p b d => ?_) (fun p k b d b2 d2 => ?_) (fun s b d => ?_) (fun q b d => ?_)
  · rw [e0] at d
    have k := pp p b d
    have g := h.2.2.2.1 p b d
    unfold rU
    refine ⟨?_, ?_, ?_, ?_⟩
    all_goals split
    all_goals omega
  · rw [e0] at d
    have k := pe p k b d b2 d2
    have g := h.2.2.2.2.1 p _ b d b2 d2
    unfold rU
    refine ⟨?_, ?_⟩
    all_goals split
    all_goals omega
  · rw [e3] at d
    have nps : ¬ (258 ≤ a ∧ a < 276) := fun z => ps z.1 z.2
    rw [o _ (by omega), o _ (by omega), o _ (by omega)]
    exact h.2.2.2.2.2.1 s b d
  · rw [e6] at d
    have k := pq q b d
    have g := h.2.2.2.2.2.2.2 q b d
    rw [o _ (Ne.symm k.1), o _ (Ne.symm k.2.1)]
    unfold rU
    refine ⟨by omega, by omega, by omega, by omega, ?_, ?_, ?_, ?_⟩
    all_goals split
    all_goals omega
/-- a tone of a layer or of a copy -/
theorem RNG.ton {R : Int → Int} {a v : Int} (h : RNG R) (ha : (12 ≤ a ∧ a < 216) ∨ (276 ≤ a ∧ a < 348)) (hv : 0 ≤ v ∧ v ≤ 9) : RNG (rU R a v) := by
  have r := h.1
  have o : ∀ j, j ≠ a → rU R a v j = R j := fun j b => rU_o b
  refine h.keep (fun j b d _ _ => o j (by omega)) (by rw [o 4 (by omega)]; omega) (by rw [o 5 (by omega)]; omega) (fun i b d => ?_) (fun l b d => ?_) (fun i b d => ?_) (fun j b d => o j (by omega))
  · have g := h.2.1 i b d
    unfold rU
    split
    · exact hv
    · exact g
  · rw [o 4 (by omega)] at d
    rw [o _ (by omega)]
    exact h.2.2.1 l b d
  · have g := h.2.2.2.2.2.2.1 i b d
    unfold rU
    split
    · exact hv
    · exact g
/-- years -/
theorem RNG.yrs {R : Int → Int} {v : Int} (h : RNG R) (hv : 0 ≤ v ∧ v ≤ R 4) : RNG (rU R 4 v) := by
  have r := h.1
  have o : ∀ j, j ≠ 4 → rU R 4 v j = R j := fun j b => rU_o b
  refine h.keep (fun j b d e _ => o j e) (by rw [rU_s]; omega) (by rw [o 5 (by omega)]; omega) (fun i b d => ?_) (fun l b d => ?_) (fun i b d => ?_) (fun j b d => o j (by omega))
  · rw [o _ (by omega)]; exact h.2.1 i b d
  · rw [rU_s] at d
    rw [o _ (by omega)]; exact h.2.2.1 l b (by omega)
  · rw [o _ (by omega)]; exact h.2.2.2.2.2.2.1 i b d
/-- copies -/
theorem RNG.cps {R : Int → Int} {v : Int} (h : RNG R) (hv : 0 ≤ v ∧ v ≤ 6) : RNG (rU R 5 v) := by
  have r := h.1
  have o : ∀ j, j ≠ 5 → rU R 5 v j = R j := fun j b => rU_o b
  refine h.keep (fun j b d _ e => o j e) (by rw [o 4 (by omega)]; omega) (by rw [rU_s]; omega) (fun i b d => ?_) (fun l b d => ?_) (fun i b d => ?_) (fun j b d => o j (by omega))
  · rw [o _ (by omega)]; exact h.2.1 i b d
  · rw [o _ (by omega)] at d
    rw [o _ (by omega)]; exact h.2.2.1 l b d
  · rw [o _ (by omega)]; exact h.2.2.2.2.2.2.1 i b d
/-- the law in force, a term -/
theorem RNG.scl {R : Int → Int} {a v : Int} (h : RNG R) (ha : a = 2 ∨ (7 ≤ a ∧ a ≤ 11)) (h2 : a = 2 → -1 ≤ v ∧ v < R 1) (h7 : a = 7 → 0 ≤ v ∧ v ≤ 99) (h8 : a = 8 → 0 ≤ v ∧ v ≤ 5) (h9 : a = 9 → 0 ≤ v ∧ v ≤ 9) (h10 : a = 10 → 0 ≤ v ∧ v ≤ 999) (h11 : a = 11 → 0 ≤ v ∧ v ≤ 3) : RNG (rU R a v) := by
  have r := h.1
  have o : ∀ j, j ≠ a → rU R a v j = R j := fun j b => rU_o b
  have e0 := o 0 (by omega)
  have e3 := o 3 (by omega)
  have e6 := o 6 (by omega)
  refine h.keep2 (by omega) (by omega) ⟨o 1 (by omega), ?_, ?_⟩ (by omega) ⟨o 4 (by omega), o 5 (by omega)⟩ (by omega) ⟨?_, ?_, ?_, ?_, ?_⟩ (fun j b => o j (by omega)) (fun p b d => ?_) (fun p k b d b2 d2 => ?_) (fun s b d => ?_) (fun q b d => ?_)
  · unfold rU; split <;> omega
  · unfold rU; split <;> omega
  · unfold rU; split <;> omega
  · unfold rU; split <;> omega
  · unfold rU; split <;> omega
  · unfold rU; split <;> omega
  · unfold rU; split <;> omega
  · rw [e0] at d
    rw [o _ (by omega), o _ (by omega)]
    exact h.2.2.2.1 p b d
  · rw [e0] at d
    rw [o _ (by omega)]
    exact h.2.2.2.2.1 p _ b d b2 d2
  · rw [e3] at d
    rw [o _ (by omega), o _ (by omega), o _ (by omega)]
    exact h.2.2.2.2.2.1 s b d
  · rw [e6] at d
    rw [o _ (by omega), o _ (by omega), o _ (by omega), o _ (by omega)]
    exact h.2.2.2.2.2.2.2 q b d
theorem rU_sw {R : Int → Int} {a b v w : Int} (h : a ≠ b) : rU (rU R a v) b w = rU (rU R b w) a v := by
  funext j
  unfold rU
  by_cases e : j = b
  · rw [if_pos e, if_neg (by omega), if_pos e]
  · rw [if_neg e, if_neg e]

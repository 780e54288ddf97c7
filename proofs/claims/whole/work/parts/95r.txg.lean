/-! ORDERS: reading leaves the world alone -/
theorem txg_cell {c c' : Cm} (h : Fr TXG c c') {q : Nat} (h1 : q ≠ 48) (h2 : q ≠ 11) (h3 : q ≠ 12) (h4 : q ≠ 13) : c' q = c q := by
  funext j
  refine h q j fun k => ?_
  rcases k with k | k | k | k
  · exact h1 k
  · exact h2 k
  · exact h3 k
  · exact h4 k
theorem CWd.txg {T : List Shp} {c c' : Cm} {R : Int → Int} {F : List Clz} (h : CWd T c R F) (f : Fr TXG c c') : CWd T c' R F := by
  have e : ∀ q, q < 11 → c' q = c q := fun q hq => txg_cell f (by omega) (by omega) (by omega) (by omega)
  refine ⟨h.1.cells (e 1 (by omega)) (e 2 (by omega)) (e 3 (by omega)) (e 4 (by omega)) (e 6 (by omega)) (e 7 (by omega)) (e 8 (by omega)) (e 9 (by omega)), h.2.1, h.2.2.of (by rw [e 1 (by omega)]) (by rw [e 1 (by omega)]) (e 5 (by omega)) fun q hq => txg_cell f (by omega) (by omega) (by omega) (by omega)⟩
theorem B9.txg {c c' : Cm} (h : B9 c) (f : Fr TXG c c') : B9 c' := by
  unfold B9
  rw [txg_cell f (q := 71) (by decide) (by decide) (by decide) (by decide)]
  exact h
theorem B9.w0 {c : Cm} {j v : Int} (h : B9 c) : B9 (up c 0 j v) := by
  unfold B9
  rw [up_cell (by decide)]
  exact h
theorem CWd.w0 {T : List Shp} {c : Cm} {R : Int → Int} {F : List Clz} {j v : Int} (h : CWd T c R F) : CWd T (up c 0 j v) R F := by
  have e : ∀ q, q ≠ 0 → up c 0 j v q = c q := fun q hq => up_cell hq
  exact ⟨h.1.cells (e 1 (by omega)) (e 2 (by omega)) (e 3 (by omega)) (e 4 (by omega)) (e 6 (by omega)) (e 7 (by omega)) (e 8 (by omega)) (e 9 (by omega)), h.2.1, h.2.2.of (by rw [e 1 (by omega)]) (by rw [e 1 (by omega)]) (e 5 (by omega)) fun q hq => e q (by omega)⟩

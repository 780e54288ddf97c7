/-! THE CLASS's clauses: what they tell -/
/-- a piece for every W that can be asked; stop behind it -/
def PXA (T : List Shp) (r : Int) (u v : Nat) (S : Int → Int) (n p : Int) (d : Den) : Prop := ∃ q need, (0 ≤ p ∧ p ≤ q ∧ q - p ≤ 449) ∧ q < n ∧ need ≤ 100 ∧ S q = 12 + 16 * 0 ∧ ∀ W, WR W → PCA T r u v S (fun i => W (i + 1)) n need p q (d W)
def CTY (T : List Shp) (c : Cm) (r : Int) (F : List Clz) : Prop := r ≠ 0 ∧ ∃ (u w v : Nat) (n2 : Int) (f3 : List Int) (nw : Int) (fw : List Int) (nv : Int) (fv : List Int), drf (SH T) r = some (u, (20, n2, f3)) ∧ drf (SH T) (f3.getD 0 0) = some (w, (0, nw, fw)) ∧ drf (SH T) (f3.getD 1 0) = some (v, (0, nv, fv)) ∧ (109 ≤ u ∧ 109 ≤ w ∧ 109 ≤ v) ∧ c u 2 = (F.length : Int) ∧ (F.length ≤ 12 ∧ 6 * (F.length : Int) ≤ nw) ∧ c u 3 ≤ 450 ∧ c u 3 ≤ nv ∧ ∀ (i : Nat) (z : Clz), F[i]? = some z → c w (6 * (i : Int)) = z.1 ∧ (match z.2.1 with | none => c w (6 * (i : Int) + 2) = -1 | some d => PXA T r u v (c v) (c u 3) (c w (6 * (i : Int) + 2)) d) ∧ (match z.2.2 with | none => c w (6 * (i : Int) + 3) = -1 | some d => PXA T r u v (c v) (c u 3) (c w (6 * (i : Int) + 3)) d) ∧ (z.2.2 = none → z.1 = 4)
theorem tl_take {F : List Clz} {k : Int} {W : Int → Int} {i : Nat} {z : Clz} (h : F[i]? = some z) : tl (F.take (i + 1)) k W = if z.1 = k then (match clt W z with | none => tl (F.take i) k W | some v => some v) else tl (F.take i) k W := by
  unfold tl
  rw [List.take_succ, h]
  show List.foldl _ none (F.take i ++ [z]) = _
  rw [List.foldl_append]
  rfl

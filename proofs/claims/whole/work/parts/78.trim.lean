/-! A TEXT is made smaller: three new cells -/
theorem drf_at {l r : List Shp} {a : Shp} : drf (l ++ a :: r) ((l.length : Int) + 1) = some (l.length, a) := by
  show ((l ++ a :: r)[l.length]?).elim none (fun s => some (l.length, s)) = some (l.length, a)
  rw [List.getElem?_append_right (Nat.le_refl _), Nat.sub_self]
  rfl
theorem set_at {l r : List Shp} {a x : Shp} : (l ++ a :: r).set l.length x = l ++ x :: r := by
  rw [List.set_append_right _ _ (Nat.le_refl _), Nat.sub_self]
  rfl
theorem app1 {l : List Shp} {a b : Shp} : (l ++ [a]) ++ [b] = l ++ a :: [b] := by rw [List.append_assoc]; rfl
theorem t_init {l : List Shp} {c : Cm} {a b : Int} (ha : 0 ≤ a ∧ a ≤ 12) (hb : 0 ≤ b ∧ b ≤ 450) : ccal 108 [vR ((l.length : Int) + 1), vI a, vI b] (l ++ [(20, 5, [0, 0, 0, 0, 0])], c) = some (none, (l ++ [(20, 5, [(l.length : Int) + 2, (l.length : Int) + 3, 0, 0, 0]), (0, a * 6, []), (0, b, [])], uz (uz c (l.length + 1)) (l.length + 2))) := by
  have e1 : ∀ A0 : Shp, (l ++ [A0]).length = l.length + 1 := fun A0 => by rw [List.length_append]; rfl
  have eS : ∀ A1 : Shp, ((l ++ [(20, 5, [0, 0, 0, 0, 0])]) ++ [(0, a * 6, [])] : List Shp).set l.length A1 = l ++ A1 :: [(0, a * 6, [])] := fun A1 => by rw [app1, set_at]
  have eL : ∀ A1 : Shp, (l ++ A1 :: [(0, a * 6, [])] : List Shp).length = l.length + 2 := fun A1 => by rw [List.length_append]; rfl
  refine of_cev (Q := fun Z => Z = _) ?_
  refine wq_el (Q := fun Z => Z = _) (drf_at (l := l) (r := []) (a := (20, 5, [0, 0, 0, 0, 0]))) ?_
  refine wq_pos (Q := fun Z => Z = _) (show -2147483648 ≤ a * 6 ∧ a * 6 < 2147483648 by omega) ?_
  refine wq_pos (Q := fun Z => Z = _) (show 0 ≤ a * 6 ∧ a * 6 ≤ 60000000 by omega) ?_
  refine wq_el (Q := fun Z => Z = _) (q := (l.length, (20, 5, [0, 0, 0, 0, 0]))) (show drf ((l ++ [(20, 5, [0, 0, 0, 0, 0])]) ++ [(0, a * 6, [])]) ((l.length : Int) + 1) = _ by rw [app1]; exact drf_at) ?_
  refine wq_el (Q := fun Z => Z = _) (q := ((l ++ [((20, 5, [0, 0, 0, 0, 0]) : Shp)]).length, (0, a * 6, []))) (show drf ((l ++ [(20, 5, [0, 0, 0, 0, 0])]) ++ [(0, a * 6, [])]) (((l ++ [((20, 5, [0, 0, 0, 0, 0]) : Shp)]).length : Int) + 1) = _ from drf_at) ?_
  refine wq_pos (Q := fun Z => Z = _) (show 0 ≤ b ∧ b ≤ 60000000 by omega) ?_
  have e2 : ∀ A1 : Shp, (l ++ A1 :: [((0, a * 6, []) : Shp)]) ++ [((0, b, []) : Shp)] = l ++ A1 :: [((0, a * 6, []) : Shp), ((0, b, []) : Shp)] := fun A1 => by rw [List.append_assoc]; rfl
  refine wq_el (Q := fun Z => Z = _) (q := (l.length, ((20, 5, [(((l ++ [((20, 5, [0, 0, 0, 0, 0]) : Shp)]).length : Int) + 1), 0, 0, 0, 0]) : Shp))) (show drf ((((l ++ [((20, 5, [0, 0, 0, 0, 0]) : Shp)]) ++ [((0, a * 6, []) : Shp)]).set l.length ((20, 5, [(((l ++ [((20, 5, [0, 0, 0, 0, 0]) : Shp)]).length : Int) + 1), 0, 0, 0, 0]) : Shp)) ++ [((0, b, []) : Shp)]) ((l.length : Int) + 1) = _ by rw [eS, e2]; exact drf_at) ?_
  refine wq_el (Q := fun Z => Z = _) (q := ((((l ++ [((20, 5, [0, 0, 0, 0, 0]) : Shp)]) ++ [((0, a * 6, []) : Shp)]).set l.length ((20, 5, [(((l ++ [((20, 5, [0, 0, 0, 0, 0]) : Shp)]).length : Int) + 1), 0, 0, 0, 0]) : Shp)).length, ((0, b, []) : Shp))) (show drf ((((l ++ [((20, 5, [0, 0, 0, 0, 0]) : Shp)]) ++ [((0, a * 6, []) : Shp)]).set l.length ((20, 5, [(((l ++ [((20, 5, [0, 0, 0, 0, 0]) : Shp)]).length : Int) + 1), 0, 0, 0, 0]) : Shp)) ++ [((0, b, []) : Shp)]) (((((l ++ [((20, 5, [0, 0, 0, 0, 0]) : Shp)]) ++ [((0, a * 6, []) : Shp)]).set l.length ((20, 5, [(((l ++ [((20, 5, [0, 0, 0, 0, 0]) : Shp)]).length : Int) + 1), 0, 0, 0, 0]) : Shp)).length : Int) + 1) = _ from drf_at) ?_
  show some (none, (((((l ++ [((20, 5, [0, 0, 0, 0, 0]) : Shp)]) ++ [((0, a * 6, []) : Shp)]).set l.length ((20, 5, [(((l ++ [((20, 5, [0, 0, 0, 0, 0]) : Shp)]).length : Int) + 1), 0, 0, 0, 0]) : Shp)) ++ [((0, b, []) : Shp)]).set l.length ((20, 5, [(((l ++ [((20, 5, [0, 0, 0, 0, 0]) : Shp)]).length : Int) + 1), (((((l ++ [((20, 5, [0, 0, 0, 0, 0]) : Shp)]) ++ [((0, a * 6, []) : Shp)]).set l.length ((20, 5, [(((l ++ [((20, 5, [0, 0, 0, 0, 0]) : Shp)]).length : Int) + 1), 0, 0, 0, 0]) : Shp)).length : Int) + 1), 0, 0, 0]) : Shp), uz (uz c (l ++ [((20, 5, [0, 0, 0, 0, 0]) : Shp)]).length) (((l ++ [((20, 5, [0, 0, 0, 0, 0]) : Shp)]) ++ [((0, a * 6, []) : Shp)]).set l.length ((20, 5, [(((l ++ [((20, 5, [0, 0, 0, 0, 0]) : Shp)]).length : Int) + 1), 0, 0, 0, 0]) : Shp)).length)) = _
  rw [eS, e2, set_at, eL, e1]
  refine congrArg (fun z => some (none, z)) (Prod.ext ?_ rfl)
  show l ++ [((20, 5, [((l.length + 1 : Nat) : Int) + 1, ((l.length + 2 : Nat) : Int) + 1, 0, 0, 0]) : Shp), ((0, a * 6, []) : Shp), ((0, b, []) : Shp)] = _
  rw [show ((l.length + 1 : Nat) : Int) + 1 = (l.length : Int) + 2 from by omega, show ((l.length + 2 : Nat) : Int) + 1 = (l.length : Int) + 3 from by omega]
/-- the three cells of a text that was made smaller -/
def tsh (T : List Shp) (k n : Int) : List Shp := [((20, 5, [((109 + T.length : Nat) : Int) + 2, ((109 + T.length : Nat) : Int) + 3, 0, 0, 0]) : Shp), (0, k * 6, []), (0, n, [])]
theorem sh_len {T : List Shp} : (SH T).length = 109 + T.length := by
  show (bsh ++ T).length = _
  rw [List.length_append]
  rfl

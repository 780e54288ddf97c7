theorem E_X9_unlikeOf {T : List Shp} {c : Nat → Int → Int} {x1 : Int}  : cal 96 [vR 19, vI x1] (SH T, c) = ev 96 5 4 [vR 19, vI x1, vI 0, vI 0] [] (SH T, c) := by
  refine (ev_eq _ _ _ _ _ _).trans ?_
  rfl
theorem B_X9_unlikeOf_4_1 {T : List Shp} {c : Nat → Int → Int} {x1 x2 x3 : Int} {r1 : Int} {c2 : Nat → Int → Int} {r3 : Int} {c4 : Nat → Int → Int} (h1 : x3 < 12) (h2 : 0 ≤ (w32 ((w32 (x1 * 12)) + x3)) ∧ (w32 ((w32 (x1 * 12)) + x3)) < 204) (h3 : cal 23 [vR 15, vI x3, vI x1] (SH T, c) = some (some (vI r1), (SH T, c2))) (h4 : cal 342 [vI (w32 ((c 7 (w32 ((w32 (x1 * 12)) + x3))) - r1))] (SH T, c2) = some (some (vI r3), (SH T, c4))) : ev 96 5 4 [vR 19, vI x1, vI x2, vI x3] [] (SH T, c) = ev 96 5 4 [vR 19, vI x1, vI (w32 (x2 + r3)), vI (w32 (x3 + 1))] [] (SH T, c4) := by
  refine (ev_eq _ _ _ _ _ _).trans ?_
  refine (if_pos h1).trans ?_
  refine (if_pos h2).trans ?_
  refine (el_call rfl h3).trans ?_
  refine (el_call rfl h4).trans ?_
  rfl
theorem B_X9_unlikeOf_4_2 {T : List Shp} {c : Nat → Int → Int} {x1 x2 x3 : Int} (h1 : ¬ x3 < 12) : ev 96 5 4 [vR 19, vI x1, vI x2, vI x3] [] (SH T, c) = some (some (vI x2), (SH T, c)) := by
  refine (ev_eq _ _ _ _ _ _).trans ?_
  refine (if_neg h1).trans ?_
  refine (ev_eq _ _ _ _ _ _).trans ?_
  rfl
theorem E_X9_farCell {T : List Shp} {c : Nat → Int → Int} {x1 : Int}  : cal 97 [vR 19, vI x1] (SH T, c) = ev 97 5 2 [vR 19, vI x1, vI 0, vU] [] (SH T, c) := by
  refine (ev_eq _ _ _ _ _ _).trans ?_
  rfl
theorem B_X9_farCell_2_1 {T : List Shp} {c : Nat → Int → Int} {x1 x2 : Int} {r1 : Int} {c2 : Nat → Int → Int} {r3 : Int} {c4 : Nat → Int → Int} {r5 : Int} {c6 : Nat → Int → Int} (h1 : x2 < 12) (h2 : 0 ≤ (w32 ((w32 (x1 * 12)) + x2)) ∧ (w32 ((w32 (x1 * 12)) + x2)) < 204) (h3 : cal 23 [vR 15, vI x2, vI x1] (SH T, c) = some (some (vI r1), (SH T, c2))) (h4 : cal 342 [vI (w32 ((c 7 (w32 ((w32 (x1 * 12)) + x2))) - r1))] (SH T, c2) = some (some (vI r3), (SH T, c4))) (h5 : cal 24 [vR 15, vI x2, vI x1] (SH T, c4) = some (some (vI r5), (SH T, c6))) (h6 : r5 < r3) : ev 97 5 2 [vR 19, vI x1, vI x2, vU] [] (SH T, c) = some (some (vI x2), (SH T, c6)) := by
  refine (ev_eq _ _ _ _ _ _).trans ?_
  refine (if_pos h1).trans ?_
  refine (if_pos h2).trans ?_
  refine (el_call rfl h3).trans ?_
  refine (el_call rfl h4).trans ?_
  refine (el_call rfl h5).trans ?_
  refine (if_pos h6).trans ?_
  rfl
theorem B_X9_farCell_2_2 {T : List Shp} {c : Nat → Int → Int} {x1 x2 : Int} {r1 : Int} {c2 : Nat → Int → Int} {r3 : Int} {c4 : Nat → Int → Int} {r5 : Int} {c6 : Nat → Int → Int} (h1 : x2 < 12) (h2 : 0 ≤ (w32 ((w32 (x1 * 12)) + x2)) ∧ (w32 ((w32 (x1 * 12)) + x2)) < 204) (h3 : cal 23 [vR 15, vI x2, vI x1] (SH T, c) = some (some (vI r1), (SH T, c2))) (h4 : cal 342 [vI (w32 ((c 7 (w32 ((w32 (x1 * 12)) + x2))) - r1))] (SH T, c2) = some (some (vI r3), (SH T, c4))) (h5 : cal 24 [vR 15, vI x2, vI x1] (SH T, c4) = some (some (vI r5), (SH T, c6))) (h6 : ¬ r5 < r3) : ev 97 5 2 [vR 19, vI x1, vI x2, vU] [] (SH T, c) = ev 97 5 2 [vR 19, vI x1, vI (w32 (x2 + 1)), vU] [] (SH T, c6) := by
  refine (ev_eq _ _ _ _ _ _).trans ?_
  refine (if_pos h1).trans ?_
  refine (if_pos h2).trans ?_
  refine (el_call rfl h3).trans ?_
  refine (el_call rfl h4).trans ?_
  refine (el_call rfl h5).trans ?_
  refine (if_neg h6).trans ?_
  refine (ev_eq _ _ _ _ _ _).trans ?_
  rfl
theorem B_X9_farCell_2_3 {T : List Shp} {c : Nat → Int → Int} {x1 x2 : Int} (h1 : ¬ x2 < 12) : ev 97 5 2 [vR 19, vI x1, vI x2, vU] [] (SH T, c) = some (some (vI (-1)), (SH T, c)) := by
  refine (ev_eq _ _ _ _ _ _).trans ?_
  refine (if_neg h1).trans ?_
  refine (ev_eq _ _ _ _ _ _).trans ?_
  rfl
theorem E_X9_moneyBehind {T : List Shp} {c : Nat → Int → Int} {x1 : Int}  : cal 98 [vR 19, vI x1] (SH T, c) = ev 98 5 14 [vR 19, vI x1, vI (w32 ((c 4 3) * x1)), vI 1] [] (SH T, c) := by
  refine (ev_eq _ _ _ _ _ _).trans ?_
  rfl
theorem B_X9_moneyBehind_14_1 {T : List Shp} {c : Nat → Int → Int} {x1 x2 x3 : Int} (h1 : x1 < x3) : ev 98 5 14 [vR 19, vI x1, vI x2, vI x3] [] (SH T, c) = some (some (vI x2), (SH T, c)) := by
  refine (ev_eq _ _ _ _ _ _).trans ?_
  refine (if_pos h1).trans ?_
  refine (ev_eq _ _ _ _ _ _).trans ?_
  rfl
theorem B_X9_moneyBehind_14_2 {T : List Shp} {c : Nat → Int → Int} {x1 x2 x3 : Int} {r1 : Int} {c2 : Nat → Int → Int} (h1 : ¬ x1 < x3) (h2 : 0 ≤ x3 ∧ x3 < 17) (h3 : cal 25 [vR 15, vI (c 6 x3), vI x3] (SH T, c) = some (some (vI r1), (SH T, c2))) : ev 98 5 14 [vR 19, vI x1, vI x2, vI x3] [] (SH T, c) = ev 98 5 14 [vR 19, vI x1, vI (w32 (x2 - r1)), vI (w32 (x3 + 1))] [] (SH T, c2) := by
  refine (ev_eq _ _ _ _ _ _).trans ?_
  refine (if_neg h1).trans ?_
  refine (if_pos h2).trans ?_
  refine (el_call rfl h3).trans ?_
  rfl
theorem E_X9_whoCan {T : List Shp} {c : Nat → Int → Int} {x1 : Int} {c1 : Nat → Int → Int} (h1 : cal 104 [vR 19, vI x1, vR 20] (SH T, c) = some (none, (SH T, c1))) : cal 99 [vR 19, vI x1] (SH T, c) = ev 99 6 13 [vR 19, vI x1, vI 0, vI 0] [] (SH T, c1) := by
  refine (ev_eq _ _ _ _ _ _).trans ?_
  refine (el_call rfl h1).trans ?_
  rfl
theorem B_X9_whoCan_13_1 {T : List Shp} {c : Nat → Int → Int} {x1 x2 x3 : Int} {r1 : Int} {c2 : Nat → Int → Int} (h1 : x3 < (c 1 0)) (h2 : cal 105 [vR 19, vI x1, vI x3, vI 1] (SH T, c) = some (some (vI r1), (SH T, c2))) (h3 : r1 = 0) : ev 99 6 13 [vR 19, vI x1, vI x2, vI x3] [] (SH T, c) = ev 99 6 40 [vR 19, vI x1, vI x2, vI x3] [] (SH T, c2) := by
  refine (ev_eq _ _ _ _ _ _).trans ?_
  refine (if_pos h1).trans ?_
  refine (el_call rfl h2).trans ?_
  refine (if_pos h3).trans ?_
  rfl
theorem B_X9_whoCan_13_2 {T : List Shp} {c : Nat → Int → Int} {x1 x2 x3 : Int} {r1 : Int} {c2 : Nat → Int → Int} (h1 : x3 < (c 1 0)) (h2 : cal 105 [vR 19, vI x1, vI x3, vI 1] (SH T, c) = some (some (vI r1), (SH T, c2))) (h3 : ¬ r1 = 0) : ev 99 6 13 [vR 19, vI x1, vI x2, vI x3] [] (SH T, c) = ev 99 6 40 [vR 19, vI x1, vI (ior x2 (ishl 1 x3)), vI x3] [] (SH T, c2) := by
  refine (ev_eq _ _ _ _ _ _).trans ?_
  refine (if_pos h1).trans ?_
  refine (el_call rfl h2).trans ?_
  refine (if_neg h3).trans ?_
  rfl
theorem B_X9_whoCan_13_3 {T : List Shp} {c : Nat → Int → Int} {x1 x2 x3 : Int} (h1 : ¬ x3 < (c 1 0)) : ev 99 6 13 [vR 19, vI x1, vI x2, vI x3] [] (SH T, c) = some (some (vI x2), (SH T, c)) := by
  refine (ev_eq _ _ _ _ _ _).trans ?_
  refine (if_neg h1).trans ?_
  refine (ev_eq _ _ _ _ _ _).trans ?_
  rfl
theorem B_X9_whoCan_40 {T : List Shp} {c : Nat → Int → Int} {x1 x2 x3 : Int}  : ev 99 6 40 [vR 19, vI x1, vI x2, vI x3] [] (SH T, c) = ev 99 6 13 [vR 19, vI x1, vI x2, vI (w32 (x3 + 1))] [] (SH T, c) := by
  refine (ev_eq _ _ _ _ _ _).trans ?_
  rfl
theorem E_X9_rowsInto {T : List Shp} {c : Nat → Int → Int} {x1 x2 : Int} {c1 : Nat → Int → Int} (h1 : cal 104 [vR 19, vI x1, vR 20] (SH T, c) = some (none, (SH T, c1))) : cal 100 [vR 19, vI x1, vI x2] (SH T, c) = ev 100 6 14 [vR 19, vI x1, vI x2, vI 1, vI 0, vU] [] (SH T, c1) := by
  refine (ev_eq _ _ _ _ _ _).trans ?_
  refine (el_call rfl h1).trans ?_
  rfl
theorem B_X9_rowsInto_14_1 {T : List Shp} {c : Nat → Int → Int} {x1 x2 x3 x4 : Int} (h1 : x4 < x2) : ev 100 6 14 [vR 19, vI x1, vI x2, vI x3, vI x4, vU] [] (SH T, c) = ev 100 6 14 [vR 19, vI x1, vI x2, vI (w32 (x3 * (c 1 0))), vI (w32 (x4 + 1)), vU] [] (SH T, c) := by
  refine (ev_eq _ _ _ _ _ _).trans ?_
  refine (if_pos h1).trans ?_
  rfl
theorem B_X9_rowsInto_14_2 {T : List Shp} {c : Nat → Int → Int} {x1 x2 x3 x4 : Int} (h1 : ¬ x4 < x2) : ev 100 6 14 [vR 19, vI x1, vI x2, vI x3, vI x4, vU] [] (SH T, c) = ev 100 6 42 [vR 19, vI x1, vI x2, vI x3, vI 0, vI 0] [] (SH T, c) := by
  refine (ev_eq _ _ _ _ _ _).trans ?_
  refine (if_neg h1).trans ?_
  refine (ev_eq _ _ _ _ _ _).trans ?_
  rfl
theorem B_X9_rowsInto_42_1 {T : List Shp} {c : Nat → Int → Int} {x1 x2 x3 x4 x5 : Int} {r1 : Int} {c2 : Nat → Int → Int} (h1 : x5 < x3) (h2 : cal 105 [vR 19, vI x1, vI x5, vI x2] (SH T, c) = some (some (vI r1), (SH T, c2))) (h3 : r1 = 0) : ev 100 6 42 [vR 19, vI x1, vI x2, vI x3, vI x4, vI x5] [] (SH T, c) = ev 100 6 62 [vR 19, vI x1, vI x2, vI x3, vI x4, vI x5] [] (SH T, c2) := by
  refine (ev_eq _ _ _ _ _ _).trans ?_
  refine (if_pos h1).trans ?_
  refine (el_call rfl h2).trans ?_
  refine (if_pos h3).trans ?_
  rfl
theorem B_X9_rowsInto_42_2 {T : List Shp} {c : Nat → Int → Int} {x1 x2 x3 x4 x5 : Int} {r1 : Int} {c2 : Nat → Int → Int} (h1 : x5 < x3) (h2 : cal 105 [vR 19, vI x1, vI x5, vI x2] (SH T, c) = some (some (vI r1), (SH T, c2))) (h3 : ¬ r1 = 0) : ev 100 6 42 [vR 19, vI x1, vI x2, vI x3, vI x4, vI x5] [] (SH T, c) = ev 100 6 62 [vR 19, vI x1, vI x2, vI x3, vI (w32 (x4 + 1)), vI x5] [] (SH T, c2) := by
  refine (ev_eq _ _ _ _ _ _).trans ?_
  refine (if_pos h1).trans ?_
  refine (el_call rfl h2).trans ?_
  refine (if_neg h3).trans ?_
  rfl
theorem B_X9_rowsInto_42_3 {T : List Shp} {c : Nat → Int → Int} {x1 x2 x3 x4 x5 : Int} (h1 : ¬ x5 < x3) : ev 100 6 42 [vR 19, vI x1, vI x2, vI x3, vI x4, vI x5] [] (SH T, c) = some (some (vI x4), (SH T, c)) := by
  refine (ev_eq _ _ _ _ _ _).trans ?_
  refine (if_neg h1).trans ?_
  refine (ev_eq _ _ _ _ _ _).trans ?_
  rfl
theorem B_X9_rowsInto_62 {T : List Shp} {c : Nat → Int → Int} {x1 x2 x3 x4 x5 : Int}  : ev 100 6 62 [vR 19, vI x1, vI x2, vI x3, vI x4, vI x5] [] (SH T, c) = ev 100 6 42 [vR 19, vI x1, vI x2, vI x3, vI x4, vI (w32 (x5 + 1))] [] (SH T, c) := by
  refine (ev_eq _ _ _ _ _ _).trans ?_
  rfl
theorem E_X9_driftOf {T : List Shp} {c : Nat → Int → Int} {x1 x2 : Int} {r1 : Int} {c2 : Nat → Int → Int} (h1 : cal 71 [vR 2, vI x1] (SH T, c) = some (some (vI r1), (SH T, c2))) : cal 101 [vR 19, vI x1, vI x2] (SH T, c) = ev 101 5 22 [vR 19, vI x1, vI x2, vI (ishl 1 r1), vI (w32 ((c2 1 8) + 1)), vU, vU, vU] [] (SH T, c2) := by
  refine (ev_eq _ _ _ _ _ _).trans ?_
  refine (el_call rfl h1).trans ?_
  rfl
theorem B_X9_driftOf_22_1 {T : List Shp} {c : Nat → Int → Int} {x1 x2 x3 x4 : Int} (h1 : (w32 ((c 1 8) + x2)) < x4) : ev 101 5 22 [vR 19, vI x1, vI x2, vI x3, vI x4, vU, vU, vU] [] (SH T, c) = some (some (vI x3), (SH T, c)) := by
  refine (ev_eq _ _ _ _ _ _).trans ?_
  refine (if_pos h1).trans ?_
  refine (ev_eq _ _ _ _ _ _).trans ?_
  rfl
theorem B_X9_driftOf_22_2 {T : List Shp} {c : Nat → Int → Int} {x1 x2 x3 x4 : Int} {r1 : Int} {c2 : Nat → Int → Int} (h1 : ¬ (w32 ((c 1 8) + x2)) < x4) (h2 : cal 23 [vR 15, vI x1, vI x4] (SH T, c) = some (some (vI r1), (SH T, c2))) : ev 101 5 22 [vR 19, vI x1, vI x2, vI x3, vI x4, vU, vU, vU] [] (SH T, c) = ev 101 5 54 [vR 19, vI x1, vI x2, vI x3, vI x4, vI r1, vI 0, vI 0] [] (SH T, c2) := by
  refine (ev_eq _ _ _ _ _ _).trans ?_
  refine (if_neg h1).trans ?_
  refine (el_call rfl h2).trans ?_
  rfl
theorem B_X9_driftOf_54_1 {T : List Shp} {c : Nat → Int → Int} {x1 x2 x3 x4 x5 x6 x7 : Int} {r1 : Int} {c2 : Nat → Int → Int} {r3 : Int} {c4 : Nat → Int → Int} (h1 : x7 < (c 1 0)) (h2 : cal 26 [vR 15, vI x7, vI x4] (SH T, c) = some (some (vI r1), (SH T, c2))) (h3 : r1 = 0) (h4 : cal 106 [vR 19, vI x3, vI x7, vI x1, vI x5] (SH T, c2) = some (some (vI r3), (SH T, c4))) : ev 101 5 54 [vR 19, vI x1, vI x2, vI x3, vI x4, vI x5, vI x6, vI x7] [] (SH T, c) = ev 101 5 95 [vR 19, vI x1, vI x2, vI x3, vI x4, vI x5, vI (ior x6 r3), vI x7] [] (SH T, c4) := by
  refine (ev_eq _ _ _ _ _ _).trans ?_
  refine (if_pos h1).trans ?_
  refine (el_call rfl h2).trans ?_
  refine (if_pos h3).trans ?_
  refine (el_call rfl h4).trans ?_
  rfl
theorem B_X9_driftOf_54_2 {T : List Shp} {c : Nat → Int → Int} {x1 x2 x3 x4 x5 x6 x7 : Int} {r1 : Int} {c2 : Nat → Int → Int} (h1 : x7 < (c 1 0)) (h2 : cal 26 [vR 15, vI x7, vI x4] (SH T, c) = some (some (vI r1), (SH T, c2))) (h3 : ¬ r1 = 0) : ev 101 5 54 [vR 19, vI x1, vI x2, vI x3, vI x4, vI x5, vI x6, vI x7] [] (SH T, c) = ev 101 5 95 [vR 19, vI x1, vI x2, vI x3, vI x4, vI x5, vI x6, vI x7] [] (SH T, c2) := by
  refine (ev_eq _ _ _ _ _ _).trans ?_
  refine (if_pos h1).trans ?_
  refine (el_call rfl h2).trans ?_
  refine (if_neg h3).trans ?_
  rfl
theorem B_X9_driftOf_54_3 {T : List Shp} {c : Nat → Int → Int} {x1 x2 x3 x4 x5 x6 x7 : Int} (h1 : ¬ x7 < (c 1 0)) : ev 101 5 54 [vR 19, vI x1, vI x2, vI x3, vI x4, vI x5, vI x6, vI x7] [] (SH T, c) = ev 101 5 22 [vR 19, vI x1, vI x2, vI x6, vI (w32 (x4 + 1)), vU, vU, vU] [] (SH T, c) := by
  refine (ev_eq _ _ _ _ _ _).trans ?_
  refine (if_neg h1).trans ?_
  refine (ev_eq _ _ _ _ _ _).trans ?_
  rfl
theorem B_X9_driftOf_95 {T : List Shp} {c : Nat → Int → Int} {x1 x2 x3 x4 x5 x6 x7 : Int}  : ev 101 5 95 [vR 19, vI x1, vI x2, vI x3, vI x4, vI x5, vI x6, vI x7] [] (SH T, c) = ev 101 5 54 [vR 19, vI x1, vI x2, vI x3, vI x4, vI x5, vI x6, vI (w32 (x7 + 1))] [] (SH T, c) := by
  refine (ev_eq _ _ _ _ _ _).trans ?_
  rfl
theorem E_X9_undoingPair {T : List Shp} {c : Nat → Int → Int} {x1 : Int} {c1 : Nat → Int → Int} {c2 : Nat → Int → Int} (h1 : cal 104 [vR 19, vI (w32 ((c 1 8) + 1)), vR 20] (SH T, c) = some (none, (SH T, c1))) (h2 : cal 104 [vR 19, vI (w32 ((c1 1 8) + 2)), vR 21] (SH T, c1) = some (none, (SH T, c2))) : cal 102 [vR 19, vI x1] (SH T, c) = ev 102 6 38 [vR 19, vI x1, vI 0, vI 0, vU] [] (SH T, c2) := by
  refine (ev_eq _ _ _ _ _ _).trans ?_
  refine (el_call rfl h1).trans ?_
  refine (el_call rfl h2).trans ?_
  rfl
theorem B_X9_undoingPair_38_1 {T : List Shp} {c : Nat → Int → Int} {x1 x2 x3 : Int} (h1 : x3 < (c 1 0)) : ev 102 6 38 [vR 19, vI x1, vI x2, vI x3, vU] [] (SH T, c) = ev 102 6 52 [vR 19, vI x1, vI x2, vI x3, vI 0] [] (SH T, c) := by
  refine (ev_eq _ _ _ _ _ _).trans ?_
  refine (if_pos h1).trans ?_
  rfl
theorem B_X9_undoingPair_38_2 {T : List Shp} {c : Nat → Int → Int} {x1 x2 x3 : Int} (h1 : ¬ x3 < (c 1 0)) (h2 : x1 = (-1)) : ev 102 6 38 [vR 19, vI x1, vI x2, vI x3, vU] [] (SH T, c) = some (some (vI x2), (SH T, c)) := by
  refine (ev_eq _ _ _ _ _ _).trans ?_
  refine (if_neg h1).trans ?_
  refine (ev_eq _ _ _ _ _ _).trans ?_
  refine (if_pos h2).trans ?_
  rfl
theorem B_X9_undoingPair_38_3 {T : List Shp} {c : Nat → Int → Int} {x1 x2 x3 : Int} (h1 : ¬ x3 < (c 1 0)) (h2 : ¬ x1 = (-1)) : ev 102 6 38 [vR 19, vI x1, vI x2, vI x3, vU] [] (SH T, c) = some (some (vI (-1)), (SH T, c)) := by
  refine (ev_eq _ _ _ _ _ _).trans ?_
  refine (if_neg h1).trans ?_
  refine (ev_eq _ _ _ _ _ _).trans ?_
  refine (if_neg h2).trans ?_
  refine (ev_eq _ _ _ _ _ _).trans ?_
  rfl
theorem B_X9_undoingPair_52_1 {T : List Shp} {c : Nat → Int → Int} {x1 x2 x3 x4 : Int} {r1 : Int} {c2 : Nat → Int → Int} (h1 : x4 < (c 1 0)) (h2 : cal 107 [vR 19, vI x3, vI x4] (SH T, c) = some (some (vI r1), (SH T, c2))) (h3 : r1 = 0) : ev 102 6 52 [vR 19, vI x1, vI x2, vI x3, vI x4] [] (SH T, c) = ev 102 6 89 [vR 19, vI x1, vI x2, vI x3, vI x4] [] (SH T, c2) := by
  refine (ev_eq _ _ _ _ _ _).trans ?_
  refine (if_pos h1).trans ?_
  refine (el_call rfl h2).trans ?_
  refine (if_pos h3).trans ?_
  rfl
theorem B_X9_undoingPair_52_2 {T : List Shp} {c : Nat → Int → Int} {x1 x2 x3 x4 : Int} {r1 : Int} {c2 : Nat → Int → Int} (h1 : x4 < (c 1 0)) (h2 : cal 107 [vR 19, vI x3, vI x4] (SH T, c) = some (some (vI r1), (SH T, c2))) (h3 : ¬ r1 = 0) (h4 : x2 = x1) : ev 102 6 52 [vR 19, vI x1, vI x2, vI x3, vI x4] [] (SH T, c) = some (some (vI (w32 ((w32 (5 * x3)) + x4))), (SH T, c2)) := by
  refine (ev_eq _ _ _ _ _ _).trans ?_
  refine (if_pos h1).trans ?_
  refine (el_call rfl h2).trans ?_
  refine (if_neg h3).trans ?_
  refine (if_pos h4).trans ?_
  rfl
theorem B_X9_undoingPair_52_3 {T : List Shp} {c : Nat → Int → Int} {x1 x2 x3 x4 : Int} {r1 : Int} {c2 : Nat → Int → Int} (h1 : x4 < (c 1 0)) (h2 : cal 107 [vR 19, vI x3, vI x4] (SH T, c) = some (some (vI r1), (SH T, c2))) (h3 : ¬ r1 = 0) (h4 : ¬ x2 = x1) : ev 102 6 52 [vR 19, vI x1, vI x2, vI x3, vI x4] [] (SH T, c) = ev 102 6 89 [vR 19, vI x1, vI (w32 (x2 + 1)), vI x3, vI x4] [] (SH T, c2) := by
  refine (ev_eq _ _ _ _ _ _).trans ?_
  refine (if_pos h1).trans ?_
  refine (el_call rfl h2).trans ?_
  refine (if_neg h3).trans ?_
  refine (if_neg h4).trans ?_
  refine (ev_eq _ _ _ _ _ _).trans ?_
  rfl
theorem B_X9_undoingPair_52_4 {T : List Shp} {c : Nat → Int → Int} {x1 x2 x3 x4 : Int} (h1 : ¬ x4 < (c 1 0)) : ev 102 6 52 [vR 19, vI x1, vI x2, vI x3, vI x4] [] (SH T, c) = ev 102 6 38 [vR 19, vI x1, vI x2, vI (w32 (x3 + 1)), vU] [] (SH T, c) := by
  refine (ev_eq _ _ _ _ _ _).trans ?_
  refine (if_neg h1).trans ?_
  refine (ev_eq _ _ _ _ _ _).trans ?_
  rfl
theorem B_X9_undoingPair_89 {T : List Shp} {c : Nat → Int → Int} {x1 x2 x3 x4 : Int}  : ev 102 6 89 [vR 19, vI x1, vI x2, vI x3, vI x4] [] (SH T, c) = ev 102 6 52 [vR 19, vI x1, vI x2, vI x3, vI (w32 (x4 + 1))] [] (SH T, c) := by
  refine (ev_eq _ _ _ _ _ _).trans ?_
  rfl
theorem E_X9_firstTones {T : List Shp} {c : Nat → Int → Int} {x1 : Int} {r1 : Int} {c2 : Nat → Int → Int} (h1 : cal 71 [vR 2, vI x1] (SH T, c) = some (some (vI r1), (SH T, c2))) : cal 103 [vR 19, vI x1] (SH T, c) = ev 103 5 19 [vR 19, vI x1, vI (ishl 1 r1), vI (c2 1 8), vU, vU, vU, vU] [] (SH T, c2) := by
  refine (ev_eq _ _ _ _ _ _).trans ?_
  refine (el_call rfl h1).trans ?_
  rfl
theorem B_X9_firstTones_19_1 {T : List Shp} {c : Nat → Int → Int} {x1 x2 x3 : Int} (h1 : x3 < 1) : ev 103 5 19 [vR 19, vI x1, vI x2, vI x3, vU, vU, vU, vU] [] (SH T, c) = some (some (vI x2), (SH T, c)) := by
  refine (ev_eq _ _ _ _ _ _).trans ?_
  refine (if_pos h1).trans ?_
  refine (ev_eq _ _ _ _ _ _).trans ?_
  rfl
theorem B_X9_firstTones_19_2 {T : List Shp} {c : Nat → Int → Int} {x1 x2 x3 : Int} {r1 : Int} {c2 : Nat → Int → Int} (h1 : ¬ x3 < 1) (h2 : cal 23 [vR 15, vI x1, vI x3] (SH T, c) = some (some (vI r1), (SH T, c2))) : ev 103 5 19 [vR 19, vI x1, vI x2, vI x3, vU, vU, vU, vU] [] (SH T, c) = ev 103 5 41 [vR 19, vI x1, vI x2, vI x3, vI r1, vI 0, vI 0, vU] [] (SH T, c2) := by
  refine (ev_eq _ _ _ _ _ _).trans ?_
  refine (if_neg h1).trans ?_
  refine (el_call rfl h2).trans ?_
  rfl
theorem B_X9_firstTones_41_1 {T : List Shp} {c : Nat → Int → Int} {x1 x2 x3 x4 x5 x6 : Int} {r1 : Int} {c2 : Nat → Int → Int} (h1 : x6 < 10) (h2 : 0 ≤ x3 ∧ x3 < 17) (h3 : cal 76 [vR 2, vI (c 6 x3), vI x1, vI x6, vI x4] (SH T, c) = some (some (vI r1), (SH T, c2))) : ev 103 5 41 [vR 19, vI x1, vI x2, vI x3, vI x4, vI x5, vI x6, vU] [] (SH T, c) = ev 103 5 41 [vR 19, vI x1, vI x2, vI x3, vI x4, vI (ior x5 (ishl (iand (ishr x2 r1) 1) x6)), vI (w32 (x6 + 1)), vU] [] (SH T, c2) := by
  refine (ev_eq _ _ _ _ _ _).trans ?_
  refine (if_pos h1).trans ?_
  refine (if_pos h2).trans ?_
  refine (el_call rfl h3).trans ?_
  rfl
theorem B_X9_firstTones_41_2 {T : List Shp} {c : Nat → Int → Int} {x1 x2 x3 x4 x5 x6 : Int} (h1 : ¬ x6 < 10) : ev 103 5 41 [vR 19, vI x1, vI x2, vI x3, vI x4, vI x5, vI x6, vU] [] (SH T, c) = ev 103 5 19 [vR 19, vI x1, vI x5, vI (w32 (x3 + (-1))), vU, vU, vU, vU] [] (SH T, c) := by
  refine (ev_eq _ _ _ _ _ _).trans ?_
  refine (if_neg h1).trans ?_
  refine (ev_eq _ _ _ _ _ _).trans ?_
  rfl
theorem E_X9_aimAta {T : List Shp} {c : Nat → Int → Int} {x1 : Int}  : cal 104 [vR 19, vI x1, vR 20] (SH T, c) = ev 104 5 2 [vR 19, vI x1, vR 20, vI 0] [] (SH T, c) := by
  refine (ev_eq _ _ _ _ _ _).trans ?_
  rfl
theorem B_X9_aimAta_2_1 {T : List Shp} {c : Nat → Int → Int} {x1 x3 : Int} {r1 : Int} {c2 : Nat → Int → Int} (h1 : x3 < 12) (h2 : cal 23 [vR 15, vI x3, vI x1] (SH T, c) = some (some (vI r1), (SH T, c2))) (h3 : 0 ≤ x3 ∧ x3 < 12) : ev 104 5 2 [vR 19, vI x1, vR 20, vI x3] [] (SH T, c) = ev 104 5 2 [vR 19, vI x1, vR 20, vI (w32 (x3 + 1))] [] (SH T, (up c2 19 x3 r1)) := by
  refine (ev_eq _ _ _ _ _ _).trans ?_
  refine (if_pos h1).trans ?_
  refine (el_call rfl h2).trans ?_
  refine (if_pos h3).trans ?_
  rfl
theorem B_X9_aimAta_2_2 {T : List Shp} {c : Nat → Int → Int} {x1 x3 : Int} (h1 : ¬ x3 < 12) : ev 104 5 2 [vR 19, vI x1, vR 20, vI x3] [] (SH T, c) = some (none, (SH T, c)) := by
  refine (ev_eq _ _ _ _ _ _).trans ?_
  refine (if_neg h1).trans ?_
  refine (ev_eq _ _ _ _ _ _).trans ?_
  rfl
theorem E_X9_aimAtb {T : List Shp} {c : Nat → Int → Int} {x1 : Int}  : cal 104 [vR 19, vI x1, vR 21] (SH T, c) = ev 104 5 2 [vR 19, vI x1, vR 21, vI 0] [] (SH T, c) := by
  refine (ev_eq _ _ _ _ _ _).trans ?_
  rfl
theorem B_X9_aimAtb_2_1 {T : List Shp} {c : Nat → Int → Int} {x1 x3 : Int} {r1 : Int} {c2 : Nat → Int → Int} (h1 : x3 < 12) (h2 : cal 23 [vR 15, vI x3, vI x1] (SH T, c) = some (some (vI r1), (SH T, c2))) (h3 : 0 ≤ x3 ∧ x3 < 12) : ev 104 5 2 [vR 19, vI x1, vR 21, vI x3] [] (SH T, c) = ev 104 5 2 [vR 19, vI x1, vR 21, vI (w32 (x3 + 1))] [] (SH T, (up c2 20 x3 r1)) := by
  refine (ev_eq _ _ _ _ _ _).trans ?_
  refine (if_pos h1).trans ?_
  refine (el_call rfl h2).trans ?_
  refine (if_pos h3).trans ?_
  rfl
theorem B_X9_aimAtb_2_2 {T : List Shp} {c : Nat → Int → Int} {x1 x3 : Int} (h1 : ¬ x3 < 12) : ev 104 5 2 [vR 19, vI x1, vR 21, vI x3] [] (SH T, c) = some (none, (SH T, c)) := by
  refine (ev_eq _ _ _ _ _ _).trans ?_
  refine (if_neg h1).trans ?_
  refine (ev_eq _ _ _ _ _ _).trans ?_
  rfl
theorem E_X9_comesOut_1 {T : List Shp} {c : Nat → Int → Int} {x1 x2 x3 : Int} (h1 : (c 1 0) = 0) : cal 105 [vR 19, vI x1, vI x2, vI x3] (SH T, c) = some (some (vI 0), (SH T, c)) := by
  refine (ev_eq _ _ _ _ _ _).trans ?_
  refine (if_pos h1).trans ?_
  rfl
theorem E_X9_comesOut_2 {T : List Shp} {c : Nat → Int → Int} {x1 x2 x3 : Int} (h1 : ¬ (c 1 0) = 0) : cal 105 [vR 19, vI x1, vI x2, vI x3] (SH T, c) = ev 105 3 15 [vR 19, vI x1, vI x2, vI x3, vI 0, vU, vU, vU] [] (SH T, c) := by
  refine (ev_eq _ _ _ _ _ _).trans ?_
  refine (if_neg h1).trans ?_
  refine (ev_eq _ _ _ _ _ _).trans ?_
  rfl
theorem B_X9_comesOut_15_1 {T : List Shp} {c : Nat → Int → Int} {x1 x2 x3 x4 : Int} (h1 : x4 < 12) (h2 : 0 ≤ (w32 ((w32 ((w32 (x1 - 1)) * 12)) + x4)) ∧ (w32 ((w32 ((w32 (x1 - 1)) * 12)) + x4)) < 204) : ev 105 3 15 [vR 19, vI x1, vI x2, vI x3, vI x4, vU, vU, vU] [] (SH T, c) = ev 105 3 47 [vR 19, vI x1, vI x2, vI x3, vI x4, vI (c 7 (w32 ((w32 ((w32 (x1 - 1)) * 12)) + x4))), vI x2, vI 0] [] (SH T, c) := by
  refine (ev_eq _ _ _ _ _ _).trans ?_
  refine (if_pos h1).trans ?_
  refine (if_pos h2).trans ?_
  rfl
theorem B_X9_comesOut_15_2 {T : List Shp} {c : Nat → Int → Int} {x1 x2 x3 x4 : Int} (h1 : ¬ x4 < 12) : ev 105 3 15 [vR 19, vI x1, vI x2, vI x3, vI x4, vU, vU, vU] [] (SH T, c) = some (some (vI 1), (SH T, c)) := by
  refine (ev_eq _ _ _ _ _ _).trans ?_
  refine (if_neg h1).trans ?_
  refine (ev_eq _ _ _ _ _ _).trans ?_
  rfl
theorem B_X9_comesOut_47_1 {T : List Shp} {c : Nat → Int → Int} {x1 x2 x3 x4 x5 x6 x7 : Int} {r1 : Int} {c2 : Nat → Int → Int} (h1 : x7 < x3) (h2 : ¬ (c 1 0) = 0) (h3 : 0 ≤ x4 ∧ x4 < 12) (h4 : cal 76 [vR 2, vI (w32 (Int.tmod x6 (c 1 0))), vI x4, vI x5, vI (c 19 x4)] (SH T, c) = some (some (vI r1), (SH T, c2))) (h5 : ¬ (c2 1 0) = 0) : ev 105 3 47 [vR 19, vI x1, vI x2, vI x3, vI x4, vI x5, vI x6, vI x7] [] (SH T, c) = ev 105 3 47 [vR 19, vI x1, vI x2, vI x3, vI x4, vI r1, vI (w32 (Int.tdiv x6 (c2 1 0))), vI (w32 (x7 + 1))] [] (SH T, c2) := by
  refine (ev_eq _ _ _ _ _ _).trans ?_
  refine (if_pos h1).trans ?_
  refine (if_neg h2).trans ?_
  refine (if_pos h3).trans ?_
  refine (el_call rfl h4).trans ?_
  refine (if_neg h5).trans ?_
  rfl
theorem B_X9_comesOut_47_2 {T : List Shp} {c : Nat → Int → Int} {x1 x2 x3 x4 x5 x6 x7 : Int} (h1 : ¬ x7 < x3) (h2 : 0 ≤ (w32 ((w32 (x1 * 12)) + x4)) ∧ (w32 ((w32 (x1 * 12)) + x4)) < 204) (h3 : x5 = (c 7 (w32 ((w32 (x1 * 12)) + x4)))) : ev 105 3 47 [vR 19, vI x1, vI x2, vI x3, vI x4, vI x5, vI x6, vI x7] [] (SH T, c) = ev 105 3 15 [vR 19, vI x1, vI x2, vI x3, vI (w32 (x4 + 1)), vU, vU, vU] [] (SH T, c) := by
  refine (ev_eq _ _ _ _ _ _).trans ?_
  refine (if_neg h1).trans ?_
  refine (ev_eq _ _ _ _ _ _).trans ?_
  refine (if_pos h2).trans ?_
  refine (if_pos h3).trans ?_
  refine (ev_eq _ _ _ _ _ _).trans ?_
  rfl
theorem B_X9_comesOut_47_3 {T : List Shp} {c : Nat → Int → Int} {x1 x2 x3 x4 x5 x6 x7 : Int} (h1 : ¬ x7 < x3) (h2 : 0 ≤ (w32 ((w32 (x1 * 12)) + x4)) ∧ (w32 ((w32 (x1 * 12)) + x4)) < 204) (h3 : ¬ x5 = (c 7 (w32 ((w32 (x1 * 12)) + x4)))) : ev 105 3 47 [vR 19, vI x1, vI x2, vI x3, vI x4, vI x5, vI x6, vI x7] [] (SH T, c) = some (some (vI 0), (SH T, c)) := by
  refine (ev_eq _ _ _ _ _ _).trans ?_
  refine (if_neg h1).trans ?_
  refine (ev_eq _ _ _ _ _ _).trans ?_
  refine (if_pos h2).trans ?_
  refine (if_neg h3).trans ?_
  rfl
theorem E_X9_carried {T : List Shp} {c : Nat → Int → Int} {x1 x2 x3 x4 : Int}  : cal 106 [vR 19, vI x1, vI x2, vI x3, vI x4] (SH T, c) = ev 106 3 6 [vR 19, vI x1, vI x2, vI x3, vI x4, vI 0, vI 0] [] (SH T, c) := by
  refine (ev_eq _ _ _ _ _ _).trans ?_
  rfl
theorem B_X9_carried_6_1 {T : List Shp} {c : Nat → Int → Int} {x1 x2 x3 x4 x5 x6 : Int} {r1 : Int} {c2 : Nat → Int → Int} (h1 : x6 < 10) (h2 : (iand (ishr x1 x6) 1) = 1) (h3 : cal 76 [vR 2, vI x2, vI x3, vI x6, vI x4] (SH T, c) = some (some (vI r1), (SH T, c2))) : ev 106 3 6 [vR 19, vI x1, vI x2, vI x3, vI x4, vI x5, vI x6] [] (SH T, c) = ev 106 3 43 [vR 19, vI x1, vI x2, vI x3, vI x4, vI (ior x5 (ishl 1 r1)), vI x6] [] (SH T, c2) := by
  refine (ev_eq _ _ _ _ _ _).trans ?_
  refine (if_pos h1).trans ?_
  refine (if_pos h2).trans ?_
  refine (el_call rfl h3).trans ?_
  rfl
theorem B_X9_carried_6_2 {T : List Shp} {c : Nat → Int → Int} {x1 x2 x3 x4 x5 x6 : Int} (h1 : x6 < 10) (h2 : ¬ (iand (ishr x1 x6) 1) = 1) : ev 106 3 6 [vR 19, vI x1, vI x2, vI x3, vI x4, vI x5, vI x6] [] (SH T, c) = ev 106 3 43 [vR 19, vI x1, vI x2, vI x3, vI x4, vI x5, vI x6] [] (SH T, c) := by
  refine (ev_eq _ _ _ _ _ _).trans ?_
  refine (if_pos h1).trans ?_
  refine (if_neg h2).trans ?_
  rfl
theorem B_X9_carried_6_3 {T : List Shp} {c : Nat → Int → Int} {x1 x2 x3 x4 x5 x6 : Int} (h1 : ¬ x6 < 10) : ev 106 3 6 [vR 19, vI x1, vI x2, vI x3, vI x4, vI x5, vI x6] [] (SH T, c) = some (some (vI x5), (SH T, c)) := by
  refine (ev_eq _ _ _ _ _ _).trans ?_
  refine (if_neg h1).trans ?_
  refine (ev_eq _ _ _ _ _ _).trans ?_
  rfl
theorem B_X9_carried_43 {T : List Shp} {c : Nat → Int → Int} {x1 x2 x3 x4 x5 x6 : Int}  : ev 106 3 43 [vR 19, vI x1, vI x2, vI x3, vI x4, vI x5, vI x6] [] (SH T, c) = ev 106 3 6 [vR 19, vI x1, vI x2, vI x3, vI x4, vI x5, vI (w32 (x6 + 1))] [] (SH T, c) := by
  refine (ev_eq _ _ _ _ _ _).trans ?_
  rfl
theorem E_X9_undo {T : List Shp} {c : Nat → Int → Int} {x1 x2 : Int}  : cal 107 [vR 19, vI x1, vI x2] (SH T, c) = ev 107 3 2 [vR 19, vI x1, vI x2, vI 0, vU, vU] [] (SH T, c) := by
  refine (ev_eq _ _ _ _ _ _).trans ?_
  rfl
theorem B_X9_undo_2_1 {T : List Shp} {c : Nat → Int → Int} {x1 x2 x3 : Int} {r1 : Int} {c2 : Nat → Int → Int} {r3 : Int} {c4 : Nat → Int → Int} {r5 : Int} {c6 : Nat → Int → Int} (h1 : x3 < 12) (h2 : cal 71 [vR 2, vI x3] (SH T, c) = some (some (vI r1), (SH T, c2))) (h3 : 0 ≤ x3 ∧ x3 < 12) (h4 : cal 76 [vR 2, vI x1, vI x3, vI r1, vI (c2 19 x3)] (SH T, c2) = some (some (vI r3), (SH T, c4))) (h5 : 0 ≤ x3 ∧ x3 < 12) (h6 : cal 76 [vR 2, vI x2, vI x3, vI r3, vI (c4 20 x3)] (SH T, c4) = some (some (vI r5), (SH T, c6))) (h7 : r5 = r1) : ev 107 3 2 [vR 19, vI x1, vI x2, vI x3, vU, vU] [] (SH T, c) = ev 107 3 2 [vR 19, vI x1, vI x2, vI (w32 (x3 + 1)), vU, vU] [] (SH T, c6) := by
  refine (ev_eq _ _ _ _ _ _).trans ?_
  refine (if_pos h1).trans ?_
  refine (el_call rfl h2).trans ?_
  refine (if_pos h3).trans ?_
  refine (el_call rfl h4).trans ?_
  refine (if_pos h5).trans ?_
  refine (el_call rfl h6).trans ?_
  refine (if_pos h7).trans ?_
  refine (ev_eq _ _ _ _ _ _).trans ?_
  rfl
theorem B_X9_undo_2_2 {T : List Shp} {c : Nat → Int → Int} {x1 x2 x3 : Int} {r1 : Int} {c2 : Nat → Int → Int} {r3 : Int} {c4 : Nat → Int → Int} {r5 : Int} {c6 : Nat → Int → Int} (h1 : x3 < 12) (h2 : cal 71 [vR 2, vI x3] (SH T, c) = some (some (vI r1), (SH T, c2))) (h3 : 0 ≤ x3 ∧ x3 < 12) (h4 : cal 76 [vR 2, vI x1, vI x3, vI r1, vI (c2 19 x3)] (SH T, c2) = some (some (vI r3), (SH T, c4))) (h5 : 0 ≤ x3 ∧ x3 < 12) (h6 : cal 76 [vR 2, vI x2, vI x3, vI r3, vI (c4 20 x3)] (SH T, c4) = some (some (vI r5), (SH T, c6))) (h7 : ¬ r5 = r1) : ev 107 3 2 [vR 19, vI x1, vI x2, vI x3, vU, vU] [] (SH T, c) = some (some (vI 0), (SH T, c6)) := by
  refine (ev_eq _ _ _ _ _ _).trans ?_
  refine (if_pos h1).trans ?_
  refine (el_call rfl h2).trans ?_
  refine (if_pos h3).trans ?_
  refine (el_call rfl h4).trans ?_
  refine (if_pos h5).trans ?_
  refine (el_call rfl h6).trans ?_
  refine (if_neg h7).trans ?_
  rfl
theorem B_X9_undo_2_3 {T : List Shp} {c : Nat → Int → Int} {x1 x2 x3 : Int} (h1 : ¬ x3 < 12) : ev 107 3 2 [vR 19, vI x1, vI x2, vI x3, vU, vU] [] (SH T, c) = some (some (vI 1), (SH T, c)) := by
  refine (ev_eq _ _ _ _ _ _).trans ?_
  refine (if_neg h1).trans ?_
  refine (ev_eq _ _ _ _ _ _).trans ?_
  rfl
theorem E_X5_seek {T : List Shp} {c : Nat → Int → Int} {x1 x2 : Int} {r1 : Int} {c2 : Nat → Int → Int} (h1 : cal 344 [vI x2, vI 5] (SH T, (up c 21 8 x1)) = some (some (vI r1), (SH T, c2))) : cal 35 [vR 22, vI x1, vI x2] (SH T, c) = ev 35 17 42 [vR 22, vU, vU, vI 1, vU, vU] [] (SH T, (up (up (up c2 21 9 r1) 21 14 0) 21 10 (w32 ((c2 4 3) * (c2 1 8))))) := by
  refine (ev_eq _ _ _ _ _ _).trans ?_
  refine (el_call rfl h1).trans ?_
  rfl
theorem B_X5_seek_42_1 {T : List Shp} {c : Nat → Int → Int} {x3 : Int} (h1 : (c 1 8) < x3) : ev 35 17 42 [vR 22, vU, vU, vI x3, vU, vU] [] (SH T, c) = ev 35 17 87 [vR 22, vU, vU, vI 0, vU, vU] [] (SH T, c) := by
  refine (ev_eq _ _ _ _ _ _).trans ?_
  refine (if_pos h1).trans ?_
  refine (ev_eq _ _ _ _ _ _).trans ?_
  rfl
theorem B_X5_seek_42_2 {T : List Shp} {c : Nat → Int → Int} {x3 : Int} {r1 : Int} {c2 : Nat → Int → Int} (h1 : ¬ (c 1 8) < x3) (h2 : 0 ≤ x3 ∧ x3 < 17) (h3 : cal 25 [vR 15, vI (c 6 x3), vI x3] (SH T, c) = some (some (vI r1), (SH T, c2))) : ev 35 17 42 [vR 22, vU, vU, vI x3, vU, vU] [] (SH T, c) = ev 35 17 42 [vR 22, vU, vU, vI (w32 (x3 + 1)), vU, vU] [] (SH T, (up c2 21 10 (w32 ((c 21 10) - r1)))) := by
  refine (ev_eq _ _ _ _ _ _).trans ?_
  refine (if_neg h1).trans ?_
  refine (if_pos h2).trans ?_
  refine (el_call rfl h3).trans ?_
  rfl
theorem B_X5_seek_87_1 {T : List Shp} {c : Nat → Int → Int} {x3 : Int} {c1 : Nat → Int → Int} (h1 : (c 21 9) < x3) (h2 : (0 ≤ (w32 ((c 1 8) * 12)) ∧ 0 ≤ 0 ∧ 0 ≤ 12) ∧ (w32 ((c 1 8) * 12)) + 12 ≤ 204 ∧ 0 + 12 ≤ 72) (h3 : cal 36 [vR 22, vI 0, vI 0] (SH T, (cpy c 7 (w32 ((c 1 8) * 12)) 26 0 12)) = some (none, (SH T, c1))) : ev 35 17 87 [vR 22, vU, vU, vI x3, vU, vU] [] (SH T, c) = some (none, (SH T, c1)) := by
  refine (ev_eq _ _ _ _ _ _).trans ?_
  refine (if_pos h1).trans ?_
  refine (ev_eq _ _ _ _ _ _).trans ?_
  refine (if_pos h2).trans ?_
  refine (el_call rfl h3).trans ?_
  rfl
theorem B_X5_seek_87_2 {T : List Shp} {c : Nat → Int → Int} {x3 : Int} (h1 : ¬ (c 21 9) < x3) : ev 35 17 87 [vR 22, vU, vU, vI x3, vU, vU] [] (SH T, c) = ev 35 17 109 [vR 22, vU, vU, vI x3, vI (w32 ((c 1 8) + x3)), vI 0] [] (SH T, c) := by
  refine (ev_eq _ _ _ _ _ _).trans ?_
  refine (if_neg h1).trans ?_
  rfl
theorem B_X5_seek_109_1 {T : List Shp} {c : Nat → Int → Int} {x3 x4 x5 : Int} {r1 : Int} {c2 : Nat → Int → Int} {r3 : Int} {c4 : Nat → Int → Int} (h1 : x5 < 12) (h2 : cal 23 [vR 15, vI x5, vI x4] (SH T, c) = some (some (vI r1), (SH T, c2))) (h3 : 0 ≤ (w32 ((w32 (x3 * 12)) + x5)) ∧ (w32 ((w32 (x3 * 12)) + x5)) < 72) (h4 : cal 24 [vR 15, vI x5, vI x4] (SH T, (up c2 22 (w32 ((w32 (x3 * 12)) + x5)) r1)) = some (some (vI r3), (SH T, c4))) (h5 : 0 ≤ (w32 ((w32 (x3 * 12)) + x5)) ∧ (w32 ((w32 (x3 * 12)) + x5)) < 72) : ev 35 17 109 [vR 22, vU, vU, vI x3, vI x4, vI x5] [] (SH T, c) = ev 35 17 109 [vR 22, vU, vU, vI x3, vI x4, vI (w32 (x5 + 1))] [] (SH T, (up c4 23 (w32 ((w32 (x3 * 12)) + x5)) r3)) := by
  refine (ev_eq _ _ _ _ _ _).trans ?_
  refine (if_pos h1).trans ?_
  refine (el_call rfl h2).trans ?_
  refine (if_pos h3).trans ?_
  refine (el_call rfl h4).trans ?_
  refine (if_pos h5).trans ?_
  rfl
theorem B_X5_seek_109_2 {T : List Shp} {c : Nat → Int → Int} {x3 x4 x5 : Int} (h1 : ¬ x5 < 12) : ev 35 17 109 [vR 22, vU, vU, vI x3, vI x4, vI x5] [] (SH T, c) = ev 35 17 171 [vR 22, vU, vU, vI x3, vI x4, vI 0] [] (SH T, c) := by
  refine (ev_eq _ _ _ _ _ _).trans ?_
  refine (if_neg h1).trans ?_
  refine (ev_eq _ _ _ _ _ _).trans ?_
  rfl
theorem B_X5_seek_171_1 {T : List Shp} {c : Nat → Int → Int} {x3 x4 x5 : Int} {r1 : Int} {c2 : Nat → Int → Int} {r3 : Int} {c4 : Nat → Int → Int} (h1 : x5 < (c 1 0)) (h2 : cal 25 [vR 15, vI x5, vI x4] (SH T, c) = some (some (vI r1), (SH T, c2))) (h3 : 0 ≤ (w32 ((w32 (x3 * 5)) + x5)) ∧ (w32 ((w32 (x3 * 5)) + x5)) < 30) (h4 : cal 26 [vR 15, vI x5, vI x4] (SH T, (up c2 24 (w32 ((w32 (x3 * 5)) + x5)) r1)) = some (some (vI r3), (SH T, c4))) (h5 : 0 ≤ (w32 ((w32 (x3 * 5)) + x5)) ∧ (w32 ((w32 (x3 * 5)) + x5)) < 30) (h6 : r3 = 0 ∨ r3 = 1) : ev 35 17 171 [vR 22, vU, vU, vI x3, vI x4, vI x5] [] (SH T, c) = ev 35 17 171 [vR 22, vU, vU, vI x3, vI x4, vI (w32 (x5 + 1))] [] (SH T, (up c4 25 (w32 ((w32 (x3 * 5)) + x5)) r3)) := by
  refine (ev_eq _ _ _ _ _ _).trans ?_
  refine (if_pos h1).trans ?_
  refine (el_call rfl h2).trans ?_
  refine (if_pos h3).trans ?_
  refine (el_call rfl h4).trans ?_
  refine (if_pos h5).trans ?_
  refine (if_pos h6).trans ?_
  rfl
theorem B_X5_seek_171_2 {T : List Shp} {c : Nat → Int → Int} {x3 x4 x5 : Int} (h1 : ¬ x5 < (c 1 0)) : ev 35 17 171 [vR 22, vU, vU, vI x3, vI x4, vI x5] [] (SH T, c) = ev 35 17 87 [vR 22, vU, vU, vI (w32 (x3 + 1)), vU, vU] [] (SH T, c) := by
  refine (ev_eq _ _ _ _ _ _).trans ?_
  refine (if_neg h1).trans ?_
  refine (ev_eq _ _ _ _ _ _).trans ?_
  rfl
theorem E_X5_walk_1 {T : List Shp} {c : Nat → Int → Int} {x1 x2 : Int} (h1 : x1 < (c 21 9)) : cal 36 [vR 22, vI x1, vI x2] (SH T, c) = ev 36 (4 + 2 * (6 - x1).toNat) 21 [vR 22, vI x1, vI x2, vI (w32 (x1 + 1)), vI 0, vU] [] (SH T, c) := by
  refine (ev_eq _ _ _ _ _ _).trans ?_
  refine (if_pos h1).trans ?_
  refine (ev_eq _ _ _ _ _ _).trans ?_
  rfl
theorem E_X5_walk_2 {T : List Shp} {c : Nat → Int → Int} {x1 x2 : Int} {c1 : Nat → Int → Int} (h1 : ¬ x1 < (c 21 9)) (h2 : 2 + 1 ≤ (4 + 2 * (6 - x1).toNat)) (h3 : cal 40 [vR 22, vI x2] (SH T, c) = some (none, (SH T, c1))) : cal 36 [vR 22, vI x1, vI x2] (SH T, c) = some (none, (SH T, c1)) := by
  refine (ev_eq _ _ _ _ _ _).trans ?_
  refine (if_neg h1).trans ?_
  refine (el_call (Nat.ble_eq_true_of_le h2) h3).trans ?_
  rfl
theorem B_X5_walk_21_1 {T : List Shp} {c : Nat → Int → Int} {nd : Nat} {x1 x2 x3 x4 : Int} {r1 : Int} {c2 : Nat → Int → Int} (h1 : x4 < (c 1 0)) (h2 : 2 + 1 ≤ nd) (h3 : cal 37 [vR 22, vI x4, vI x1] (SH T, c) = some (some (vI r1), (SH T, c2))) (h4 : r1 = 0) : ev 36 nd 21 [vR 22, vI x1, vI x2, vI x3, vI x4, vU] [] (SH T, c) = ev 36 nd 90 [vR 22, vI x1, vI x2, vI x3, vI x4, vU] [] (SH T, c2) := by
  refine (ev_eq _ _ _ _ _ _).trans ?_
  refine (if_pos h1).trans ?_
  refine (el_call (Nat.ble_eq_true_of_le h2) h3).trans ?_
  refine (if_pos h4).trans ?_
  rfl
theorem B_X5_walk_21_2 {T : List Shp} {c : Nat → Int → Int} {nd : Nat} {x1 x2 x3 x4 : Int} {r1 : Int} {c2 : Nat → Int → Int} {c3 : Nat → Int → Int} {r4 : Int} {c5 : Nat → Int → Int} (h1 : x4 < (c 1 0)) (h2 : 2 + 1 ≤ nd) (h3 : cal 37 [vR 22, vI x4, vI x1] (SH T, c) = some (some (vI r1), (SH T, c2))) (h4 : ¬ r1 = 0) (h5 : 0 ≤ (w32 ((w32 (x3 * 5)) + x4)) ∧ (w32 ((w32 (x3 * 5)) + x4)) < 30) (h6 : 0 ≤ x1 ∧ x1 < 5) (h7 : 3 + 1 ≤ nd) (h8 : cal 38 [vR 22, vI x4, vI x3] (SH T, (up c2 27 x1 x4)) = some (none, (SH T, c3))) (h9 : 2 + 1 ≤ nd) (h10 : cal 39 [vR 22, vI x3, vI (w32 (x2 + (c2 24 (w32 ((w32 (x3 * 5)) + x4)))))] (SH T, c3) = some (some (vI r4), (SH T, c5))) (h11 : r4 = 0) : ev 36 nd 21 [vR 22, vI x1, vI x2, vI x3, vI x4, vU] [] (SH T, c) = ev 36 nd 90 [vR 22, vI x1, vI x2, vI x3, vI x4, vU] [] (SH T, c5) := by
  refine (ev_eq _ _ _ _ _ _).trans ?_
  refine (if_pos h1).trans ?_
  refine (el_call (Nat.ble_eq_true_of_le h2) h3).trans ?_
  refine (if_neg h4).trans ?_
  refine (if_pos h5).trans ?_
  refine (if_pos h6).trans ?_
  refine (el_call (Nat.ble_eq_true_of_le h7) h8).trans ?_
  refine (el_call (Nat.ble_eq_true_of_le h9) h10).trans ?_
  refine (if_pos h11).trans ?_
  rfl
theorem B_X5_walk_21_3 {T : List Shp} {c : Nat → Int → Int} {nd : Nat} {x1 x2 x3 x4 : Int} {r1 : Int} {c2 : Nat → Int → Int} {c3 : Nat → Int → Int} {r4 : Int} {c5 : Nat → Int → Int} {c6 : Nat → Int → Int} (h1 : x4 < (c 1 0)) (h2 : 2 + 1 ≤ nd) (h3 : cal 37 [vR 22, vI x4, vI x1] (SH T, c) = some (some (vI r1), (SH T, c2))) (h4 : ¬ r1 = 0) (h5 : 0 ≤ (w32 ((w32 (x3 * 5)) + x4)) ∧ (w32 ((w32 (x3 * 5)) + x4)) < 30) (h6 : 0 ≤ x1 ∧ x1 < 5) (h7 : 3 + 1 ≤ nd) (h8 : cal 38 [vR 22, vI x4, vI x3] (SH T, (up c2 27 x1 x4)) = some (none, (SH T, c3))) (h9 : 2 + 1 ≤ nd) (h10 : cal 39 [vR 22, vI x3, vI (w32 (x2 + (c2 24 (w32 ((w32 (x3 * 5)) + x4)))))] (SH T, c3) = some (some (vI r4), (SH T, c5))) (h11 : ¬ r4 = 0) (h12 : (4 + 2 * (6 - x3).toNat) + 1 ≤ nd) (h13 : cal 36 [vR 22, vI x3, vI (w32 (x2 + (c2 24 (w32 ((w32 (x3 * 5)) + x4)))))] (SH T, c5) = some (none, (SH T, c6))) : ev 36 nd 21 [vR 22, vI x1, vI x2, vI x3, vI x4, vU] [] (SH T, c) = ev 36 nd 90 [vR 22, vI x1, vI x2, vI x3, vI x4, vU] [] (SH T, c6) := by
  refine (ev_eq _ _ _ _ _ _).trans ?_
  refine (if_pos h1).trans ?_
  refine (el_call (Nat.ble_eq_true_of_le h2) h3).trans ?_
  refine (if_neg h4).trans ?_
  refine (if_pos h5).trans ?_
  refine (if_pos h6).trans ?_
  refine (el_call (Nat.ble_eq_true_of_le h7) h8).trans ?_
  refine (el_call (Nat.ble_eq_true_of_le h9) h10).trans ?_
  refine (if_neg h11).trans ?_
  refine (el_call (Nat.ble_eq_true_of_le h12) h13).trans ?_
  rfl
theorem B_X5_walk_21_4 {T : List Shp} {c : Nat → Int → Int} {nd : Nat} {x1 x2 x3 x4 : Int} (h1 : ¬ x4 < (c 1 0)) : ev 36 nd 21 [vR 22, vI x1, vI x2, vI x3, vI x4, vU] [] (SH T, c) = some (none, (SH T, c)) := by
  refine (ev_eq _ _ _ _ _ _).trans ?_
  refine (if_neg h1).trans ?_
  refine (ev_eq _ _ _ _ _ _).trans ?_
  rfl
theorem B_X5_walk_90 {T : List Shp} {c : Nat → Int → Int} {nd : Nat} {x1 x2 x3 x4 : Int}  : ev 36 nd 90 [vR 22, vI x1, vI x2, vI x3, vI x4, vU] [] (SH T, c) = ev 36 nd 21 [vR 22, vI x1, vI x2, vI x3, vI (w32 (x4 + 1)), vU] [] (SH T, c) := by
  refine (ev_eq _ _ _ _ _ _).trans ?_
  rfl
theorem E_X5_mayPaint_1 {T : List Shp} {c : Nat → Int → Int} {x1 x2 : Int} {r1 : Int} {c2 : Nat → Int → Int} {r3 : Int} {c4 : Nat → Int → Int} (h1 : 0 ≤ (w32 ((w32 ((w32 (x2 + 1)) * 5)) + x1)) ∧ (w32 ((w32 ((w32 (x2 + 1)) * 5)) + x1)) < 30) (h2 : (c 25 (w32 ((w32 ((w32 (x2 + 1)) * 5)) + x1))) = 0) (h3 : cal 70 [vR 2, vI x1, vI (w32 ((c 1 8) + (w32 (x2 + 1))))] (SH T, c) = some (some (vI r1), (SH T, c2))) (h4 : r1 = 0) (h5 : cal 343 [vI 0, vI (w32 (x2 - (c2 4 4)))] (SH T, c2) = some (some (vI r3), (SH T, c4))) : cal 37 [vR 22, vI x1, vI x2] (SH T, c) = ev 37 2 56 [vR 22, vI x1, vI x2, vU, vI r3] [] (SH T, c4) := by
  refine (ev_eq _ _ _ _ _ _).trans ?_
  refine (if_pos h1).trans ?_
  refine (if_pos h2).trans ?_
  refine (el_call rfl h3).trans ?_
  refine (if_pos h4).trans ?_
  refine (ev_eq _ _ _ _ _ _).trans ?_
  refine (el_call rfl h5).trans ?_
  rfl
theorem E_X5_mayPaint_2 {T : List Shp} {c : Nat → Int → Int} {x1 x2 : Int} {r1 : Int} {c2 : Nat → Int → Int} (h1 : 0 ≤ (w32 ((w32 ((w32 (x2 + 1)) * 5)) + x1)) ∧ (w32 ((w32 ((w32 (x2 + 1)) * 5)) + x1)) < 30) (h2 : (c 25 (w32 ((w32 ((w32 (x2 + 1)) * 5)) + x1))) = 0) (h3 : cal 70 [vR 2, vI x1, vI (w32 ((c 1 8) + (w32 (x2 + 1))))] (SH T, c) = some (some (vI r1), (SH T, c2))) (h4 : ¬ r1 = 0) : cal 37 [vR 22, vI x1, vI x2] (SH T, c) = some (some (vI 0), (SH T, c2)) := by
  refine (ev_eq _ _ _ _ _ _).trans ?_
  refine (if_pos h1).trans ?_
  refine (if_pos h2).trans ?_
  refine (el_call rfl h3).trans ?_
  refine (if_neg h4).trans ?_
  refine (ev_eq _ _ _ _ _ _).trans ?_
  rfl
theorem E_X5_mayPaint_3 {T : List Shp} {c : Nat → Int → Int} {x1 x2 : Int} (h1 : 0 ≤ (w32 ((w32 ((w32 (x2 + 1)) * 5)) + x1)) ∧ (w32 ((w32 ((w32 (x2 + 1)) * 5)) + x1)) < 30) (h2 : ¬ (c 25 (w32 ((w32 ((w32 (x2 + 1)) * 5)) + x1))) = 0) : cal 37 [vR 22, vI x1, vI x2] (SH T, c) = some (some (vI 0), (SH T, c)) := by
  refine (ev_eq _ _ _ _ _ _).trans ?_
  refine (if_pos h1).trans ?_
  refine (if_neg h2).trans ?_
  refine (ev_eq _ _ _ _ _ _).trans ?_
  rfl
theorem B_X5_mayPaint_56_1 {T : List Shp} {c : Nat → Int → Int} {x1 x2 x4 : Int} (h1 : x4 < x2) (h2 : 0 ≤ x4 ∧ x4 < 5) (h3 : (c 27 x4) = x1) : ev 37 2 56 [vR 22, vI x1, vI x2, vU, vI x4] [] (SH T, c) = some (some (vI 0), (SH T, c)) := by
  refine (ev_eq _ _ _ _ _ _).trans ?_
  refine (if_pos h1).trans ?_
  refine (if_pos h2).trans ?_
  refine (if_pos h3).trans ?_
  rfl
theorem B_X5_mayPaint_56_2 {T : List Shp} {c : Nat → Int → Int} {x1 x2 x4 : Int} (h1 : x4 < x2) (h2 : 0 ≤ x4 ∧ x4 < 5) (h3 : ¬ (c 27 x4) = x1) : ev 37 2 56 [vR 22, vI x1, vI x2, vU, vI x4] [] (SH T, c) = ev 37 2 56 [vR 22, vI x1, vI x2, vU, vI (w32 (x4 + 1))] [] (SH T, c) := by
  refine (ev_eq _ _ _ _ _ _).trans ?_
  refine (if_pos h1).trans ?_
  refine (if_pos h2).trans ?_
  refine (if_neg h3).trans ?_
  refine (ev_eq _ _ _ _ _ _).trans ?_
  rfl
theorem B_X5_mayPaint_56_3 {T : List Shp} {c : Nat → Int → Int} {x1 x2 x4 : Int} (h1 : ¬ x4 < x2) : ev 37 2 56 [vR 22, vI x1, vI x2, vU, vI x4] [] (SH T, c) = some (some (vI 1), (SH T, c)) := by
  refine (ev_eq _ _ _ _ _ _).trans ?_
  refine (if_neg h1).trans ?_
  refine (ev_eq _ _ _ _ _ _).trans ?_
  rfl
theorem E_X5_paintOver {T : List Shp} {c : Nat → Int → Int} {x1 x2 : Int}  : cal 38 [vR 22, vI x1, vI x2] (SH T, c) = ev 38 3 8 [vR 22, vI x1, vU, vI (w32 (x2 * 12)), vI 0] [] (SH T, c) := by
  refine (ev_eq _ _ _ _ _ _).trans ?_
  rfl
theorem B_X5_paintOver_8_1 {T : List Shp} {c : Nat → Int → Int} {x1 x3 x4 : Int} {r1 : Int} {c2 : Nat → Int → Int} (h1 : x4 < 12) (h2 : 0 ≤ (w32 ((w32 (x3 - 12)) + x4)) ∧ (w32 ((w32 (x3 - 12)) + x4)) < 72) (h3 : 0 ≤ (w32 (x3 + x4)) ∧ (w32 (x3 + x4)) < 72) (h4 : cal 76 [vR 2, vI x1, vI x4, vI (c 26 (w32 ((w32 (x3 - 12)) + x4))), vI (c 22 (w32 (x3 + x4)))] (SH T, c) = some (some (vI r1), (SH T, c2))) (h5 : 0 ≤ (w32 (x3 + x4)) ∧ (w32 (x3 + x4)) < 72) : ev 38 3 8 [vR 22, vI x1, vU, vI x3, vI x4] [] (SH T, c) = ev 38 3 8 [vR 22, vI x1, vU, vI x3, vI (w32 (x4 + 1))] [] (SH T, (up c2 26 (w32 (x3 + x4)) r1)) := by
  refine (ev_eq _ _ _ _ _ _).trans ?_
  refine (if_pos h1).trans ?_
  refine (if_pos h2).trans ?_
  refine (if_pos h3).trans ?_
  refine (el_call rfl h4).trans ?_
  refine (if_pos h5).trans ?_
  rfl
theorem B_X5_paintOver_8_2 {T : List Shp} {c : Nat → Int → Int} {x1 x3 x4 : Int} (h1 : ¬ x4 < 12) : ev 38 3 8 [vR 22, vI x1, vU, vI x3, vI x4] [] (SH T, c) = some (none, (SH T, c)) := by
  refine (ev_eq _ _ _ _ _ _).trans ?_
  refine (if_neg h1).trans ?_
  refine (ev_eq _ _ _ _ _ _).trans ?_
  rfl
theorem E_X5_isGood_1 {T : List Shp} {c : Nat → Int → Int} {x1 x2 : Int} (h1 : (c 21 8) = 2) (h2 : (w32 ((w32 ((c 21 10) + (w32 ((c 4 3) * x1)))) - x2)) < 0) : cal 39 [vR 22, vI x1, vI x2] (SH T, c) = some (some (vI 0), (SH T, c)) := by
  refine (ev_eq _ _ _ _ _ _).trans ?_
  refine (if_pos h1).trans ?_
  refine (if_pos h2).trans ?_
  refine (ev_eq _ _ _ _ _ _).trans ?_
  rfl
theorem E_X5_isGood_2 {T : List Shp} {c : Nat → Int → Int} {x1 x2 : Int} (h1 : (c 21 8) = 2) (h2 : ¬ (w32 ((w32 ((c 21 10) + (w32 ((c 4 3) * x1)))) - x2)) < 0) : cal 39 [vR 22, vI x1, vI x2] (SH T, c) = some (some (vI 1), (SH T, c)) := by
  refine (ev_eq _ _ _ _ _ _).trans ?_
  refine (if_pos h1).trans ?_
  refine (if_neg h2).trans ?_
  rfl
theorem E_X5_isGood_3 {T : List Shp} {c : Nat → Int → Int} {x1 x2 : Int} (h1 : ¬ (c 21 8) = 2) (h2 : (c 21 8) = 1) : cal 39 [vR 22, vI x1, vI x2] (SH T, c) = ev 39 2 51 [vR 22, vU, vU, vI (w32 (x1 * 12)), vI 0] [] (SH T, c) := by
  refine (ev_eq _ _ _ _ _ _).trans ?_
  refine (if_neg h1).trans ?_
  refine (ev_eq _ _ _ _ _ _).trans ?_
  refine (if_pos h2).trans ?_
  rfl
theorem E_X5_isGood_4 {T : List Shp} {c : Nat → Int → Int} {x1 x2 : Int} (h1 : ¬ (c 21 8) = 2) (h2 : ¬ (c 21 8) = 1) : cal 39 [vR 22, vI x1, vI x2] (SH T, c) = some (some (vI 1), (SH T, c)) := by
  refine (ev_eq _ _ _ _ _ _).trans ?_
  refine (if_neg h1).trans ?_
  refine (ev_eq _ _ _ _ _ _).trans ?_
  refine (if_neg h2).trans ?_
  refine (ev_eq _ _ _ _ _ _).trans ?_
  rfl
theorem B_X5_isGood_51_1 {T : List Shp} {c : Nat → Int → Int} {x3 x4 : Int} {r1 : Int} {c2 : Nat → Int → Int} (h1 : x4 < 12) (h2 : 0 ≤ (w32 (x3 + x4)) ∧ (w32 (x3 + x4)) < 72) (h3 : 0 ≤ (w32 (x3 + x4)) ∧ (w32 (x3 + x4)) < 72) (h4 : cal 342 [vI (w32 ((c 26 (w32 (x3 + x4))) - (c 22 (w32 (x3 + x4)))))] (SH T, c) = some (some (vI r1), (SH T, c2))) (h5 : 0 ≤ (w32 (x3 + x4)) ∧ (w32 (x3 + x4)) < 72) (h6 : (c2 23 (w32 (x3 + x4))) < r1) : ev 39 2 51 [vR 22, vU, vU, vI x3, vI x4] [] (SH T, c) = some (some (vI 0), (SH T, c2)) := by
  refine (ev_eq _ _ _ _ _ _).trans ?_
  refine (if_pos h1).trans ?_
  refine (if_pos h2).trans ?_
  refine (if_pos h3).trans ?_
  refine (el_call rfl h4).trans ?_
  refine (if_pos h5).trans ?_
  refine (if_pos h6).trans ?_
  rfl
theorem B_X5_isGood_51_2 {T : List Shp} {c : Nat → Int → Int} {x3 x4 : Int} {r1 : Int} {c2 : Nat → Int → Int} (h1 : x4 < 12) (h2 : 0 ≤ (w32 (x3 + x4)) ∧ (w32 (x3 + x4)) < 72) (h3 : 0 ≤ (w32 (x3 + x4)) ∧ (w32 (x3 + x4)) < 72) (h4 : cal 342 [vI (w32 ((c 26 (w32 (x3 + x4))) - (c 22 (w32 (x3 + x4)))))] (SH T, c) = some (some (vI r1), (SH T, c2))) (h5 : 0 ≤ (w32 (x3 + x4)) ∧ (w32 (x3 + x4)) < 72) (h6 : ¬ (c2 23 (w32 (x3 + x4))) < r1) : ev 39 2 51 [vR 22, vU, vU, vI x3, vI x4] [] (SH T, c) = ev 39 2 51 [vR 22, vU, vU, vI x3, vI (w32 (x4 + 1))] [] (SH T, c2) := by
  refine (ev_eq _ _ _ _ _ _).trans ?_
  refine (if_pos h1).trans ?_
  refine (if_pos h2).trans ?_
  refine (if_pos h3).trans ?_
  refine (el_call rfl h4).trans ?_
  refine (if_pos h5).trans ?_
  refine (if_neg h6).trans ?_
  refine (ev_eq _ _ _ _ _ _).trans ?_
  rfl
theorem B_X5_isGood_51_3 {T : List Shp} {c : Nat → Int → Int} {x3 x4 : Int} (h1 : ¬ x4 < 12) : ev 39 2 51 [vR 22, vU, vU, vI x3, vI x4] [] (SH T, c) = some (some (vI 1), (SH T, c)) := by
  refine (ev_eq _ _ _ _ _ _).trans ?_
  refine (if_neg h1).trans ?_
  refine (ev_eq _ _ _ _ _ _).trans ?_
  rfl
theorem E_X5_weigh {T : List Shp} {c : Nat → Int → Int} {x1 : Int}  : cal 40 [vR 22, vI x1] (SH T, c) = ev 40 2 13 [vR 22, vI x1, vI (w32 ((c 21 9) * 12)), vI 0, vI 0] [] (SH T, c) := by
  refine (ev_eq _ _ _ _ _ _).trans ?_
  rfl
theorem B_X5_weigh_13_1 {T : List Shp} {c : Nat → Int → Int} {x1 x2 x3 x4 : Int} {r1 : Int} {c2 : Nat → Int → Int} (h1 : x4 < 12) (h2 : 0 ≤ (w32 (x2 + x4)) ∧ (w32 (x2 + x4)) < 72) (h3 : 0 ≤ (w32 (x2 + x4)) ∧ (w32 (x2 + x4)) < 72) (h4 : cal 342 [vI (w32 ((c 26 (w32 (x2 + x4))) - (c 22 (w32 (x2 + x4)))))] (SH T, c) = some (some (vI r1), (SH T, c2))) : ev 40 2 13 [vR 22, vI x1, vI x2, vI x3, vI x4] [] (SH T, c) = ev 40 2 13 [vR 22, vI x1, vI x2, vI (w32 (x3 + r1)), vI (w32 (x4 + 1))] [] (SH T, c2) := by
  refine (ev_eq _ _ _ _ _ _).trans ?_
  refine (if_pos h1).trans ?_
  refine (if_pos h2).trans ?_
  refine (if_pos h3).trans ?_
  refine (el_call rfl h4).trans ?_
  rfl
theorem B_X5_weigh_13_2 {T : List Shp} {c : Nat → Int → Int} {x1 x2 x3 x4 : Int} (h1 : ¬ x4 < 12) (h2 : 0 < (c 21 14)) (h3 : x3 = (c 21 12)) (h4 : x1 = (c 21 13)) : ev 40 2 13 [vR 22, vI x1, vI x2, vI x3, vI x4] [] (SH T, c) = some (none, (SH T, (up c 21 14 (w32 ((c 21 14) + 1))))) := by
  refine (ev_eq _ _ _ _ _ _).trans ?_
  refine (if_neg h1).trans ?_
  refine (ev_eq _ _ _ _ _ _).trans ?_
  refine (if_pos h2).trans ?_
  refine (if_pos h3).trans ?_
  refine (if_pos h4).trans ?_
  refine (ev_eq _ _ _ _ _ _).trans ?_
  rfl
theorem B_X5_weigh_13_3 {T : List Shp} {c : Nat → Int → Int} {x1 x2 x3 x4 : Int} (h1 : ¬ x4 < 12) (h2 : 0 < (c 21 14)) (h3 : x3 = (c 21 12)) (h4 : ¬ x1 = (c 21 13)) : ev 40 2 13 [vR 22, vI x1, vI x2, vI x3, vI x4] [] (SH T, c) = ev 40 2 87 [vR 22, vI x1, vU, vI x3, vU] [] (SH T, c) := by
  refine (ev_eq _ _ _ _ _ _).trans ?_
  refine (if_neg h1).trans ?_
  refine (ev_eq _ _ _ _ _ _).trans ?_
  refine (if_pos h2).trans ?_
  refine (if_pos h3).trans ?_
  refine (if_neg h4).trans ?_
  rfl
theorem B_X5_weigh_13_4 {T : List Shp} {c : Nat → Int → Int} {x1 x2 x3 x4 : Int} (h1 : ¬ x4 < 12) (h2 : 0 < (c 21 14)) (h3 : ¬ x3 = (c 21 12)) : ev 40 2 13 [vR 22, vI x1, vI x2, vI x3, vI x4] [] (SH T, c) = ev 40 2 87 [vR 22, vI x1, vU, vI x3, vU] [] (SH T, c) := by
  refine (ev_eq _ _ _ _ _ _).trans ?_
  refine (if_neg h1).trans ?_
  refine (ev_eq _ _ _ _ _ _).trans ?_
  refine (if_pos h2).trans ?_
  refine (if_neg h3).trans ?_
  rfl
theorem B_X5_weigh_13_5 {T : List Shp} {c : Nat → Int → Int} {x1 x2 x3 x4 : Int} (h1 : ¬ x4 < 12) (h2 : ¬ 0 < (c 21 14)) : ev 40 2 13 [vR 22, vI x1, vI x2, vI x3, vI x4] [] (SH T, c) = ev 40 2 87 [vR 22, vI x1, vU, vI x3, vU] [] (SH T, c) := by
  refine (ev_eq _ _ _ _ _ _).trans ?_
  refine (if_neg h1).trans ?_
  refine (ev_eq _ _ _ _ _ _).trans ?_
  refine (if_neg h2).trans ?_
  rfl
theorem B_X5_weigh_87_1 {T : List Shp} {c : Nat → Int → Int} {x1 x3 : Int} (h1 : (c 21 14) = 0) : ev 40 2 87 [vR 22, vI x1, vU, vI x3, vU] [] (SH T, c) = ev 40 2 103 [vR 22, vI x1, vU, vI x3, vU] [] (SH T, c) := by
  refine (ev_eq _ _ _ _ _ _).trans ?_
  refine (if_pos h1).trans ?_
  rfl
theorem B_X5_weigh_87_2 {T : List Shp} {c : Nat → Int → Int} {x1 x3 : Int} {r1 : Int} {c2 : Nat → Int → Int} (h1 : ¬ (c 21 14) = 0) (h2 : cal 41 [vR 22, vI x3, vI x1] (SH T, c) = some (some (vI r1), (SH T, c2))) (h3 : r1 = 0) : ev 40 2 87 [vR 22, vI x1, vU, vI x3, vU] [] (SH T, c) = some (none, (SH T, c2)) := by
  refine (ev_eq _ _ _ _ _ _).trans ?_
  refine (if_neg h1).trans ?_
  refine (el_call rfl h2).trans ?_
  refine (if_pos h3).trans ?_
  refine (ev_eq _ _ _ _ _ _).trans ?_
  rfl
theorem B_X5_weigh_87_3 {T : List Shp} {c : Nat → Int → Int} {x1 x3 : Int} {r1 : Int} {c2 : Nat → Int → Int} (h1 : ¬ (c 21 14) = 0) (h2 : cal 41 [vR 22, vI x3, vI x1] (SH T, c) = some (some (vI r1), (SH T, c2))) (h3 : ¬ r1 = 0) : ev 40 2 87 [vR 22, vI x1, vU, vI x3, vU] [] (SH T, c) = ev 40 2 103 [vR 22, vI x1, vU, vI x3, vU] [] (SH T, c2) := by
  refine (ev_eq _ _ _ _ _ _).trans ?_
  refine (if_neg h1).trans ?_
  refine (el_call rfl h2).trans ?_
  refine (if_neg h3).trans ?_
  rfl
theorem B_X5_weigh_103 {T : List Shp} {c : Nat → Int → Int} {x1 x3 : Int} (h1 : (0 ≤ 0 ∧ 0 ≤ 0 ∧ 0 ≤ (c 21 9)) ∧ 0 + (c 21 9) ≤ 5 ∧ 0 + (c 21 9) ≤ 5) : ev 40 2 103 [vR 22, vI x1, vU, vI x3, vU] [] (SH T, c) = some (none, (SH T, (cpy (up (up (up c 21 14 1) 21 12 x3) 21 13 x1) 27 0 28 0 (c 21 9)))) := by
  refine (ev_eq _ _ _ _ _ _).trans ?_
  refine (if_pos h1).trans ?_
  refine (ev_eq _ _ _ _ _ _).trans ?_
  rfl
theorem E_X5_isBetter_1 {T : List Shp} {c : Nat → Int → Int} {x1 x2 : Int} (h1 : (c 21 8) = 1) (h2 : x2 < (c 21 13)) : cal 41 [vR 22, vI x1, vI x2] (SH T, c) = some (some (vI 1), (SH T, c)) := by
  refine (ev_eq _ _ _ _ _ _).trans ?_
  refine (if_pos h1).trans ?_
  refine (if_pos h2).trans ?_
  refine (ev_eq _ _ _ _ _ _).trans ?_
  rfl
theorem E_X5_isBetter_2 {T : List Shp} {c : Nat → Int → Int} {x1 x2 : Int} (h1 : (c 21 8) = 1) (h2 : ¬ x2 < (c 21 13)) (h3 : x2 = (c 21 13)) (h4 : x1 < (c 21 12)) : cal 41 [vR 22, vI x1, vI x2] (SH T, c) = some (some (vI 1), (SH T, c)) := by
  refine (ev_eq _ _ _ _ _ _).trans ?_
  refine (if_pos h1).trans ?_
  refine (if_neg h2).trans ?_
  refine (if_pos h3).trans ?_
  refine (if_pos h4).trans ?_
  refine (ev_eq _ _ _ _ _ _).trans ?_
  rfl
theorem E_X5_isBetter_3 {T : List Shp} {c : Nat → Int → Int} {x1 x2 : Int} (h1 : (c 21 8) = 1) (h2 : ¬ x2 < (c 21 13)) (h3 : x2 = (c 21 13)) (h4 : ¬ x1 < (c 21 12)) : cal 41 [vR 22, vI x1, vI x2] (SH T, c) = some (some (vI 0), (SH T, c)) := by
  refine (ev_eq _ _ _ _ _ _).trans ?_
  refine (if_pos h1).trans ?_
  refine (if_neg h2).trans ?_
  refine (if_pos h3).trans ?_
  refine (if_neg h4).trans ?_
  refine (ev_eq _ _ _ _ _ _).trans ?_
  rfl
theorem E_X5_isBetter_4 {T : List Shp} {c : Nat → Int → Int} {x1 x2 : Int} (h1 : (c 21 8) = 1) (h2 : ¬ x2 < (c 21 13)) (h3 : ¬ x2 = (c 21 13)) : cal 41 [vR 22, vI x1, vI x2] (SH T, c) = some (some (vI 0), (SH T, c)) := by
  refine (ev_eq _ _ _ _ _ _).trans ?_
  refine (if_pos h1).trans ?_
  refine (if_neg h2).trans ?_
  refine (if_neg h3).trans ?_
  refine (ev_eq _ _ _ _ _ _).trans ?_
  rfl
theorem E_X5_isBetter_5 {T : List Shp} {c : Nat → Int → Int} {x1 x2 : Int} (h1 : ¬ (c 21 8) = 1) (h2 : x1 < (c 21 12)) : cal 41 [vR 22, vI x1, vI x2] (SH T, c) = some (some (vI 1), (SH T, c)) := by
  refine (ev_eq _ _ _ _ _ _).trans ?_
  refine (if_neg h1).trans ?_
  refine (ev_eq _ _ _ _ _ _).trans ?_
  refine (if_pos h2).trans ?_
  refine (ev_eq _ _ _ _ _ _).trans ?_
  rfl
theorem E_X5_isBetter_6 {T : List Shp} {c : Nat → Int → Int} {x1 x2 : Int} (h1 : ¬ (c 21 8) = 1) (h2 : ¬ x1 < (c 21 12)) (h3 : x1 = (c 21 12)) (h4 : x2 < (c 21 13)) : cal 41 [vR 22, vI x1, vI x2] (SH T, c) = some (some (vI 1), (SH T, c)) := by
  refine (ev_eq _ _ _ _ _ _).trans ?_
  refine (if_neg h1).trans ?_
  refine (ev_eq _ _ _ _ _ _).trans ?_
  refine (if_neg h2).trans ?_
  refine (if_pos h3).trans ?_
  refine (if_pos h4).trans ?_
  refine (ev_eq _ _ _ _ _ _).trans ?_
  rfl
theorem E_X5_isBetter_7 {T : List Shp} {c : Nat → Int → Int} {x1 x2 : Int} (h1 : ¬ (c 21 8) = 1) (h2 : ¬ x1 < (c 21 12)) (h3 : x1 = (c 21 12)) (h4 : ¬ x2 < (c 21 13)) : cal 41 [vR 22, vI x1, vI x2] (SH T, c) = some (some (vI 0), (SH T, c)) := by
  refine (ev_eq _ _ _ _ _ _).trans ?_
  refine (if_neg h1).trans ?_
  refine (ev_eq _ _ _ _ _ _).trans ?_
  refine (if_neg h2).trans ?_
  refine (if_pos h3).trans ?_
  refine (if_neg h4).trans ?_
  refine (ev_eq _ _ _ _ _ _).trans ?_
  rfl
theorem E_X5_isBetter_8 {T : List Shp} {c : Nat → Int → Int} {x1 x2 : Int} (h1 : ¬ (c 21 8) = 1) (h2 : ¬ x1 < (c 21 12)) (h3 : ¬ x1 = (c 21 12)) : cal 41 [vR 22, vI x1, vI x2] (SH T, c) = some (some (vI 0), (SH T, c)) := by
  refine (ev_eq _ _ _ _ _ _).trans ?_
  refine (if_neg h1).trans ?_
  refine (ev_eq _ _ _ _ _ _).trans ?_
  refine (if_neg h2).trans ?_
  refine (if_neg h3).trans ?_
  refine (ev_eq _ _ _ _ _ _).trans ?_
  rfl
theorem E_X8_between {T : List Shp} {c : Nat → Int → Int} {x1 x2 : Int}  : cal 78 [vR 50, vI x1, vI x2] (SH T, c) = ev 78 2 5 [vR 50, vI x1, vI x2, vI 0, vI 0] [] (SH T, c) := by
  refine (ev_eq _ _ _ _ _ _).trans ?_
  rfl
theorem B_X8_between_5_1 {T : List Shp} {c : Nat → Int → Int} {x1 x2 x3 x4 : Int} {r1 : Int} {c2 : Nat → Int → Int} {r3 : Int} {c4 : Nat → Int → Int} (h1 : x4 < 12) (h2 : cal 87 [vR 50, vI x1, vI x4] (SH T, c) = some (some (vI r1), (SH T, c2))) (h3 : cal 87 [vR 50, vI x2, vI x4] (SH T, c2) = some (some (vI r3), (SH T, c4))) (h4 : r1 = r3) : ev 78 2 5 [vR 50, vI x1, vI x2, vI x3, vI x4] [] (SH T, c) = ev 78 2 32 [vR 50, vI x1, vI x2, vI x3, vI x4] [] (SH T, c4) := by
  refine (ev_eq _ _ _ _ _ _).trans ?_
  refine (if_pos h1).trans ?_
  refine (el_call rfl h2).trans ?_
  refine (el_call rfl h3).trans ?_
  refine (if_pos h4).trans ?_
  rfl
theorem B_X8_between_5_2 {T : List Shp} {c : Nat → Int → Int} {x1 x2 x3 x4 : Int} {r1 : Int} {c2 : Nat → Int → Int} {r3 : Int} {c4 : Nat → Int → Int} (h1 : x4 < 12) (h2 : cal 87 [vR 50, vI x1, vI x4] (SH T, c) = some (some (vI r1), (SH T, c2))) (h3 : cal 87 [vR 50, vI x2, vI x4] (SH T, c2) = some (some (vI r3), (SH T, c4))) (h4 : ¬ r1 = r3) : ev 78 2 5 [vR 50, vI x1, vI x2, vI x3, vI x4] [] (SH T, c) = ev 78 2 32 [vR 50, vI x1, vI x2, vI (w32 (x3 + 1)), vI x4] [] (SH T, c4) := by
  refine (ev_eq _ _ _ _ _ _).trans ?_
  refine (if_pos h1).trans ?_
  refine (el_call rfl h2).trans ?_
  refine (el_call rfl h3).trans ?_
  refine (if_neg h4).trans ?_
  rfl
theorem B_X8_between_5_3 {T : List Shp} {c : Nat → Int → Int} {x1 x2 x3 x4 : Int} (h1 : ¬ x4 < 12) : ev 78 2 5 [vR 50, vI x1, vI x2, vI x3, vI x4] [] (SH T, c) = some (some (vI x3), (SH T, c)) := by
  refine (ev_eq _ _ _ _ _ _).trans ?_
  refine (if_neg h1).trans ?_
  refine (ev_eq _ _ _ _ _ _).trans ?_
  rfl
theorem B_X8_between_32 {T : List Shp} {c : Nat → Int → Int} {x1 x2 x3 x4 : Int}  : ev 78 2 32 [vR 50, vI x1, vI x2, vI x3, vI x4] [] (SH T, c) = ev 78 2 5 [vR 50, vI x1, vI x2, vI x3, vI (w32 (x4 + 1))] [] (SH T, c) := by
  refine (ev_eq _ _ _ _ _ _).trans ?_
  rfl
theorem E_X8_weigh {T : List Shp} {c : Nat → Int → Int}  : cal 79 [vR 50] (SH T, c) = ev 79 4 15 [vR 50, vI 0, vU] [] (SH T, (up c 49 1 (w32 ((c 1 11) + 1)))) := by
  refine (ev_eq _ _ _ _ _ _).trans ?_
  rfl
theorem B_X8_weigh_15_1 {T : List Shp} {c : Nat → Int → Int} {x1 : Int} (h1 : x1 < (c 49 1)) : ev 79 4 15 [vR 50, vI x1, vU] [] (SH T, c) = ev 79 4 25 [vR 50, vI x1, vI 0] [] (SH T, c) := by
  refine (ev_eq _ _ _ _ _ _).trans ?_
  refine (if_pos h1).trans ?_
  rfl
theorem B_X8_weigh_15_2 {T : List Shp} {c : Nat → Int → Int} {x1 : Int} (h1 : ¬ x1 < (c 49 1)) : ev 79 4 15 [vR 50, vI x1, vU] [] (SH T, c) = ev 79 4 64 [vR 50, vI 1, vU] [] (SH T, c) := by
  refine (ev_eq _ _ _ _ _ _).trans ?_
  refine (if_neg h1).trans ?_
  refine (ev_eq _ _ _ _ _ _).trans ?_
  rfl
theorem B_X8_weigh_25_1 {T : List Shp} {c : Nat → Int → Int} {x1 x2 : Int} {r1 : Int} {c2 : Nat → Int → Int} (h1 : x2 < (c 49 1)) (h2 : cal 78 [vR 50, vI x1, vI x2] (SH T, c) = some (some (vI r1), (SH T, c2))) (h3 : 0 ≤ (w32 ((w32 (x1 * 7)) + x2)) ∧ (w32 ((w32 (x1 * 7)) + x2)) < 49) : ev 79 4 25 [vR 50, vI x1, vI x2] [] (SH T, c) = ev 79 4 25 [vR 50, vI x1, vI (w32 (x2 + 1))] [] (SH T, (up c2 50 (w32 ((w32 (x1 * 7)) + x2)) r1)) := by
  refine (ev_eq _ _ _ _ _ _).trans ?_
  refine (if_pos h1).trans ?_
  refine (el_call rfl h2).trans ?_
  refine (if_pos h3).trans ?_
  rfl
theorem B_X8_weigh_25_2 {T : List Shp} {c : Nat → Int → Int} {x1 x2 : Int} (h1 : ¬ x2 < (c 49 1)) : ev 79 4 25 [vR 50, vI x1, vI x2] [] (SH T, c) = ev 79 4 15 [vR 50, vI (w32 (x1 + 1)), vU] [] (SH T, c) := by
  refine (ev_eq _ _ _ _ _ _).trans ?_
  refine (if_neg h1).trans ?_
  refine (ev_eq _ _ _ _ _ _).trans ?_
  rfl
theorem B_X8_weigh_64_1 {T : List Shp} {c : Nat → Int → Int} {x1 : Int} {c1 : Nat → Int → Int} (h1 : x1 < (ishl 1 (c 49 1))) (h2 : cal 89 [vR 50, vI x1] (SH T, c) = some (none, (SH T, c1))) : ev 79 4 64 [vR 50, vI x1, vU] [] (SH T, c) = ev 79 4 64 [vR 50, vI (w32 (x1 + 1)), vU] [] (SH T, c1) := by
  refine (ev_eq _ _ _ _ _ _).trans ?_
  refine (if_pos h1).trans ?_
  refine (el_call rfl h2).trans ?_
  rfl
theorem B_X8_weigh_64_2 {T : List Shp} {c : Nat → Int → Int} {x1 : Int} (h1 : ¬ x1 < (ishl 1 (c 49 1))) : ev 79 4 64 [vR 50, vI x1, vU] [] (SH T, c) = some (none, (SH T, c)) := by
  refine (ev_eq _ _ _ _ _ _).trans ?_
  refine (if_neg h1).trans ?_
  refine (ev_eq _ _ _ _ _ _).trans ?_
  rfl
theorem E_X8_changed {T : List Shp} {c : Nat → Int → Int} (h1 : 0 ≤ (w32 ((ishl 1 (c 49 1)) - 1)) ∧ (w32 ((ishl 1 (c 49 1)) - 1)) < 128) : cal 80 [vR 50] (SH T, c) = some (some (vI (c 51 (w32 ((ishl 1 (c 49 1)) - 1)))), (SH T, c)) := by
  refine (ev_eq _ _ _ _ _ _).trans ?_
  refine (if_pos h1).trans ?_
  rfl
theorem E_X8_waysInAll {T : List Shp} {c : Nat → Int → Int} (h1 : 0 ≤ (w32 ((ishl 1 (c 49 1)) - 1)) ∧ (w32 ((ishl 1 (c 49 1)) - 1)) < 128) : cal 81 [vR 50] (SH T, c) = some (some (vI (c 52 (w32 ((ishl 1 (c 49 1)) - 1)))), (SH T, c)) := by
  refine (ev_eq _ _ _ _ _ _).trans ?_
  refine (if_pos h1).trans ?_
  rfl
theorem E_X8_parentOf {T : List Shp} {c : Nat → Int → Int} {x1 : Int}  : cal 82 [vR 50, vI x1] (SH T, c) = ev 82 20 2 [vR 50, vI x1, vI 0] [] (SH T, c) := by
  refine (ev_eq _ _ _ _ _ _).trans ?_
  rfl
theorem B_X8_parentOf_2_1 {T : List Shp} {c : Nat → Int → Int} {x1 x2 : Int} (h1 : x2 < 7) (h2 : 0 ≤ x2 ∧ x2 < 7) : ev 82 20 2 [vR 50, vI x1, vI x2] [] (SH T, c) = ev 82 20 2 [vR 50, vI x1, vI (w32 (x2 + 1))] [] (SH T, (up c 53 x2 (-1))) := by
  refine (ev_eq _ _ _ _ _ _).trans ?_
  refine (if_pos h1).trans ?_
  refine (if_pos h2).trans ?_
  rfl
theorem B_X8_parentOf_2_2 {T : List Shp} {c : Nat → Int → Int} {x1 x2 : Int} {r1 : Int} {c2 : Nat → Int → Int} (h1 : ¬ x2 < 7) (h2 : cal 91 [vR 50, vI 1, vI 0] (SH T, c) = some (some (vI r1), (SH T, c2))) (h3 : r1 = 0) : ev 82 20 2 [vR 50, vI x1, vI x2] [] (SH T, c) = some (some (vI 0), (SH T, c2)) := by
  refine (ev_eq _ _ _ _ _ _).trans ?_
  refine (if_neg h1).trans ?_
  refine (ev_eq _ _ _ _ _ _).trans ?_
  refine (el_call rfl h2).trans ?_
  refine (if_pos h3).trans ?_
  refine (ev_eq _ _ _ _ _ _).trans ?_
  rfl
theorem B_X8_parentOf_2_3 {T : List Shp} {c : Nat → Int → Int} {x1 x2 : Int} {r1 : Int} {c2 : Nat → Int → Int} (h1 : ¬ x2 < 7) (h2 : cal 91 [vR 50, vI 1, vI 0] (SH T, c) = some (some (vI r1), (SH T, c2))) (h3 : ¬ r1 = 0) (h4 : 0 ≤ x1 ∧ x1 < 7) : ev 82 20 2 [vR 50, vI x1, vI x2] [] (SH T, c) = some (some (vI (c2 53 x1)), (SH T, c2)) := by
  refine (ev_eq _ _ _ _ _ _).trans ?_
  refine (if_neg h1).trans ?_
  refine (ev_eq _ _ _ _ _ _).trans ?_
  refine (el_call rfl h2).trans ?_
  refine (if_neg h3).trans ?_
  refine (if_pos h4).trans ?_
  rfl
theorem E_X8_datedBy {T : List Shp} {c : Nat → Int → Int} {x1 x2 : Int}  : cal 83 [vR 50, vI x1, vI x2] (SH T, c) = ev 83 2 15 [vR 50, vI x1, vI x2, vI 13, vI 0, vI 0, vI 0, vI 0, vU] [] (SH T, c) := by
  refine (ev_eq _ _ _ _ _ _).trans ?_
  rfl
theorem B_X8_datedBy_15_1 {T : List Shp} {c : Nat → Int → Int} {x1 x2 x3 x4 x5 x6 x7 : Int} (h1 : (c 1 8) < x7) (h2 : x2 = 0) : ev 83 2 15 [vR 50, vI x1, vI x2, vI x3, vI x4, vI x5, vI x6, vI x7, vU] [] (SH T, c) = some (some (vI x3), (SH T, c)) := by
  refine (ev_eq _ _ _ _ _ _).trans ?_
  refine (if_pos h1).trans ?_
  refine (ev_eq _ _ _ _ _ _).trans ?_
  refine (if_pos h2).trans ?_
  refine (ev_eq _ _ _ _ _ _).trans ?_
  rfl
theorem B_X8_datedBy_15_2 {T : List Shp} {c : Nat → Int → Int} {x1 x2 x3 x4 x5 x6 x7 : Int} (h1 : (c 1 8) < x7) (h2 : x2 = 1) : ev 83 2 15 [vR 50, vI x1, vI x2, vI x3, vI x4, vI x5, vI x6, vI x7, vU] [] (SH T, c) = some (some (vI x4), (SH T, c)) := by
  refine (ev_eq _ _ _ _ _ _).trans ?_
  refine (if_pos h1).trans ?_
  refine (ev_eq _ _ _ _ _ _).trans ?_
  refine (if_neg (by omega)).trans ?_
  refine (if_pos h2).trans ?_
  refine (ev_eq _ _ _ _ _ _).trans ?_
  rfl
theorem B_X8_datedBy_15_3 {T : List Shp} {c : Nat → Int → Int} {x1 x2 x3 x4 x5 x6 x7 : Int} (h1 : (c 1 8) < x7) (h2 : x2 = 2) : ev 83 2 15 [vR 50, vI x1, vI x2, vI x3, vI x4, vI x5, vI x6, vI x7, vU] [] (SH T, c) = some (some (vI x5), (SH T, c)) := by
  refine (ev_eq _ _ _ _ _ _).trans ?_
  refine (if_pos h1).trans ?_
  refine (ev_eq _ _ _ _ _ _).trans ?_
  refine (if_neg (by omega)).trans ?_
  refine (if_neg (by omega)).trans ?_
  refine (if_pos h2).trans ?_
  refine (ev_eq _ _ _ _ _ _).trans ?_
  rfl
theorem B_X8_datedBy_15_4 {T : List Shp} {c : Nat → Int → Int} {x1 x2 x3 x4 x5 x6 x7 : Int} (h1 : (c 1 8) < x7) (h2 : ¬ x2 = 0 ∧ ¬ x2 = 1 ∧ ¬ x2 = 2) : ev 83 2 15 [vR 50, vI x1, vI x2, vI x3, vI x4, vI x5, vI x6, vI x7, vU] [] (SH T, c) = some (some (vI x6), (SH T, c)) := by
  refine (ev_eq _ _ _ _ _ _).trans ?_
  refine (if_pos h1).trans ?_
  refine (ev_eq _ _ _ _ _ _).trans ?_
  refine (if_neg (h2.1)).trans ?_
  refine (if_neg (h2.2.1)).trans ?_
  refine (if_neg (h2.2.2)).trans ?_
  refine (ev_eq _ _ _ _ _ _).trans ?_
  rfl
theorem B_X8_datedBy_15_5 {T : List Shp} {c : Nat → Int → Int} {x1 x2 x3 x4 x5 x6 x7 : Int} {r1 : Int} {c2 : Nat → Int → Int} (h1 : ¬ (c 1 8) < x7) (h2 : cal 88 [vR 50, vI x1, vI x7] (SH T, c) = some (some (vI r1), (SH T, c2))) (h3 : r1 < x3) : ev 83 2 15 [vR 50, vI x1, vI x2, vI x3, vI x4, vI x5, vI x6, vI x7, vU] [] (SH T, c) = ev 83 2 52 [vR 50, vI x1, vI x2, vI r1, vI x7, vI x5, vI 0, vI x7, vI r1] [] (SH T, c2) := by
  refine (ev_eq _ _ _ _ _ _).trans ?_
  refine (if_neg h1).trans ?_
  refine (el_call rfl h2).trans ?_
  refine (if_pos h3).trans ?_
  rfl
theorem B_X8_datedBy_15_6 {T : List Shp} {c : Nat → Int → Int} {x1 x2 x3 x4 x5 x6 x7 : Int} {r1 : Int} {c2 : Nat → Int → Int} (h1 : ¬ (c 1 8) < x7) (h2 : cal 88 [vR 50, vI x1, vI x7] (SH T, c) = some (some (vI r1), (SH T, c2))) (h3 : ¬ r1 < x3) : ev 83 2 15 [vR 50, vI x1, vI x2, vI x3, vI x4, vI x5, vI x6, vI x7, vU] [] (SH T, c) = ev 83 2 52 [vR 50, vI x1, vI x2, vI x3, vI x4, vI x5, vI x6, vI x7, vI r1] [] (SH T, c2) := by
  refine (ev_eq _ _ _ _ _ _).trans ?_
  refine (if_neg h1).trans ?_
  refine (el_call rfl h2).trans ?_
  refine (if_neg h3).trans ?_
  rfl
theorem B_X8_datedBy_52_1 {T : List Shp} {c : Nat → Int → Int} {x1 x2 x3 x4 x5 x6 x7 x8 : Int} (h1 : x8 = x3) : ev 83 2 52 [vR 50, vI x1, vI x2, vI x3, vI x4, vI x5, vI x6, vI x7, vI x8] [] (SH T, c) = ev 83 2 65 [vR 50, vI x1, vI x2, vI x3, vI x4, vI x7, vI (w32 (x6 + 1)), vI x7, vU] [] (SH T, c) := by
  refine (ev_eq _ _ _ _ _ _).trans ?_
  refine (if_pos h1).trans ?_
  rfl
theorem B_X8_datedBy_52_2 {T : List Shp} {c : Nat → Int → Int} {x1 x2 x3 x4 x5 x6 x7 x8 : Int} (h1 : ¬ x8 = x3) : ev 83 2 52 [vR 50, vI x1, vI x2, vI x3, vI x4, vI x5, vI x6, vI x7, vI x8] [] (SH T, c) = ev 83 2 65 [vR 50, vI x1, vI x2, vI x3, vI x4, vI x5, vI x6, vI x7, vU] [] (SH T, c) := by
  refine (ev_eq _ _ _ _ _ _).trans ?_
  refine (if_neg h1).trans ?_
  rfl
theorem B_X8_datedBy_65 {T : List Shp} {c : Nat → Int → Int} {x1 x2 x3 x4 x5 x6 x7 : Int}  : ev 83 2 65 [vR 50, vI x1, vI x2, vI x3, vI x4, vI x5, vI x6, vI x7, vU] [] (SH T, c) = ev 83 2 15 [vR 50, vI x1, vI x2, vI x3, vI x4, vI x5, vI x6, vI (w32 (x7 + 1)), vU] [] (SH T, c) := by
  refine (ev_eq _ _ _ _ _ _).trans ?_
  rfl
theorem E_X8_learn {T : List Shp} {c : Nat → Int → Int}  : cal 84 [vR 50] (SH T, c) = ev 84 3 24 [vR 50, vI (w32 ((ishl 1 (c 1 11)) - 1)), vI 1, vU, vU, vU, vU] [] (SH T, (up (up c 49 7 0) 49 8 (-1))) := by
  refine (ev_eq _ _ _ _ _ _).trans ?_
  rfl
theorem B_X8_learn_24_1 {T : List Shp} {c : Nat → Int → Int} {x1 x2 : Int} (h1 : x1 < x2) : ev 84 3 24 [vR 50, vI x1, vI x2, vU, vU, vU, vU] [] (SH T, c) = some (none, (SH T, c)) := by
  refine (ev_eq _ _ _ _ _ _).trans ?_
  refine (if_pos h1).trans ?_
  refine (ev_eq _ _ _ _ _ _).trans ?_
  rfl
theorem B_X8_learn_24_2 {T : List Shp} {c : Nat → Int → Int} {x1 x2 : Int} (h1 : ¬ x1 < x2) : ev 84 3 24 [vR 50, vI x1, vI x2, vU, vU, vU, vU] [] (SH T, c) = ev 84 3 37 [vR 50, vI x1, vI x2, vI 0, vI (-1), vI 0, vU] [] (SH T, c) := by
  refine (ev_eq _ _ _ _ _ _).trans ?_
  refine (if_neg h1).trans ?_
  rfl
theorem B_X8_learn_37_1 {T : List Shp} {c : Nat → Int → Int} {x1 x2 x3 x4 x5 : Int} {r1 : Int} {c2 : Nat → Int → Int} (h1 : x5 < 12) (h2 : cal 85 [vR 50, vI x2, vI x5] (SH T, c) = some (some (vI r1), (SH T, c2))) (h3 : r1 = (-1)) : ev 84 3 37 [vR 50, vI x1, vI x2, vI x3, vI x4, vI x5, vU] [] (SH T, c) = ev 84 3 78 [vR 50, vI x1, vI x2, vI x3, vI x4, vI x5, vU] [] (SH T, c2) := by
  refine (ev_eq _ _ _ _ _ _).trans ?_
  refine (if_pos h1).trans ?_
  refine (el_call rfl h2).trans ?_
  refine (if_pos h3).trans ?_
  rfl
theorem B_X8_learn_37_2 {T : List Shp} {c : Nat → Int → Int} {x1 x2 x3 x4 x5 : Int} {r1 : Int} {c2 : Nat → Int → Int} (h1 : x5 < 12) (h2 : cal 85 [vR 50, vI x2, vI x5] (SH T, c) = some (some (vI r1), (SH T, c2))) (h3 : ¬ r1 = (-1)) (h4 : x4 = (-1)) : ev 84 3 37 [vR 50, vI x1, vI x2, vI x3, vI x4, vI x5, vU] [] (SH T, c) = ev 84 3 71 [vR 50, vI x1, vI x2, vU, vU, vI x5, vI r1] [] (SH T, c2) := by
  refine (ev_eq _ _ _ _ _ _).trans ?_
  refine (if_pos h1).trans ?_
  refine (el_call rfl h2).trans ?_
  refine (if_neg h3).trans ?_
  refine (if_pos h4).trans ?_
  rfl
theorem B_X8_learn_37_3 {T : List Shp} {c : Nat → Int → Int} {x1 x2 x3 x4 x5 : Int} {r1 : Int} {c2 : Nat → Int → Int} (h1 : x5 < 12) (h2 : cal 85 [vR 50, vI x2, vI x5] (SH T, c) = some (some (vI r1), (SH T, c2))) (h3 : ¬ r1 = (-1)) (h4 : ¬ x4 = (-1)) (h5 : r1 < x3) : ev 84 3 37 [vR 50, vI x1, vI x2, vI x3, vI x4, vI x5, vU] [] (SH T, c) = ev 84 3 71 [vR 50, vI x1, vI x2, vU, vU, vI x5, vI r1] [] (SH T, c2) := by
  refine (ev_eq _ _ _ _ _ _).trans ?_
  refine (if_pos h1).trans ?_
  refine (el_call rfl h2).trans ?_
  refine (if_neg h3).trans ?_
  refine (if_neg h4).trans ?_
  refine (if_pos h5).trans ?_
  rfl
theorem B_X8_learn_37_4 {T : List Shp} {c : Nat → Int → Int} {x1 x2 x3 x4 x5 : Int} {r1 : Int} {c2 : Nat → Int → Int} (h1 : x5 < 12) (h2 : cal 85 [vR 50, vI x2, vI x5] (SH T, c) = some (some (vI r1), (SH T, c2))) (h3 : ¬ r1 = (-1)) (h4 : ¬ x4 = (-1)) (h5 : ¬ r1 < x3) : ev 84 3 37 [vR 50, vI x1, vI x2, vI x3, vI x4, vI x5, vU] [] (SH T, c) = ev 84 3 78 [vR 50, vI x1, vI x2, vI x3, vI x4, vI x5, vU] [] (SH T, c2) := by
  refine (ev_eq _ _ _ _ _ _).trans ?_
  refine (if_pos h1).trans ?_
  refine (el_call rfl h2).trans ?_
  refine (if_neg h3).trans ?_
  refine (if_neg h4).trans ?_
  refine (if_neg h5).trans ?_
  rfl
theorem B_X8_learn_37_5 {T : List Shp} {c : Nat → Int → Int} {x1 x2 x3 x4 x5 : Int} (h1 : ¬ x5 < 12) (h2 : 0 ≤ x2 ∧ x2 < 64) : ev 84 3 37 [vR 50, vI x1, vI x2, vI x3, vI x4, vI x5, vU] [] (SH T, c) = ev 84 3 24 [vR 50, vI x1, vI (w32 (x2 + 1)), vU, vU, vU, vU] [] (SH T, (up (up (up c 54 x2 x3) 49 7 x3) 49 8 x4)) := by
  refine (ev_eq _ _ _ _ _ _).trans ?_
  refine (if_neg h1).trans ?_
  refine (ev_eq _ _ _ _ _ _).trans ?_
  refine (if_pos h2).trans ?_
  rfl
theorem B_X8_learn_71 {T : List Shp} {c : Nat → Int → Int} {x1 x2 x5 x6 : Int}  : ev 84 3 71 [vR 50, vI x1, vI x2, vU, vU, vI x5, vI x6] [] (SH T, c) = ev 84 3 78 [vR 50, vI x1, vI x2, vI x6, vI x5, vI x5, vU] [] (SH T, c) := by
  refine (ev_eq _ _ _ _ _ _).trans ?_
  rfl
theorem B_X8_learn_78 {T : List Shp} {c : Nat → Int → Int} {x1 x2 x3 x4 x5 : Int}  : ev 84 3 78 [vR 50, vI x1, vI x2, vI x3, vI x4, vI x5, vU] [] (SH T, c) = ev 84 3 37 [vR 50, vI x1, vI x2, vI x3, vI x4, vI (w32 (x5 + 1)), vU] [] (SH T, c) := by
  refine (ev_eq _ _ _ _ _ _).trans ?_
  rfl
theorem E_X8_needBehind {T : List Shp} {c : Nat → Int → Int} {x1 x2 : Int}  : cal 85 [vR 50, vI x1, vI x2] (SH T, c) = ev 85 2 8 [vR 50, vI x1, vI x2, vI 0, vI x1, vI 0, vU] [] (SH T, c) := by
  refine (ev_eq _ _ _ _ _ _).trans ?_
  rfl
theorem B_X8_needBehind_8_1 {T : List Shp} {c : Nat → Int → Int} {x1 x2 x3 x4 x5 : Int} (h1 : x5 < (c 1 11)) (h2 : x4 = 0) : ev 85 2 8 [vR 50, vI x1, vI x2, vI x3, vI x4, vI x5, vU] [] (SH T, c) = some (some (vI (w32 (x3 + 1))), (SH T, c)) := by
  refine (ev_eq _ _ _ _ _ _).trans ?_
  refine (if_pos h1).trans ?_
  refine (if_pos h2).trans ?_
  refine (ev_eq _ _ _ _ _ _).trans ?_
  rfl
theorem B_X8_needBehind_8_2 {T : List Shp} {c : Nat → Int → Int} {x1 x2 x3 x4 x5 : Int} {r1 : Int} {c2 : Nat → Int → Int} (h1 : x5 < (c 1 11)) (h2 : ¬ x4 = 0) (h3 : (iand (ishr x4 x5) 1) = 1) (h4 : cal 86 [vR 50, vI x4, vI x5, vI x2] (SH T, c) = some (some (vI r1), (SH T, c2))) (h5 : r1 = x1) : ev 85 2 8 [vR 50, vI x1, vI x2, vI x3, vI x4, vI x5, vU] [] (SH T, c) = some (some (vI (-1)), (SH T, c2)) := by
  refine (ev_eq _ _ _ _ _ _).trans ?_
  refine (if_pos h1).trans ?_
  refine (if_neg h2).trans ?_
  refine (if_pos h3).trans ?_
  refine (el_call rfl h4).trans ?_
  refine (if_pos h5).trans ?_
  rfl
theorem B_X8_needBehind_8_3 {T : List Shp} {c : Nat → Int → Int} {x1 x2 x3 x4 x5 : Int} {r1 : Int} {c2 : Nat → Int → Int} {r3 : Int} {c4 : Nat → Int → Int} (h1 : x5 < (c 1 11)) (h2 : ¬ x4 = 0) (h3 : (iand (ishr x4 x5) 1) = 1) (h4 : cal 86 [vR 50, vI x4, vI x5, vI x2] (SH T, c) = some (some (vI r1), (SH T, c2))) (h5 : ¬ r1 = x1) (h6 : 0 ≤ r1 ∧ r1 < 64) (h7 : cal 343 [vI x3, vI (c2 54 r1)] (SH T, c2) = some (some (vI r3), (SH T, c4))) : ev 85 2 8 [vR 50, vI x1, vI x2, vI x3, vI x4, vI x5, vU] [] (SH T, c) = ev 85 2 74 [vR 50, vI x1, vI x2, vI r3, vI (ixor x4 r1), vI x5, vU] [] (SH T, c4) := by
  refine (ev_eq _ _ _ _ _ _).trans ?_
  refine (if_pos h1).trans ?_
  refine (if_neg h2).trans ?_
  refine (if_pos h3).trans ?_
  refine (el_call rfl h4).trans ?_
  refine (if_neg h5).trans ?_
  refine (ev_eq _ _ _ _ _ _).trans ?_
  refine (if_pos h6).trans ?_
  refine (el_call rfl h7).trans ?_
  rfl
theorem B_X8_needBehind_8_4 {T : List Shp} {c : Nat → Int → Int} {x1 x2 x3 x4 x5 : Int} (h1 : x5 < (c 1 11)) (h2 : ¬ x4 = 0) (h3 : ¬ (iand (ishr x4 x5) 1) = 1) : ev 85 2 8 [vR 50, vI x1, vI x2, vI x3, vI x4, vI x5, vU] [] (SH T, c) = ev 85 2 74 [vR 50, vI x1, vI x2, vI x3, vI x4, vI x5, vU] [] (SH T, c) := by
  refine (ev_eq _ _ _ _ _ _).trans ?_
  refine (if_pos h1).trans ?_
  refine (if_neg h2).trans ?_
  refine (if_neg h3).trans ?_
  rfl
theorem B_X8_needBehind_8_5 {T : List Shp} {c : Nat → Int → Int} {x1 x2 x3 x4 x5 : Int} (h1 : ¬ x5 < (c 1 11)) : ev 85 2 8 [vR 50, vI x1, vI x2, vI x3, vI x4, vI x5, vU] [] (SH T, c) = some (some (vI (w32 (x3 + 1))), (SH T, c)) := by
  refine (ev_eq _ _ _ _ _ _).trans ?_
  refine (if_neg h1).trans ?_
  refine (ev_eq _ _ _ _ _ _).trans ?_
  rfl
theorem B_X8_needBehind_74 {T : List Shp} {c : Nat → Int → Int} {x1 x2 x3 x4 x5 : Int}  : ev 85 2 74 [vR 50, vI x1, vI x2, vI x3, vI x4, vI x5, vU] [] (SH T, c) = ev 85 2 8 [vR 50, vI x1, vI x2, vI x3, vI x4, vI (w32 (x5 + 1)), vU] [] (SH T, c) := by
  refine (ev_eq _ _ _ _ _ _).trans ?_
  rfl
theorem E_X8_sameIn {T : List Shp} {c : Nat → Int → Int} {x1 x2 x3 : Int}  : cal 86 [vR 50, vI x1, vI x2, vI x3] (SH T, c) = ev 86 1 6 [vR 50, vI x1, vI x2, vI x3, vI 0, vI x2] [] (SH T, c) := by
  refine (ev_eq _ _ _ _ _ _).trans ?_
  rfl
theorem B_X8_sameIn_6_1 {T : List Shp} {c : Nat → Int → Int} {x1 x2 x3 x4 x5 : Int} (h1 : x5 < (c 1 11)) (h2 : (iand (ishr x1 x5) 1) = 1) (h3 : 0 ≤ (w32 ((w32 (x5 * 12)) + x3)) ∧ (w32 ((w32 (x5 * 12)) + x3)) < 72) (h4 : 0 ≤ (w32 ((w32 (x2 * 12)) + x3)) ∧ (w32 ((w32 (x2 * 12)) + x3)) < 72) (h5 : (c 8 (w32 ((w32 (x5 * 12)) + x3))) = (c 8 (w32 ((w32 (x2 * 12)) + x3)))) : ev 86 1 6 [vR 50, vI x1, vI x2, vI x3, vI x4, vI x5] [] (SH T, c) = ev 86 1 69 [vR 50, vI x1, vI x2, vI x3, vI (ior x4 (ishl 1 x5)), vI x5] [] (SH T, c) := by
  refine (ev_eq _ _ _ _ _ _).trans ?_
  refine (if_pos h1).trans ?_
  refine (if_pos h2).trans ?_
  refine (if_pos h3).trans ?_
  refine (if_pos h4).trans ?_
  refine (if_pos h5).trans ?_
  rfl
theorem B_X8_sameIn_6_2 {T : List Shp} {c : Nat → Int → Int} {x1 x2 x3 x4 x5 : Int} (h1 : x5 < (c 1 11)) (h2 : (iand (ishr x1 x5) 1) = 1) (h3 : 0 ≤ (w32 ((w32 (x5 * 12)) + x3)) ∧ (w32 ((w32 (x5 * 12)) + x3)) < 72) (h4 : 0 ≤ (w32 ((w32 (x2 * 12)) + x3)) ∧ (w32 ((w32 (x2 * 12)) + x3)) < 72) (h5 : ¬ (c 8 (w32 ((w32 (x5 * 12)) + x3))) = (c 8 (w32 ((w32 (x2 * 12)) + x3)))) : ev 86 1 6 [vR 50, vI x1, vI x2, vI x3, vI x4, vI x5] [] (SH T, c) = ev 86 1 69 [vR 50, vI x1, vI x2, vI x3, vI x4, vI x5] [] (SH T, c) := by
  refine (ev_eq _ _ _ _ _ _).trans ?_
  refine (if_pos h1).trans ?_
  refine (if_pos h2).trans ?_
  refine (if_pos h3).trans ?_
  refine (if_pos h4).trans ?_
  refine (if_neg h5).trans ?_
  rfl
theorem B_X8_sameIn_6_3 {T : List Shp} {c : Nat → Int → Int} {x1 x2 x3 x4 x5 : Int} (h1 : x5 < (c 1 11)) (h2 : ¬ (iand (ishr x1 x5) 1) = 1) : ev 86 1 6 [vR 50, vI x1, vI x2, vI x3, vI x4, vI x5] [] (SH T, c) = ev 86 1 69 [vR 50, vI x1, vI x2, vI x3, vI x4, vI x5] [] (SH T, c) := by
  refine (ev_eq _ _ _ _ _ _).trans ?_
  refine (if_pos h1).trans ?_
  refine (if_neg h2).trans ?_
  rfl
theorem B_X8_sameIn_6_4 {T : List Shp} {c : Nat → Int → Int} {x1 x2 x3 x4 x5 : Int} (h1 : ¬ x5 < (c 1 11)) : ev 86 1 6 [vR 50, vI x1, vI x2, vI x3, vI x4, vI x5] [] (SH T, c) = some (some (vI x4), (SH T, c)) := by
  refine (ev_eq _ _ _ _ _ _).trans ?_
  refine (if_neg h1).trans ?_
  refine (ev_eq _ _ _ _ _ _).trans ?_
  rfl
theorem B_X8_sameIn_69 {T : List Shp} {c : Nat → Int → Int} {x1 x2 x3 x4 x5 : Int}  : ev 86 1 69 [vR 50, vI x1, vI x2, vI x3, vI x4, vI x5] [] (SH T, c) = ev 86 1 6 [vR 50, vI x1, vI x2, vI x3, vI x4, vI (w32 (x5 + 1))] [] (SH T, c) := by
  refine (ev_eq _ _ _ _ _ _).trans ?_
  rfl
theorem E_X8_toneIn_1 {T : List Shp} {c : Nat → Int → Int} {x1 x2 : Int} (h1 : x1 = 0) (h2 : 0 ≤ x2 ∧ x2 < 204) : cal 87 [vR 50, vI x1, vI x2] (SH T, c) = some (some (vI (c 7 x2)), (SH T, c)) := by
  refine (ev_eq _ _ _ _ _ _).trans ?_
  refine (if_pos h1).trans ?_
  refine (if_pos h2).trans ?_
  rfl
theorem E_X8_toneIn_2 {T : List Shp} {c : Nat → Int → Int} {x1 x2 : Int} (h1 : ¬ x1 = 0) (h2 : 0 ≤ (w32 ((w32 ((w32 (x1 - 1)) * 12)) + x2)) ∧ (w32 ((w32 ((w32 (x1 - 1)) * 12)) + x2)) < 72) : cal 87 [vR 50, vI x1, vI x2] (SH T, c) = some (some (vI (c 8 (w32 ((w32 ((w32 (x1 - 1)) * 12)) + x2)))), (SH T, c)) := by
  refine (ev_eq _ _ _ _ _ _).trans ?_
  refine (if_neg h1).trans ?_
  refine (ev_eq _ _ _ _ _ _).trans ?_
  refine (if_pos h2).trans ?_
  rfl
theorem E_X8_fromLayer {T : List Shp} {c : Nat → Int → Int} {x1 x2 : Int}  : cal 88 [vR 50, vI x1, vI x2] (SH T, c) = ev 88 1 5 [vR 50, vI x1, vI x2, vI 0, vI 0] [] (SH T, c) := by
  refine (ev_eq _ _ _ _ _ _).trans ?_
  rfl
theorem B_X8_fromLayer_5_1 {T : List Shp} {c : Nat → Int → Int} {x1 x2 x3 x4 : Int} (h1 : x4 < 12) (h2 : 0 ≤ (w32 ((w32 (x1 * 12)) + x4)) ∧ (w32 ((w32 (x1 * 12)) + x4)) < 72) (h3 : 0 ≤ (w32 ((w32 (x2 * 12)) + x4)) ∧ (w32 ((w32 (x2 * 12)) + x4)) < 204) (h4 : (c 8 (w32 ((w32 (x1 * 12)) + x4))) = (c 7 (w32 ((w32 (x2 * 12)) + x4)))) : ev 88 1 5 [vR 50, vI x1, vI x2, vI x3, vI x4] [] (SH T, c) = ev 88 1 48 [vR 50, vI x1, vI x2, vI x3, vI x4] [] (SH T, c) := by
  refine (ev_eq _ _ _ _ _ _).trans ?_
  refine (if_pos h1).trans ?_
  refine (if_pos h2).trans ?_
  refine (if_pos h3).trans ?_
  refine (if_pos h4).trans ?_
  rfl
theorem B_X8_fromLayer_5_2 {T : List Shp} {c : Nat → Int → Int} {x1 x2 x3 x4 : Int} (h1 : x4 < 12) (h2 : 0 ≤ (w32 ((w32 (x1 * 12)) + x4)) ∧ (w32 ((w32 (x1 * 12)) + x4)) < 72) (h3 : 0 ≤ (w32 ((w32 (x2 * 12)) + x4)) ∧ (w32 ((w32 (x2 * 12)) + x4)) < 204) (h4 : ¬ (c 8 (w32 ((w32 (x1 * 12)) + x4))) = (c 7 (w32 ((w32 (x2 * 12)) + x4)))) : ev 88 1 5 [vR 50, vI x1, vI x2, vI x3, vI x4] [] (SH T, c) = ev 88 1 48 [vR 50, vI x1, vI x2, vI (w32 (x3 + 1)), vI x4] [] (SH T, c) := by
  refine (ev_eq _ _ _ _ _ _).trans ?_
  refine (if_pos h1).trans ?_
  refine (if_pos h2).trans ?_
  refine (if_pos h3).trans ?_
  refine (if_neg h4).trans ?_
  rfl
theorem B_X8_fromLayer_5_3 {T : List Shp} {c : Nat → Int → Int} {x1 x2 x3 x4 : Int} (h1 : ¬ x4 < 12) : ev 88 1 5 [vR 50, vI x1, vI x2, vI x3, vI x4] [] (SH T, c) = some (some (vI x3), (SH T, c)) := by
  refine (ev_eq _ _ _ _ _ _).trans ?_
  refine (if_neg h1).trans ?_
  refine (ev_eq _ _ _ _ _ _).trans ?_
  rfl
theorem B_X8_fromLayer_48 {T : List Shp} {c : Nat → Int → Int} {x1 x2 x3 x4 : Int}  : ev 88 1 48 [vR 50, vI x1, vI x2, vI x3, vI x4] [] (SH T, c) = ev 88 1 5 [vR 50, vI x1, vI x2, vI x3, vI (w32 (x4 + 1))] [] (SH T, c) := by
  refine (ev_eq _ _ _ _ _ _).trans ?_
  rfl
theorem E_X8_weighSet_1 {T : List Shp} {c : Nat → Int → Int} {x1 : Int} (h1 : (iand x1 (w32 (x1 - 1))) = 0) (h2 : 0 ≤ x1 ∧ x1 < 128) (h3 : 0 ≤ x1 ∧ x1 < 128) : cal 89 [vR 50, vI x1] (SH T, c) = some (none, (SH T, (up (up c 51 x1 0) 52 x1 1))) := by
  refine (ev_eq _ _ _ _ _ _).trans ?_
  refine (if_pos h1).trans ?_
  refine (if_pos h2).trans ?_
  refine (if_pos h3).trans ?_
  rfl
theorem E_X8_weighSet_2 {T : List Shp} {c : Nat → Int → Int} {x1 : Int} (h1 : ¬ (iand x1 (w32 (x1 - 1))) = 0) (h2 : 0 ≤ x1 ∧ x1 < 128) (h3 : 0 ≤ x1 ∧ x1 < 128) : cal 89 [vR 50, vI x1] (SH T, c) = ev 89 3 53 [vR 50, vI x1, vU, vI (iand (iand x1 (w32 (x1 - 1))) (w32 (-(iand x1 (w32 (x1 - 1)))))), vI (ixor (iand x1 (w32 (x1 - 1))) (iand (iand x1 (w32 (x1 - 1))) (w32 (-(iand x1 (w32 (x1 - 1))))))), vI 0] [] (SH T, (up (up c 51 x1 84) 52 x1 0)) := by
  refine (ev_eq _ _ _ _ _ _).trans ?_
  refine (if_neg h1).trans ?_
  refine (ev_eq _ _ _ _ _ _).trans ?_
  refine (if_pos h2).trans ?_
  refine (if_pos h3).trans ?_
  rfl
theorem B_X8_weighSet_53_1 {T : List Shp} {c : Nat → Int → Int} {x1 x3 x4 x5 : Int} (h1 : x4 < x5) : ev 89 3 53 [vR 50, vI x1, vU, vI x3, vI x4, vI x5] [] (SH T, c) = some (none, (SH T, c)) := by
  refine (ev_eq _ _ _ _ _ _).trans ?_
  refine (if_pos h1).trans ?_
  refine (ev_eq _ _ _ _ _ _).trans ?_
  rfl
theorem B_X8_weighSet_53_2 {T : List Shp} {c : Nat → Int → Int} {x1 x3 x4 x5 : Int} {c1 : Nat → Int → Int} (h1 : ¬ x4 < x5) (h2 : (iand x5 x4) = x5) (h3 : cal 90 [vR 50, vI x1, vI (ior x5 x3)] (SH T, c) = some (none, (SH T, c1))) : ev 89 3 53 [vR 50, vI x1, vU, vI x3, vI x4, vI x5] [] (SH T, c) = ev 89 3 79 [vR 50, vI x1, vU, vI x3, vI x4, vI x5] [] (SH T, c1) := by
  refine (ev_eq _ _ _ _ _ _).trans ?_
  refine (if_neg h1).trans ?_
  refine (if_pos h2).trans ?_
  refine (el_call rfl h3).trans ?_
  rfl
theorem B_X8_weighSet_53_3 {T : List Shp} {c : Nat → Int → Int} {x1 x3 x4 x5 : Int} (h1 : ¬ x4 < x5) (h2 : ¬ (iand x5 x4) = x5) : ev 89 3 53 [vR 50, vI x1, vU, vI x3, vI x4, vI x5] [] (SH T, c) = ev 89 3 79 [vR 50, vI x1, vU, vI x3, vI x4, vI x5] [] (SH T, c) := by
  refine (ev_eq _ _ _ _ _ _).trans ?_
  refine (if_neg h1).trans ?_
  refine (if_neg h2).trans ?_
  rfl
theorem B_X8_weighSet_79 {T : List Shp} {c : Nat → Int → Int} {x1 x3 x4 x5 : Int}  : ev 89 3 79 [vR 50, vI x1, vU, vI x3, vI x4, vI x5] [] (SH T, c) = ev 89 3 53 [vR 50, vI x1, vU, vI x3, vI x4, vI (w32 (x5 + 1))] [] (SH T, c) := by
  refine (ev_eq _ _ _ _ _ _).trans ?_
  rfl
theorem E_X8_joinBranch {T : List Shp} {c : Nat → Int → Int} {x1 x2 : Int} {r1 : Int} {c2 : Nat → Int → Int} {r3 : Int} {c4 : Nat → Int → Int} (h1 : cal 182 [vI x1] (SH T, c) = some (some (vI r1), (SH T, c2))) (h2 : cal 343 [vI 0, vI r1] (SH T, c2) = some (some (vI r3), (SH T, c4))) (h3 : 0 ≤ x2 ∧ x2 < 128) (h4 : 0 ≤ (ixor x1 x2) ∧ (ixor x1 x2) < 128) : cal 90 [vR 50, vI x1, vI x2] (SH T, c) = ev 90 2 33 [vR 50, vI x1, vI x2, vI r3, vI (ixor x1 x2), vI (w32 ((c4 52 x2) * (c4 52 (ixor x1 x2)))), vI 0, vU] [] (SH T, c4) := by
  refine (ev_eq _ _ _ _ _ _).trans ?_
  refine (el_call rfl h1).trans ?_
  refine (el_call rfl h2).trans ?_
  refine (if_pos h3).trans ?_
  refine (if_pos h4).trans ?_
  rfl
theorem B_X8_joinBranch_33_1 {T : List Shp} {c : Nat → Int → Int} {x1 x2 x3 x4 x5 x6 : Int} (h1 : x6 < (c 49 1)) (h2 : (iand (ishr x2 x6) 1) = 1) (h3 : 0 ≤ x2 ∧ x2 < 128) (h4 : 0 ≤ x4 ∧ x4 < 128) (h5 : 0 ≤ (w32 ((w32 (x3 * 7)) + x6)) ∧ (w32 ((w32 (x3 * 7)) + x6)) < 49) (h6 : 0 ≤ x1 ∧ x1 < 128) (h7 : (w32 ((w32 ((c 51 x2) + (c 51 x4))) + (c 50 (w32 ((w32 (x3 * 7)) + x6))))) < (c 51 x1)) (h8 : 0 ≤ x1 ∧ x1 < 128) (h9 : 0 ≤ x1 ∧ x1 < 128) : ev 90 2 33 [vR 50, vI x1, vI x2, vI x3, vI x4, vI x5, vI x6, vU] [] (SH T, c) = ev 90 2 107 [vR 50, vI x1, vI x2, vI x3, vI x4, vI x5, vI x6, vI (w32 ((w32 ((c 51 x2) + (c 51 x4))) + (c 50 (w32 ((w32 (x3 * 7)) + x6)))))] [] (SH T, (up (up c 51 x1 (w32 ((w32 ((c 51 x2) + (c 51 x4))) + (c 50 (w32 ((w32 (x3 * 7)) + x6)))))) 52 x1 0)) := by
  refine (ev_eq _ _ _ _ _ _).trans ?_
  refine (if_pos h1).trans ?_
  refine (if_pos h2).trans ?_
  refine (if_pos h3).trans ?_
  refine (if_pos h4).trans ?_
  refine (if_pos h5).trans ?_
  refine (if_pos h6).trans ?_
  refine (if_pos h7).trans ?_
  refine (if_pos h8).trans ?_
  refine (if_pos h9).trans ?_
  rfl
theorem B_X8_joinBranch_33_2 {T : List Shp} {c : Nat → Int → Int} {x1 x2 x3 x4 x5 x6 : Int} (h1 : x6 < (c 49 1)) (h2 : (iand (ishr x2 x6) 1) = 1) (h3 : 0 ≤ x2 ∧ x2 < 128) (h4 : 0 ≤ x4 ∧ x4 < 128) (h5 : 0 ≤ (w32 ((w32 (x3 * 7)) + x6)) ∧ (w32 ((w32 (x3 * 7)) + x6)) < 49) (h6 : 0 ≤ x1 ∧ x1 < 128) (h7 : ¬ (w32 ((w32 ((c 51 x2) + (c 51 x4))) + (c 50 (w32 ((w32 (x3 * 7)) + x6))))) < (c 51 x1)) : ev 90 2 33 [vR 50, vI x1, vI x2, vI x3, vI x4, vI x5, vI x6, vU] [] (SH T, c) = ev 90 2 107 [vR 50, vI x1, vI x2, vI x3, vI x4, vI x5, vI x6, vI (w32 ((w32 ((c 51 x2) + (c 51 x4))) + (c 50 (w32 ((w32 (x3 * 7)) + x6)))))] [] (SH T, c) := by
  refine (ev_eq _ _ _ _ _ _).trans ?_
  refine (if_pos h1).trans ?_
  refine (if_pos h2).trans ?_
  refine (if_pos h3).trans ?_
  refine (if_pos h4).trans ?_
  refine (if_pos h5).trans ?_
  refine (if_pos h6).trans ?_
  refine (if_neg h7).trans ?_
  rfl
theorem B_X8_joinBranch_33_3 {T : List Shp} {c : Nat → Int → Int} {x1 x2 x3 x4 x5 x6 : Int} (h1 : x6 < (c 49 1)) (h2 : ¬ (iand (ishr x2 x6) 1) = 1) : ev 90 2 33 [vR 50, vI x1, vI x2, vI x3, vI x4, vI x5, vI x6, vU] [] (SH T, c) = ev 90 2 129 [vR 50, vI x1, vI x2, vI x3, vI x4, vI x5, vI x6, vU] [] (SH T, c) := by
  refine (ev_eq _ _ _ _ _ _).trans ?_
  refine (if_pos h1).trans ?_
  refine (if_neg h2).trans ?_
  rfl
theorem B_X8_joinBranch_33_4 {T : List Shp} {c : Nat → Int → Int} {x1 x2 x3 x4 x5 x6 : Int} (h1 : ¬ x6 < (c 49 1)) : ev 90 2 33 [vR 50, vI x1, vI x2, vI x3, vI x4, vI x5, vI x6, vU] [] (SH T, c) = some (none, (SH T, c)) := by
  refine (ev_eq _ _ _ _ _ _).trans ?_
  refine (if_neg h1).trans ?_
  refine (ev_eq _ _ _ _ _ _).trans ?_
  rfl
theorem B_X8_joinBranch_107_1 {T : List Shp} {c : Nat → Int → Int} {x1 x2 x3 x4 x5 x6 x7 : Int} (h1 : 0 ≤ x1 ∧ x1 < 128) (h2 : x7 = (c 51 x1)) (h3 : 0 ≤ x1 ∧ x1 < 128) (h4 : 0 ≤ x1 ∧ x1 < 128) : ev 90 2 107 [vR 50, vI x1, vI x2, vI x3, vI x4, vI x5, vI x6, vI x7] [] (SH T, c) = ev 90 2 129 [vR 50, vI x1, vI x2, vI x3, vI x4, vI x5, vI x6, vU] [] (SH T, (up c 52 x1 (w32 ((c 52 x1) + x5)))) := by
  refine (ev_eq _ _ _ _ _ _).trans ?_
  refine (if_pos h1).trans ?_
  refine (if_pos h2).trans ?_
  refine (if_pos h3).trans ?_
  refine (if_pos h4).trans ?_
  rfl
theorem B_X8_joinBranch_107_2 {T : List Shp} {c : Nat → Int → Int} {x1 x2 x3 x4 x5 x6 x7 : Int} (h1 : 0 ≤ x1 ∧ x1 < 128) (h2 : ¬ x7 = (c 51 x1)) : ev 90 2 107 [vR 50, vI x1, vI x2, vI x3, vI x4, vI x5, vI x6, vI x7] [] (SH T, c) = ev 90 2 129 [vR 50, vI x1, vI x2, vI x3, vI x4, vI x5, vI x6, vU] [] (SH T, c) := by
  refine (ev_eq _ _ _ _ _ _).trans ?_
  refine (if_pos h1).trans ?_
  refine (if_neg h2).trans ?_
  rfl
theorem B_X8_joinBranch_129 {T : List Shp} {c : Nat → Int → Int} {x1 x2 x3 x4 x5 x6 : Int}  : ev 90 2 129 [vR 50, vI x1, vI x2, vI x3, vI x4, vI x5, vI x6, vU] [] (SH T, c) = ev 90 2 33 [vR 50, vI x1, vI x2, vI x3, vI x4, vI x5, vI (w32 (x6 + 1)), vU] [] (SH T, c) := by
  refine (ev_eq _ _ _ _ _ _).trans ?_
  rfl
theorem E_X8_fits_1 {T : List Shp} {c : Nat → Int → Int} {x1 x2 : Int} {r1 : Int} {c2 : Nat → Int → Int} {r3 : Int} {c4 : Nat → Int → Int} (h1 : x1 < (c 49 1)) (h2 : 2 + 1 ≤ (3 + 2 * (8 - x1).toNat)) (h3 : cal 92 [vR 50, vI x1] (SH T, c) = some (some (vI r1), (SH T, c2))) (h4 : 1 + 1 ≤ (3 + 2 * (8 - x1).toNat)) (h5 : cal 80 [vR 50] (SH T, c2) = some (some (vI r3), (SH T, c4))) (h6 : r3 < (w32 (x2 + r1))) : cal 91 [vR 50, vI x1, vI x2] (SH T, c) = some (some (vI 0), (SH T, c4)) := by
  refine (ev_eq _ _ _ _ _ _).trans ?_
  refine (if_pos h1).trans ?_
  refine (ev_eq _ _ _ _ _ _).trans ?_
  refine (el_call (Nat.ble_eq_true_of_le h2) h3).trans ?_
  refine (el_call (Nat.ble_eq_true_of_le h4) h5).trans ?_
  refine (if_pos h6).trans ?_
  rfl
theorem E_X8_fits_2 {T : List Shp} {c : Nat → Int → Int} {x1 x2 : Int} {r1 : Int} {c2 : Nat → Int → Int} {r3 : Int} {c4 : Nat → Int → Int} (h1 : x1 < (c 49 1)) (h2 : 2 + 1 ≤ (3 + 2 * (8 - x1).toNat)) (h3 : cal 92 [vR 50, vI x1] (SH T, c) = some (some (vI r1), (SH T, c2))) (h4 : 1 + 1 ≤ (3 + 2 * (8 - x1).toNat)) (h5 : cal 80 [vR 50] (SH T, c2) = some (some (vI r3), (SH T, c4))) (h6 : ¬ r3 < (w32 (x2 + r1))) : cal 91 [vR 50, vI x1, vI x2] (SH T, c) = ev 91 (3 + 2 * (8 - x1).toNat) 40 [vR 50, vI x1, vI x2, vI 0] [] (SH T, c4) := by
  refine (ev_eq _ _ _ _ _ _).trans ?_
  refine (if_pos h1).trans ?_
  refine (ev_eq _ _ _ _ _ _).trans ?_
  refine (el_call (Nat.ble_eq_true_of_le h2) h3).trans ?_
  refine (el_call (Nat.ble_eq_true_of_le h4) h5).trans ?_
  refine (if_neg h6).trans ?_
  refine (ev_eq _ _ _ _ _ _).trans ?_
  rfl
theorem E_X8_fits_3 {T : List Shp} {c : Nat → Int → Int} {x1 x2 : Int} {r1 : Int} {c2 : Nat → Int → Int} (h1 : ¬ x1 < (c 49 1)) (h2 : 1 + 1 ≤ (3 + 2 * (8 - x1).toNat)) (h3 : cal 80 [vR 50] (SH T, c) = some (some (vI r1), (SH T, c2))) (h4 : x2 = r1) : cal 91 [vR 50, vI x1, vI x2] (SH T, c) = some (some (vI 1), (SH T, c2)) := by
  refine (ev_eq _ _ _ _ _ _).trans ?_
  refine (if_neg h1).trans ?_
  refine (el_call (Nat.ble_eq_true_of_le h2) h3).trans ?_
  refine (if_pos h4).trans ?_
  rfl
theorem E_X8_fits_4 {T : List Shp} {c : Nat → Int → Int} {x1 x2 : Int} {r1 : Int} {c2 : Nat → Int → Int} (h1 : ¬ x1 < (c 49 1)) (h2 : 1 + 1 ≤ (3 + 2 * (8 - x1).toNat)) (h3 : cal 80 [vR 50] (SH T, c) = some (some (vI r1), (SH T, c2))) (h4 : ¬ x2 = r1) : cal 91 [vR 50, vI x1, vI x2] (SH T, c) = some (some (vI 0), (SH T, c2)) := by
  refine (ev_eq _ _ _ _ _ _).trans ?_
  refine (if_neg h1).trans ?_
  refine (el_call (Nat.ble_eq_true_of_le h2) h3).trans ?_
  refine (if_neg h4).trans ?_
  refine (ev_eq _ _ _ _ _ _).trans ?_
  rfl
theorem B_X8_fits_40_1 {T : List Shp} {c : Nat → Int → Int} {nd : Nat} {x1 x2 x3 : Int} {r1 : Int} {c2 : Nat → Int → Int} {r3 : Int} {c4 : Nat → Int → Int} (h1 : x3 < (c 49 1)) (h2 : 1 + 1 ≤ nd) (h3 : cal 93 [vR 50, vI x3, vI x1] (SH T, c) = some (some (vI r1), (SH T, c2))) (h4 : r1 = 0) (h5 : 0 ≤ x1 ∧ x1 < 7) (h6 : 0 ≤ (w32 ((w32 (x1 * 7)) + x3)) ∧ (w32 ((w32 (x1 * 7)) + x3)) < 49) (h7 : (3 + 2 * (8 - (w32 (x1 + 1))).toNat) + 1 ≤ nd) (h8 : cal 91 [vR 50, vI (w32 (x1 + 1)), vI (w32 (x2 + (c2 50 (w32 ((w32 (x1 * 7)) + x3)))))] (SH T, (up c2 53 x1 x3)) = some (some (vI r3), (SH T, c4))) (h9 : r3 = 0) (h10 : 0 ≤ x1 ∧ x1 < 7) : ev 91 nd 40 [vR 50, vI x1, vI x2, vI x3] [] (SH T, c) = ev 91 nd 96 [vR 50, vI x1, vI x2, vI x3] [] (SH T, (up c4 53 x1 (-1))) := by
  refine (ev_eq _ _ _ _ _ _).trans ?_
  refine (if_pos h1).trans ?_
  refine (el_call (Nat.ble_eq_true_of_le h2) h3).trans ?_
  refine (if_pos h4).trans ?_
  refine (if_pos h5).trans ?_
  refine (if_pos h6).trans ?_
  refine (el_call (Nat.ble_eq_true_of_le h7) h8).trans ?_
  refine (if_pos h9).trans ?_
  refine (ev_eq _ _ _ _ _ _).trans ?_
  refine (if_pos h10).trans ?_
  rfl
theorem B_X8_fits_40_2 {T : List Shp} {c : Nat → Int → Int} {nd : Nat} {x1 x2 x3 : Int} {r1 : Int} {c2 : Nat → Int → Int} {r3 : Int} {c4 : Nat → Int → Int} (h1 : x3 < (c 49 1)) (h2 : 1 + 1 ≤ nd) (h3 : cal 93 [vR 50, vI x3, vI x1] (SH T, c) = some (some (vI r1), (SH T, c2))) (h4 : r1 = 0) (h5 : 0 ≤ x1 ∧ x1 < 7) (h6 : 0 ≤ (w32 ((w32 (x1 * 7)) + x3)) ∧ (w32 ((w32 (x1 * 7)) + x3)) < 49) (h7 : (3 + 2 * (8 - (w32 (x1 + 1))).toNat) + 1 ≤ nd) (h8 : cal 91 [vR 50, vI (w32 (x1 + 1)), vI (w32 (x2 + (c2 50 (w32 ((w32 (x1 * 7)) + x3)))))] (SH T, (up c2 53 x1 x3)) = some (some (vI r3), (SH T, c4))) (h9 : ¬ r3 = 0) : ev 91 nd 40 [vR 50, vI x1, vI x2, vI x3] [] (SH T, c) = some (some (vI 1), (SH T, c4)) := by
  refine (ev_eq _ _ _ _ _ _).trans ?_
  refine (if_pos h1).trans ?_
  refine (el_call (Nat.ble_eq_true_of_le h2) h3).trans ?_
  refine (if_pos h4).trans ?_
  refine (if_pos h5).trans ?_
  refine (if_pos h6).trans ?_
  refine (el_call (Nat.ble_eq_true_of_le h7) h8).trans ?_
  refine (if_neg h9).trans ?_
  rfl
theorem B_X8_fits_40_3 {T : List Shp} {c : Nat → Int → Int} {nd : Nat} {x1 x2 x3 : Int} {r1 : Int} {c2 : Nat → Int → Int} (h1 : x3 < (c 49 1)) (h2 : 1 + 1 ≤ nd) (h3 : cal 93 [vR 50, vI x3, vI x1] (SH T, c) = some (some (vI r1), (SH T, c2))) (h4 : ¬ r1 = 0) : ev 91 nd 40 [vR 50, vI x1, vI x2, vI x3] [] (SH T, c) = ev 91 nd 96 [vR 50, vI x1, vI x2, vI x3] [] (SH T, c2) := by
  refine (ev_eq _ _ _ _ _ _).trans ?_
  refine (if_pos h1).trans ?_
  refine (el_call (Nat.ble_eq_true_of_le h2) h3).trans ?_
  refine (if_neg h4).trans ?_
  rfl
theorem B_X8_fits_40_4 {T : List Shp} {c : Nat → Int → Int} {nd : Nat} {x1 x2 x3 : Int} (h1 : ¬ x3 < (c 49 1)) : ev 91 nd 40 [vR 50, vI x1, vI x2, vI x3] [] (SH T, c) = some (some (vI 0), (SH T, c)) := by
  refine (ev_eq _ _ _ _ _ _).trans ?_
  refine (if_neg h1).trans ?_
  refine (ev_eq _ _ _ _ _ _).trans ?_
  rfl
theorem B_X8_fits_96 {T : List Shp} {c : Nat → Int → Int} {nd : Nat} {x1 x2 x3 : Int}  : ev 91 nd 96 [vR 50, vI x1, vI x2, vI x3] [] (SH T, c) = ev 91 nd 40 [vR 50, vI x1, vI x2, vI (w32 (x3 + 1))] [] (SH T, c) := by
  refine (ev_eq _ _ _ _ _ _).trans ?_
  rfl
theorem E_X8_leastFrom {T : List Shp} {c : Nat → Int → Int} {x1 : Int}  : cal 92 [vR 50, vI x1] (SH T, c) = ev 92 2 4 [vR 50, vU, vI 0, vI x1, vU, vU] [] (SH T, c) := by
  refine (ev_eq _ _ _ _ _ _).trans ?_
  rfl
theorem B_X8_leastFrom_4_1 {T : List Shp} {c : Nat → Int → Int} {x2 x3 : Int} (h1 : x3 < (c 49 1)) : ev 92 2 4 [vR 50, vU, vI x2, vI x3, vU, vU] [] (SH T, c) = ev 92 2 19 [vR 50, vU, vI x2, vI x3, vI 12, vI 0] [] (SH T, c) := by
  refine (ev_eq _ _ _ _ _ _).trans ?_
  refine (if_pos h1).trans ?_
  rfl
theorem B_X8_leastFrom_4_2 {T : List Shp} {c : Nat → Int → Int} {x2 x3 : Int} (h1 : ¬ x3 < (c 49 1)) : ev 92 2 4 [vR 50, vU, vI x2, vI x3, vU, vU] [] (SH T, c) = some (some (vI x2), (SH T, c)) := by
  refine (ev_eq _ _ _ _ _ _).trans ?_
  refine (if_neg h1).trans ?_
  refine (ev_eq _ _ _ _ _ _).trans ?_
  rfl
theorem B_X8_leastFrom_19_1 {T : List Shp} {c : Nat → Int → Int} {x2 x3 x4 x5 : Int} (h1 : x5 < (c 49 1)) (h2 : x5 = x3) : ev 92 2 19 [vR 50, vU, vI x2, vI x3, vI x4, vI x5] [] (SH T, c) = ev 92 2 53 [vR 50, vU, vI x2, vI x3, vI x4, vI x5] [] (SH T, c) := by
  refine (ev_eq _ _ _ _ _ _).trans ?_
  refine (if_pos h1).trans ?_
  refine (if_pos h2).trans ?_
  rfl
theorem B_X8_leastFrom_19_2 {T : List Shp} {c : Nat → Int → Int} {x2 x3 x4 x5 : Int} {r1 : Int} {c2 : Nat → Int → Int} (h1 : x5 < (c 49 1)) (h2 : ¬ x5 = x3) (h3 : 0 ≤ (w32 ((w32 (x3 * 7)) + x5)) ∧ (w32 ((w32 (x3 * 7)) + x5)) < 49) (h4 : cal 344 [vI x4, vI (c 50 (w32 ((w32 (x3 * 7)) + x5)))] (SH T, c) = some (some (vI r1), (SH T, c2))) : ev 92 2 19 [vR 50, vU, vI x2, vI x3, vI x4, vI x5] [] (SH T, c) = ev 92 2 53 [vR 50, vU, vI x2, vI x3, vI r1, vI x5] [] (SH T, c2) := by
  refine (ev_eq _ _ _ _ _ _).trans ?_
  refine (if_pos h1).trans ?_
  refine (if_neg h2).trans ?_
  refine (if_pos h3).trans ?_
  refine (el_call rfl h4).trans ?_
  rfl
theorem B_X8_leastFrom_19_3 {T : List Shp} {c : Nat → Int → Int} {x2 x3 x4 x5 : Int} (h1 : ¬ x5 < (c 49 1)) : ev 92 2 19 [vR 50, vU, vI x2, vI x3, vI x4, vI x5] [] (SH T, c) = ev 92 2 4 [vR 50, vU, vI (w32 (x2 + x4)), vI (w32 (x3 + 1)), vU, vU] [] (SH T, c) := by
  refine (ev_eq _ _ _ _ _ _).trans ?_
  refine (if_neg h1).trans ?_
  refine (ev_eq _ _ _ _ _ _).trans ?_
  rfl
theorem B_X8_leastFrom_53 {T : List Shp} {c : Nat → Int → Int} {x2 x3 x4 x5 : Int}  : ev 92 2 53 [vR 50, vU, vI x2, vI x3, vI x4, vI x5] [] (SH T, c) = ev 92 2 19 [vR 50, vU, vI x2, vI x3, vI x4, vI (w32 (x5 + 1))] [] (SH T, c) := by
  refine (ev_eq _ _ _ _ _ _).trans ?_
  rfl
theorem E_X8_comesFrom {T : List Shp} {c : Nat → Int → Int} {x1 x2 : Int}  : cal 93 [vR 50, vI x1, vI x2] (SH T, c) = ev 93 1 5 [vR 50, vU, vI x2, vI x1, vI 0] [] (SH T, c) := by
  refine (ev_eq _ _ _ _ _ _).trans ?_
  rfl
theorem B_X8_comesFrom_5_1 {T : List Shp} {c : Nat → Int → Int} {x2 x3 x4 : Int} (h1 : x4 < 7) (h2 : 0 < x3) (h3 : x3 < 7) (h4 : x3 = x2) : ev 93 1 5 [vR 50, vU, vI x2, vI x3, vI x4] [] (SH T, c) = some (some (vI 1), (SH T, c)) := by
  refine (ev_eq _ _ _ _ _ _).trans ?_
  refine (if_pos h1).trans ?_
  refine (if_pos h2).trans ?_
  refine (if_pos h3).trans ?_
  refine (if_pos h4).trans ?_
  rfl
theorem B_X8_comesFrom_5_2 {T : List Shp} {c : Nat → Int → Int} {x2 x3 x4 : Int} (h1 : x4 < 7) (h2 : 0 < x3) (h3 : x3 < 7) (h4 : ¬ x3 = x2) (h5 : 0 ≤ x3 ∧ x3 < 7) : ev 93 1 5 [vR 50, vU, vI x2, vI x3, vI x4] [] (SH T, c) = ev 93 1 5 [vR 50, vU, vI x2, vI (c 53 x3), vI (w32 (x4 + 1))] [] (SH T, c) := by
  refine (ev_eq _ _ _ _ _ _).trans ?_
  refine (if_pos h1).trans ?_
  refine (if_pos h2).trans ?_
  refine (if_pos h3).trans ?_
  refine (if_neg h4).trans ?_
  refine (ev_eq _ _ _ _ _ _).trans ?_
  refine (if_pos h5).trans ?_
  rfl
theorem B_X8_comesFrom_5_3 {T : List Shp} {c : Nat → Int → Int} {x2 x3 x4 : Int} (h1 : x4 < 7) (h2 : 0 < x3) (h3 : ¬ x3 < 7) : ev 93 1 5 [vR 50, vU, vI x2, vI x3, vI x4] [] (SH T, c) = some (some (vI 0), (SH T, c)) := by
  refine (ev_eq _ _ _ _ _ _).trans ?_
  refine (if_pos h1).trans ?_
  refine (if_pos h2).trans ?_
  refine (if_neg h3).trans ?_
  refine (ev_eq _ _ _ _ _ _).trans ?_
  rfl
theorem B_X8_comesFrom_5_4 {T : List Shp} {c : Nat → Int → Int} {x2 x3 x4 : Int} (h1 : x4 < 7) (h2 : ¬ 0 < x3) : ev 93 1 5 [vR 50, vU, vI x2, vI x3, vI x4] [] (SH T, c) = some (some (vI 0), (SH T, c)) := by
  refine (ev_eq _ _ _ _ _ _).trans ?_
  refine (if_pos h1).trans ?_
  refine (if_neg h2).trans ?_
  refine (ev_eq _ _ _ _ _ _).trans ?_
  rfl
theorem B_X8_comesFrom_5_5 {T : List Shp} {c : Nat → Int → Int} {x2 x3 x4 : Int} (h1 : ¬ x4 < 7) : ev 93 1 5 [vR 50, vU, vI x2, vI x3, vI x4] [] (SH T, c) = some (some (vI 0), (SH T, c)) := by
  refine (ev_eq _ _ _ _ _ _).trans ?_
  refine (if_neg h1).trans ?_
  refine (ev_eq _ _ _ _ _ _).trans ?_
  rfl
theorem E_X2_crownTill {T : List Shp} {c : Nat → Int → Int} {x1 : Int}  : cal 13 [vR 56, vI x1] (SH T, c) = ev 13 6 4 [vR 56, vI x1, vI (-1), vI 0] [] (SH T, c) := by
  refine (ev_eq _ _ _ _ _ _).trans ?_
  rfl

theorem B_X12_law_64_2 {T : List Shp} {c : Nat → Int → Int} {c1 : Nat → Int → Int} {r2 : Int} {c3 : Nat → Int → Int} (h1 : cal 243 [vR 78] (SH T, c) = some (none, (SH T, c1))) (h2 : ¬ (c1 77 15) = 0) (h3 : cal 190 [vR 78, vI (-6)] (SH T, c1) = some (some (vI r2), (SH T, c3))) : ev 244 9 64 [vR 78, vU, vU] [] (SH T, c) = some (some (vI r2), (SH T, c3)) := by
  refine (ev_eq _ _ _ _ _ _).trans ?_
  refine (el_call rfl h1).trans ?_
  refine (if_neg h2).trans ?_
  refine (el_call rfl h3).trans ?_
  rfl
theorem B_X12_law_111_1 {T : List Shp} {c : Nat → Int → Int} {x1 x2 : Int} (h1 : x2 < (w32 (8 * (c 77 17)))) (h2 : 0 ≤ x2 ∧ x2 < 96) (h3 : 0 ≤ (w32 ((w32 (x1 + 2)) + x2)) ∧ (w32 ((w32 (x1 + 2)) + x2)) < 5780) : ev 244 9 111 [vR 78, vI x1, vI x2] [] (SH T, c) = ev 244 9 111 [vR 78, vI x1, vI (w32 (x2 + 1))] [] (SH T, (up c 79 (w32 ((w32 (x1 + 2)) + x2)) (c 84 x2))) := by
  refine (ev_eq _ _ _ _ _ _).trans ?_
  refine (if_pos h1).trans ?_
  refine (if_pos h2).trans ?_
  refine (if_pos h3).trans ?_
  rfl
theorem B_X12_law_111_2 {T : List Shp} {c : Nat → Int → Int} {x1 x2 : Int} (h1 : ¬ x2 < (w32 (8 * (c 77 17)))) : ev 244 9 111 [vR 78, vI x1, vI x2] [] (SH T, c) = ev 244 9 146 [vR 78, vI x1, vI 0] [] (SH T, c) := by
  refine (ev_eq _ _ _ _ _ _).trans ?_
  refine (if_neg h1).trans ?_
  refine (ev_eq _ _ _ _ _ _).trans ?_
  rfl
theorem B_X12_law_146_1 {T : List Shp} {c : Nat → Int → Int} {x1 x2 : Int} (h1 : x2 < (c 77 19)) (h2 : 0 ≤ x2 ∧ x2 < 400) (h3 : 0 ≤ (w32 ((w32 (x1 + 98)) + (w32 (2 * x2)))) ∧ (w32 ((w32 (x1 + 98)) + (w32 (2 * x2)))) < 5780) (h4 : 0 ≤ x2 ∧ x2 < 400) (h5 : 0 ≤ (w32 ((w32 ((w32 (x1 + 98)) + (w32 (2 * x2)))) + 1)) ∧ (w32 ((w32 ((w32 (x1 + 98)) + (w32 (2 * x2)))) + 1)) < 5780) : ev 244 9 146 [vR 78, vI x1, vI x2] [] (SH T, c) = ev 244 9 146 [vR 78, vI x1, vI (w32 (x2 + 1))] [] (SH T, (up (up c 79 (w32 ((w32 (x1 + 98)) + (w32 (2 * x2)))) (c 85 x2)) 79 (w32 ((w32 ((w32 (x1 + 98)) + (w32 (2 * x2)))) + 1)) (c 86 x2))) := by
  refine (ev_eq _ _ _ _ _ _).trans ?_
  refine (if_pos h1).trans ?_
  refine (if_pos h2).trans ?_
  refine (if_pos h3).trans ?_
  refine (if_pos h4).trans ?_
  refine (if_pos h5).trans ?_
  rfl
theorem B_X12_law_146_2 {T : List Shp} {c : Nat → Int → Int} {x1 x2 : Int} {r1 : Int} {c2 : Nat → Int → Int} (h1 : ¬ x2 < (c 77 19)) (h2 : cal 190 [vR 78, vI (w32 ((w32 ((c 79 1) + 1)) - 1))] (SH T, (up c 79 1 (w32 ((c 79 1) + 1)))) = some (some (vI r1), (SH T, c2))) : ev 244 9 146 [vR 78, vI x1, vI x2] [] (SH T, c) = some (some (vI r1), (SH T, c2)) := by
  refine (ev_eq _ _ _ _ _ _).trans ?_
  refine (if_neg h1).trans ?_
  refine (ev_eq _ _ _ _ _ _).trans ?_
  refine (el_call rfl h2).trans ?_
  rfl
theorem E_X12_force_1 {T : List Shp} {c : Nat → Int → Int} {x1 : Int} (h1 : x1 = (-1)) : cal 245 [vR 78, vI x1] (SH T, c) = ev 245 2 28 [vR 78, vI x1] [] (SH T, (up c 77 0 0)) := by
  refine (ev_eq _ _ _ _ _ _).trans ?_
  refine (if_pos h1).trans ?_
  rfl
theorem E_X12_force_2 {T : List Shp} {c : Nat → Int → Int} {x1 : Int} {r1 : Int} {c2 : Nat → Int → Int} {r3 : Int} {c4 : Nat → Int → Int} (h1 : ¬ x1 = (-1)) (h2 : cal 186 [vL x1, vL 0, vL (w64 ((c 79 1) - 1))] (SH T, (up c 77 0 0)) = some (some (vI r1), (SH T, c2))) (h3 : r1 = 0) (h4 : cal 190 [vR 78, vI (-2)] (SH T, c2) = some (some (vI r3), (SH T, c4))) : cal 245 [vR 78, vI x1] (SH T, c) = some (some (vI r3), (SH T, c4)) := by
  refine (ev_eq _ _ _ _ _ _).trans ?_
  refine (if_neg h1).trans ?_
  refine (el_call rfl h2).trans ?_
  refine (if_pos h3).trans ?_
  refine (ev_eq _ _ _ _ _ _).trans ?_
  refine (el_call rfl h4).trans ?_
  rfl
theorem E_X12_force_3 {T : List Shp} {c : Nat → Int → Int} {x1 : Int} {r1 : Int} {c2 : Nat → Int → Int} (h1 : ¬ x1 = (-1)) (h2 : cal 186 [vL x1, vL 0, vL (w64 ((c 79 1) - 1))] (SH T, (up c 77 0 0)) = some (some (vI r1), (SH T, c2))) (h3 : ¬ r1 = 0) : cal 245 [vR 78, vI x1] (SH T, c) = ev 245 2 28 [vR 78, vI x1] [] (SH T, c2) := by
  refine (ev_eq _ _ _ _ _ _).trans ?_
  refine (if_neg h1).trans ?_
  refine (el_call rfl h2).trans ?_
  refine (if_neg h3).trans ?_
  rfl
theorem B_X12_force_28 {T : List Shp} {c : Nat → Int → Int} {x1 : Int} {r1 : Int} {c2 : Nat → Int → Int} (h1 : cal 191 [vR 78, vI 2, vI x1] (SH T, c) = some (some (vI r1), (SH T, c2))) : ev 245 2 28 [vR 78, vI x1] [] (SH T, c) = some (some (vI r1), (SH T, c2)) := by
  refine (ev_eq _ _ _ _ _ _).trans ?_
  refine (el_call rfl h1).trans ?_
  rfl
theorem E_X12_reckon_1 {T : List Shp} {c : Nat → Int → Int} {x1 x2 x4 : Int} (h1 : x1 = 20) : cal 246 [vR 78, vI x1, vL x2, vL x4] (SH T, c) = some (some (vL (w64 (x2 + x4))), (SH T, c)) := by
  refine (ev_eq _ _ _ _ _ _).trans ?_
  refine (if_pos h1).trans ?_
  refine (ev_eq _ _ _ _ _ _).trans ?_
  rfl
theorem E_X12_reckon_2 {T : List Shp} {c : Nat → Int → Int} {x1 x2 x4 : Int} (h1 : x1 = 21) : cal 246 [vR 78, vI x1, vL x2, vL x4] (SH T, c) = some (some (vL (w64 (x2 - x4))), (SH T, c)) := by
  refine (ev_eq _ _ _ _ _ _).trans ?_
  refine (if_neg (by omega)).trans ?_
  refine (if_pos h1).trans ?_
  refine (ev_eq _ _ _ _ _ _).trans ?_
  rfl
theorem E_X12_reckon_3 {T : List Shp} {c : Nat → Int → Int} {x1 x2 x4 : Int} (h1 : x1 = 22) : cal 246 [vR 78, vI x1, vL x2, vL x4] (SH T, c) = some (some (vL (w64 (x2 * x4))), (SH T, c)) := by
  refine (ev_eq _ _ _ _ _ _).trans ?_
  refine (if_neg (by omega)).trans ?_
  refine (if_neg (by omega)).trans ?_
  refine (if_pos h1).trans ?_
  refine (ev_eq _ _ _ _ _ _).trans ?_
  rfl
theorem E_X12_reckon_4 {T : List Shp} {c : Nat → Int → Int} {x1 x2 x4 : Int} (h1 : x1 = 23) (h2 : x4 < 0) : cal 246 [vR 78, vI x1, vL x2, vL x4] (SH T, c) = ev 246 1 68 [vR 78, vU, vL x2, vU, vL x4, vU] [vI 0, vR 78] (SH T, c) := by
  refine (ev_eq _ _ _ _ _ _).trans ?_
  refine (if_neg (by omega)).trans ?_
  refine (if_neg (by omega)).trans ?_
  refine (if_neg (by omega)).trans ?_
  refine (if_pos h1).trans ?_
  refine (ev_eq _ _ _ _ _ _).trans ?_
  refine (if_pos h2).trans ?_
  refine (ev_eq _ _ _ _ _ _).trans ?_
  rfl
theorem E_X12_reckon_5 {T : List Shp} {c : Nat → Int → Int} {x1 x2 x4 : Int} (h1 : x1 = 23) (h2 : x4 = 0) : cal 246 [vR 78, vI x1, vL x2, vL x4] (SH T, c) = ev 246 1 68 [vR 78, vU, vL x2, vU, vL x4, vU] [vI 1, vR 78] (SH T, c) := by
  refine (ev_eq _ _ _ _ _ _).trans ?_
  refine (if_neg (by omega)).trans ?_
  refine (if_neg (by omega)).trans ?_
  refine (if_neg (by omega)).trans ?_
  refine (if_pos h1).trans ?_
  refine (ev_eq _ _ _ _ _ _).trans ?_
  refine (if_neg (by omega)).trans ?_
  refine (if_pos h2).trans ?_
  rfl
theorem E_X12_reckon_6 {T : List Shp} {c : Nat → Int → Int} {x1 x2 x4 : Int} (h1 : x1 = 23) (h2 : ¬ x4 < 0 ∧ ¬ x4 = 0) : cal 246 [vR 78, vI x1, vL x2, vL x4] (SH T, c) = ev 246 1 68 [vR 78, vU, vL x2, vU, vL x4, vU] [vI 0, vR 78] (SH T, c) := by
  refine (ev_eq _ _ _ _ _ _).trans ?_
  refine (if_neg (by omega)).trans ?_
  refine (if_neg (by omega)).trans ?_
  refine (if_neg (by omega)).trans ?_
  refine (if_pos h1).trans ?_
  refine (ev_eq _ _ _ _ _ _).trans ?_
  refine (if_neg h2.1).trans ?_
  refine (if_neg h2.2).trans ?_
  refine (ev_eq _ _ _ _ _ _).trans ?_
  rfl
theorem E_X12_reckon_7 {T : List Shp} {c : Nat → Int → Int} {x1 x2 x4 : Int} (h1 : x1 = 24) (h2 : x2 < x4) : cal 246 [vR 78, vI x1, vL x2, vL x4] (SH T, c) = some (some (vL 1), (SH T, c)) := by
  refine (ev_eq _ _ _ _ _ _).trans ?_
  refine (if_neg (by omega)).trans ?_
  refine (if_neg (by omega)).trans ?_
  refine (if_neg (by omega)).trans ?_
  refine (if_neg (by omega)).trans ?_
  refine (if_pos h1).trans ?_
  refine (ev_eq _ _ _ _ _ _).trans ?_
  refine (if_pos h2).trans ?_
  rfl
theorem E_X12_reckon_8 {T : List Shp} {c : Nat → Int → Int} {x1 x2 x4 : Int} (h1 : x1 = 24) (h2 : x2 = x4) : cal 246 [vR 78, vI x1, vL x2, vL x4] (SH T, c) = some (some (vL 0), (SH T, c)) := by
  refine (ev_eq _ _ _ _ _ _).trans ?_
  refine (if_neg (by omega)).trans ?_
  refine (if_neg (by omega)).trans ?_
  refine (if_neg (by omega)).trans ?_
  refine (if_neg (by omega)).trans ?_
  refine (if_pos h1).trans ?_
  refine (ev_eq _ _ _ _ _ _).trans ?_
  refine (if_neg (by omega)).trans ?_
  refine (if_pos h2).trans ?_
  refine (ev_eq _ _ _ _ _ _).trans ?_
  rfl
theorem E_X12_reckon_9 {T : List Shp} {c : Nat → Int → Int} {x1 x2 x4 : Int} (h1 : x1 = 24) (h2 : ¬ x2 < x4 ∧ ¬ x2 = x4) : cal 246 [vR 78, vI x1, vL x2, vL x4] (SH T, c) = some (some (vL 0), (SH T, c)) := by
  refine (ev_eq _ _ _ _ _ _).trans ?_
  refine (if_neg (by omega)).trans ?_
  refine (if_neg (by omega)).trans ?_
  refine (if_neg (by omega)).trans ?_
  refine (if_neg (by omega)).trans ?_
  refine (if_pos h1).trans ?_
  refine (ev_eq _ _ _ _ _ _).trans ?_
  refine (if_neg h2.1).trans ?_
  refine (if_neg h2.2).trans ?_
  refine (ev_eq _ _ _ _ _ _).trans ?_
  rfl
theorem E_X12_reckon_10 {T : List Shp} {c : Nat → Int → Int} {x1 x2 x4 : Int} (h1 : x1 = 25) (h2 : x2 < x4) : cal 246 [vR 78, vI x1, vL x2, vL x4] (SH T, c) = some (some (vL 0), (SH T, c)) := by
  refine (ev_eq _ _ _ _ _ _).trans ?_
  refine (if_neg (by omega)).trans ?_
  refine (if_neg (by omega)).trans ?_
  refine (if_neg (by omega)).trans ?_
  refine (if_neg (by omega)).trans ?_
  refine (if_neg (by omega)).trans ?_
  refine (if_pos h1).trans ?_
  refine (ev_eq _ _ _ _ _ _).trans ?_
  refine (if_pos h2).trans ?_
  refine (ev_eq _ _ _ _ _ _).trans ?_
  rfl
theorem E_X12_reckon_11 {T : List Shp} {c : Nat → Int → Int} {x1 x2 x4 : Int} (h1 : x1 = 25) (h2 : x2 = x4) : cal 246 [vR 78, vI x1, vL x2, vL x4] (SH T, c) = some (some (vL 0), (SH T, c)) := by
  refine (ev_eq _ _ _ _ _ _).trans ?_
  refine (if_neg (by omega)).trans ?_
  refine (if_neg (by omega)).trans ?_
  refine (if_neg (by omega)).trans ?_
  refine (if_neg (by omega)).trans ?_
  refine (if_neg (by omega)).trans ?_
  refine (if_pos h1).trans ?_
  refine (ev_eq _ _ _ _ _ _).trans ?_
  refine (if_neg (by omega)).trans ?_
  refine (if_pos h2).trans ?_
  refine (ev_eq _ _ _ _ _ _).trans ?_
  rfl
theorem E_X12_reckon_12 {T : List Shp} {c : Nat → Int → Int} {x1 x2 x4 : Int} (h1 : x1 = 25) (h2 : ¬ x2 < x4 ∧ ¬ x2 = x4) : cal 246 [vR 78, vI x1, vL x2, vL x4] (SH T, c) = some (some (vL 1), (SH T, c)) := by
  refine (ev_eq _ _ _ _ _ _).trans ?_
  refine (if_neg (by omega)).trans ?_
  refine (if_neg (by omega)).trans ?_
  refine (if_neg (by omega)).trans ?_
  refine (if_neg (by omega)).trans ?_
  refine (if_neg (by omega)).trans ?_
  refine (if_pos h1).trans ?_
  refine (ev_eq _ _ _ _ _ _).trans ?_
  refine (if_neg h2.1).trans ?_
  refine (if_neg h2.2).trans ?_
  rfl
theorem E_X12_reckon_13 {T : List Shp} {c : Nat → Int → Int} {x1 x2 x4 : Int} (h1 : ¬ x1 = 20 ∧ ¬ x1 = 21 ∧ ¬ x1 = 22 ∧ ¬ x1 = 23 ∧ ¬ x1 = 24 ∧ ¬ x1 = 25) (h2 : x2 < x4) : cal 246 [vR 78, vI x1, vL x2, vL x4] (SH T, c) = some (some (vL 0), (SH T, c)) := by
  refine (ev_eq _ _ _ _ _ _).trans ?_
  refine (if_neg (h1.1)).trans ?_
  refine (if_neg (h1.2.1)).trans ?_
  refine (if_neg (h1.2.2.1)).trans ?_
  refine (if_neg (h1.2.2.2.1)).trans ?_
  refine (if_neg (h1.2.2.2.2.1)).trans ?_
  refine (if_neg (h1.2.2.2.2.2)).trans ?_
  refine (ev_eq _ _ _ _ _ _).trans ?_
  refine (if_pos h2).trans ?_
  refine (ev_eq _ _ _ _ _ _).trans ?_
  rfl
theorem E_X12_reckon_14 {T : List Shp} {c : Nat → Int → Int} {x1 x2 x4 : Int} (h1 : ¬ x1 = 20 ∧ ¬ x1 = 21 ∧ ¬ x1 = 22 ∧ ¬ x1 = 23 ∧ ¬ x1 = 24 ∧ ¬ x1 = 25) (h2 : x2 = x4) : cal 246 [vR 78, vI x1, vL x2, vL x4] (SH T, c) = some (some (vL 1), (SH T, c)) := by
  refine (ev_eq _ _ _ _ _ _).trans ?_
  refine (if_neg (h1.1)).trans ?_
  refine (if_neg (h1.2.1)).trans ?_
  refine (if_neg (h1.2.2.1)).trans ?_
  refine (if_neg (h1.2.2.2.1)).trans ?_
  refine (if_neg (h1.2.2.2.2.1)).trans ?_
  refine (if_neg (h1.2.2.2.2.2)).trans ?_
  refine (ev_eq _ _ _ _ _ _).trans ?_
  refine (if_neg (by omega)).trans ?_
  refine (if_pos h2).trans ?_
  rfl
theorem E_X12_reckon_15 {T : List Shp} {c : Nat → Int → Int} {x1 x2 x4 : Int} (h1 : ¬ x1 = 20 ∧ ¬ x1 = 21 ∧ ¬ x1 = 22 ∧ ¬ x1 = 23 ∧ ¬ x1 = 24 ∧ ¬ x1 = 25) (h2 : ¬ x2 < x4 ∧ ¬ x2 = x4) : cal 246 [vR 78, vI x1, vL x2, vL x4] (SH T, c) = some (some (vL 0), (SH T, c)) := by
  refine (ev_eq _ _ _ _ _ _).trans ?_
  refine (if_neg (h1.1)).trans ?_
  refine (if_neg (h1.2.1)).trans ?_
  refine (if_neg (h1.2.2.1)).trans ?_
  refine (if_neg (h1.2.2.2.1)).trans ?_
  refine (if_neg (h1.2.2.2.2.1)).trans ?_
  refine (if_neg (h1.2.2.2.2.2)).trans ?_
  refine (ev_eq _ _ _ _ _ _).trans ?_
  refine (if_neg h2.1).trans ?_
  refine (if_neg h2.2).trans ?_
  refine (ev_eq _ _ _ _ _ _).trans ?_
  rfl
theorem B_X12_reckon_68_1 {T : List Shp} {c : Nat → Int → Int} {x2 x4 y0 : Int} (h1 : y0 = 0 ∨ y0 = 1) (h2 : y0 = 0) (h3 : ¬ x4 = 0) : ev 246 1 68 [vR 78, vU, vL x2, vU, vL x4, vU] [vI y0, vR 78] (SH T, c) = some (some (vL (w64 (Int.tdiv x2 x4))), (SH T, (up c 77 34 y0))) := by
  refine (ev_eq _ _ _ _ _ _).trans ?_
  refine (if_pos h1).trans ?_
  refine (if_pos h2).trans ?_
  refine (ev_eq _ _ _ _ _ _).trans ?_
  refine (if_neg h3).trans ?_
  rfl
theorem B_X12_reckon_68_2 {T : List Shp} {c : Nat → Int → Int} {x2 x4 y0 : Int} (h1 : y0 = 0 ∨ y0 = 1) (h2 : ¬ y0 = 0) : ev 246 1 68 [vR 78, vU, vL x2, vU, vL x4, vU] [vI y0, vR 78] (SH T, c) = some (some (vL 0), (SH T, (up c 77 34 y0))) := by
  refine (ev_eq _ _ _ _ _ _).trans ?_
  refine (if_pos h1).trans ?_
  refine (if_neg h2).trans ?_
  rfl
theorem E_X12_reckonAll {T : List Shp} {c : Nat → Int → Int} {x1 x2 : Int}  : cal 247 [vR 78, vI x1, vI x2] (SH T, c) = ev 247 3 10 [vR 78, vU, vI x2, vI 0, vI x1, vU, vU] [] (SH T, (up c 77 34 0)) := by
  refine (ev_eq _ _ _ _ _ _).trans ?_
  rfl
theorem B_X12_reckonAll_10_1 {T : List Shp} {c : Nat → Int → Int} {x2 x3 x4 : Int} (h1 : x4 < x2) (h2 : (c 77 34) = 0) (h3 : (c 77 16) = 0) (h4 : 0 ≤ (w32 ((w32 ((c 77 30) + 98)) + (w32 (2 * x4)))) ∧ (w32 ((w32 ((c 77 30) + 98)) + (w32 (2 * x4)))) < 5780) : ev 247 3 10 [vR 78, vU, vI x2, vI x3, vI x4, vU, vU] [] (SH T, c) = ev 247 3 57 [vR 78, vU, vI x2, vI x3, vI x4, vU, vU] [vI (c 79 (w32 ((w32 ((c 77 30) + 98)) + (w32 (2 * x4)))))] (SH T, c) := by
  refine (ev_eq _ _ _ _ _ _).trans ?_
  refine (if_pos h1).trans ?_
  refine (if_pos h2).trans ?_
  refine (if_pos h3).trans ?_
  refine (ev_eq _ _ _ _ _ _).trans ?_
  refine (if_pos h4).trans ?_
  rfl
theorem B_X12_reckonAll_10_2 {T : List Shp} {c : Nat → Int → Int} {x2 x3 x4 : Int} (h1 : x4 < x2) (h2 : (c 77 34) = 0) (h3 : ¬ (c 77 16) = 0) (h4 : 0 ≤ x4 ∧ x4 < 400) : ev 247 3 10 [vR 78, vU, vI x2, vI x3, vI x4, vU, vU] [] (SH T, c) = ev 247 3 57 [vR 78, vU, vI x2, vI x3, vI x4, vU, vU] [vI (c 85 x4)] (SH T, c) := by
  refine (ev_eq _ _ _ _ _ _).trans ?_
  refine (if_pos h1).trans ?_
  refine (if_pos h2).trans ?_
  refine (if_neg h3).trans ?_
  refine (if_pos h4).trans ?_
  rfl
theorem B_X12_reckonAll_10_3 {T : List Shp} {c : Nat → Int → Int} {x2 x3 x4 : Int} (h1 : x4 < x2) (h2 : ¬ (c 77 34) = 0) : ev 247 3 10 [vR 78, vU, vI x2, vI x3, vI x4, vU, vU] [] (SH T, c) = ev 247 3 313 [vR 78, vU, vU, vI x3, vU, vU, vU] [] (SH T, c) := by
  refine (ev_eq _ _ _ _ _ _).trans ?_
  refine (if_pos h1).trans ?_
  refine (if_neg h2).trans ?_
  rfl
theorem B_X12_reckonAll_10_4 {T : List Shp} {c : Nat → Int → Int} {x2 x3 x4 : Int} (h1 : ¬ x4 < x2) : ev 247 3 10 [vR 78, vU, vI x2, vI x3, vI x4, vU, vU] [] (SH T, c) = ev 247 3 313 [vR 78, vU, vU, vI x3, vU, vU, vU] [] (SH T, c) := by
  refine (ev_eq _ _ _ _ _ _).trans ?_
  refine (if_neg h1).trans ?_
  rfl
theorem B_X12_reckonAll_57_1 {T : List Shp} {c : Nat → Int → Int} {x2 x3 x4 y0 : Int} (h1 : (c 77 16) = 0) (h2 : 0 ≤ (w32 ((w32 ((w32 ((c 77 30) + 98)) + (w32 (2 * x4)))) + 1)) ∧ (w32 ((w32 ((w32 ((c 77 30) + 98)) + (w32 (2 * x4)))) + 1)) < 5780) : ev 247 3 57 [vR 78, vU, vI x2, vI x3, vI x4, vU, vU] [vI y0] (SH T, c) = ev 247 3 95 [vR 78, vU, vI x2, vI x3, vI x4, vI y0, vU] [vI (c 79 (w32 ((w32 ((w32 ((c 77 30) + 98)) + (w32 (2 * x4)))) + 1)))] (SH T, c) := by
  refine (ev_eq _ _ _ _ _ _).trans ?_
  refine (if_pos h1).trans ?_
  refine (ev_eq _ _ _ _ _ _).trans ?_
  refine (if_pos h2).trans ?_
  rfl
theorem B_X12_reckonAll_57_2 {T : List Shp} {c : Nat → Int → Int} {x2 x3 x4 y0 : Int} (h1 : ¬ (c 77 16) = 0) (h2 : 0 ≤ x4 ∧ x4 < 400) : ev 247 3 57 [vR 78, vU, vI x2, vI x3, vI x4, vU, vU] [vI y0] (SH T, c) = ev 247 3 95 [vR 78, vU, vI x2, vI x3, vI x4, vI y0, vU] [vI (c 86 x4)] (SH T, c) := by
  refine (ev_eq _ _ _ _ _ _).trans ?_
  refine (if_neg h1).trans ?_
  refine (if_pos h2).trans ?_
  rfl
theorem B_X12_reckonAll_95_1 {T : List Shp} {c : Nat → Int → Int} {x2 x3 x4 x5 y0 : Int} (h1 : x5 < 20) (h2 : x5 = 0) (h3 : 0 ≤ x3 ∧ x3 < 400) : ev 247 3 95 [vR 78, vU, vI x2, vI x3, vI x4, vI x5, vU] [vI y0] (SH T, c) = ev 247 3 10 [vR 78, vU, vI x2, vI (w32 (x3 + 1)), vI (w32 (x4 + 1)), vU, vU] [] (SH T, (up c 94 x3 y0)) := by
  refine (ev_eq _ _ _ _ _ _).trans ?_
  refine (if_pos h1).trans ?_
  refine (if_pos h2).trans ?_
  refine (if_pos h3).trans ?_
  rfl
theorem B_X12_reckonAll_95_2 {T : List Shp} {c : Nat → Int → Int} {x2 x3 x4 x5 y0 : Int} (h1 : x5 < 20) (h2 : ¬ x5 = 0) (h3 : (c 77 16) = 0) (h4 : 0 ≤ x5 ∧ x5 < 13) (h5 : 0 ≤ x3 ∧ x3 < 400) : ev 247 3 95 [vR 78, vU, vI x2, vI x3, vI x4, vI x5, vU] [vI y0] (SH T, c) = ev 247 3 10 [vR 78, vU, vI x2, vI (w32 (x3 + 1)), vI (w32 (x4 + 1)), vU, vU] [] (SH T, (up c 94 x3 (c 92 x5))) := by
  refine (ev_eq _ _ _ _ _ _).trans ?_
  refine (if_pos h1).trans ?_
  refine (if_neg h2).trans ?_
  refine (ev_eq _ _ _ _ _ _).trans ?_
  refine (if_pos h3).trans ?_
  refine (if_pos h4).trans ?_
  refine (if_pos h5).trans ?_
  rfl
theorem B_X12_reckonAll_95_3 {T : List Shp} {c : Nat → Int → Int} {x2 x3 x4 x5 y0 : Int} {r1 : Int} {c2 : Nat → Int → Int} (h1 : x5 < 20) (h2 : ¬ x5 = 0) (h3 : ¬ (c 77 16) = 0) (h4 : x5 = 7) (h5 : cal 203 [vR 78, vI y0] (SH T, c) = some (some (vI r1), (SH T, c2))) (h6 : 0 ≤ x3 ∧ x3 < 400) : ev 247 3 95 [vR 78, vU, vI x2, vI x3, vI x4, vI x5, vU] [vI y0] (SH T, c) = ev 247 3 10 [vR 78, vU, vI x2, vI (w32 (x3 + 1)), vI (w32 (x4 + 1)), vU, vU] [] (SH T, (up c2 94 x3 r1)) := by
  refine (ev_eq _ _ _ _ _ _).trans ?_
  refine (if_pos h1).trans ?_
  refine (if_neg h2).trans ?_
  refine (ev_eq _ _ _ _ _ _).trans ?_
  refine (if_neg h3).trans ?_
  refine (ev_eq _ _ _ _ _ _).trans ?_
  refine (if_pos h4).trans ?_
  refine (el_call rfl h5).trans ?_
  refine (if_pos h6).trans ?_
  rfl
theorem B_X12_reckonAll_95_4 {T : List Shp} {c : Nat → Int → Int} {x2 x3 x4 x5 y0 : Int} (h1 : x5 < 20) (h2 : ¬ x5 = 0) (h3 : ¬ (c 77 16) = 0) (h4 : ¬ x5 = 7) (h5 : 0 ≤ x5 ∧ x5 < 13) (h6 : 0 ≤ x3 ∧ x3 < 400) : ev 247 3 95 [vR 78, vU, vI x2, vI x3, vI x4, vI x5, vU] [vI y0] (SH T, c) = ev 247 3 10 [vR 78, vU, vI x2, vI (w32 (x3 + 1)), vI (w32 (x4 + 1)), vU, vU] [] (SH T, (up c 94 x3 (c 93 x5))) := by
  refine (ev_eq _ _ _ _ _ _).trans ?_
  refine (if_pos h1).trans ?_
  refine (if_neg h2).trans ?_
  refine (ev_eq _ _ _ _ _ _).trans ?_
  refine (if_neg h3).trans ?_
  refine (ev_eq _ _ _ _ _ _).trans ?_
  refine (if_neg h4).trans ?_
  refine (ev_eq _ _ _ _ _ _).trans ?_
  refine (if_pos h5).trans ?_
  refine (if_pos h6).trans ?_
  rfl
theorem B_X12_reckonAll_95_5 {T : List Shp} {c : Nat → Int → Int} {x2 x3 x4 x5 y0 : Int} {r1 : Int} {c2 : Nat → Int → Int} {r3 : Int} {c4 : Nat → Int → Int} (h1 : ¬ x5 < 20) (h2 : x5 < 27) (h3 : 0 ≤ (w32 ((w32 (x3 + (-1))) - 1)) ∧ (w32 ((w32 (x3 + (-1))) - 1)) < 400) (h4 : 0 ≤ (w32 (x3 + (-1))) ∧ (w32 (x3 + (-1))) < 400) (h5 : cal 246 [vR 78, vI x5, vL (c 94 (w32 ((w32 (x3 + (-1))) - 1))), vL (c 94 (w32 (x3 + (-1))))] (SH T, c) = some (some (vL r1), (SH T, c2))) (h6 : 0 ≤ (w32 ((w32 (x3 + (-1))) - 1)) ∧ (w32 ((w32 (x3 + (-1))) - 1)) < 400) (h7 : (c2 77 34) = 0) (h8 : 0 ≤ (w32 ((w32 (x3 + (-1))) - 1)) ∧ (w32 ((w32 (x3 + (-1))) - 1)) < 400) (h9 : cal 186 [vL ((up c2 94 (w32 ((w32 (x3 + (-1))) - 1)) r1) 94 (w32 ((w32 (x3 + (-1))) - 1))), vL (-1000000000), vL 1000000000] (SH T, (up c2 94 (w32 ((w32 (x3 + (-1))) - 1)) r1)) = some (some (vI r3), (SH T, c4))) (h10 : r3 = 0) : ev 247 3 95 [vR 78, vU, vI x2, vI x3, vI x4, vI x5, vU] [vI y0] (SH T, c) = ev 247 3 237 [vR 78, vU, vI x2, vI (w32 (x3 + (-1))), vI (w32 (x4 + 1)), vU, vU] [vR 78] (SH T, c4) := by
  refine (ev_eq _ _ _ _ _ _).trans ?_
  refine (if_neg h1).trans ?_
  refine (ev_eq _ _ _ _ _ _).trans ?_
  refine (if_pos h2).trans ?_
  refine (if_pos h3).trans ?_
  refine (if_pos h4).trans ?_
  refine (el_call rfl h5).trans ?_
  refine (if_pos h6).trans ?_
  refine (if_pos h7).trans ?_
  refine (if_pos h8).trans ?_
  refine (el_call rfl h9).trans ?_
  refine (if_pos h10).trans ?_
  rfl
theorem B_X12_reckonAll_95_6 {T : List Shp} {c : Nat → Int → Int} {x2 x3 x4 x5 y0 : Int} {r1 : Int} {c2 : Nat → Int → Int} {r3 : Int} {c4 : Nat → Int → Int} (h1 : ¬ x5 < 20) (h2 : x5 < 27) (h3 : 0 ≤ (w32 ((w32 (x3 + (-1))) - 1)) ∧ (w32 ((w32 (x3 + (-1))) - 1)) < 400) (h4 : 0 ≤ (w32 (x3 + (-1))) ∧ (w32 (x3 + (-1))) < 400) (h5 : cal 246 [vR 78, vI x5, vL (c 94 (w32 ((w32 (x3 + (-1))) - 1))), vL (c 94 (w32 (x3 + (-1))))] (SH T, c) = some (some (vL r1), (SH T, c2))) (h6 : 0 ≤ (w32 ((w32 (x3 + (-1))) - 1)) ∧ (w32 ((w32 (x3 + (-1))) - 1)) < 400) (h7 : (c2 77 34) = 0) (h8 : 0 ≤ (w32 ((w32 (x3 + (-1))) - 1)) ∧ (w32 ((w32 (x3 + (-1))) - 1)) < 400) (h9 : cal 186 [vL ((up c2 94 (w32 ((w32 (x3 + (-1))) - 1)) r1) 94 (w32 ((w32 (x3 + (-1))) - 1))), vL (-1000000000), vL 1000000000] (SH T, (up c2 94 (w32 ((w32 (x3 + (-1))) - 1)) r1)) = some (some (vI r3), (SH T, c4))) (h10 : ¬ r3 = 0) : ev 247 3 95 [vR 78, vU, vI x2, vI x3, vI x4, vI x5, vU] [vI y0] (SH T, c) = ev 247 3 10 [vR 78, vU, vI x2, vI (w32 (x3 + (-1))), vI (w32 (x4 + 1)), vU, vU] [] (SH T, (up c4 77 34 0)) := by
  refine (ev_eq _ _ _ _ _ _).trans ?_
  refine (if_neg h1).trans ?_
  refine (ev_eq _ _ _ _ _ _).trans ?_
  refine (if_pos h2).trans ?_
  refine (if_pos h3).trans ?_
  refine (if_pos h4).trans ?_
  refine (el_call rfl h5).trans ?_
  refine (if_pos h6).trans ?_
  refine (if_pos h7).trans ?_
  refine (if_pos h8).trans ?_
  refine (el_call rfl h9).trans ?_
  refine (if_neg h10).trans ?_
  refine (ev_eq _ _ _ _ _ _).trans ?_
  rfl
theorem B_X12_reckonAll_95_7 {T : List Shp} {c : Nat → Int → Int} {x2 x3 x4 x5 y0 : Int} {r1 : Int} {c2 : Nat → Int → Int} (h1 : ¬ x5 < 20) (h2 : x5 < 27) (h3 : 0 ≤ (w32 ((w32 (x3 + (-1))) - 1)) ∧ (w32 ((w32 (x3 + (-1))) - 1)) < 400) (h4 : 0 ≤ (w32 (x3 + (-1))) ∧ (w32 (x3 + (-1))) < 400) (h5 : cal 246 [vR 78, vI x5, vL (c 94 (w32 ((w32 (x3 + (-1))) - 1))), vL (c 94 (w32 (x3 + (-1))))] (SH T, c) = some (some (vL r1), (SH T, c2))) (h6 : 0 ≤ (w32 ((w32 (x3 + (-1))) - 1)) ∧ (w32 ((w32 (x3 + (-1))) - 1)) < 400) (h7 : ¬ (c2 77 34) = 0) : ev 247 3 95 [vR 78, vU, vI x2, vI x3, vI x4, vI x5, vU] [vI y0] (SH T, c) = ev 247 3 237 [vR 78, vU, vI x2, vI (w32 (x3 + (-1))), vI (w32 (x4 + 1)), vU, vU] [vR 78] (SH T, (up c2 94 (w32 ((w32 (x3 + (-1))) - 1)) r1)) := by
  refine (ev_eq _ _ _ _ _ _).trans ?_
  refine (if_neg h1).trans ?_
  refine (ev_eq _ _ _ _ _ _).trans ?_
  refine (if_pos h2).trans ?_
  refine (if_pos h3).trans ?_
  refine (if_pos h4).trans ?_
  refine (el_call rfl h5).trans ?_
  refine (if_pos h6).trans ?_
  refine (if_neg h7).trans ?_
  rfl
theorem B_X12_reckonAll_95_8 {T : List Shp} {c : Nat → Int → Int} {x2 x3 x4 x5 y0 : Int} (h1 : ¬ x5 < 20) (h2 : ¬ x5 < 27) (h3 : x5 = 27) (h4 : 0 ≤ (w32 (x3 - 1)) ∧ (w32 (x3 - 1)) < 400) (h5 : 0 ≤ (w32 (x3 - 1)) ∧ (w32 (x3 - 1)) < 400) : ev 247 3 95 [vR 78, vU, vI x2, vI x3, vI x4, vI x5, vU] [vI y0] (SH T, c) = ev 247 3 10 [vR 78, vU, vI x2, vI x3, vI (w32 (x4 + 1)), vU, vU] [] (SH T, (up c 94 (w32 (x3 - 1)) (w64 (1 - (c 94 (w32 (x3 - 1))))))) := by
  refine (ev_eq _ _ _ _ _ _).trans ?_
  refine (if_neg h1).trans ?_
  refine (ev_eq _ _ _ _ _ _).trans ?_
  refine (if_neg h2).trans ?_
  refine (ev_eq _ _ _ _ _ _).trans ?_
  refine (if_pos h3).trans ?_
  refine (if_pos h4).trans ?_
  refine (if_pos h5).trans ?_
  rfl
theorem B_X12_reckonAll_95_9 {T : List Shp} {c : Nat → Int → Int} {x2 x3 x4 x5 y0 : Int} (h1 : ¬ x5 < 20) (h2 : ¬ x5 < 27) (h3 : ¬ x5 = 27) (h4 : 0 ≤ (w32 (x3 - 1)) ∧ (w32 (x3 - 1)) < 400) (h5 : x5 = 28) : ev 247 3 95 [vR 78, vU, vI x2, vI x3, vI x4, vI x5, vU] [vI y0] (SH T, c) = ev 247 3 296 [vR 78, vU, vI x2, vI x3, vI (w32 (x4 + 1)), vU, vI y0] [vL 0, vL (c 94 (w32 (x3 - 1)))] (SH T, c) := by
  refine (ev_eq _ _ _ _ _ _).trans ?_
  refine (if_neg h1).trans ?_
  refine (ev_eq _ _ _ _ _ _).trans ?_
  refine (if_neg h2).trans ?_
  refine (ev_eq _ _ _ _ _ _).trans ?_
  refine (if_neg h3).trans ?_
  refine (ev_eq _ _ _ _ _ _).trans ?_
  refine (if_pos h4).trans ?_
  refine (if_pos h5).trans ?_
  rfl
theorem B_X12_reckonAll_95_10 {T : List Shp} {c : Nat → Int → Int} {x2 x3 x4 x5 y0 : Int} (h1 : ¬ x5 < 20) (h2 : ¬ x5 < 27) (h3 : ¬ x5 = 27) (h4 : 0 ≤ (w32 (x3 - 1)) ∧ (w32 (x3 - 1)) < 400) (h5 : ¬ x5 = 28) : ev 247 3 95 [vR 78, vU, vI x2, vI x3, vI x4, vI x5, vU] [vI y0] (SH T, c) = ev 247 3 296 [vR 78, vU, vI x2, vI x3, vI (w32 (x4 + 1)), vU, vI y0] [vL 1, vL (c 94 (w32 (x3 - 1)))] (SH T, c) := by
  refine (ev_eq _ _ _ _ _ _).trans ?_
  refine (if_neg h1).trans ?_
  refine (ev_eq _ _ _ _ _ _).trans ?_
  refine (if_neg h2).trans ?_
  refine (ev_eq _ _ _ _ _ _).trans ?_
  refine (if_neg h3).trans ?_
  refine (ev_eq _ _ _ _ _ _).trans ?_
  refine (if_pos h4).trans ?_
  refine (if_neg h5).trans ?_
  refine (ev_eq _ _ _ _ _ _).trans ?_
  rfl
theorem B_X12_reckonAll_237 {T : List Shp} {c : Nat → Int → Int} {x2 x3 x4 : Int}  : ev 247 3 237 [vR 78, vU, vI x2, vI x3, vI x4, vU, vU] [vR 78] (SH T, c) = ev 247 3 10 [vR 78, vU, vI x2, vI x3, vI x4, vU, vU] [] (SH T, (up c 77 34 1)) := by
  refine (ev_eq _ _ _ _ _ _).trans ?_
  rfl
theorem B_X12_reckonAll_296_1 {T : List Shp} {c : Nat → Int → Int} {x2 x3 x4 x6 y0 y1 : Int} (h1 : y1 < y0) : ev 247 3 296 [vR 78, vU, vI x2, vI x3, vI x4, vU, vI x6] [vL y0, vL y1] (SH T, c) = ev 247 3 10 [vR 78, vU, vI x2, vI (w32 (x3 + (-1))), vI x4, vU, vU] [] (SH T, c) := by
  refine (ev_eq _ _ _ _ _ _).trans ?_
  refine (if_pos h1).trans ?_
  refine (ev_eq _ _ _ _ _ _).trans ?_
  rfl
theorem B_X12_reckonAll_296_2 {T : List Shp} {c : Nat → Int → Int} {x2 x3 x4 x6 y0 y1 : Int} (h1 : y1 = y0) : ev 247 3 296 [vR 78, vU, vI x2, vI x3, vI x4, vU, vI x6] [vL y0, vL y1] (SH T, c) = ev 247 3 10 [vR 78, vU, vI x2, vI x3, vI x6, vU, vU] [] (SH T, c) := by
  refine (ev_eq _ _ _ _ _ _).trans ?_
  refine (if_neg (by omega)).trans ?_
  refine (if_pos h1).trans ?_
  rfl
theorem B_X12_reckonAll_296_3 {T : List Shp} {c : Nat → Int → Int} {x2 x3 x4 x6 y0 y1 : Int} (h1 : ¬ y1 < y0 ∧ ¬ y1 = y0) : ev 247 3 296 [vR 78, vU, vI x2, vI x3, vI x4, vU, vI x6] [vL y0, vL y1] (SH T, c) = ev 247 3 10 [vR 78, vU, vI x2, vI (w32 (x3 + (-1))), vI x4, vU, vU] [] (SH T, c) := by
  refine (ev_eq _ _ _ _ _ _).trans ?_
  refine (if_neg h1.1).trans ?_
  refine (if_neg h1.2).trans ?_
  refine (ev_eq _ _ _ _ _ _).trans ?_
  rfl
theorem B_X12_reckonAll_313_1 {T : List Shp} {c : Nat → Int → Int} {x3 : Int} (h1 : 0 < x3) : ev 247 3 313 [vR 78, vU, vU, vI x3, vU, vU, vU] [] (SH T, c) = some (none, (SH T, (up c 77 35 (c 94 0)))) := by
  refine (ev_eq _ _ _ _ _ _).trans ?_
  refine (if_pos h1).trans ?_
  rfl
theorem B_X12_reckonAll_313_2 {T : List Shp} {c : Nat → Int → Int} {x3 : Int} (h1 : ¬ 0 < x3) : ev 247 3 313 [vR 78, vU, vU, vI x3, vU, vU, vU] [] (SH T, c) = some (none, (SH T, (up c 77 35 0))) := by
  refine (ev_eq _ _ _ _ _ _).trans ?_
  refine (if_neg h1).trans ?_
  refine (ev_eq _ _ _ _ _ _).trans ?_
  rfl
theorem E_X12_isSo_1 {T : List Shp} {c : Nat → Int → Int} {x1 : Int} {c1 : Nat → Int → Int} (h1 : 0 ≤ (w32 (x1 + 5)) ∧ (w32 (x1 + 5)) < 5780) (h2 : 0 ≤ (w32 (x1 + 6)) ∧ (w32 (x1 + 6)) < 5780) (h3 : (c 79 (w32 (x1 + 5))) < (c 79 (w32 (x1 + 6)))) (h4 : 0 ≤ (w32 (x1 + 5)) ∧ (w32 (x1 + 5)) < 5780) (h5 : 0 ≤ (w32 (x1 + 6)) ∧ (w32 (x1 + 6)) < 5780) (h6 : cal 247 [vR 78, vI (c 79 (w32 (x1 + 5))), vI (c 79 (w32 (x1 + 6)))] (SH T, c) = some (none, (SH T, c1))) (h7 : (c1 77 34) = 0) (h8 : (c1 77 35) < 0) : cal 248 [vR 78, vI x1] (SH T, c) = ev 248 4 59 [vR 78, vI x1] [] (SH T, c1) := by
  refine (ev_eq _ _ _ _ _ _).trans ?_
  refine (if_pos h1).trans ?_
  refine (if_pos h2).trans ?_
  refine (if_pos h3).trans ?_
  refine (if_pos h4).trans ?_
  refine (if_pos h5).trans ?_
  refine (el_call rfl h6).trans ?_
  refine (if_pos h7).trans ?_
  refine (if_pos h8).trans ?_
  rfl
theorem E_X12_isSo_2 {T : List Shp} {c : Nat → Int → Int} {x1 : Int} {c1 : Nat → Int → Int} (h1 : 0 ≤ (w32 (x1 + 5)) ∧ (w32 (x1 + 5)) < 5780) (h2 : 0 ≤ (w32 (x1 + 6)) ∧ (w32 (x1 + 6)) < 5780) (h3 : (c 79 (w32 (x1 + 5))) < (c 79 (w32 (x1 + 6)))) (h4 : 0 ≤ (w32 (x1 + 5)) ∧ (w32 (x1 + 5)) < 5780) (h5 : 0 ≤ (w32 (x1 + 6)) ∧ (w32 (x1 + 6)) < 5780) (h6 : cal 247 [vR 78, vI (c 79 (w32 (x1 + 5))), vI (c 79 (w32 (x1 + 6)))] (SH T, c) = some (none, (SH T, c1))) (h7 : (c1 77 34) = 0) (h8 : (c1 77 35) = 0) : cal 248 [vR 78, vI x1] (SH T, c) = some (some (vI 0), (SH T, c1)) := by
  refine (ev_eq _ _ _ _ _ _).trans ?_
  refine (if_pos h1).trans ?_
  refine (if_pos h2).trans ?_
  refine (if_pos h3).trans ?_
  refine (if_pos h4).trans ?_
  refine (if_pos h5).trans ?_
  refine (el_call rfl h6).trans ?_
  refine (if_pos h7).trans ?_
  refine (if_neg (by omega)).trans ?_
  refine (if_pos h8).trans ?_
  refine (ev_eq _ _ _ _ _ _).trans ?_
  rfl
theorem E_X12_isSo_3 {T : List Shp} {c : Nat → Int → Int} {x1 : Int} {c1 : Nat → Int → Int} (h1 : 0 ≤ (w32 (x1 + 5)) ∧ (w32 (x1 + 5)) < 5780) (h2 : 0 ≤ (w32 (x1 + 6)) ∧ (w32 (x1 + 6)) < 5780) (h3 : (c 79 (w32 (x1 + 5))) < (c 79 (w32 (x1 + 6)))) (h4 : 0 ≤ (w32 (x1 + 5)) ∧ (w32 (x1 + 5)) < 5780) (h5 : 0 ≤ (w32 (x1 + 6)) ∧ (w32 (x1 + 6)) < 5780) (h6 : cal 247 [vR 78, vI (c 79 (w32 (x1 + 5))), vI (c 79 (w32 (x1 + 6)))] (SH T, c) = some (none, (SH T, c1))) (h7 : (c1 77 34) = 0) (h8 : ¬ (c1 77 35) < 0 ∧ ¬ (c1 77 35) = 0) : cal 248 [vR 78, vI x1] (SH T, c) = ev 248 4 59 [vR 78, vI x1] [] (SH T, c1) := by
  refine (ev_eq _ _ _ _ _ _).trans ?_
  refine (if_pos h1).trans ?_
  refine (if_pos h2).trans ?_
  refine (if_pos h3).trans ?_
  refine (if_pos h4).trans ?_
  refine (if_pos h5).trans ?_
  refine (el_call rfl h6).trans ?_
  refine (if_pos h7).trans ?_
  refine (if_neg h8.1).trans ?_
  refine (if_neg h8.2).trans ?_
  rfl
theorem E_X12_isSo_4 {T : List Shp} {c : Nat → Int → Int} {x1 : Int} {c1 : Nat → Int → Int} (h1 : 0 ≤ (w32 (x1 + 5)) ∧ (w32 (x1 + 5)) < 5780) (h2 : 0 ≤ (w32 (x1 + 6)) ∧ (w32 (x1 + 6)) < 5780) (h3 : (c 79 (w32 (x1 + 5))) < (c 79 (w32 (x1 + 6)))) (h4 : 0 ≤ (w32 (x1 + 5)) ∧ (w32 (x1 + 5)) < 5780) (h5 : 0 ≤ (w32 (x1 + 6)) ∧ (w32 (x1 + 6)) < 5780) (h6 : cal 247 [vR 78, vI (c 79 (w32 (x1 + 5))), vI (c 79 (w32 (x1 + 6)))] (SH T, c) = some (none, (SH T, c1))) (h7 : ¬ (c1 77 34) = 0) : cal 248 [vR 78, vI x1] (SH T, c) = some (some (vI 0), (SH T, c1)) := by
  refine (ev_eq _ _ _ _ _ _).trans ?_
  refine (if_pos h1).trans ?_
  refine (if_pos h2).trans ?_
  refine (if_pos h3).trans ?_
  refine (if_pos h4).trans ?_
  refine (if_pos h5).trans ?_
  refine (el_call rfl h6).trans ?_
  refine (if_neg h7).trans ?_
  refine (ev_eq _ _ _ _ _ _).trans ?_
  rfl
theorem E_X12_isSo_5 {T : List Shp} {c : Nat → Int → Int} {x1 : Int} (h1 : 0 ≤ (w32 (x1 + 5)) ∧ (w32 (x1 + 5)) < 5780) (h2 : 0 ≤ (w32 (x1 + 6)) ∧ (w32 (x1 + 6)) < 5780) (h3 : ¬ (c 79 (w32 (x1 + 5))) < (c 79 (w32 (x1 + 6)))) : cal 248 [vR 78, vI x1] (SH T, c) = ev 248 4 59 [vR 78, vI x1] [] (SH T, c) := by
  refine (ev_eq _ _ _ _ _ _).trans ?_
  refine (if_pos h1).trans ?_
  refine (if_pos h2).trans ?_
  refine (if_neg h3).trans ?_
  rfl
theorem B_X12_isSo_59_1 {T : List Shp} {c : Nat → Int → Int} {x1 : Int} (h1 : 0 ≤ x1 ∧ x1 < 5780) (h2 : (c 79 x1) = 4) : ev 248 4 59 [vR 78, vI x1] [] (SH T, c) = some (some (vI 1), (SH T, c)) := by
  refine (ev_eq _ _ _ _ _ _).trans ?_
  refine (if_pos h1).trans ?_
  refine (if_pos h2).trans ?_
  refine (ev_eq _ _ _ _ _ _).trans ?_
  rfl
theorem B_X12_isSo_59_2 {T : List Shp} {c : Nat → Int → Int} {x1 : Int} {c1 : Nat → Int → Int} (h1 : 0 ≤ x1 ∧ x1 < 5780) (h2 : ¬ (c 79 x1) = 4) (h3 : 0 ≤ (w32 (x1 + 3)) ∧ (w32 (x1 + 3)) < 5780) (h4 : 0 ≤ (w32 (x1 + 4)) ∧ (w32 (x1 + 4)) < 5780) (h5 : cal 247 [vR 78, vI (c 79 (w32 (x1 + 3))), vI (c 79 (w32 (x1 + 4)))] (SH T, c) = some (none, (SH T, c1))) (h6 : (c1 77 34) = 0) : ev 248 4 59 [vR 78, vI x1] [] (SH T, c) = some (some (vI 1), (SH T, (up c1 77 36 (c1 77 35)))) := by
  refine (ev_eq _ _ _ _ _ _).trans ?_
  refine (if_pos h1).trans ?_
  refine (if_neg h2).trans ?_
  refine (if_pos h3).trans ?_
  refine (if_pos h4).trans ?_
  refine (el_call rfl h5).trans ?_
  refine (if_pos h6).trans ?_
  rfl
theorem B_X12_isSo_59_3 {T : List Shp} {c : Nat → Int → Int} {x1 : Int} {c1 : Nat → Int → Int} (h1 : 0 ≤ x1 ∧ x1 < 5780) (h2 : ¬ (c 79 x1) = 4) (h3 : 0 ≤ (w32 (x1 + 3)) ∧ (w32 (x1 + 3)) < 5780) (h4 : 0 ≤ (w32 (x1 + 4)) ∧ (w32 (x1 + 4)) < 5780) (h5 : cal 247 [vR 78, vI (c 79 (w32 (x1 + 3))), vI (c 79 (w32 (x1 + 4)))] (SH T, c) = some (none, (SH T, c1))) (h6 : ¬ (c1 77 34) = 0) : ev 248 4 59 [vR 78, vI x1] [] (SH T, c) = some (some (vI 0), (SH T, (up c1 77 36 (c1 77 35)))) := by
  refine (ev_eq _ _ _ _ _ _).trans ?_
  refine (if_pos h1).trans ?_
  refine (if_neg h2).trans ?_
  refine (if_pos h3).trans ?_
  refine (if_pos h4).trans ?_
  refine (el_call rfl h5).trans ?_
  refine (if_neg h6).trans ?_
  refine (ev_eq _ _ _ _ _ _).trans ?_
  rfl
theorem E_X12_tells_1 {T : List Shp} {c : Nat → Int → Int} {x1 x2 : Int} (h1 : (c 79 2) = (-1)) : cal 249 [vR 78, vI x1, vL x2] (SH T, c) = some (some (vL x2), (SH T, c)) := by
  refine (ev_eq _ _ _ _ _ _).trans ?_
  refine (if_pos h1).trans ?_
  rfl
theorem E_X12_tells_2 {T : List Shp} {c : Nat → Int → Int} {x1 x2 : Int} (h1 : ¬ (c 79 2) = (-1)) : cal 249 [vR 78, vI x1, vL x2] (SH T, c) = ev 249 5 36 [vR 78, vI x1, vU, vU, vL x2, vU, vI 0, vU] [] (SH T, (up c 77 30 (w32 (380 + (w32 (900 * (c 79 2))))))) := by
  refine (ev_eq _ _ _ _ _ _).trans ?_
  refine (if_neg h1).trans ?_
  refine (ev_eq _ _ _ _ _ _).trans ?_
  rfl
theorem B_X12_tells_36_1 {T : List Shp} {c : Nat → Int → Int} {x1 x4 x6 : Int} {r1 : Int} {c2 : Nat → Int → Int} (h1 : 0 ≤ (w32 ((c 77 30) + 1)) ∧ (w32 ((c 77 30) + 1)) < 5780) (h2 : x6 < (c 79 (w32 ((c 77 30) + 1)))) (h3 : 0 ≤ (w32 ((w32 ((c 77 30) + 2)) + (w32 (8 * x6)))) ∧ (w32 ((w32 ((c 77 30) + 2)) + (w32 (8 * x6)))) < 5780) (h4 : (c 79 (w32 ((w32 ((c 77 30) + 2)) + (w32 (8 * x6))))) = x1) (h5 : cal 248 [vR 78, vI (w32 ((w32 ((c 77 30) + 2)) + (w32 (8 * x6))))] (SH T, c) = some (some (vI r1), (SH T, c2))) (h6 : r1 = 0) : ev 249 5 36 [vR 78, vI x1, vU, vU, vL x4, vU, vI x6, vU] [] (SH T, c) = ev 249 5 101 [vR 78, vI x1, vU, vU, vL x4, vU, vI x6, vU] [] (SH T, c2) := by
  refine (ev_eq _ _ _ _ _ _).trans ?_
  refine (if_pos h1).trans ?_
  refine (if_pos h2).trans ?_
  refine (if_pos h3).trans ?_
  refine (if_pos h4).trans ?_
  refine (el_call rfl h5).trans ?_
  refine (if_pos h6).trans ?_
  rfl
theorem B_X12_tells_36_2 {T : List Shp} {c : Nat → Int → Int} {x1 x4 x6 : Int} {r1 : Int} {c2 : Nat → Int → Int} (h1 : 0 ≤ (w32 ((c 77 30) + 1)) ∧ (w32 ((c 77 30) + 1)) < 5780) (h2 : x6 < (c 79 (w32 ((c 77 30) + 1)))) (h3 : 0 ≤ (w32 ((w32 ((c 77 30) + 2)) + (w32 (8 * x6)))) ∧ (w32 ((w32 ((c 77 30) + 2)) + (w32 (8 * x6)))) < 5780) (h4 : (c 79 (w32 ((w32 ((c 77 30) + 2)) + (w32 (8 * x6))))) = x1) (h5 : cal 248 [vR 78, vI (w32 ((w32 ((c 77 30) + 2)) + (w32 (8 * x6))))] (SH T, c) = some (some (vI r1), (SH T, c2))) (h6 : ¬ r1 = 0) (h7 : x1 = 4) : ev 249 5 36 [vR 78, vI x1, vU, vU, vL x4, vU, vI x6, vU] [] (SH T, c) = ev 249 5 101 [vR 78, vI x1, vU, vU, vL 1, vU, vI x6, vU] [] (SH T, c2) := by
  refine (ev_eq _ _ _ _ _ _).trans ?_
  refine (if_pos h1).trans ?_
  refine (if_pos h2).trans ?_
  refine (if_pos h3).trans ?_
  refine (if_pos h4).trans ?_
  refine (el_call rfl h5).trans ?_
  refine (if_neg h6).trans ?_
  refine (if_pos h7).trans ?_
  rfl
theorem B_X12_tells_36_3 {T : List Shp} {c : Nat → Int → Int} {x1 x4 x6 : Int} {r1 : Int} {c2 : Nat → Int → Int} (h1 : 0 ≤ (w32 ((c 77 30) + 1)) ∧ (w32 ((c 77 30) + 1)) < 5780) (h2 : x6 < (c 79 (w32 ((c 77 30) + 1)))) (h3 : 0 ≤ (w32 ((w32 ((c 77 30) + 2)) + (w32 (8 * x6)))) ∧ (w32 ((w32 ((c 77 30) + 2)) + (w32 (8 * x6)))) < 5780) (h4 : (c 79 (w32 ((w32 ((c 77 30) + 2)) + (w32 (8 * x6))))) = x1) (h5 : cal 248 [vR 78, vI (w32 ((w32 ((c 77 30) + 2)) + (w32 (8 * x6))))] (SH T, c) = some (some (vI r1), (SH T, c2))) (h6 : ¬ r1 = 0) (h7 : ¬ x1 = 4) : ev 249 5 36 [vR 78, vI x1, vU, vU, vL x4, vU, vI x6, vU] [] (SH T, c) = ev 249 5 101 [vR 78, vI x1, vU, vU, vL (c2 77 36), vU, vI x6, vU] [] (SH T, c2) := by
  refine (ev_eq _ _ _ _ _ _).trans ?_
  refine (if_pos h1).trans ?_
  refine (if_pos h2).trans ?_
  refine (if_pos h3).trans ?_
  refine (if_pos h4).trans ?_
  refine (el_call rfl h5).trans ?_
  refine (if_neg h6).trans ?_
  refine (if_neg h7).trans ?_
  refine (ev_eq _ _ _ _ _ _).trans ?_
  rfl
theorem B_X12_tells_36_4 {T : List Shp} {c : Nat → Int → Int} {x1 x4 x6 : Int} (h1 : 0 ≤ (w32 ((c 77 30) + 1)) ∧ (w32 ((c 77 30) + 1)) < 5780) (h2 : x6 < (c 79 (w32 ((c 77 30) + 1)))) (h3 : 0 ≤ (w32 ((w32 ((c 77 30) + 2)) + (w32 (8 * x6)))) ∧ (w32 ((w32 ((c 77 30) + 2)) + (w32 (8 * x6)))) < 5780) (h4 : ¬ (c 79 (w32 ((w32 ((c 77 30) + 2)) + (w32 (8 * x6))))) = x1) : ev 249 5 36 [vR 78, vI x1, vU, vU, vL x4, vU, vI x6, vU] [] (SH T, c) = ev 249 5 101 [vR 78, vI x1, vU, vU, vL x4, vU, vI x6, vU] [] (SH T, c) := by
  refine (ev_eq _ _ _ _ _ _).trans ?_
  refine (if_pos h1).trans ?_
  refine (if_pos h2).trans ?_
  refine (if_pos h3).trans ?_
  refine (if_neg h4).trans ?_
  rfl
theorem B_X12_tells_36_5 {T : List Shp} {c : Nat → Int → Int} {x1 x4 x6 : Int} (h1 : 0 ≤ (w32 ((c 77 30) + 1)) ∧ (w32 ((c 77 30) + 1)) < 5780) (h2 : ¬ x6 < (c 79 (w32 ((c 77 30) + 1)))) : ev 249 5 36 [vR 78, vI x1, vU, vU, vL x4, vU, vI x6, vU] [] (SH T, c) = some (some (vL x4), (SH T, c)) := by
  refine (ev_eq _ _ _ _ _ _).trans ?_
  refine (if_pos h1).trans ?_
  refine (if_neg h2).trans ?_
  refine (ev_eq _ _ _ _ _ _).trans ?_
  rfl
theorem B_X12_tells_101 {T : List Shp} {c : Nat → Int → Int} {x1 x4 x6 : Int}  : ev 249 5 101 [vR 78, vI x1, vU, vU, vL x4, vU, vI x6, vU] [] (SH T, c) = ev 249 5 36 [vR 78, vI x1, vU, vU, vL x4, vU, vI (w32 (x6 + 1)), vU] [] (SH T, c) := by
  refine (ev_eq _ _ _ _ _ _).trans ?_
  rfl
theorem E_X12_setNone {T : List Shp} {c : Nat → Int → Int} {x1 : Int}  : cal 250 [vR 78, vI x1] (SH T, c) = ev 250 1 2 [vR 78, vI x1, vI 0] [] (SH T, c) := by
  refine (ev_eq _ _ _ _ _ _).trans ?_
  rfl
theorem B_X12_setNone_2_1 {T : List Shp} {c : Nat → Int → Int} {x1 x2 : Int} (h1 : x2 < 13) (h2 : 0 ≤ x2 ∧ x2 < 13) : ev 250 1 2 [vR 78, vI x1, vI x2] [] (SH T, c) = ev 250 1 2 [vR 78, vI x1, vI (w32 (x2 + 1))] [] (SH T, (up c 92 x2 (-1))) := by
  refine (ev_eq _ _ _ _ _ _).trans ?_
  refine (if_pos h1).trans ?_
  refine (if_pos h2).trans ?_
  rfl
theorem B_X12_setNone_2_2 {T : List Shp} {c : Nat → Int → Int} {x1 x2 : Int} (h1 : ¬ x2 < 13) : ev 250 1 2 [vR 78, vI x1, vI x2] [] (SH T, c) = some (none, (SH T, (up (up c 92 3 x1) 92 6 (c 79 9)))) := by
  refine (ev_eq _ _ _ _ _ _).trans ?_
  refine (if_neg h1).trans ?_
  refine (ev_eq _ _ _ _ _ _).trans ?_
  rfl
theorem E_X12_ageIn {T : List Shp} {c : Nat → Int → Int} {x1 : Int} {r1 : Int} {c2 : Nat → Int → Int} (h1 : cal 189 [vL (w32 ((c 79 7) + (w32 ((w32 ((c 79 8) - 2)) * x1)))), vI 0, vI 199] (SH T, c) = some (some (vI r1), (SH T, c2))) : cal 251 [vR 78, vI x1] (SH T, c) = some (some (vI r1), (SH T, c2)) := by
  refine (ev_eq _ _ _ _ _ _).trans ?_
  refine (el_call rfl h1).trans ?_
  rfl
theorem E_X12_looksOf {T : List Shp} {c : Nat → Int → Int} {x1 x2 : Int}  : cal 252 [vR 78, vI x1, vI x2] (SH T, c) = ev 252 6 8 [vR 78, vI x1, vI x2, vI (-1), vI (-1), vI 0, vU] [] (SH T, c) := by
  refine (ev_eq _ _ _ _ _ _).trans ?_
  rfl
theorem B_X12_looksOf_8_1 {T : List Shp} {c : Nat → Int → Int} {x1 x2 x3 x4 x5 : Int} (h1 : x5 < (c 79 3)) (h2 : 0 ≤ (w32 (258 + (w32 (3 * x5)))) ∧ (w32 (258 + (w32 (3 * x5)))) < 5780) (h3 : (c 79 (w32 (258 + (w32 (3 * x5))))) = x1) (h4 : 0 ≤ (w32 ((w32 (258 + (w32 (3 * x5)))) + 1)) ∧ (w32 ((w32 (258 + (w32 (3 * x5)))) + 1)) < 5780) (h5 : x2 < (c 79 (w32 ((w32 (258 + (w32 (3 * x5)))) + 1)))) : ev 252 6 8 [vR 78, vI x1, vI x2, vI x3, vI x4, vI x5, vU] [] (SH T, c) = ev 252 6 88 [vR 78, vI x1, vI x2, vI x3, vI x4, vI x5, vU] [] (SH T, c) := by
  refine (ev_eq _ _ _ _ _ _).trans ?_
  refine (if_pos h1).trans ?_
  refine (if_pos h2).trans ?_
  refine (if_pos h3).trans ?_
  refine (if_pos h4).trans ?_
  refine (if_pos h5).trans ?_
  rfl
theorem B_X12_looksOf_8_2 {T : List Shp} {c : Nat → Int → Int} {x1 x2 x3 x4 x5 : Int} (h1 : x5 < (c 79 3)) (h2 : 0 ≤ (w32 (258 + (w32 (3 * x5)))) ∧ (w32 (258 + (w32 (3 * x5)))) < 5780) (h3 : (c 79 (w32 (258 + (w32 (3 * x5))))) = x1) (h4 : 0 ≤ (w32 ((w32 (258 + (w32 (3 * x5)))) + 1)) ∧ (w32 ((w32 (258 + (w32 (3 * x5)))) + 1)) < 5780) (h5 : ¬ x2 < (c 79 (w32 ((w32 (258 + (w32 (3 * x5)))) + 1)))) (h6 : 0 ≤ (w32 ((w32 (258 + (w32 (3 * x5)))) + 1)) ∧ (w32 ((w32 (258 + (w32 (3 * x5)))) + 1)) < 5780) (h7 : (c 79 (w32 ((w32 (258 + (w32 (3 * x5)))) + 1))) < x4) : ev 252 6 8 [vR 78, vI x1, vI x2, vI x3, vI x4, vI x5, vU] [] (SH T, c) = ev 252 6 88 [vR 78, vI x1, vI x2, vI x3, vI x4, vI x5, vU] [] (SH T, c) := by
  refine (ev_eq _ _ _ _ _ _).trans ?_
  refine (if_pos h1).trans ?_
  refine (if_pos h2).trans ?_
  refine (if_pos h3).trans ?_
  refine (if_pos h4).trans ?_
  refine (if_neg h5).trans ?_
  refine (if_pos h6).trans ?_
  refine (if_pos h7).trans ?_
  rfl
theorem B_X12_looksOf_8_3 {T : List Shp} {c : Nat → Int → Int} {x1 x2 x3 x4 x5 : Int} (h1 : x5 < (c 79 3)) (h2 : 0 ≤ (w32 (258 + (w32 (3 * x5)))) ∧ (w32 (258 + (w32 (3 * x5)))) < 5780) (h3 : (c 79 (w32 (258 + (w32 (3 * x5))))) = x1) (h4 : 0 ≤ (w32 ((w32 (258 + (w32 (3 * x5)))) + 1)) ∧ (w32 ((w32 (258 + (w32 (3 * x5)))) + 1)) < 5780) (h5 : ¬ x2 < (c 79 (w32 ((w32 (258 + (w32 (3 * x5)))) + 1)))) (h6 : 0 ≤ (w32 ((w32 (258 + (w32 (3 * x5)))) + 1)) ∧ (w32 ((w32 (258 + (w32 (3 * x5)))) + 1)) < 5780) (h7 : ¬ (c 79 (w32 ((w32 (258 + (w32 (3 * x5)))) + 1))) < x4) (h8 : 0 ≤ (w32 ((w32 (258 + (w32 (3 * x5)))) + 1)) ∧ (w32 ((w32 (258 + (w32 (3 * x5)))) + 1)) < 5780) (h9 : 0 ≤ (w32 ((w32 (258 + (w32 (3 * x5)))) + 2)) ∧ (w32 ((w32 (258 + (w32 (3 * x5)))) + 2)) < 5780) : ev 252 6 8 [vR 78, vI x1, vI x2, vI x3, vI x4, vI x5, vU] [] (SH T, c) = ev 252 6 88 [vR 78, vI x1, vI x2, vI (c 79 (w32 ((w32 (258 + (w32 (3 * x5)))) + 2))), vI (c 79 (w32 ((w32 (258 + (w32 (3 * x5)))) + 1))), vI x5, vU] [] (SH T, c) := by
  refine (ev_eq _ _ _ _ _ _).trans ?_
  refine (if_pos h1).trans ?_
  refine (if_pos h2).trans ?_
  refine (if_pos h3).trans ?_
  refine (if_pos h4).trans ?_
  refine (if_neg h5).trans ?_
  refine (if_pos h6).trans ?_
  refine (if_neg h7).trans ?_
  refine (if_pos h8).trans ?_
  refine (if_pos h9).trans ?_
  rfl
theorem B_X12_looksOf_8_4 {T : List Shp} {c : Nat → Int → Int} {x1 x2 x3 x4 x5 : Int} (h1 : x5 < (c 79 3)) (h2 : 0 ≤ (w32 (258 + (w32 (3 * x5)))) ∧ (w32 (258 + (w32 (3 * x5)))) < 5780) (h3 : ¬ (c 79 (w32 (258 + (w32 (3 * x5))))) = x1) : ev 252 6 8 [vR 78, vI x1, vI x2, vI x3, vI x4, vI x5, vU] [] (SH T, c) = ev 252 6 88 [vR 78, vI x1, vI x2, vI x3, vI x4, vI x5, vU] [] (SH T, c) := by
  refine (ev_eq _ _ _ _ _ _).trans ?_
  refine (if_pos h1).trans ?_
  refine (if_pos h2).trans ?_
  refine (if_neg h3).trans ?_
  rfl
theorem B_X12_looksOf_8_5 {T : List Shp} {c : Nat → Int → Int} {x1 x2 x3 x4 x5 : Int} {c1 : Nat → Int → Int} {r2 : Int} {c3 : Nat → Int → Int} {r4 : Int} {c5 : Nat → Int → Int} {r6 : Int} {c7 : Nat → Int → Int} {r8 : Int} {c9 : Nat → Int → Int} {r10 : Int} {c11 : Nat → Int → Int} (h1 : ¬ x5 < (c 79 3)) (h2 : x3 = (-1)) (h3 : cal 250 [vR 78, vI x2] (SH T, c) = some (none, (SH T, c1))) (h4 : cal 251 [vR 78, vI x2] (SH T, (up c1 92 1 x1)) = some (some (vI r2), (SH T, c3))) (h5 : cal 251 [vR 78, vI x2] (SH T, (up c3 92 2 r2)) = some (some (vI r4), (SH T, c5))) (h6 : cal 189 [vL (w32 (Int.tdiv r4 10)), vI 0, vI 9] (SH T, c5) = some (some (vI r6), (SH T, c7))) (h7 : cal 249 [vR 78, vI 0, vL r6] (SH T, c7) = some (some (vL r8), (SH T, c9))) (h8 : cal 189 [vL r8, vI 0, vI 9] (SH T, c9) = some (some (vI r10), (SH T, c11))) : ev 252 6 8 [vR 78, vI x1, vI x2, vI x3, vI x4, vI x5, vU] [] (SH T, c) = some (some (vI r10), (SH T, c11)) := by
  refine (ev_eq _ _ _ _ _ _).trans ?_
  refine (if_neg h1).trans ?_
  refine (ev_eq _ _ _ _ _ _).trans ?_
  refine (if_pos h2).trans ?_
  refine (ev_eq _ _ _ _ _ _).trans ?_
  refine (el_call rfl h3).trans ?_
  refine (el_call rfl h4).trans ?_
  refine (el_call rfl h5).trans ?_
  refine (el_call rfl h6).trans ?_
  refine (el_call rfl h7).trans ?_
  refine (el_call rfl h8).trans ?_
  rfl
theorem B_X12_looksOf_8_6 {T : List Shp} {c : Nat → Int → Int} {x1 x2 x3 x4 x5 : Int} (h1 : ¬ x5 < (c 79 3)) (h2 : ¬ x3 = (-1)) : ev 252 6 8 [vR 78, vI x1, vI x2, vI x3, vI x4, vI x5, vU] [] (SH T, c) = some (some (vI x3), (SH T, c)) := by
  refine (ev_eq _ _ _ _ _ _).trans ?_
  refine (if_neg h1).trans ?_
  refine (ev_eq _ _ _ _ _ _).trans ?_
  refine (if_neg h2).trans ?_
  rfl
theorem B_X12_looksOf_88 {T : List Shp} {c : Nat → Int → Int} {x1 x2 x3 x4 x5 : Int}  : ev 252 6 88 [vR 78, vI x1, vI x2, vI x3, vI x4, vI x5, vU] [] (SH T, c) = ev 252 6 8 [vR 78, vI x1, vI x2, vI x3, vI x4, vI (w32 (x5 + 1)), vU] [] (SH T, c) := by
  refine (ev_eq _ _ _ _ _ _).trans ?_
  rfl
theorem E_X12_letsOf {T : List Shp} {c : Nat → Int → Int} {x1 x2 : Int} {c1 : Nat → Int → Int} {r2 : Int} {c3 : Nat → Int → Int} {r4 : Int} {c5 : Nat → Int → Int} {r6 : Int} {c7 : Nat → Int → Int} (h1 : cal 250 [vR 78, vI x2] (SH T, c) = some (none, (SH T, c1))) (h2 : cal 251 [vR 78, vI x2] (SH T, (up c1 92 1 x1)) = some (some (vI r2), (SH T, c3))) (h3 : cal 249 [vR 78, vI 1, vL 9] (SH T, (up c3 92 2 r2)) = some (some (vL r4), (SH T, c5))) (h4 : cal 189 [vL r4, vI 0, vI 9] (SH T, c5) = some (some (vI r6), (SH T, c7))) : cal 253 [vR 78, vI x1, vI x2] (SH T, c) = some (some (vI r6), (SH T, c7)) := by
  refine (ev_eq _ _ _ _ _ _).trans ?_
  refine (el_call rfl h1).trans ?_
  refine (el_call rfl h2).trans ?_
  refine (el_call rfl h3).trans ?_
  refine (el_call rfl h4).trans ?_
  rfl
theorem E_X12_setPainter {T : List Shp} {c : Nat → Int → Int} {x1 x2 : Int} {c1 : Nat → Int → Int} {r2 : Int} {c3 : Nat → Int → Int} (h1 : cal 250 [vR 78, vI x2] (SH T, c) = some (none, (SH T, c1))) (h2 : cal 251 [vR 78, vI x2] (SH T, c1) = some (some (vI r2), (SH T, c3))) (h3 : 0 ≤ (w32 ((w32 (233 + (w32 (5 * x1)))) + 1)) ∧ (w32 ((w32 (233 + (w32 (5 * x1)))) + 1)) < 5780) : cal 254 [vR 78, vI x1, vI x2] (SH T, c) = some (none, (SH T, (up (up (up c3 92 2 r2) 92 4 x1) 92 5 (c3 79 (w32 ((w32 (233 + (w32 (5 * x1)))) + 1)))))) := by
  refine (ev_eq _ _ _ _ _ _).trans ?_
  refine (el_call rfl h1).trans ?_
  refine (el_call rfl h2).trans ?_
  refine (if_pos h3).trans ?_
  rfl
theorem E_X12_asksOf {T : List Shp} {c : Nat → Int → Int} {x1 x2 : Int} {c1 : Nat → Int → Int} {r2 : Int} {c3 : Nat → Int → Int} {r4 : Int} {c5 : Nat → Int → Int} (h1 : cal 254 [vR 78, vI x1, vI x2] (SH T, c) = some (none, (SH T, c1))) (h2 : 0 ≤ (w32 ((w32 (233 + (w32 (5 * x1)))) + 1)) ∧ (w32 ((w32 (233 + (w32 (5 * x1)))) + 1)) < 5780) (h3 : cal 249 [vR 78, vI 2, vL (c1 79 (w32 ((w32 (233 + (w32 (5 * x1)))) + 1)))] (SH T, c1) = some (some (vL r2), (SH T, c3))) (h4 : cal 189 [vL r2, vI 0, vI 999] (SH T, c3) = some (some (vI r4), (SH T, c5))) : cal 255 [vR 78, vI x1, vI x2] (SH T, c) = some (some (vI r4), (SH T, c5)) := by
  refine (ev_eq _ _ _ _ _ _).trans ?_
  refine (el_call rfl h1).trans ?_
  refine (if_pos h2).trans ?_
  refine (el_call rfl h3).trans ?_
  refine (el_call rfl h4).trans ?_
  rfl
theorem E_X12_isBarred_1 {T : List Shp} {c : Nat → Int → Int} {x1 x2 : Int} {c1 : Nat → Int → Int} {r2 : Int} {c3 : Nat → Int → Int} (h1 : cal 254 [vR 78, vI x1, vI x2] (SH T, c) = some (none, (SH T, c1))) (h2 : cal 249 [vR 78, vI 4, vL 0] (SH T, c1) = some (some (vL r2), (SH T, c3))) (h3 : r2 < 1) : cal 256 [vR 78, vI x1, vI x2] (SH T, c) = some (some (vI 0), (SH T, c3)) := by
  refine (ev_eq _ _ _ _ _ _).trans ?_
  refine (el_call rfl h1).trans ?_
  refine (el_call rfl h2).trans ?_
  refine (if_pos h3).trans ?_
  refine (ev_eq _ _ _ _ _ _).trans ?_
  rfl
theorem E_X12_isBarred_2 {T : List Shp} {c : Nat → Int → Int} {x1 x2 : Int} {c1 : Nat → Int → Int} {r2 : Int} {c3 : Nat → Int → Int} (h1 : cal 254 [vR 78, vI x1, vI x2] (SH T, c) = some (none, (SH T, c1))) (h2 : cal 249 [vR 78, vI 4, vL 0] (SH T, c1) = some (some (vL r2), (SH T, c3))) (h3 : r2 = 1) : cal 256 [vR 78, vI x1, vI x2] (SH T, c) = some (some (vI 1), (SH T, c3)) := by
  refine (ev_eq _ _ _ _ _ _).trans ?_
  refine (el_call rfl h1).trans ?_
  refine (el_call rfl h2).trans ?_
  refine (if_neg (by omega)).trans ?_
  refine (if_pos h3).trans ?_
  rfl
theorem E_X12_isBarred_3 {T : List Shp} {c : Nat → Int → Int} {x1 x2 : Int} {c1 : Nat → Int → Int} {r2 : Int} {c3 : Nat → Int → Int} (h1 : cal 254 [vR 78, vI x1, vI x2] (SH T, c) = some (none, (SH T, c1))) (h2 : cal 249 [vR 78, vI 4, vL 0] (SH T, c1) = some (some (vL r2), (SH T, c3))) (h3 : ¬ r2 < 1 ∧ ¬ r2 = 1) : cal 256 [vR 78, vI x1, vI x2] (SH T, c) = some (some (vI 0), (SH T, c3)) := by
  refine (ev_eq _ _ _ _ _ _).trans ?_
  refine (el_call rfl h1).trans ?_
  refine (el_call rfl h2).trans ?_
  refine (if_neg h3.1).trans ?_
  refine (if_neg h3.2).trans ?_
  refine (ev_eq _ _ _ _ _ _).trans ?_
  rfl
theorem E_X12_looks_1 {T : List Shp} {c : Nat → Int → Int} {x1 x2 x3 : Int} {r1 : Int} {c2 : Nat → Int → Int} (h1 : cal 196 [vI x2] (SH T, (up c 77 0 0)) = some (some (vI r1), (SH T, c2))) (h2 : r1 = 0) : cal 257 [vR 78, vI x1, vI x2, vI x3] (SH T, c) = some (some (vI (-1)), (SH T, c2)) := by
  refine (ev_eq _ _ _ _ _ _).trans ?_
  refine (el_call rfl h1).trans ?_
  refine (if_pos h2).trans ?_
  refine (ev_eq _ _ _ _ _ _).trans ?_
  rfl
theorem E_X12_looks_2 {T : List Shp} {c : Nat → Int → Int} {x1 x2 x3 : Int} {r1 : Int} {c2 : Nat → Int → Int} (h1 : cal 196 [vI x2] (SH T, (up c 77 0 0)) = some (some (vI r1), (SH T, c2))) (h2 : ¬ r1 = 0) (h3 : x1 = (-1)) : cal 257 [vR 78, vI x1, vI x2, vI x3] (SH T, c) = ev 257 7 36 [vR 78, vI x1, vI x2, vI x3] [] (SH T, c2) := by
  refine (ev_eq _ _ _ _ _ _).trans ?_
  refine (el_call rfl h1).trans ?_
  refine (if_neg h2).trans ?_
  refine (if_pos h3).trans ?_
  rfl
theorem E_X12_looks_3 {T : List Shp} {c : Nat → Int → Int} {x1 x2 x3 : Int} {r1 : Int} {c2 : Nat → Int → Int} {r3 : Int} {c4 : Nat → Int → Int} (h1 : cal 196 [vI x2] (SH T, (up c 77 0 0)) = some (some (vI r1), (SH T, c2))) (h2 : ¬ r1 = 0) (h3 : ¬ x1 = (-1)) (h4 : cal 194 [vI x1] (SH T, c2) = some (some (vI r3), (SH T, c4))) (h5 : r3 = 0) : cal 257 [vR 78, vI x1, vI x2, vI x3] (SH T, c) = some (some (vI (-1)), (SH T, c4)) := by
  refine (ev_eq _ _ _ _ _ _).trans ?_
  refine (el_call rfl h1).trans ?_
  refine (if_neg h2).trans ?_
  refine (if_neg h3).trans ?_
  refine (el_call rfl h4).trans ?_
  refine (if_pos h5).trans ?_
  refine (ev_eq _ _ _ _ _ _).trans ?_
  rfl
theorem E_X12_looks_4 {T : List Shp} {c : Nat → Int → Int} {x1 x2 x3 : Int} {r1 : Int} {c2 : Nat → Int → Int} {r3 : Int} {c4 : Nat → Int → Int} {r5 : Int} {c6 : Nat → Int → Int} (h1 : cal 196 [vI x2] (SH T, (up c 77 0 0)) = some (some (vI r1), (SH T, c2))) (h2 : ¬ r1 = 0) (h3 : ¬ x1 = (-1)) (h4 : cal 194 [vI x1] (SH T, c2) = some (some (vI r3), (SH T, c4))) (h5 : ¬ r3 = 0) (h6 : cal 186 [vL x3, vL 0, vL 1] (SH T, c4) = some (some (vI r5), (SH T, c6))) (h7 : r5 = 0) : cal 257 [vR 78, vI x1, vI x2, vI x3] (SH T, c) = some (some (vI (-1)), (SH T, c6)) := by
  refine (ev_eq _ _ _ _ _ _).trans ?_
  refine (el_call rfl h1).trans ?_
  refine (if_neg h2).trans ?_
  refine (if_neg h3).trans ?_
  refine (el_call rfl h4).trans ?_
  refine (if_neg h5).trans ?_
  refine (el_call rfl h6).trans ?_
  refine (if_pos h7).trans ?_
  refine (ev_eq _ _ _ _ _ _).trans ?_
  rfl
theorem E_X12_looks_5 {T : List Shp} {c : Nat → Int → Int} {x1 x2 x3 : Int} {r1 : Int} {c2 : Nat → Int → Int} {r3 : Int} {c4 : Nat → Int → Int} {r5 : Int} {c6 : Nat → Int → Int} (h1 : cal 196 [vI x2] (SH T, (up c 77 0 0)) = some (some (vI r1), (SH T, c2))) (h2 : ¬ r1 = 0) (h3 : ¬ x1 = (-1)) (h4 : cal 194 [vI x1] (SH T, c2) = some (some (vI r3), (SH T, c4))) (h5 : ¬ r3 = 0) (h6 : cal 186 [vL x3, vL 0, vL 1] (SH T, c4) = some (some (vI r5), (SH T, c6))) (h7 : ¬ r5 = 0) : cal 257 [vR 78, vI x1, vI x2, vI x3] (SH T, c) = ev 257 7 36 [vR 78, vI x1, vI x2, vI x3] [] (SH T, c6) := by
  refine (ev_eq _ _ _ _ _ _).trans ?_
  refine (el_call rfl h1).trans ?_
  refine (if_neg h2).trans ?_
  refine (if_neg h3).trans ?_
  refine (el_call rfl h4).trans ?_
  refine (if_neg h5).trans ?_
  refine (el_call rfl h6).trans ?_
  refine (if_neg h7).trans ?_
  rfl
theorem B_X12_looks_36_1 {T : List Shp} {c : Nat → Int → Int} {x1 x2 x3 : Int} {r1 : Int} {c2 : Nat → Int → Int} (h1 : x1 = (-1)) (h2 : cal 251 [vR 78, vI x2] (SH T, c) = some (some (vI r1), (SH T, c2))) : ev 257 7 36 [vR 78, vI x1, vI x2, vI x3] [] (SH T, c) = some (some (vI r1), (SH T, c2)) := by
  refine (ev_eq _ _ _ _ _ _).trans ?_
  refine (if_pos h1).trans ?_
  refine (el_call rfl h2).trans ?_
  rfl
theorem B_X12_looks_36_2 {T : List Shp} {c : Nat → Int → Int} {x1 x2 x3 : Int} {r1 : Int} {c2 : Nat → Int → Int} (h1 : ¬ x1 = (-1)) (h2 : x3 = 0) (h3 : cal 252 [vR 78, vI x1, vI x2] (SH T, c) = some (some (vI r1), (SH T, c2))) : ev 257 7 36 [vR 78, vI x1, vI x2, vI x3] [] (SH T, c) = some (some (vI r1), (SH T, c2)) := by
  refine (ev_eq _ _ _ _ _ _).trans ?_
  refine (if_neg h1).trans ?_
  refine (ev_eq _ _ _ _ _ _).trans ?_
  refine (if_pos h2).trans ?_
  refine (el_call rfl h3).trans ?_
  rfl
theorem B_X12_looks_36_3 {T : List Shp} {c : Nat → Int → Int} {x1 x2 x3 : Int} {r1 : Int} {c2 : Nat → Int → Int} (h1 : ¬ x1 = (-1)) (h2 : ¬ x3 = 0) (h3 : cal 253 [vR 78, vI x1, vI x2] (SH T, c) = some (some (vI r1), (SH T, c2))) : ev 257 7 36 [vR 78, vI x1, vI x2, vI x3] [] (SH T, c) = some (some (vI r1), (SH T, c2)) := by
  refine (ev_eq _ _ _ _ _ _).trans ?_
  refine (if_neg h1).trans ?_
  refine (ev_eq _ _ _ _ _ _).trans ?_
  refine (if_neg h2).trans ?_
  refine (ev_eq _ _ _ _ _ _).trans ?_
  refine (el_call rfl h3).trans ?_
  rfl
theorem E_X12_asks_1 {T : List Shp} {c : Nat → Int → Int} {x1 x2 x3 : Int} {r1 : Int} {c2 : Nat → Int → Int} (h1 : cal 199 [vR 78, vI x1] (SH T, (up c 77 0 0)) = some (some (vI r1), (SH T, c2))) (h2 : r1 = 0) : cal 258 [vR 78, vI x1, vI x2, vI x3] (SH T, c) = some (some (vI (-1)), (SH T, c2)) := by
  refine (ev_eq _ _ _ _ _ _).trans ?_
  refine (el_call rfl h1).trans ?_
  refine (if_pos h2).trans ?_
  refine (ev_eq _ _ _ _ _ _).trans ?_
  rfl
theorem E_X12_asks_2 {T : List Shp} {c : Nat → Int → Int} {x1 x2 x3 : Int} {r1 : Int} {c2 : Nat → Int → Int} {r3 : Int} {c4 : Nat → Int → Int} (h1 : cal 199 [vR 78, vI x1] (SH T, (up c 77 0 0)) = some (some (vI r1), (SH T, c2))) (h2 : ¬ r1 = 0) (h3 : cal 196 [vI x2] (SH T, c2) = some (some (vI r3), (SH T, c4))) (h4 : r3 = 0) : cal 258 [vR 78, vI x1, vI x2, vI x3] (SH T, c) = some (some (vI (-1)), (SH T, c4)) := by
  refine (ev_eq _ _ _ _ _ _).trans ?_
  refine (el_call rfl h1).trans ?_
  refine (if_neg h2).trans ?_
  refine (el_call rfl h3).trans ?_
  refine (if_pos h4).trans ?_
  refine (ev_eq _ _ _ _ _ _).trans ?_
  rfl
theorem E_X12_asks_3 {T : List Shp} {c : Nat → Int → Int} {x1 x2 x3 : Int} {r1 : Int} {c2 : Nat → Int → Int} {r3 : Int} {c4 : Nat → Int → Int} {r5 : Int} {c6 : Nat → Int → Int} (h1 : cal 199 [vR 78, vI x1] (SH T, (up c 77 0 0)) = some (some (vI r1), (SH T, c2))) (h2 : ¬ r1 = 0) (h3 : cal 196 [vI x2] (SH T, c2) = some (some (vI r3), (SH T, c4))) (h4 : ¬ r3 = 0) (h5 : cal 186 [vL x3, vL 0, vL 1] (SH T, c4) = some (some (vI r5), (SH T, c6))) (h6 : r5 = 0) : cal 258 [vR 78, vI x1, vI x2, vI x3] (SH T, c) = some (some (vI (-1)), (SH T, c6)) := by
  refine (ev_eq _ _ _ _ _ _).trans ?_
  refine (el_call rfl h1).trans ?_
  refine (if_neg h2).trans ?_
  refine (el_call rfl h3).trans ?_
  refine (if_neg h4).trans ?_
  refine (el_call rfl h5).trans ?_
  refine (if_pos h6).trans ?_
  refine (ev_eq _ _ _ _ _ _).trans ?_
  rfl
theorem E_X12_asks_4 {T : List Shp} {c : Nat → Int → Int} {x1 x2 x3 : Int} {r1 : Int} {c2 : Nat → Int → Int} {r3 : Int} {c4 : Nat → Int → Int} {r5 : Int} {c6 : Nat → Int → Int} {r7 : Int} {c8 : Nat → Int → Int} (h1 : cal 199 [vR 78, vI x1] (SH T, (up c 77 0 0)) = some (some (vI r1), (SH T, c2))) (h2 : ¬ r1 = 0) (h3 : cal 196 [vI x2] (SH T, c2) = some (some (vI r3), (SH T, c4))) (h4 : ¬ r3 = 0) (h5 : cal 186 [vL x3, vL 0, vL 1] (SH T, c4) = some (some (vI r5), (SH T, c6))) (h6 : ¬ r5 = 0) (h7 : x3 = 0) (h8 : cal 255 [vR 78, vI x1, vI x2] (SH T, c6) = some (some (vI r7), (SH T, c8))) : cal 258 [vR 78, vI x1, vI x2, vI x3] (SH T, c) = some (some (vI r7), (SH T, c8)) := by
  refine (ev_eq _ _ _ _ _ _).trans ?_
  refine (el_call rfl h1).trans ?_
  refine (if_neg h2).trans ?_
  refine (el_call rfl h3).trans ?_
  refine (if_neg h4).trans ?_
  refine (el_call rfl h5).trans ?_
  refine (if_neg h6).trans ?_
  refine (ev_eq _ _ _ _ _ _).trans ?_
  refine (if_pos h7).trans ?_
  refine (el_call rfl h8).trans ?_
  rfl
theorem E_X12_asks_5 {T : List Shp} {c : Nat → Int → Int} {x1 x2 x3 : Int} {r1 : Int} {c2 : Nat → Int → Int} {r3 : Int} {c4 : Nat → Int → Int} {r5 : Int} {c6 : Nat → Int → Int} {r7 : Int} {c8 : Nat → Int → Int} (h1 : cal 199 [vR 78, vI x1] (SH T, (up c 77 0 0)) = some (some (vI r1), (SH T, c2))) (h2 : ¬ r1 = 0) (h3 : cal 196 [vI x2] (SH T, c2) = some (some (vI r3), (SH T, c4))) (h4 : ¬ r3 = 0) (h5 : cal 186 [vL x3, vL 0, vL 1] (SH T, c4) = some (some (vI r5), (SH T, c6))) (h6 : ¬ r5 = 0) (h7 : ¬ x3 = 0) (h8 : cal 256 [vR 78, vI x1, vI x2] (SH T, c6) = some (some (vI r7), (SH T, c8))) (h9 : r7 = 0) : cal 258 [vR 78, vI x1, vI x2, vI x3] (SH T, c) = some (some (vI 0), (SH T, c8)) := by
  refine (ev_eq _ _ _ _ _ _).trans ?_
  refine (el_call rfl h1).trans ?_
  refine (if_neg h2).trans ?_
  refine (el_call rfl h3).trans ?_
  refine (if_neg h4).trans ?_
  refine (el_call rfl h5).trans ?_
  refine (if_neg h6).trans ?_
  refine (ev_eq _ _ _ _ _ _).trans ?_
  refine (if_neg h7).trans ?_
  refine (ev_eq _ _ _ _ _ _).trans ?_
  refine (el_call rfl h8).trans ?_
  refine (if_pos h9).trans ?_
  refine (ev_eq _ _ _ _ _ _).trans ?_
  rfl
theorem E_X12_asks_6 {T : List Shp} {c : Nat → Int → Int} {x1 x2 x3 : Int} {r1 : Int} {c2 : Nat → Int → Int} {r3 : Int} {c4 : Nat → Int → Int} {r5 : Int} {c6 : Nat → Int → Int} {r7 : Int} {c8 : Nat → Int → Int} (h1 : cal 199 [vR 78, vI x1] (SH T, (up c 77 0 0)) = some (some (vI r1), (SH T, c2))) (h2 : ¬ r1 = 0) (h3 : cal 196 [vI x2] (SH T, c2) = some (some (vI r3), (SH T, c4))) (h4 : ¬ r3 = 0) (h5 : cal 186 [vL x3, vL 0, vL 1] (SH T, c4) = some (some (vI r5), (SH T, c6))) (h6 : ¬ r5 = 0) (h7 : ¬ x3 = 0) (h8 : cal 256 [vR 78, vI x1, vI x2] (SH T, c6) = some (some (vI r7), (SH T, c8))) (h9 : ¬ r7 = 0) : cal 258 [vR 78, vI x1, vI x2, vI x3] (SH T, c) = some (some (vI 1), (SH T, c8)) := by
  refine (ev_eq _ _ _ _ _ _).trans ?_
  refine (el_call rfl h1).trans ?_
  refine (if_neg h2).trans ?_
  refine (el_call rfl h3).trans ?_
  refine (if_neg h4).trans ?_
  refine (el_call rfl h5).trans ?_
  refine (if_neg h6).trans ?_
  refine (ev_eq _ _ _ _ _ _).trans ?_
  refine (if_neg h7).trans ?_
  refine (ev_eq _ _ _ _ _ _).trans ?_
  refine (el_call rfl h8).trans ?_
  refine (if_neg h9).trans ?_
  rfl
theorem E_X12_layLooks {T : List Shp} {c : Nat → Int → Int} {x1 : Int}  : cal 259 [vR 78, vI x1] (SH T, c) = ev 259 7 2 [vR 78, vI x1, vI 0] [] (SH T, c) := by
  refine (ev_eq _ _ _ _ _ _).trans ?_
  rfl
theorem B_X12_layLooks_2_1 {T : List Shp} {c : Nat → Int → Int} {x1 x2 : Int} {r1 : Int} {c2 : Nat → Int → Int} (h1 : x2 < 12) (h2 : cal 252 [vR 78, vI x2, vI x1] (SH T, c) = some (some (vI r1), (SH T, c2))) (h3 : 0 ≤ (w32 ((w32 (12 * x1)) + x2)) ∧ (w32 ((w32 (12 * x1)) + x2)) < 1200) : ev 259 7 2 [vR 78, vI x1, vI x2] [] (SH T, c) = ev 259 7 2 [vR 78, vI x1, vI (w32 (x2 + 1))] [] (SH T, (up c2 95 (w32 ((w32 (12 * x1)) + x2)) r1)) := by
  refine (ev_eq _ _ _ _ _ _).trans ?_
  refine (if_pos h1).trans ?_
  refine (el_call rfl h2).trans ?_
  refine (if_pos h3).trans ?_
  rfl
theorem B_X12_layLooks_2_2 {T : List Shp} {c : Nat → Int → Int} {x1 x2 : Int} (h1 : ¬ x2 < 12) : ev 259 7 2 [vR 78, vI x1, vI x2] [] (SH T, c) = some (none, (SH T, c)) := by
  refine (ev_eq _ _ _ _ _ _).trans ?_
  refine (if_neg h1).trans ?_
  refine (ev_eq _ _ _ _ _ _).trans ?_
  rfl
theorem E_X12_painted {T : List Shp} {c : Nat → Int → Int} {x1 x2 x3 x4 : Int} {r1 : Int} {c2 : Nat → Int → Int} {r3 : Int} {c4 : Nat → Int → Int} (h1 : 0 ≤ (w32 ((w32 (12 * x3)) + x2)) ∧ (w32 ((w32 (12 * x3)) + x2)) < 1200) (h2 : 0 ≤ (w32 (233 + (w32 (5 * x1)))) ∧ (w32 (233 + (w32 (5 * x1)))) < 5780) (h3 : 0 ≤ (w32 (233 + (w32 (5 * x1)))) ∧ (w32 (233 + (w32 (5 * x1)))) < 5780) (h4 : cal 189 [vL (w32 ((c 95 (w32 ((w32 (12 * x3)) + x2))) - x4)), vI (w32 (-(c 79 (w32 (233 + (w32 (5 * x1))))))), vI (c 79 (w32 (233 + (w32 (5 * x1)))))] (SH T, c) = some (some (vI r1), (SH T, c2))) (h5 : 0 ≤ (w32 ((w32 ((w32 (233 + (w32 (5 * x1)))) + 2)) + (w32 (Int.tmod x2 3)))) ∧ (w32 ((w32 ((w32 (233 + (w32 (5 * x1)))) + 2)) + (w32 (Int.tmod x2 3)))) < 5780) (h6 : cal 189 [vL (w32 ((w32 ((w32 (x4 + r1)) + (c2 79 (w32 ((w32 ((w32 (233 + (w32 (5 * x1)))) + 2)) + (w32 (Int.tmod x2 3))))))) - 3)), vI 0, vI 9] (SH T, c2) = some (some (vI r3), (SH T, c4))) : cal 260 [vR 78, vI x1, vI x2, vI x3, vI x4] (SH T, c) = some (some (vI r3), (SH T, c4)) := by
  refine (ev_eq _ _ _ _ _ _).trans ?_
  refine (if_pos h1).trans ?_
  refine (if_pos h2).trans ?_
  refine (if_pos h3).trans ?_
  refine (el_call rfl h4).trans ?_
  refine (if_pos h5).trans ?_
  refine (el_call rfl h6).trans ?_
  rfl
theorem E_X12_paintPaper {T : List Shp} {c : Nat → Int → Int} {x1 x2 x3 x4 : Int}  : cal 261 [vR 78, vI x1, vI x2, vI x3, vI x4] (SH T, c) = ev 261 3 3 [vR 78, vI x1, vI x2, vI x3, vI x4, vI 0] [] (SH T, c) := by
  refine (ev_eq _ _ _ _ _ _).trans ?_
  rfl
theorem B_X12_paintPaper_3_1 {T : List Shp} {c : Nat → Int → Int} {x1 x2 x3 x4 x5 : Int} {r1 : Int} {c2 : Nat → Int → Int} (h1 : x5 < 12) (h2 : 0 ≤ (w32 ((w32 (12 * x1)) + x5)) ∧ (w32 ((w32 (12 * x1)) + x5)) < 600) (h3 : cal 260 [vR 78, vI x3, vI x5, vI x4, vI (c 96 (w32 ((w32 (12 * x1)) + x5)))] (SH T, c) = some (some (vI r1), (SH T, c2))) (h4 : 0 ≤ (w32 ((w32 (12 * x2)) + x5)) ∧ (w32 ((w32 (12 * x2)) + x5)) < 600) : ev 261 3 3 [vR 78, vI x1, vI x2, vI x3, vI x4, vI x5] [] (SH T, c) = ev 261 3 3 [vR 78, vI x1, vI x2, vI x3, vI x4, vI (w32 (x5 + 1))] [] (SH T, (up c2 96 (w32 ((w32 (12 * x2)) + x5)) r1)) := by
  refine (ev_eq _ _ _ _ _ _).trans ?_
  refine (if_pos h1).trans ?_
  refine (if_pos h2).trans ?_
  refine (el_call rfl h3).trans ?_
  refine (if_pos h4).trans ?_
  rfl
theorem B_X12_paintPaper_3_2 {T : List Shp} {c : Nat → Int → Int} {x1 x2 x3 x4 x5 : Int} (h1 : ¬ x5 < 12) : ev 261 3 3 [vR 78, vI x1, vI x2, vI x3, vI x4, vI x5] [] (SH T, c) = some (none, (SH T, c)) := by
  refine (ev_eq _ _ _ _ _ _).trans ?_
  refine (if_neg h1).trans ?_
  refine (ev_eq _ _ _ _ _ _).trans ?_
  rfl
theorem E_X12_loadPaper {T : List Shp} {c : Nat → Int → Int} {x1 x2 : Int}  : cal 262 [vR 78, vI x1, vI x2] (SH T, c) = ev 262 2 2 [vR 78, vI x1, vI x2, vI 0] [] (SH T, c) := by
  refine (ev_eq _ _ _ _ _ _).trans ?_
  rfl
theorem B_X12_loadPaper_2_1 {T : List Shp} {c : Nat → Int → Int} {x1 x2 x3 : Int} {r1 : Int} {c2 : Nat → Int → Int} (h1 : x3 < 12) (h2 : cal 202 [vR 78, vI x2, vI x3] (SH T, c) = some (some (vI r1), (SH T, c2))) (h3 : 0 ≤ (w32 ((w32 (12 * x1)) + x3)) ∧ (w32 ((w32 (12 * x1)) + x3)) < 600) : ev 262 2 2 [vR 78, vI x1, vI x2, vI x3] [] (SH T, c) = ev 262 2 2 [vR 78, vI x1, vI x2, vI (w32 (x3 + 1))] [] (SH T, (up c2 96 (w32 ((w32 (12 * x1)) + x3)) r1)) := by
  refine (ev_eq _ _ _ _ _ _).trans ?_
  refine (if_pos h1).trans ?_
  refine (el_call rfl h2).trans ?_
  refine (if_pos h3).trans ?_
  rfl
theorem B_X12_loadPaper_2_2 {T : List Shp} {c : Nat → Int → Int} {x1 x2 x3 : Int} (h1 : ¬ x3 < 12) : ev 262 2 2 [vR 78, vI x1, vI x2, vI x3] [] (SH T, c) = some (none, (SH T, c)) := by
  refine (ev_eq _ _ _ _ _ _).trans ?_
  refine (if_neg h1).trans ?_
  refine (ev_eq _ _ _ _ _ _).trans ?_
  rfl
theorem E_X12_unlikePaper {T : List Shp} {c : Nat → Int → Int} {x1 x2 : Int}  : cal 263 [vR 78, vI x1, vI x2] (SH T, c) = ev 263 2 5 [vR 78, vI x1, vI x2, vI 0, vI 0] [] (SH T, c) := by
  refine (ev_eq _ _ _ _ _ _).trans ?_
  rfl
theorem B_X12_unlikePaper_5_1 {T : List Shp} {c : Nat → Int → Int} {x1 x2 x3 x4 : Int} {r1 : Int} {c2 : Nat → Int → Int} (h1 : x4 < 12) (h2 : 0 ≤ (w32 ((w32 (12 * x1)) + x4)) ∧ (w32 ((w32 (12 * x1)) + x4)) < 600) (h3 : 0 ≤ (w32 ((w32 (12 * x2)) + x4)) ∧ (w32 ((w32 (12 * x2)) + x4)) < 1200) (h4 : cal 188 [vI (w32 ((c 96 (w32 ((w32 (12 * x1)) + x4))) - (c 95 (w32 ((w32 (12 * x2)) + x4)))))] (SH T, c) = some (some (vI r1), (SH T, c2))) : ev 263 2 5 [vR 78, vI x1, vI x2, vI x3, vI x4] [] (SH T, c) = ev 263 2 5 [vR 78, vI x1, vI x2, vI (w32 (x3 + r1)), vI (w32 (x4 + 1))] [] (SH T, c2) := by
  refine (ev_eq _ _ _ _ _ _).trans ?_
  refine (if_pos h1).trans ?_
  refine (if_pos h2).trans ?_
  refine (if_pos h3).trans ?_
  refine (el_call rfl h4).trans ?_
  rfl
theorem B_X12_unlikePaper_5_2 {T : List Shp} {c : Nat → Int → Int} {x1 x2 x3 x4 : Int} (h1 : ¬ x4 < 12) : ev 263 2 5 [vR 78, vI x1, vI x2, vI x3, vI x4] [] (SH T, c) = some (some (vI x3), (SH T, c)) := by
  refine (ev_eq _ _ _ _ _ _).trans ?_
  refine (if_neg h1).trans ?_
  refine (ev_eq _ _ _ _ _ _).trans ?_
  rfl
theorem E_X12_unlikeOf {T : List Shp} {c : Nat → Int → Int} {x1 : Int} {c1 : Nat → Int → Int} {c2 : Nat → Int → Int} {r3 : Int} {c4 : Nat → Int → Int} (h1 : cal 259 [vR 78, vI x1] (SH T, c) = some (none, (SH T, c1))) (h2 : cal 262 [vR 78, vI 0, vI x1] (SH T, c1) = some (none, (SH T, c2))) (h3 : cal 263 [vR 78, vI 0, vI x1] (SH T, c2) = some (some (vI r3), (SH T, c4))) : cal 264 [vR 78, vI x1] (SH T, c) = some (some (vI r3), (SH T, c4)) := by
  refine (ev_eq _ _ _ _ _ _).trans ?_
  refine (el_call rfl h1).trans ?_
  refine (el_call rfl h2).trans ?_
  refine (el_call rfl h3).trans ?_
  rfl
theorem E_X12_rests {T : List Shp} {c : Nat → Int → Int} {x1 x2 : Int}  : cal 265 [vR 78, vI x1, vI x2] (SH T, c) = ev 265 2 5 [vR 78, vI x1, vI x2, vI 0, vI 1] [] (SH T, c) := by
  refine (ev_eq _ _ _ _ _ _).trans ?_
  rfl
theorem B_X12_rests_5_1 {T : List Shp} {c : Nat → Int → Int} {x1 x2 x3 x4 : Int} (h1 : (c 79 11) < x4) (h2 : x3 = 0 ∨ x3 = 1) : ev 265 2 5 [vR 78, vI x1, vI x2, vI x3, vI x4] [] (SH T, c) = some (some (vI x3), (SH T, c)) := by
  refine (ev_eq _ _ _ _ _ _).trans ?_
  refine (if_pos h1).trans ?_
  refine (ev_eq _ _ _ _ _ _).trans ?_
  refine (if_pos h2).trans ?_
  rfl
theorem B_X12_rests_5_2 {T : List Shp} {c : Nat → Int → Int} {x1 x2 x3 x4 : Int} {r1 : Int} {c2 : Nat → Int → Int} {r3 : Int} {c4 : Nat → Int → Int} (h1 : ¬ (c 79 11) < x4) (h2 : x3 = 0) (h3 : cal 197 [vR 78] (SH T, c) = some (some (vI r1), (SH T, c2))) (h4 : cal 186 [vL (w32 (x2 - x4)), vL 1, vL r1] (SH T, c2) = some (some (vI r3), (SH T, c4))) (h5 : r3 = 0) : ev 265 2 5 [vR 78, vI x1, vI x2, vI x3, vI x4] [] (SH T, c) = ev 265 2 59 [vR 78, vI x1, vI x2, vU, vI x4] [] (SH T, c4) := by
  refine (ev_eq _ _ _ _ _ _).trans ?_
  refine (if_neg h1).trans ?_
  refine (if_pos h2).trans ?_
  refine (el_call rfl h3).trans ?_
  refine (el_call rfl h4).trans ?_
  refine (if_pos h5).trans ?_
  rfl
theorem B_X12_rests_5_3 {T : List Shp} {c : Nat → Int → Int} {x1 x2 x3 x4 : Int} {r1 : Int} {c2 : Nat → Int → Int} {r3 : Int} {c4 : Nat → Int → Int} (h1 : ¬ (c 79 11) < x4) (h2 : x3 = 0) (h3 : cal 197 [vR 78] (SH T, c) = some (some (vI r1), (SH T, c2))) (h4 : cal 186 [vL (w32 (x2 - x4)), vL 1, vL r1] (SH T, c2) = some (some (vI r3), (SH T, c4))) (h5 : ¬ r3 = 0) (h6 : 0 ≤ (w32 ((w32 (216 + x2)) - x4)) ∧ (w32 ((w32 (216 + x2)) - x4)) < 5780) (h7 : (c4 79 (w32 ((w32 (216 + x2)) - x4))) = x1) : ev 265 2 5 [vR 78, vI x1, vI x2, vI x3, vI x4] [] (SH T, c) = ev 265 2 55 [vR 78, vI x1, vI x2, vU, vI x4] [] (SH T, c4) := by
  refine (ev_eq _ _ _ _ _ _).trans ?_
  refine (if_neg h1).trans ?_
  refine (if_pos h2).trans ?_
  refine (el_call rfl h3).trans ?_
  refine (el_call rfl h4).trans ?_
  refine (if_neg h5).trans ?_
  refine (if_pos h6).trans ?_
  refine (if_pos h7).trans ?_
  rfl
theorem B_X12_rests_5_4 {T : List Shp} {c : Nat → Int → Int} {x1 x2 x3 x4 : Int} {r1 : Int} {c2 : Nat → Int → Int} {r3 : Int} {c4 : Nat → Int → Int} (h1 : ¬ (c 79 11) < x4) (h2 : x3 = 0) (h3 : cal 197 [vR 78] (SH T, c) = some (some (vI r1), (SH T, c2))) (h4 : cal 186 [vL (w32 (x2 - x4)), vL 1, vL r1] (SH T, c2) = some (some (vI r3), (SH T, c4))) (h5 : ¬ r3 = 0) (h6 : 0 ≤ (w32 ((w32 (216 + x2)) - x4)) ∧ (w32 ((w32 (216 + x2)) - x4)) < 5780) (h7 : ¬ (c4 79 (w32 ((w32 (216 + x2)) - x4))) = x1) : ev 265 2 5 [vR 78, vI x1, vI x2, vI x3, vI x4] [] (SH T, c) = ev 265 2 59 [vR 78, vI x1, vI x2, vU, vI x4] [] (SH T, c4) := by
  refine (ev_eq _ _ _ _ _ _).trans ?_
  refine (if_neg h1).trans ?_
  refine (if_pos h2).trans ?_
  refine (el_call rfl h3).trans ?_
  refine (el_call rfl h4).trans ?_
  refine (if_neg h5).trans ?_
  refine (if_pos h6).trans ?_
  refine (if_neg h7).trans ?_
  rfl
theorem B_X12_rests_5_5 {T : List Shp} {c : Nat → Int → Int} {x1 x2 x3 x4 : Int} (h1 : ¬ (c 79 11) < x4) (h2 : ¬ x3 = 0) : ev 265 2 5 [vR 78, vI x1, vI x2, vI x3, vI x4] [] (SH T, c) = ev 265 2 55 [vR 78, vI x1, vI x2, vU, vI x4] [] (SH T, c) := by
  refine (ev_eq _ _ _ _ _ _).trans ?_
  refine (if_neg h1).trans ?_
  refine (if_neg h2).trans ?_
  rfl
theorem B_X12_rests_55 {T : List Shp} {c : Nat → Int → Int} {x1 x2 x4 : Int}  : ev 265 2 55 [vR 78, vI x1, vI x2, vU, vI x4] [] (SH T, c) = ev 265 2 5 [vR 78, vI x1, vI x2, vI 1, vI (w32 (x4 + 1))] [] (SH T, c) := by
  refine (ev_eq _ _ _ _ _ _).trans ?_
  rfl
theorem B_X12_rests_59 {T : List Shp} {c : Nat → Int → Int} {x1 x2 x4 : Int}  : ev 265 2 59 [vR 78, vI x1, vI x2, vU, vI x4] [] (SH T, c) = ev 265 2 5 [vR 78, vI x1, vI x2, vI 0, vI (w32 (x4 + 1))] [] (SH T, c) := by
  refine (ev_eq _ _ _ _ _ _).trans ?_
  rfl
theorem E_X12_paintNow_1 {T : List Shp} {c : Nat → Int → Int} {x1 : Int} {r1 : Int} {c2 : Nat → Int → Int} {r3 : Int} {c4 : Nat → Int → Int} {r5 : Int} {c6 : Nat → Int → Int} (h1 : cal 197 [vR 78] (SH T, c) = some (some (vI r1), (SH T, c2))) (h2 : cal 256 [vR 78, vI x1, vI (w32 (r1 + 1))] (SH T, c2) = some (some (vI r3), (SH T, c4))) (h3 : r3 = 0) (h4 : cal 265 [vR 78, vI x1, vI (w32 (r1 + 1))] (SH T, c4) = some (some (vI r5), (SH T, c6))) (h5 : r5 = 0) (h6 : 16 < (w32 (r1 + 1))) : cal 266 [vR 78, vI x1] (SH T, c) = some (some (vI (-5)), (SH T, c6)) := by
  refine (ev_eq _ _ _ _ _ _).trans ?_
  refine (el_call rfl h1).trans ?_
  refine (el_call rfl h2).trans ?_
  refine (if_pos h3).trans ?_
  refine (el_call rfl h4).trans ?_
  refine (if_pos h5).trans ?_
  refine (ev_eq _ _ _ _ _ _).trans ?_
  refine (if_pos h6).trans ?_
  rfl
theorem E_X12_paintNow_2 {T : List Shp} {c : Nat → Int → Int} {x1 : Int} {r1 : Int} {c2 : Nat → Int → Int} {r3 : Int} {c4 : Nat → Int → Int} {r5 : Int} {c6 : Nat → Int → Int} {c7 : Nat → Int → Int} {c8 : Nat → Int → Int} {c9 : Nat → Int → Int} (h1 : cal 197 [vR 78] (SH T, c) = some (some (vI r1), (SH T, c2))) (h2 : cal 256 [vR 78, vI x1, vI (w32 (r1 + 1))] (SH T, c2) = some (some (vI r3), (SH T, c4))) (h3 : r3 = 0) (h4 : cal 265 [vR 78, vI x1, vI (w32 (r1 + 1))] (SH T, c4) = some (some (vI r5), (SH T, c6))) (h5 : r5 = 0) (h6 : ¬ 16 < (w32 (r1 + 1))) (h7 : cal 259 [vR 78, vI (w32 (r1 + 1))] (SH T, c6) = some (none, (SH T, c7))) (h8 : cal 262 [vR 78, vI 0, vI (w32 ((w32 (r1 + 1)) - 1))] (SH T, c7) = some (none, (SH T, c8))) (h9 : cal 261 [vR 78, vI 0, vI 1, vI x1, vI (w32 (r1 + 1))] (SH T, c8) = some (none, (SH T, c9))) : cal 266 [vR 78, vI x1] (SH T, c) = ev 266 8 60 [vR 78, vI x1, vI (w32 (r1 + 1)), vI 0] [] (SH T, c9) := by
  refine (ev_eq _ _ _ _ _ _).trans ?_
  refine (el_call rfl h1).trans ?_
  refine (el_call rfl h2).trans ?_
  refine (if_pos h3).trans ?_
  refine (el_call rfl h4).trans ?_
  refine (if_pos h5).trans ?_
  refine (ev_eq _ _ _ _ _ _).trans ?_
  refine (if_neg h6).trans ?_
  refine (ev_eq _ _ _ _ _ _).trans ?_
  refine (el_call rfl h7).trans ?_
  refine (el_call rfl h8).trans ?_
  refine (el_call rfl h9).trans ?_
  rfl
theorem E_X12_paintNow_3 {T : List Shp} {c : Nat → Int → Int} {x1 : Int} {r1 : Int} {c2 : Nat → Int → Int} {r3 : Int} {c4 : Nat → Int → Int} {r5 : Int} {c6 : Nat → Int → Int} (h1 : cal 197 [vR 78] (SH T, c) = some (some (vI r1), (SH T, c2))) (h2 : cal 256 [vR 78, vI x1, vI (w32 (r1 + 1))] (SH T, c2) = some (some (vI r3), (SH T, c4))) (h3 : r3 = 0) (h4 : cal 265 [vR 78, vI x1, vI (w32 (r1 + 1))] (SH T, c4) = some (some (vI r5), (SH T, c6))) (h5 : ¬ r5 = 0) : cal 266 [vR 78, vI x1] (SH T, c) = some (some (vI (-3)), (SH T, c6)) := by
  refine (ev_eq _ _ _ _ _ _).trans ?_
  refine (el_call rfl h1).trans ?_
  refine (el_call rfl h2).trans ?_
  refine (if_pos h3).trans ?_
  refine (el_call rfl h4).trans ?_
  refine (if_neg h5).trans ?_
  refine (ev_eq _ _ _ _ _ _).trans ?_
  rfl
theorem E_X12_paintNow_4 {T : List Shp} {c : Nat → Int → Int} {x1 : Int} {r1 : Int} {c2 : Nat → Int → Int} {r3 : Int} {c4 : Nat → Int → Int} (h1 : cal 197 [vR 78] (SH T, c) = some (some (vI r1), (SH T, c2))) (h2 : cal 256 [vR 78, vI x1, vI (w32 (r1 + 1))] (SH T, c2) = some (some (vI r3), (SH T, c4))) (h3 : ¬ r3 = 0) : cal 266 [vR 78, vI x1] (SH T, c) = some (some (vI (-3)), (SH T, c4)) := by
  refine (ev_eq _ _ _ _ _ _).trans ?_
  refine (el_call rfl h1).trans ?_
  refine (el_call rfl h2).trans ?_
  refine (if_neg h3).trans ?_
  refine (ev_eq _ _ _ _ _ _).trans ?_
  rfl
theorem B_X12_paintNow_60_1 {T : List Shp} {c : Nat → Int → Int} {x1 x2 x3 : Int} (h1 : x3 < 12) (h2 : 0 ≤ (w32 (12 + x3)) ∧ (w32 (12 + x3)) < 600) (h3 : 0 ≤ (w32 ((w32 (12 + (w32 (12 * x2)))) + x3)) ∧ (w32 ((w32 (12 + (w32 (12 * x2)))) + x3)) < 5780) : ev 266 8 60 [vR 78, vI x1, vI x2, vI x3] [] (SH T, c) = ev 266 8 60 [vR 78, vI x1, vI x2, vI (w32 (x3 + 1))] [] (SH T, (up c 79 (w32 ((w32 (12 + (w32 (12 * x2)))) + x3)) (c 96 (w32 (12 + x3))))) := by
  refine (ev_eq _ _ _ _ _ _).trans ?_
  refine (if_pos h1).trans ?_
  refine (if_pos h2).trans ?_
  refine (if_pos h3).trans ?_
  rfl
theorem B_X12_paintNow_60_2 {T : List Shp} {c : Nat → Int → Int} {x1 x2 x3 : Int} {r1 : Int} {c2 : Nat → Int → Int} (h1 : ¬ x3 < 12) (h2 : 0 ≤ (w32 (216 + x2)) ∧ (w32 (216 + x2)) < 5780) (h3 : cal 263 [vR 78, vI 1, vI x2] (SH T, (up (up c 79 (w32 (216 + x2)) x1) 79 4 x2)) = some (some (vI r1), (SH T, c2))) : ev 266 8 60 [vR 78, vI x1, vI x2, vI x3] [] (SH T, c) = some (some (vI r1), (SH T, c2)) := by
  refine (ev_eq _ _ _ _ _ _).trans ?_
  refine (if_neg h1).trans ?_
  refine (ev_eq _ _ _ _ _ _).trans ?_
  refine (if_pos h2).trans ?_
  refine (el_call rfl h3).trans ?_
  rfl
theorem E_X12_paint_1 {T : List Shp} {c : Nat → Int → Int} {x1 : Int} {r1 : Int} {c2 : Nat → Int → Int} {r3 : Int} {c4 : Nat → Int → Int} (h1 : cal 199 [vR 78, vI x1] (SH T, (up c 77 0 0)) = some (some (vI r1), (SH T, c2))) (h2 : r1 = 0) (h3 : cal 190 [vR 78, vI (-2)] (SH T, c2) = some (some (vI r3), (SH T, c4))) : cal 267 [vR 78, vI x1] (SH T, c) = some (some (vI r3), (SH T, c4)) := by
  refine (ev_eq _ _ _ _ _ _).trans ?_
  refine (el_call rfl h1).trans ?_
  refine (if_pos h2).trans ?_
  refine (ev_eq _ _ _ _ _ _).trans ?_
  refine (el_call rfl h3).trans ?_
  rfl
theorem E_X12_paint_2 {T : List Shp} {c : Nat → Int → Int} {x1 : Int} {r1 : Int} {c2 : Nat → Int → Int} {r3 : Int} {c4 : Nat → Int → Int} {r5 : Int} {c6 : Nat → Int → Int} (h1 : cal 199 [vR 78, vI x1] (SH T, (up c 77 0 0)) = some (some (vI r1), (SH T, c2))) (h2 : ¬ r1 = 0) (h3 : cal 266 [vR 78, vI x1] (SH T, c2) = some (some (vI r3), (SH T, c4))) (h4 : cal 190 [vR 78, vI r3] (SH T, c4) = some (some (vI r5), (SH T, c6))) : cal 267 [vR 78, vI x1] (SH T, c) = some (some (vI r5), (SH T, c6)) := by
  refine (ev_eq _ _ _ _ _ _).trans ?_
  refine (el_call rfl h1).trans ?_
  refine (if_neg h2).trans ?_
  refine (el_call rfl h3).trans ?_
  refine (el_call rfl h4).trans ?_
  rfl
theorem E_X12_scrape_1 {T : List Shp} {c : Nat → Int → Int} {r1 : Int} {c2 : Nat → Int → Int} {r3 : Int} {c4 : Nat → Int → Int} (h1 : cal 197 [vR 78] (SH T, (up c 77 0 0)) = some (some (vI r1), (SH T, c2))) (h2 : r1 = 0) (h3 : cal 190 [vR 78, vI (-3)] (SH T, c2) = some (some (vI r3), (SH T, c4))) : cal 268 [vR 78] (SH T, c) = some (some (vI r3), (SH T, c4)) := by
  refine (ev_eq _ _ _ _ _ _).trans ?_
  refine (el_call rfl h1).trans ?_
  refine (if_pos h2).trans ?_
  refine (el_call rfl h3).trans ?_
  rfl
theorem E_X12_scrape_2 {T : List Shp} {c : Nat → Int → Int} {r1 : Int} {c2 : Nat → Int → Int} {r3 : Int} {c4 : Nat → Int → Int} {r5 : Int} {c6 : Nat → Int → Int} (h1 : cal 197 [vR 78] (SH T, (up c 77 0 0)) = some (some (vI r1), (SH T, c2))) (h2 : ¬ r1 = 0) (h3 : cal 197 [vR 78] (SH T, (up c2 79 4 (w32 ((c2 79 4) - 1)))) = some (some (vI r3), (SH T, c4))) (h4 : 0 ≤ (w32 ((w32 (216 + r3)) + 1)) ∧ (w32 ((w32 (216 + r3)) + 1)) < 5780) (h5 : cal 190 [vR 78, vI (c4 79 (w32 ((w32 (216 + r3)) + 1)))] (SH T, c4) = some (some (vI r5), (SH T, c6))) : cal 268 [vR 78] (SH T, c) = some (some (vI r5), (SH T, c6)) := by
  refine (ev_eq _ _ _ _ _ _).trans ?_
  refine (el_call rfl h1).trans ?_
  refine (if_neg h2).trans ?_
  refine (ev_eq _ _ _ _ _ _).trans ?_
  refine (el_call rfl h3).trans ?_
  refine (if_pos h4).trans ?_
  refine (el_call rfl h5).trans ?_
  rfl
theorem E_X12_tone_1 {T : List Shp} {c : Nat → Int → Int} {x1 x2 : Int} {r1 : Int} {c2 : Nat → Int → Int} (h1 : cal 198 [vR 78, vI x1] (SH T, (up c 77 0 0)) = some (some (vI r1), (SH T, c2))) (h2 : r1 = 0) : cal 269 [vR 78, vI x1, vI x2] (SH T, c) = some (some (vI (-1)), (SH T, c2)) := by
  refine (ev_eq _ _ _ _ _ _).trans ?_
  refine (el_call rfl h1).trans ?_
  refine (if_pos h2).trans ?_
  refine (ev_eq _ _ _ _ _ _).trans ?_
  rfl
theorem E_X12_tone_2 {T : List Shp} {c : Nat → Int → Int} {x1 x2 : Int} {r1 : Int} {c2 : Nat → Int → Int} {r3 : Int} {c4 : Nat → Int → Int} (h1 : cal 198 [vR 78, vI x1] (SH T, (up c 77 0 0)) = some (some (vI r1), (SH T, c2))) (h2 : ¬ r1 = 0) (h3 : cal 194 [vI x2] (SH T, c2) = some (some (vI r3), (SH T, c4))) (h4 : r3 = 0) : cal 269 [vR 78, vI x1, vI x2] (SH T, c) = some (some (vI (-1)), (SH T, c4)) := by
  refine (ev_eq _ _ _ _ _ _).trans ?_
  refine (el_call rfl h1).trans ?_
  refine (if_neg h2).trans ?_
  refine (el_call rfl h3).trans ?_
  refine (if_pos h4).trans ?_
  refine (ev_eq _ _ _ _ _ _).trans ?_
  rfl
theorem E_X12_tone_3 {T : List Shp} {c : Nat → Int → Int} {x1 x2 : Int} {r1 : Int} {c2 : Nat → Int → Int} {r3 : Int} {c4 : Nat → Int → Int} {r5 : Int} {c6 : Nat → Int → Int} (h1 : cal 198 [vR 78, vI x1] (SH T, (up c 77 0 0)) = some (some (vI r1), (SH T, c2))) (h2 : ¬ r1 = 0) (h3 : cal 194 [vI x2] (SH T, c2) = some (some (vI r3), (SH T, c4))) (h4 : ¬ r3 = 0) (h5 : cal 202 [vR 78, vI x1, vI x2] (SH T, c4) = some (some (vI r5), (SH T, c6))) : cal 269 [vR 78, vI x1, vI x2] (SH T, c) = some (some (vI r5), (SH T, c6)) := by
  refine (ev_eq _ _ _ _ _ _).trans ?_
  refine (el_call rfl h1).trans ?_
  refine (if_neg h2).trans ?_
  refine (el_call rfl h3).trans ?_
  refine (if_neg h4).trans ?_
  refine (el_call rfl h5).trans ?_
  rfl
theorem E_X12_tooFar {T : List Shp} {c : Nat → Int → Int} {x1 x2 : Int}  : cal 270 [vR 78, vI x1, vI x2] (SH T, c) = ev 270 7 2 [vR 78, vI x1, vI x2, vI 0] [] (SH T, c) := by
  refine (ev_eq _ _ _ _ _ _).trans ?_
  rfl
theorem B_X12_tooFar_2_1 {T : List Shp} {c : Nat → Int → Int} {x1 x2 x3 : Int} {r1 : Int} {c2 : Nat → Int → Int} {r3 : Int} {c4 : Nat → Int → Int} (h1 : x3 < 12) (h2 : 0 ≤ (w32 ((w32 (12 * x1)) + x3)) ∧ (w32 ((w32 (12 * x1)) + x3)) < 600) (h3 : 0 ≤ (w32 ((w32 (12 * x2)) + x3)) ∧ (w32 ((w32 (12 * x2)) + x3)) < 1200) (h4 : cal 188 [vI (w32 ((c 96 (w32 ((w32 (12 * x1)) + x3))) - (c 95 (w32 ((w32 (12 * x2)) + x3)))))] (SH T, c) = some (some (vI r1), (SH T, c2))) (h5 : cal 253 [vR 78, vI x3, vI x2] (SH T, c2) = some (some (vI r3), (SH T, c4))) (h6 : r3 < r1) : ev 270 7 2 [vR 78, vI x1, vI x2, vI x3] [] (SH T, c) = some (some (vI x3), (SH T, c4)) := by
  refine (ev_eq _ _ _ _ _ _).trans ?_
  refine (if_pos h1).trans ?_
  refine (if_pos h2).trans ?_
  refine (if_pos h3).trans ?_
  refine (el_call rfl h4).trans ?_
  refine (el_call rfl h5).trans ?_
  refine (if_pos h6).trans ?_
  rfl
theorem B_X12_tooFar_2_2 {T : List Shp} {c : Nat → Int → Int} {x1 x2 x3 : Int} {r1 : Int} {c2 : Nat → Int → Int} {r3 : Int} {c4 : Nat → Int → Int} (h1 : x3 < 12) (h2 : 0 ≤ (w32 ((w32 (12 * x1)) + x3)) ∧ (w32 ((w32 (12 * x1)) + x3)) < 600) (h3 : 0 ≤ (w32 ((w32 (12 * x2)) + x3)) ∧ (w32 ((w32 (12 * x2)) + x3)) < 1200) (h4 : cal 188 [vI (w32 ((c 96 (w32 ((w32 (12 * x1)) + x3))) - (c 95 (w32 ((w32 (12 * x2)) + x3)))))] (SH T, c) = some (some (vI r1), (SH T, c2))) (h5 : cal 253 [vR 78, vI x3, vI x2] (SH T, c2) = some (some (vI r3), (SH T, c4))) (h6 : ¬ r3 < r1) : ev 270 7 2 [vR 78, vI x1, vI x2, vI x3] [] (SH T, c) = ev 270 7 2 [vR 78, vI x1, vI x2, vI (w32 (x3 + 1))] [] (SH T, c4) := by
  refine (ev_eq _ _ _ _ _ _).trans ?_
  refine (if_pos h1).trans ?_
  refine (if_pos h2).trans ?_
  refine (if_pos h3).trans ?_
  refine (el_call rfl h4).trans ?_
  refine (el_call rfl h5).trans ?_
  refine (if_neg h6).trans ?_
  refine (ev_eq _ _ _ _ _ _).trans ?_
  rfl
theorem B_X12_tooFar_2_3 {T : List Shp} {c : Nat → Int → Int} {x1 x2 x3 : Int} (h1 : ¬ x3 < 12) : ev 270 7 2 [vR 78, vI x1, vI x2, vI x3] [] (SH T, c) = some (some (vI (-1)), (SH T, c)) := by
  refine (ev_eq _ _ _ _ _ _).trans ?_
  refine (if_neg h1).trans ?_
  refine (ev_eq _ _ _ _ _ _).trans ?_
  rfl
theorem E_X12_tooFarIn {T : List Shp} {c : Nat → Int → Int} {x1 : Int} {c1 : Nat → Int → Int} {c2 : Nat → Int → Int} {r3 : Int} {c4 : Nat → Int → Int} (h1 : cal 259 [vR 78, vI x1] (SH T, c) = some (none, (SH T, c1))) (h2 : cal 262 [vR 78, vI 0, vI x1] (SH T, c1) = some (none, (SH T, c2))) (h3 : cal 270 [vR 78, vI 0, vI x1] (SH T, c2) = some (some (vI r3), (SH T, c4))) : cal 271 [vR 78, vI x1] (SH T, c) = some (some (vI r3), (SH T, c4)) := by
  refine (ev_eq _ _ _ _ _ _).trans ?_
  refine (el_call rfl h1).trans ?_
  refine (el_call rfl h2).trans ?_
  refine (el_call rfl h3).trans ?_
  rfl
theorem E_X12_layer_1 {T : List Shp} {c : Nat → Int → Int} {x1 x2 : Int} {r1 : Int} {c2 : Nat → Int → Int} (h1 : cal 198 [vR 78, vI x1] (SH T, (up c 77 0 0)) = some (some (vI r1), (SH T, c2))) (h2 : r1 = 0) : cal 272 [vR 78, vI x1, vI x2] (SH T, c) = some (some (vI (-1)), (SH T, c2)) := by
  refine (ev_eq _ _ _ _ _ _).trans ?_
  refine (el_call rfl h1).trans ?_
  refine (if_pos h2).trans ?_
  refine (ev_eq _ _ _ _ _ _).trans ?_
  rfl
theorem E_X12_layer_2 {T : List Shp} {c : Nat → Int → Int} {x1 x2 : Int} {r1 : Int} {c2 : Nat → Int → Int} {r3 : Int} {c4 : Nat → Int → Int} (h1 : cal 198 [vR 78, vI x1] (SH T, (up c 77 0 0)) = some (some (vI r1), (SH T, c2))) (h2 : ¬ r1 = 0) (h3 : cal 186 [vL x2, vL 0, vL 3] (SH T, c2) = some (some (vI r3), (SH T, c4))) (h4 : r3 = 0) : cal 272 [vR 78, vI x1, vI x2] (SH T, c) = some (some (vI (-1)), (SH T, c4)) := by
  refine (ev_eq _ _ _ _ _ _).trans ?_
  refine (el_call rfl h1).trans ?_
  refine (if_neg h2).trans ?_
  refine (el_call rfl h3).trans ?_
  refine (if_pos h4).trans ?_
  refine (ev_eq _ _ _ _ _ _).trans ?_
  rfl
theorem E_X12_layer_3 {T : List Shp} {c : Nat → Int → Int} {x1 x2 : Int} {r1 : Int} {c2 : Nat → Int → Int} {r3 : Int} {c4 : Nat → Int → Int} {r5 : Int} {c6 : Nat → Int → Int} (h1 : cal 198 [vR 78, vI x1] (SH T, (up c 77 0 0)) = some (some (vI r1), (SH T, c2))) (h2 : ¬ r1 = 0) (h3 : cal 186 [vL x2, vL 0, vL 3] (SH T, c2) = some (some (vI r3), (SH T, c4))) (h4 : ¬ r3 = 0) (h5 : x2 = 0) (h6 : cal 264 [vR 78, vI x1] (SH T, c4) = some (some (vI r5), (SH T, c6))) : cal 272 [vR 78, vI x1, vI x2] (SH T, c) = some (some (vI r5), (SH T, c6)) := by
  refine (ev_eq _ _ _ _ _ _).trans ?_
  refine (el_call rfl h1).trans ?_
  refine (if_neg h2).trans ?_
  refine (el_call rfl h3).trans ?_
  refine (if_neg h4).trans ?_
  refine (ev_eq _ _ _ _ _ _).trans ?_
  refine (if_pos h5).trans ?_
  refine (ev_eq _ _ _ _ _ _).trans ?_
  refine (el_call rfl h6).trans ?_
  rfl
theorem E_X12_layer_4 {T : List Shp} {c : Nat → Int → Int} {x1 x2 : Int} {r1 : Int} {c2 : Nat → Int → Int} {r3 : Int} {c4 : Nat → Int → Int} (h1 : cal 198 [vR 78, vI x1] (SH T, (up c 77 0 0)) = some (some (vI r1), (SH T, c2))) (h2 : ¬ r1 = 0) (h3 : cal 186 [vL x2, vL 0, vL 3] (SH T, c2) = some (some (vI r3), (SH T, c4))) (h4 : ¬ r3 = 0) (h5 : x2 = 1) (h6 : x1 = 0) : cal 272 [vR 78, vI x1, vI x2] (SH T, c) = some (some (vI (-1)), (SH T, c4)) := by
  refine (ev_eq _ _ _ _ _ _).trans ?_
  refine (el_call rfl h1).trans ?_
  refine (if_neg h2).trans ?_
  refine (el_call rfl h3).trans ?_
  refine (if_neg h4).trans ?_
  refine (ev_eq _ _ _ _ _ _).trans ?_
  refine (if_neg (by omega)).trans ?_
  refine (if_pos h5).trans ?_
  refine (ev_eq _ _ _ _ _ _).trans ?_
  refine (if_pos h6).trans ?_
  rfl
theorem E_X12_layer_5 {T : List Shp} {c : Nat → Int → Int} {x1 x2 : Int} {r1 : Int} {c2 : Nat → Int → Int} {r3 : Int} {c4 : Nat → Int → Int} (h1 : cal 198 [vR 78, vI x1] (SH T, (up c 77 0 0)) = some (some (vI r1), (SH T, c2))) (h2 : ¬ r1 = 0) (h3 : cal 186 [vL x2, vL 0, vL 3] (SH T, c2) = some (some (vI r3), (SH T, c4))) (h4 : ¬ r3 = 0) (h5 : x2 = 1) (h6 : ¬ x1 = 0) (h7 : 0 ≤ (w32 (216 + x1)) ∧ (w32 (216 + x1)) < 5780) : cal 272 [vR 78, vI x1, vI x2] (SH T, c) = some (some (vI (c4 79 (w32 (216 + x1)))), (SH T, c4)) := by
  refine (ev_eq _ _ _ _ _ _).trans ?_
  refine (el_call rfl h1).trans ?_
  refine (if_neg h2).trans ?_
  refine (el_call rfl h3).trans ?_
  refine (if_neg h4).trans ?_
  refine (ev_eq _ _ _ _ _ _).trans ?_
  refine (if_neg (by omega)).trans ?_
  refine (if_pos h5).trans ?_
  refine (ev_eq _ _ _ _ _ _).trans ?_
  refine (if_neg h6).trans ?_
  refine (ev_eq _ _ _ _ _ _).trans ?_
  refine (if_pos h7).trans ?_
  rfl
theorem E_X12_layer_6 {T : List Shp} {c : Nat → Int → Int} {x1 x2 : Int} {r1 : Int} {c2 : Nat → Int → Int} {r3 : Int} {c4 : Nat → Int → Int} (h1 : cal 198 [vR 78, vI x1] (SH T, (up c 77 0 0)) = some (some (vI r1), (SH T, c2))) (h2 : ¬ r1 = 0) (h3 : cal 186 [vL x2, vL 0, vL 3] (SH T, c2) = some (some (vI r3), (SH T, c4))) (h4 : ¬ r3 = 0) (h5 : x2 = 2) (h6 : x1 = 0) : cal 272 [vR 78, vI x1, vI x2] (SH T, c) = some (some (vI 0), (SH T, c4)) := by
  refine (ev_eq _ _ _ _ _ _).trans ?_
  refine (el_call rfl h1).trans ?_
  refine (if_neg h2).trans ?_
  refine (el_call rfl h3).trans ?_
  refine (if_neg h4).trans ?_
  refine (ev_eq _ _ _ _ _ _).trans ?_
  refine (if_neg (by omega)).trans ?_
  refine (if_neg (by omega)).trans ?_
  refine (if_pos h5).trans ?_
  refine (ev_eq _ _ _ _ _ _).trans ?_
  refine (if_pos h6).trans ?_
  rfl
theorem E_X12_layer_7 {T : List Shp} {c : Nat → Int → Int} {x1 x2 : Int} {r1 : Int} {c2 : Nat → Int → Int} {r3 : Int} {c4 : Nat → Int → Int} {r5 : Int} {c6 : Nat → Int → Int} (h1 : cal 198 [vR 78, vI x1] (SH T, (up c 77 0 0)) = some (some (vI r1), (SH T, c2))) (h2 : ¬ r1 = 0) (h3 : cal 186 [vL x2, vL 0, vL 3] (SH T, c2) = some (some (vI r3), (SH T, c4))) (h4 : ¬ r3 = 0) (h5 : x2 = 2) (h6 : ¬ x1 = 0) (h7 : 0 ≤ (w32 (216 + x1)) ∧ (w32 (216 + x1)) < 5780) (h8 : cal 255 [vR 78, vI (c4 79 (w32 (216 + x1))), vI x1] (SH T, c4) = some (some (vI r5), (SH T, c6))) : cal 272 [vR 78, vI x1, vI x2] (SH T, c) = some (some (vI r5), (SH T, c6)) := by
  refine (ev_eq _ _ _ _ _ _).trans ?_
  refine (el_call rfl h1).trans ?_
  refine (if_neg h2).trans ?_
  refine (el_call rfl h3).trans ?_
  refine (if_neg h4).trans ?_
  refine (ev_eq _ _ _ _ _ _).trans ?_
  refine (if_neg (by omega)).trans ?_
  refine (if_neg (by omega)).trans ?_
  refine (if_pos h5).trans ?_
  refine (ev_eq _ _ _ _ _ _).trans ?_
  refine (if_neg h6).trans ?_
  refine (ev_eq _ _ _ _ _ _).trans ?_
  refine (if_pos h7).trans ?_
  refine (el_call rfl h8).trans ?_
  rfl
theorem E_X12_layer_8 {T : List Shp} {c : Nat → Int → Int} {x1 x2 : Int} {r1 : Int} {c2 : Nat → Int → Int} {r3 : Int} {c4 : Nat → Int → Int} {r5 : Int} {c6 : Nat → Int → Int} (h1 : cal 198 [vR 78, vI x1] (SH T, (up c 77 0 0)) = some (some (vI r1), (SH T, c2))) (h2 : ¬ r1 = 0) (h3 : cal 186 [vL x2, vL 0, vL 3] (SH T, c2) = some (some (vI r3), (SH T, c4))) (h4 : ¬ r3 = 0) (h5 : ¬ x2 = 0 ∧ ¬ x2 = 1 ∧ ¬ x2 = 2) (h6 : cal 271 [vR 78, vI x1] (SH T, c4) = some (some (vI r5), (SH T, c6))) : cal 272 [vR 78, vI x1, vI x2] (SH T, c) = some (some (vI r5), (SH T, c6)) := by
  refine (ev_eq _ _ _ _ _ _).trans ?_
  refine (el_call rfl h1).trans ?_
  refine (if_neg h2).trans ?_
  refine (el_call rfl h3).trans ?_
  refine (if_neg h4).trans ?_
  refine (ev_eq _ _ _ _ _ _).trans ?_
  refine (if_neg (h5.1)).trans ?_
  refine (if_neg (h5.2.1)).trans ?_
  refine (if_neg (h5.2.2)).trans ?_
  refine (ev_eq _ _ _ _ _ _).trans ?_
  refine (el_call rfl h6).trans ?_
  rfl
theorem E_X12_unlawful {T : List Shp} {c : Nat → Int → Int}  : cal 273 [vR 78] (SH T, c) = ev 273 9 7 [vR 78, vI 0] [] (SH T, (up c 77 0 0)) := by
  refine (ev_eq _ _ _ _ _ _).trans ?_
  rfl
theorem B_X12_unlawful_7_1 {T : List Shp} {c : Nat → Int → Int} {x1 : Int} {r1 : Int} {c2 : Nat → Int → Int} (h1 : cal 197 [vR 78] (SH T, c) = some (some (vI r1), (SH T, c2))) (h2 : r1 < x1) : ev 273 9 7 [vR 78, vI x1] [] (SH T, c) = some (some (vI (-1)), (SH T, c2)) := by
  refine (ev_eq _ _ _ _ _ _).trans ?_
  refine (el_call rfl h1).trans ?_
  refine (if_pos h2).trans ?_
  refine (ev_eq _ _ _ _ _ _).trans ?_
  rfl
theorem B_X12_unlawful_7_2 {T : List Shp} {c : Nat → Int → Int} {x1 : Int} {r1 : Int} {c2 : Nat → Int → Int} {r3 : Int} {c4 : Nat → Int → Int} (h1 : cal 197 [vR 78] (SH T, c) = some (some (vI r1), (SH T, c2))) (h2 : ¬ r1 < x1) (h3 : cal 271 [vR 78, vI x1] (SH T, c2) = some (some (vI r3), (SH T, c4))) (h4 : r3 = (-1)) : ev 273 9 7 [vR 78, vI x1] [] (SH T, c) = ev 273 9 7 [vR 78, vI (w32 (x1 + 1))] [] (SH T, c4) := by
  refine (ev_eq _ _ _ _ _ _).trans ?_
  refine (el_call rfl h1).trans ?_
  refine (if_neg h2).trans ?_
  refine (el_call rfl h3).trans ?_
  refine (if_pos h4).trans ?_
  refine (ev_eq _ _ _ _ _ _).trans ?_
  rfl
theorem B_X12_unlawful_7_3 {T : List Shp} {c : Nat → Int → Int} {x1 : Int} {r1 : Int} {c2 : Nat → Int → Int} {r3 : Int} {c4 : Nat → Int → Int} (h1 : cal 197 [vR 78] (SH T, c) = some (some (vI r1), (SH T, c2))) (h2 : ¬ r1 < x1) (h3 : cal 271 [vR 78, vI x1] (SH T, c2) = some (some (vI r3), (SH T, c4))) (h4 : ¬ r3 = (-1)) : ev 273 9 7 [vR 78, vI x1] [] (SH T, c) = some (some (vI x1), (SH T, c4)) := by
  refine (ev_eq _ _ _ _ _ _).trans ?_
  refine (el_call rfl h1).trans ?_
  refine (if_neg h2).trans ?_
  refine (el_call rfl h3).trans ?_
  refine (if_neg h4).trans ?_
  rfl
theorem E_X12_moneyBehind {T : List Shp} {c : Nat → Int → Int} {x1 : Int}  : cal 274 [vR 78, vI x1] (SH T, c) = ev 274 7 12 [vR 78, vI x1, vI (w32 ((c 79 10) * x1)), vI 1] [] (SH T, c) := by
  refine (ev_eq _ _ _ _ _ _).trans ?_
  rfl
theorem B_X12_moneyBehind_12_1 {T : List Shp} {c : Nat → Int → Int} {x1 x2 x3 : Int} (h1 : x1 < x3) : ev 274 7 12 [vR 78, vI x1, vI x2, vI x3] [] (SH T, c) = some (some (vI x2), (SH T, c)) := by
  refine (ev_eq _ _ _ _ _ _).trans ?_
  refine (if_pos h1).trans ?_
  refine (ev_eq _ _ _ _ _ _).trans ?_
  rfl
theorem B_X12_moneyBehind_12_2 {T : List Shp} {c : Nat → Int → Int} {x1 x2 x3 : Int} {r1 : Int} {c2 : Nat → Int → Int} (h1 : ¬ x1 < x3) (h2 : 0 ≤ (w32 (216 + x3)) ∧ (w32 (216 + x3)) < 5780) (h3 : cal 255 [vR 78, vI (c 79 (w32 (216 + x3))), vI x3] (SH T, c) = some (some (vI r1), (SH T, c2))) : ev 274 7 12 [vR 78, vI x1, vI x2, vI x3] [] (SH T, c) = ev 274 7 12 [vR 78, vI x1, vI (w32 (x2 - r1)), vI (w32 (x3 + 1))] [] (SH T, c2) := by
  refine (ev_eq _ _ _ _ _ _).trans ?_
  refine (if_neg h1).trans ?_
  refine (if_pos h2).trans ?_
  refine (el_call rfl h3).trans ?_
  rfl
theorem E_X12_money_1 {T : List Shp} {c : Nat → Int → Int} {x1 : Int} {r1 : Int} {c2 : Nat → Int → Int} (h1 : cal 198 [vR 78, vI x1] (SH T, (up c 77 0 0)) = some (some (vI r1), (SH T, c2))) (h2 : r1 = 0) : cal 275 [vR 78, vI x1] (SH T, c) = some (some (vI (-1000000)), (SH T, c2)) := by
  refine (ev_eq _ _ _ _ _ _).trans ?_
  refine (el_call rfl h1).trans ?_
  refine (if_pos h2).trans ?_
  refine (ev_eq _ _ _ _ _ _).trans ?_
  rfl
theorem E_X12_money_2 {T : List Shp} {c : Nat → Int → Int} {x1 : Int} {r1 : Int} {c2 : Nat → Int → Int} {r3 : Int} {c4 : Nat → Int → Int} (h1 : cal 198 [vR 78, vI x1] (SH T, (up c 77 0 0)) = some (some (vI r1), (SH T, c2))) (h2 : ¬ r1 = 0) (h3 : cal 274 [vR 78, vI x1] (SH T, c2) = some (some (vI r3), (SH T, c4))) : cal 275 [vR 78, vI x1] (SH T, c) = some (some (vI r3), (SH T, c4)) := by
  refine (ev_eq _ _ _ _ _ _).trans ?_
  refine (el_call rfl h1).trans ?_
  refine (if_neg h2).trans ?_
  refine (el_call rfl h3).trans ?_
  rfl
theorem E_X12_broke {T : List Shp} {c : Nat → Int → Int}  : cal 276 [vR 78] (SH T, c) = ev 276 8 7 [vR 78, vI 0] [] (SH T, (up c 77 0 0)) := by
  refine (ev_eq _ _ _ _ _ _).trans ?_
  rfl
theorem B_X12_broke_7_1 {T : List Shp} {c : Nat → Int → Int} {x1 : Int} {r1 : Int} {c2 : Nat → Int → Int} (h1 : cal 197 [vR 78] (SH T, c) = some (some (vI r1), (SH T, c2))) (h2 : r1 < x1) : ev 276 8 7 [vR 78, vI x1] [] (SH T, c) = some (some (vI (-1)), (SH T, c2)) := by
  refine (ev_eq _ _ _ _ _ _).trans ?_
  refine (el_call rfl h1).trans ?_
  refine (if_pos h2).trans ?_
  refine (ev_eq _ _ _ _ _ _).trans ?_
  rfl
theorem B_X12_broke_7_2 {T : List Shp} {c : Nat → Int → Int} {x1 : Int} {r1 : Int} {c2 : Nat → Int → Int} {r3 : Int} {c4 : Nat → Int → Int} (h1 : cal 197 [vR 78] (SH T, c) = some (some (vI r1), (SH T, c2))) (h2 : ¬ r1 < x1) (h3 : cal 274 [vR 78, vI x1] (SH T, c2) = some (some (vI r3), (SH T, c4))) (h4 : r3 < 0) : ev 276 8 7 [vR 78, vI x1] [] (SH T, c) = some (some (vI x1), (SH T, c4)) := by
  refine (ev_eq _ _ _ _ _ _).trans ?_
  refine (el_call rfl h1).trans ?_
  refine (if_neg h2).trans ?_
  refine (el_call rfl h3).trans ?_
  refine (if_pos h4).trans ?_
  rfl
theorem B_X12_broke_7_3 {T : List Shp} {c : Nat → Int → Int} {x1 : Int} {r1 : Int} {c2 : Nat → Int → Int} {r3 : Int} {c4 : Nat → Int → Int} (h1 : cal 197 [vR 78] (SH T, c) = some (some (vI r1), (SH T, c2))) (h2 : ¬ r1 < x1) (h3 : cal 274 [vR 78, vI x1] (SH T, c2) = some (some (vI r3), (SH T, c4))) (h4 : ¬ r3 < 0) : ev 276 8 7 [vR 78, vI x1] [] (SH T, c) = ev 276 8 7 [vR 78, vI (w32 (x1 + 1))] [] (SH T, c4) := by
  refine (ev_eq _ _ _ _ _ _).trans ?_
  refine (el_call rfl h1).trans ?_
  refine (if_neg h2).trans ?_
  refine (el_call rfl h3).trans ?_
  refine (if_neg h4).trans ?_
  refine (ev_eq _ _ _ _ _ _).trans ?_
  rfl
theorem E_X12_restsInRow {T : List Shp} {c : Nat → Int → Int} {x1 x2 : Int} {r1 : Int} {c2 : Nat → Int → Int} (h1 : cal 197 [vR 78] (SH T, c) = some (some (vI r1), (SH T, c2))) : cal 277 [vR 78, vI x1, vI x2] (SH T, c) = ev 277 2 15 [vR 78, vI x1, vI x2, vI (w32 ((w32 (r1 + 1)) + x2)), vI 0, vI 1] [] (SH T, c2) := by
  refine (ev_eq _ _ _ _ _ _).trans ?_
  refine (el_call rfl h1).trans ?_
  rfl
theorem B_X12_restsInRow_15_1 {T : List Shp} {c : Nat → Int → Int} {x1 x2 x3 x4 x5 : Int} (h1 : (c 79 11) < x5) (h2 : x4 = 0 ∨ x4 = 1) : ev 277 2 15 [vR 78, vI x1, vI x2, vI x3, vI x4, vI x5] [] (SH T, c) = some (some (vI x4), (SH T, c)) := by
  refine (ev_eq _ _ _ _ _ _).trans ?_
  refine (if_pos h1).trans ?_
  refine (ev_eq _ _ _ _ _ _).trans ?_
  refine (if_pos h2).trans ?_
  rfl
theorem B_X12_restsInRow_15_2 {T : List Shp} {c : Nat → Int → Int} {x1 x2 x3 x4 x5 : Int} {r1 : Int} {c2 : Nat → Int → Int} {r3 : Int} {c4 : Nat → Int → Int} (h1 : ¬ (c 79 11) < x5) (h2 : x4 = 0) (h3 : (w32 (x2 - x5)) < 0) (h4 : cal 197 [vR 78] (SH T, c) = some (some (vI r1), (SH T, c2))) (h5 : cal 186 [vL (w32 (x3 - x5)), vL 1, vL r1] (SH T, c2) = some (some (vI r3), (SH T, c4))) (h6 : r3 = 0) : ev 277 2 15 [vR 78, vI x1, vI x2, vI x3, vI x4, vI x5] [] (SH T, c) = ev 277 2 93 [vR 78, vI x1, vI x2, vI x3, vU, vI x5] [] (SH T, c4) := by
  refine (ev_eq _ _ _ _ _ _).trans ?_
  refine (if_neg h1).trans ?_
  refine (if_pos h2).trans ?_
  refine (if_pos h3).trans ?_
  refine (ev_eq _ _ _ _ _ _).trans ?_
  refine (el_call rfl h4).trans ?_
  refine (el_call rfl h5).trans ?_
  refine (if_pos h6).trans ?_
  rfl
theorem B_X12_restsInRow_15_3 {T : List Shp} {c : Nat → Int → Int} {x1 x2 x3 x4 x5 : Int} {r1 : Int} {c2 : Nat → Int → Int} {r3 : Int} {c4 : Nat → Int → Int} (h1 : ¬ (c 79 11) < x5) (h2 : x4 = 0) (h3 : (w32 (x2 - x5)) < 0) (h4 : cal 197 [vR 78] (SH T, c) = some (some (vI r1), (SH T, c2))) (h5 : cal 186 [vL (w32 (x3 - x5)), vL 1, vL r1] (SH T, c2) = some (some (vI r3), (SH T, c4))) (h6 : ¬ r3 = 0) (h7 : 0 ≤ (w32 ((w32 (216 + x3)) - x5)) ∧ (w32 ((w32 (216 + x3)) - x5)) < 5780) (h8 : (c4 79 (w32 ((w32 (216 + x3)) - x5))) = x1) : ev 277 2 15 [vR 78, vI x1, vI x2, vI x3, vI x4, vI x5] [] (SH T, c) = ev 277 2 89 [vR 78, vI x1, vI x2, vI x3, vU, vI x5] [] (SH T, c4) := by
  refine (ev_eq _ _ _ _ _ _).trans ?_
  refine (if_neg h1).trans ?_
  refine (if_pos h2).trans ?_
  refine (if_pos h3).trans ?_
  refine (ev_eq _ _ _ _ _ _).trans ?_
  refine (el_call rfl h4).trans ?_
  refine (el_call rfl h5).trans ?_
  refine (if_neg h6).trans ?_
  refine (if_pos h7).trans ?_
  refine (if_pos h8).trans ?_
  rfl
theorem B_X12_restsInRow_15_4 {T : List Shp} {c : Nat → Int → Int} {x1 x2 x3 x4 x5 : Int} {r1 : Int} {c2 : Nat → Int → Int} {r3 : Int} {c4 : Nat → Int → Int} (h1 : ¬ (c 79 11) < x5) (h2 : x4 = 0) (h3 : (w32 (x2 - x5)) < 0) (h4 : cal 197 [vR 78] (SH T, c) = some (some (vI r1), (SH T, c2))) (h5 : cal 186 [vL (w32 (x3 - x5)), vL 1, vL r1] (SH T, c2) = some (some (vI r3), (SH T, c4))) (h6 : ¬ r3 = 0) (h7 : 0 ≤ (w32 ((w32 (216 + x3)) - x5)) ∧ (w32 ((w32 (216 + x3)) - x5)) < 5780) (h8 : ¬ (c4 79 (w32 ((w32 (216 + x3)) - x5))) = x1) : ev 277 2 15 [vR 78, vI x1, vI x2, vI x3, vI x4, vI x5] [] (SH T, c) = ev 277 2 93 [vR 78, vI x1, vI x2, vI x3, vU, vI x5] [] (SH T, c4) := by
  refine (ev_eq _ _ _ _ _ _).trans ?_
  refine (if_neg h1).trans ?_
  refine (if_pos h2).trans ?_
  refine (if_pos h3).trans ?_
  refine (ev_eq _ _ _ _ _ _).trans ?_
  refine (el_call rfl h4).trans ?_
  refine (el_call rfl h5).trans ?_
  refine (if_neg h6).trans ?_
  refine (if_pos h7).trans ?_
  refine (if_neg h8).trans ?_
  rfl
theorem B_X12_restsInRow_15_5 {T : List Shp} {c : Nat → Int → Int} {x1 x2 x3 x4 x5 : Int} (h1 : ¬ (c 79 11) < x5) (h2 : x4 = 0) (h3 : ¬ (w32 (x2 - x5)) < 0) (h4 : 0 ≤ (w32 (x2 - x5)) ∧ (w32 (x2 - x5)) < 5) (h5 : (c 97 (w32 (x2 - x5))) = x1) : ev 277 2 15 [vR 78, vI x1, vI x2, vI x3, vI x4, vI x5] [] (SH T, c) = ev 277 2 89 [vR 78, vI x1, vI x2, vI x3, vU, vI x5] [] (SH T, c) := by
  refine (ev_eq _ _ _ _ _ _).trans ?_
  refine (if_neg h1).trans ?_
  refine (if_pos h2).trans ?_
  refine (if_neg h3).trans ?_
  refine (if_pos h4).trans ?_
  refine (if_pos h5).trans ?_
  rfl
theorem B_X12_restsInRow_15_6 {T : List Shp} {c : Nat → Int → Int} {x1 x2 x3 x4 x5 : Int} (h1 : ¬ (c 79 11) < x5) (h2 : x4 = 0) (h3 : ¬ (w32 (x2 - x5)) < 0) (h4 : 0 ≤ (w32 (x2 - x5)) ∧ (w32 (x2 - x5)) < 5) (h5 : ¬ (c 97 (w32 (x2 - x5))) = x1) : ev 277 2 15 [vR 78, vI x1, vI x2, vI x3, vI x4, vI x5] [] (SH T, c) = ev 277 2 93 [vR 78, vI x1, vI x2, vI x3, vU, vI x5] [] (SH T, c) := by
  refine (ev_eq _ _ _ _ _ _).trans ?_
  refine (if_neg h1).trans ?_
  refine (if_pos h2).trans ?_
  refine (if_neg h3).trans ?_
  refine (if_pos h4).trans ?_
  refine (if_neg h5).trans ?_
  rfl
theorem B_X12_restsInRow_15_7 {T : List Shp} {c : Nat → Int → Int} {x1 x2 x3 x4 x5 : Int} (h1 : ¬ (c 79 11) < x5) (h2 : ¬ x4 = 0) : ev 277 2 15 [vR 78, vI x1, vI x2, vI x3, vI x4, vI x5] [] (SH T, c) = ev 277 2 89 [vR 78, vI x1, vI x2, vI x3, vU, vI x5] [] (SH T, c) := by
  refine (ev_eq _ _ _ _ _ _).trans ?_
  refine (if_neg h1).trans ?_
  refine (if_neg h2).trans ?_
  rfl
theorem B_X12_restsInRow_89 {T : List Shp} {c : Nat → Int → Int} {x1 x2 x3 x5 : Int}  : ev 277 2 89 [vR 78, vI x1, vI x2, vI x3, vU, vI x5] [] (SH T, c) = ev 277 2 15 [vR 78, vI x1, vI x2, vI x3, vI 1, vI (w32 (x5 + 1))] [] (SH T, c) := by
  refine (ev_eq _ _ _ _ _ _).trans ?_
  rfl
theorem B_X12_restsInRow_93 {T : List Shp} {c : Nat → Int → Int} {x1 x2 x3 x5 : Int}  : ev 277 2 93 [vR 78, vI x1, vI x2, vI x3, vU, vI x5] [] (SH T, c) = ev 277 2 15 [vR 78, vI x1, vI x2, vI x3, vI 0, vI (w32 (x5 + 1))] [] (SH T, c) := by
  refine (ev_eq _ _ _ _ _ _).trans ?_
  rfl
theorem E_X12_goThrough {T : List Shp} {c : Nat → Int → Int} {x1 x2 : Int} {r1 : Int} {c2 : Nat → Int → Int} (h1 : cal 197 [vR 78] (SH T, (up c 77 46 0)) = some (some (vI r1), (SH T, c2))) : cal 278 [vR 78, vI x1, vI x2] (SH T, c) = ev 278 9 13 [vR 78, vI x1, vI x2, vI r1, vI 0, vU] [] (SH T, c2) := by
  refine (ev_eq _ _ _ _ _ _).trans ?_
  refine (el_call rfl h1).trans ?_
  rfl
theorem B_X12_goThrough_13_1 {T : List Shp} {c : Nat → Int → Int} {x1 x2 x3 x4 : Int} {c1 : Nat → Int → Int} {c2 : Nat → Int → Int} (h1 : x2 < x4) (h2 : cal 262 [vR 78, vI 0, vI x3] (SH T, c) = some (none, (SH T, c1))) (h3 : x2 = 0) (h4 : cal 279 [vR 78, vI x1, vI 0] (SH T, c1) = some (none, (SH T, c2))) : ev 278 9 13 [vR 78, vI x1, vI x2, vI x3, vI x4, vU] [] (SH T, c) = some (none, (SH T, c2)) := by
  refine (ev_eq _ _ _ _ _ _).trans ?_
  refine (if_pos h1).trans ?_
  refine (ev_eq _ _ _ _ _ _).trans ?_
  refine (el_call rfl h2).trans ?_
  refine (if_pos h3).trans ?_
  refine (el_call rfl h4).trans ?_
  rfl
theorem B_X12_goThrough_13_2 {T : List Shp} {c : Nat → Int → Int} {x1 x2 x3 x4 : Int} {c1 : Nat → Int → Int} (h1 : x2 < x4) (h2 : cal 262 [vR 78, vI 0, vI x3] (SH T, c) = some (none, (SH T, c1))) (h3 : ¬ x2 = 0) : ev 278 9 13 [vR 78, vI x1, vI x2, vI x3, vI x4, vU] [] (SH T, c) = ev 278 9 134 [vR 78, vI x1, vI x2, vI x3, vI 0, vU] [] (SH T, (up c1 97 0 (-1))) := by
  refine (ev_eq _ _ _ _ _ _).trans ?_
  refine (if_pos h1).trans ?_
  refine (ev_eq _ _ _ _ _ _).trans ?_
  refine (el_call rfl h2).trans ?_
  refine (if_neg h3).trans ?_
  refine (ev_eq _ _ _ _ _ _).trans ?_
  rfl
theorem B_X12_goThrough_13_3 {T : List Shp} {c : Nat → Int → Int} {x1 x2 x3 x4 : Int} {c1 : Nat → Int → Int} (h1 : ¬ x2 < x4) (h2 : cal 259 [vR 78, vI (w32 (x3 + x4))] (SH T, c) = some (none, (SH T, c1))) : ev 278 9 13 [vR 78, vI x1, vI x2, vI x3, vI x4, vU] [] (SH T, c) = ev 278 9 30 [vR 78, vI x1, vI x2, vI x3, vI x4, vI 0] [] (SH T, c1) := by
  refine (ev_eq _ _ _ _ _ _).trans ?_
  refine (if_neg h1).trans ?_
  refine (el_call rfl h2).trans ?_
  rfl
theorem B_X12_goThrough_30_1 {T : List Shp} {c : Nat → Int → Int} {x1 x2 x3 x4 x5 : Int} {r1 : Int} {c2 : Nat → Int → Int} {r3 : Int} {c4 : Nat → Int → Int} (h1 : x5 < (c 79 0)) (h2 : x4 < x2) (h3 : cal 255 [vR 78, vI x5, vI (w32 ((w32 (x3 + x4)) + 1))] (SH T, c) = some (some (vI r1), (SH T, c2))) (h4 : 0 ≤ (w32 ((w32 (5 * x4)) + x5)) ∧ (w32 ((w32 (5 * x4)) + x5)) < 25) (h5 : cal 256 [vR 78, vI x5, vI (w32 ((w32 (x3 + x4)) + 1))] (SH T, (up c2 99 (w32 ((w32 (5 * x4)) + x5)) r1)) = some (some (vI r3), (SH T, c4))) (h6 : 0 ≤ (w32 ((w32 (5 * x4)) + x5)) ∧ (w32 ((w32 (5 * x4)) + x5)) < 25) (h7 : r3 = 0 ∨ r3 = 1) : ev 278 9 30 [vR 78, vI x1, vI x2, vI x3, vI x4, vI x5] [] (SH T, c) = ev 278 9 30 [vR 78, vI x1, vI x2, vI x3, vI x4, vI (w32 (x5 + 1))] [] (SH T, (up c4 100 (w32 ((w32 (5 * x4)) + x5)) r3)) := by
  refine (ev_eq _ _ _ _ _ _).trans ?_
  refine (if_pos h1).trans ?_
  refine (if_pos h2).trans ?_
  refine (el_call rfl h3).trans ?_
  refine (if_pos h4).trans ?_
  refine (el_call rfl h5).trans ?_
  refine (if_pos h6).trans ?_
  refine (if_pos h7).trans ?_
  rfl
theorem B_X12_goThrough_30_2 {T : List Shp} {c : Nat → Int → Int} {x1 x2 x3 x4 x5 : Int} (h1 : x5 < (c 79 0)) (h2 : ¬ x4 < x2) : ev 278 9 30 [vR 78, vI x1, vI x2, vI x3, vI x4, vI x5] [] (SH T, c) = ev 278 9 101 [vR 78, vI x1, vI x2, vI x3, vI x4, vU] [] (SH T, c) := by
  refine (ev_eq _ _ _ _ _ _).trans ?_
  refine (if_pos h1).trans ?_
  refine (if_neg h2).trans ?_
  rfl
theorem B_X12_goThrough_30_3 {T : List Shp} {c : Nat → Int → Int} {x1 x2 x3 x4 x5 : Int} (h1 : ¬ x5 < (c 79 0)) : ev 278 9 30 [vR 78, vI x1, vI x2, vI x3, vI x4, vI x5] [] (SH T, c) = ev 278 9 101 [vR 78, vI x1, vI x2, vI x3, vI x4, vU] [] (SH T, c) := by
  refine (ev_eq _ _ _ _ _ _).trans ?_
  refine (if_neg h1).trans ?_
  rfl
theorem B_X12_goThrough_101 {T : List Shp} {c : Nat → Int → Int} {x1 x2 x3 x4 : Int}  : ev 278 9 101 [vR 78, vI x1, vI x2, vI x3, vI x4, vU] [] (SH T, c) = ev 278 9 13 [vR 78, vI x1, vI x2, vI x3, vI (w32 (x4 + 1)), vU] [] (SH T, c) := by
  refine (ev_eq _ _ _ _ _ _).trans ?_
  rfl
theorem B_X12_goThrough_134_1 {T : List Shp} {c : Nat → Int → Int} {x1 x2 x3 x4 : Int} (h1 : x4 < 0) : ev 278 9 134 [vR 78, vI x1, vI x2, vI x3, vI x4, vU] [] (SH T, c) = some (none, (SH T, c)) := by
  refine (ev_eq _ _ _ _ _ _).trans ?_
  refine (if_pos h1).trans ?_
  refine (ev_eq _ _ _ _ _ _).trans ?_
  rfl
theorem B_X12_goThrough_134_2 {T : List Shp} {c : Nat → Int → Int} {x1 x2 x3 x4 : Int} (h1 : ¬ x4 < 0) (h2 : 0 ≤ x4 ∧ x4 < 5) (h3 : 0 ≤ x4 ∧ x4 < 5) (h4 : 0 ≤ x4 ∧ x4 < 5) (h5 : ((up c 97 x4 (w32 ((c 97 x4) + 1))) 97 x4) = (c 79 0)) : ev 278 9 134 [vR 78, vI x1, vI x2, vI x3, vI x4, vU] [] (SH T, c) = ev 278 9 248 [vR 78, vI x1, vI x2, vI x3, vI (w32 (x4 + (-1))), vU] [] (SH T, (up c 97 x4 (w32 ((c 97 x4) + 1)))) := by
  refine (ev_eq _ _ _ _ _ _).trans ?_
  refine (if_neg h1).trans ?_
  refine (if_pos h2).trans ?_
  refine (if_pos h3).trans ?_
  refine (if_pos h4).trans ?_
  refine (if_pos h5).trans ?_
  rfl
theorem B_X12_goThrough_134_3 {T : List Shp} {c : Nat → Int → Int} {x1 x2 x3 x4 : Int} {r1 : Int} {c2 : Nat → Int → Int} {c3 : Nat → Int → Int} {c4 : Nat → Int → Int} (h1 : ¬ x4 < 0) (h2 : 0 ≤ x4 ∧ x4 < 5) (h3 : 0 ≤ x4 ∧ x4 < 5) (h4 : 0 ≤ x4 ∧ x4 < 5) (h5 : ¬ ((up c 97 x4 (w32 ((c 97 x4) + 1))) 97 x4) = (c 79 0)) (h6 : 0 ≤ (w32 ((w32 (5 * x4)) + ((up c 97 x4 (w32 ((c 97 x4) + 1))) 97 x4))) ∧ (w32 ((w32 (5 * x4)) + ((up c 97 x4 (w32 ((c 97 x4) + 1))) 97 x4))) < 25) (h7 : (c 100 (w32 ((w32 (5 * x4)) + ((up c 97 x4 (w32 ((c 97 x4) + 1))) 97 x4)))) = 0) (h8 : cal 277 [vR 78, vI ((up c 97 x4 (w32 ((c 97 x4) + 1))) 97 x4), vI x4] (SH T, (up c 97 x4 (w32 ((c 97 x4) + 1)))) = some (some (vI r1), (SH T, c2))) (h9 : r1 = 0) (h10 : cal 261 [vR 78, vI x4, vI (w32 (x4 + 1)), vI ((up c 97 x4 (w32 ((c 97 x4) + 1))) 97 x4), vI (w32 ((w32 (x3 + x4)) + 1))] (SH T, c2) = some (none, (SH T, c3))) (h11 : x4 = (w32 (x2 - 1))) (h12 : cal 279 [vR 78, vI x1, vI x2] (SH T, c3) = some (none, (SH T, c4))) : ev 278 9 134 [vR 78, vI x1, vI x2, vI x3, vI x4, vU] [] (SH T, c) = ev 278 9 248 [vR 78, vI x1, vI x2, vI x3, vI x4, vU] [] (SH T, c4) := by
  refine (ev_eq _ _ _ _ _ _).trans ?_
  refine (if_neg h1).trans ?_
  refine (if_pos h2).trans ?_
  refine (if_pos h3).trans ?_
  refine (if_pos h4).trans ?_
  refine (if_neg h5).trans ?_
  refine (ev_eq _ _ _ _ _ _).trans ?_
  refine (if_pos h6).trans ?_
  refine (if_pos h7).trans ?_
  refine (el_call rfl h8).trans ?_
  refine (if_pos h9).trans ?_
  refine (el_call rfl h10).trans ?_
  refine (if_pos h11).trans ?_
  refine (el_call rfl h12).trans ?_
  rfl
theorem B_X12_goThrough_134_4 {T : List Shp} {c : Nat → Int → Int} {x1 x2 x3 x4 : Int} {r1 : Int} {c2 : Nat → Int → Int} {c3 : Nat → Int → Int} (h1 : ¬ x4 < 0) (h2 : 0 ≤ x4 ∧ x4 < 5) (h3 : 0 ≤ x4 ∧ x4 < 5) (h4 : 0 ≤ x4 ∧ x4 < 5) (h5 : ¬ ((up c 97 x4 (w32 ((c 97 x4) + 1))) 97 x4) = (c 79 0)) (h6 : 0 ≤ (w32 ((w32 (5 * x4)) + ((up c 97 x4 (w32 ((c 97 x4) + 1))) 97 x4))) ∧ (w32 ((w32 (5 * x4)) + ((up c 97 x4 (w32 ((c 97 x4) + 1))) 97 x4))) < 25) (h7 : (c 100 (w32 ((w32 (5 * x4)) + ((up c 97 x4 (w32 ((c 97 x4) + 1))) 97 x4)))) = 0) (h8 : cal 277 [vR 78, vI ((up c 97 x4 (w32 ((c 97 x4) + 1))) 97 x4), vI x4] (SH T, (up c 97 x4 (w32 ((c 97 x4) + 1)))) = some (some (vI r1), (SH T, c2))) (h9 : r1 = 0) (h10 : cal 261 [vR 78, vI x4, vI (w32 (x4 + 1)), vI ((up c 97 x4 (w32 ((c 97 x4) + 1))) 97 x4), vI (w32 ((w32 (x3 + x4)) + 1))] (SH T, c2) = some (none, (SH T, c3))) (h11 : ¬ x4 = (w32 (x2 - 1))) (h12 : 0 ≤ (w32 (x4 + 1)) ∧ (w32 (x4 + 1)) < 5) : ev 278 9 134 [vR 78, vI x1, vI x2, vI x3, vI x4, vU] [] (SH T, c) = ev 278 9 248 [vR 78, vI x1, vI x2, vI x3, vI (w32 (x4 + 1)), vU] [] (SH T, (up c3 97 (w32 (x4 + 1)) (-1))) := by
  refine (ev_eq _ _ _ _ _ _).trans ?_
  refine (if_neg h1).trans ?_
  refine (if_pos h2).trans ?_
  refine (if_pos h3).trans ?_
  refine (if_pos h4).trans ?_
  refine (if_neg h5).trans ?_
  refine (ev_eq _ _ _ _ _ _).trans ?_
  refine (if_pos h6).trans ?_
  refine (if_pos h7).trans ?_
  refine (el_call rfl h8).trans ?_
  refine (if_pos h9).trans ?_
  refine (el_call rfl h10).trans ?_
  refine (if_neg h11).trans ?_
  refine (ev_eq _ _ _ _ _ _).trans ?_
  refine (if_pos h12).trans ?_
  rfl
theorem B_X12_goThrough_134_5 {T : List Shp} {c : Nat → Int → Int} {x1 x2 x3 x4 : Int} {r1 : Int} {c2 : Nat → Int → Int} (h1 : ¬ x4 < 0) (h2 : 0 ≤ x4 ∧ x4 < 5) (h3 : 0 ≤ x4 ∧ x4 < 5) (h4 : 0 ≤ x4 ∧ x4 < 5) (h5 : ¬ ((up c 97 x4 (w32 ((c 97 x4) + 1))) 97 x4) = (c 79 0)) (h6 : 0 ≤ (w32 ((w32 (5 * x4)) + ((up c 97 x4 (w32 ((c 97 x4) + 1))) 97 x4))) ∧ (w32 ((w32 (5 * x4)) + ((up c 97 x4 (w32 ((c 97 x4) + 1))) 97 x4))) < 25) (h7 : (c 100 (w32 ((w32 (5 * x4)) + ((up c 97 x4 (w32 ((c 97 x4) + 1))) 97 x4)))) = 0) (h8 : cal 277 [vR 78, vI ((up c 97 x4 (w32 ((c 97 x4) + 1))) 97 x4), vI x4] (SH T, (up c 97 x4 (w32 ((c 97 x4) + 1)))) = some (some (vI r1), (SH T, c2))) (h9 : ¬ r1 = 0) : ev 278 9 134 [vR 78, vI x1, vI x2, vI x3, vI x4, vU] [] (SH T, c) = ev 278 9 248 [vR 78, vI x1, vI x2, vI x3, vI x4, vU] [] (SH T, c2) := by
  refine (ev_eq _ _ _ _ _ _).trans ?_
  refine (if_neg h1).trans ?_
  refine (if_pos h2).trans ?_
  refine (if_pos h3).trans ?_
  refine (if_pos h4).trans ?_
  refine (if_neg h5).trans ?_
  refine (ev_eq _ _ _ _ _ _).trans ?_
  refine (if_pos h6).trans ?_
  refine (if_pos h7).trans ?_
  refine (el_call rfl h8).trans ?_
  refine (if_neg h9).trans ?_
  rfl
theorem B_X12_goThrough_134_6 {T : List Shp} {c : Nat → Int → Int} {x1 x2 x3 x4 : Int} (h1 : ¬ x4 < 0) (h2 : 0 ≤ x4 ∧ x4 < 5) (h3 : 0 ≤ x4 ∧ x4 < 5) (h4 : 0 ≤ x4 ∧ x4 < 5) (h5 : ¬ ((up c 97 x4 (w32 ((c 97 x4) + 1))) 97 x4) = (c 79 0)) (h6 : 0 ≤ (w32 ((w32 (5 * x4)) + ((up c 97 x4 (w32 ((c 97 x4) + 1))) 97 x4))) ∧ (w32 ((w32 (5 * x4)) + ((up c 97 x4 (w32 ((c 97 x4) + 1))) 97 x4))) < 25) (h7 : ¬ (c 100 (w32 ((w32 (5 * x4)) + ((up c 97 x4 (w32 ((c 97 x4) + 1))) 97 x4)))) = 0) : ev 278 9 134 [vR 78, vI x1, vI x2, vI x3, vI x4, vU] [] (SH T, c) = ev 278 9 248 [vR 78, vI x1, vI x2, vI x3, vI x4, vU] [] (SH T, (up c 97 x4 (w32 ((c 97 x4) + 1)))) := by
  refine (ev_eq _ _ _ _ _ _).trans ?_
  refine (if_neg h1).trans ?_
  refine (if_pos h2).trans ?_
  refine (if_pos h3).trans ?_
  refine (if_pos h4).trans ?_
  refine (if_neg h5).trans ?_
  refine (ev_eq _ _ _ _ _ _).trans ?_
  refine (if_pos h6).trans ?_
  refine (if_neg h7).trans ?_
  rfl
theorem B_X12_goThrough_248 {T : List Shp} {c : Nat → Int → Int} {x1 x2 x3 x4 : Int}  : ev 278 9 248 [vR 78, vI x1, vI x2, vI x3, vI x4, vU] [] (SH T, c) = ev 278 9 134 [vR 78, vI x1, vI x2, vI x3, vI x4, vU] [] (SH T, c) := by
  refine (ev_eq _ _ _ _ _ _).trans ?_
  rfl
theorem E_X12_weigh {T : List Shp} {c : Nat → Int → Int} {x1 x2 : Int} {r1 : Int} {c2 : Nat → Int → Int} {r3 : Int} {c4 : Nat → Int → Int} {r5 : Int} {c6 : Nat → Int → Int} {r7 : Int} {c8 : Nat → Int → Int} (h1 : cal 197 [vR 78] (SH T, c) = some (some (vI r1), (SH T, c2))) (h2 : cal 263 [vR 78, vI x2, vI (w32 (r1 + x2))] (SH T, c2) = some (some (vI r3), (SH T, c4))) (h3 : cal 197 [vR 78] (SH T, c4) = some (some (vI r5), (SH T, c6))) (h4 : cal 274 [vR 78, vI r5] (SH T, c6) = some (some (vI r7), (SH T, c8))) : cal 279 [vR 78, vI x1, vI x2] (SH T, c) = ev 279 8 31 [vR 78, vI x1, vI x2, vI r3, vI 0, vI r7, vI 1, vI 0, vU, vU, vU] [] (SH T, c8) := by
  refine (ev_eq _ _ _ _ _ _).trans ?_
  refine (el_call rfl h1).trans ?_
  refine (el_call rfl h2).trans ?_
  refine (el_call rfl h3).trans ?_
  refine (el_call rfl h4).trans ?_
  rfl
theorem B_X12_weigh_31_1 {T : List Shp} {c : Nat → Int → Int} {x1 x2 x3 x4 x5 x6 x7 : Int} (h1 : x7 < x2) (h2 : 0 ≤ x7 ∧ x7 < 5) (h3 : 0 ≤ (w32 ((w32 (5 * x7)) + (c 97 x7))) ∧ (w32 ((w32 (5 * x7)) + (c 97 x7))) < 25) (h4 : 0 ≤ x7 ∧ x7 < 5) (h5 : 0 ≤ (w32 ((w32 (5 * x7)) + (c 97 x7))) ∧ (w32 ((w32 (5 * x7)) + (c 97 x7))) < 25) (h6 : x6 = 0) : ev 279 8 31 [vR 78, vI x1, vI x2, vI x3, vI x4, vI x5, vI x6, vI x7, vU, vU, vU] [] (SH T, c) = ev 279 8 134 [vR 78, vI x1, vI x2, vI x3, vI (w32 (x4 + (c 99 (w32 ((w32 (5 * x7)) + (c 97 x7)))))), vI (w32 (x5 + (w32 ((c 79 10) - (c 99 (w32 ((w32 (5 * x7)) + (c 97 x7)))))))), vU, vI x7, vU, vU, vU] [] (SH T, c) := by
  refine (ev_eq _ _ _ _ _ _).trans ?_
  refine (if_pos h1).trans ?_
  refine (if_pos h2).trans ?_
  refine (if_pos h3).trans ?_
  refine (if_pos h4).trans ?_
  refine (if_pos h5).trans ?_
  refine (if_pos h6).trans ?_
  rfl
theorem B_X12_weigh_31_2 {T : List Shp} {c : Nat → Int → Int} {x1 x2 x3 x4 x5 x6 x7 : Int} (h1 : x7 < x2) (h2 : 0 ≤ x7 ∧ x7 < 5) (h3 : 0 ≤ (w32 ((w32 (5 * x7)) + (c 97 x7))) ∧ (w32 ((w32 (5 * x7)) + (c 97 x7))) < 25) (h4 : 0 ≤ x7 ∧ x7 < 5) (h5 : 0 ≤ (w32 ((w32 (5 * x7)) + (c 97 x7))) ∧ (w32 ((w32 (5 * x7)) + (c 97 x7))) < 25) (h6 : ¬ x6 = 0) (h7 : x1 = 2) (h8 : (w32 (x5 + (w32 ((c 79 10) - (c 99 (w32 ((w32 (5 * x7)) + (c 97 x7)))))))) < 0) : ev 279 8 31 [vR 78, vI x1, vI x2, vI x3, vI x4, vI x5, vI x6, vI x7, vU, vU, vU] [] (SH T, c) = ev 279 8 134 [vR 78, vI x1, vI x2, vI x3, vI (w32 (x4 + (c 99 (w32 ((w32 (5 * x7)) + (c 97 x7)))))), vI (w32 (x5 + (w32 ((c 79 10) - (c 99 (w32 ((w32 (5 * x7)) + (c 97 x7)))))))), vU, vI x7, vU, vU, vU] [] (SH T, c) := by
  refine (ev_eq _ _ _ _ _ _).trans ?_
  refine (if_pos h1).trans ?_
  refine (if_pos h2).trans ?_
  refine (if_pos h3).trans ?_
  refine (if_pos h4).trans ?_
  refine (if_pos h5).trans ?_
  refine (if_neg h6).trans ?_
  refine (if_pos h7).trans ?_
  refine (if_pos h8).trans ?_
  rfl
theorem B_X12_weigh_31_3 {T : List Shp} {c : Nat → Int → Int} {x1 x2 x3 x4 x5 x6 x7 : Int} (h1 : x7 < x2) (h2 : 0 ≤ x7 ∧ x7 < 5) (h3 : 0 ≤ (w32 ((w32 (5 * x7)) + (c 97 x7))) ∧ (w32 ((w32 (5 * x7)) + (c 97 x7))) < 25) (h4 : 0 ≤ x7 ∧ x7 < 5) (h5 : 0 ≤ (w32 ((w32 (5 * x7)) + (c 97 x7))) ∧ (w32 ((w32 (5 * x7)) + (c 97 x7))) < 25) (h6 : ¬ x6 = 0) (h7 : x1 = 2) (h8 : ¬ (w32 (x5 + (w32 ((c 79 10) - (c 99 (w32 ((w32 (5 * x7)) + (c 97 x7)))))))) < 0) : ev 279 8 31 [vR 78, vI x1, vI x2, vI x3, vI x4, vI x5, vI x6, vI x7, vU, vU, vU] [] (SH T, c) = ev 279 8 104 [vR 78, vI x1, vI x2, vI x3, vI (w32 (x4 + (c 99 (w32 ((w32 (5 * x7)) + (c 97 x7)))))), vI (w32 (x5 + (w32 ((c 79 10) - (c 99 (w32 ((w32 (5 * x7)) + (c 97 x7)))))))), vU, vI x7, vU, vU, vU] [] (SH T, c) := by
  refine (ev_eq _ _ _ _ _ _).trans ?_
  refine (if_pos h1).trans ?_
  refine (if_pos h2).trans ?_
  refine (if_pos h3).trans ?_
  refine (if_pos h4).trans ?_
  refine (if_pos h5).trans ?_
  refine (if_neg h6).trans ?_
  refine (if_pos h7).trans ?_
  refine (if_neg h8).trans ?_
  rfl
theorem B_X12_weigh_31_4 {T : List Shp} {c : Nat → Int → Int} {x1 x2 x3 x4 x5 x6 x7 : Int} (h1 : x7 < x2) (h2 : 0 ≤ x7 ∧ x7 < 5) (h3 : 0 ≤ (w32 ((w32 (5 * x7)) + (c 97 x7))) ∧ (w32 ((w32 (5 * x7)) + (c 97 x7))) < 25) (h4 : 0 ≤ x7 ∧ x7 < 5) (h5 : 0 ≤ (w32 ((w32 (5 * x7)) + (c 97 x7))) ∧ (w32 ((w32 (5 * x7)) + (c 97 x7))) < 25) (h6 : ¬ x6 = 0) (h7 : ¬ x1 = 2) : ev 279 8 31 [vR 78, vI x1, vI x2, vI x3, vI x4, vI x5, vI x6, vI x7, vU, vU, vU] [] (SH T, c) = ev 279 8 104 [vR 78, vI x1, vI x2, vI x3, vI (w32 (x4 + (c 99 (w32 ((w32 (5 * x7)) + (c 97 x7)))))), vI (w32 (x5 + (w32 ((c 79 10) - (c 99 (w32 ((w32 (5 * x7)) + (c 97 x7)))))))), vU, vI x7, vU, vU, vU] [] (SH T, c) := by
  refine (ev_eq _ _ _ _ _ _).trans ?_
  refine (if_pos h1).trans ?_
  refine (if_pos h2).trans ?_
  refine (if_pos h3).trans ?_
  refine (if_pos h4).trans ?_
  refine (if_pos h5).trans ?_
  refine (if_neg h6).trans ?_
  refine (if_neg h7).trans ?_
  rfl
theorem B_X12_weigh_31_5 {T : List Shp} {c : Nat → Int → Int} {x1 x2 x3 x4 x5 x6 x7 : Int} (h1 : ¬ x7 < x2) (h2 : x6 = 0) : ev 279 8 31 [vR 78, vI x1, vI x2, vI x3, vI x4, vI x5, vI x6, vI x7, vU, vU, vU] [] (SH T, c) = some (none, (SH T, c)) := by
  refine (ev_eq _ _ _ _ _ _).trans ?_
  refine (if_neg h1).trans ?_
  refine (ev_eq _ _ _ _ _ _).trans ?_
  refine (if_pos h2).trans ?_
  rfl
theorem B_X12_weigh_31_6 {T : List Shp} {c : Nat → Int → Int} {x1 x2 x3 x4 x5 x6 x7 : Int} (h1 : ¬ x7 < x2) (h2 : ¬ x6 = 0) (h3 : x1 = 1) : ev 279 8 31 [vR 78, vI x1, vI x2, vI x3, vI x4, vI x5, vI x6, vI x7, vU, vU, vU] [] (SH T, c) = ev 279 8 170 [vR 78, vI x1, vI x2, vI x3, vI x4, vU, vU, vU, vU, vU, vU] [vI (w32 (x4 - (c 77 45)))] (SH T, c) := by
  refine (ev_eq _ _ _ _ _ _).trans ?_
  refine (if_neg h1).trans ?_
  refine (ev_eq _ _ _ _ _ _).trans ?_
  refine (if_neg h2).trans ?_
  refine (ev_eq _ _ _ _ _ _).trans ?_
  refine (if_pos h3).trans ?_
  rfl
theorem B_X12_weigh_31_7 {T : List Shp} {c : Nat → Int → Int} {x1 x2 x3 x4 x5 x6 x7 : Int} (h1 : ¬ x7 < x2) (h2 : ¬ x6 = 0) (h3 : ¬ x1 = 1) : ev 279 8 31 [vR 78, vI x1, vI x2, vI x3, vI x4, vI x5, vI x6, vI x7, vU, vU, vU] [] (SH T, c) = ev 279 8 170 [vR 78, vI x1, vI x2, vI x3, vI x4, vU, vU, vU, vU, vU, vU] [vI (w32 (x3 - (c 77 44)))] (SH T, c) := by
  refine (ev_eq _ _ _ _ _ _).trans ?_
  refine (if_neg h1).trans ?_
  refine (ev_eq _ _ _ _ _ _).trans ?_
  refine (if_neg h2).trans ?_
  refine (ev_eq _ _ _ _ _ _).trans ?_
  refine (if_neg h3).trans ?_
  refine (ev_eq _ _ _ _ _ _).trans ?_
  rfl
theorem B_X12_weigh_104_1 {T : List Shp} {c : Nat → Int → Int} {x1 x2 x3 x4 x5 x7 : Int} {r1 : Int} {c2 : Nat → Int → Int} {r3 : Int} {c4 : Nat → Int → Int} (h1 : x1 = 1) (h2 : cal 197 [vR 78] (SH T, c) = some (some (vI r1), (SH T, c2))) (h3 : cal 270 [vR 78, vI (w32 (x7 + 1)), vI (w32 ((w32 (r1 + x7)) + 1))] (SH T, c2) = some (some (vI r3), (SH T, c4))) (h4 : r3 = (-1)) : ev 279 8 104 [vR 78, vI x1, vI x2, vI x3, vI x4, vI x5, vU, vI x7, vU, vU, vU] [] (SH T, c) = ev 279 8 130 [vR 78, vI x1, vI x2, vI x3, vI x4, vI x5, vU, vI x7, vU, vU, vU] [] (SH T, c4) := by
  refine (ev_eq _ _ _ _ _ _).trans ?_
  refine (if_pos h1).trans ?_
  refine (el_call rfl h2).trans ?_
  refine (el_call rfl h3).trans ?_
  refine (if_pos h4).trans ?_
  rfl
theorem B_X12_weigh_104_2 {T : List Shp} {c : Nat → Int → Int} {x1 x2 x3 x4 x5 x7 : Int} {r1 : Int} {c2 : Nat → Int → Int} {r3 : Int} {c4 : Nat → Int → Int} (h1 : x1 = 1) (h2 : cal 197 [vR 78] (SH T, c) = some (some (vI r1), (SH T, c2))) (h3 : cal 270 [vR 78, vI (w32 (x7 + 1)), vI (w32 ((w32 (r1 + x7)) + 1))] (SH T, c2) = some (some (vI r3), (SH T, c4))) (h4 : ¬ r3 = (-1)) : ev 279 8 104 [vR 78, vI x1, vI x2, vI x3, vI x4, vI x5, vU, vI x7, vU, vU, vU] [] (SH T, c) = ev 279 8 134 [vR 78, vI x1, vI x2, vI x3, vI x4, vI x5, vU, vI x7, vU, vU, vU] [] (SH T, c4) := by
  refine (ev_eq _ _ _ _ _ _).trans ?_
  refine (if_pos h1).trans ?_
  refine (el_call rfl h2).trans ?_
  refine (el_call rfl h3).trans ?_
  refine (if_neg h4).trans ?_
  rfl
theorem B_X12_weigh_104_3 {T : List Shp} {c : Nat → Int → Int} {x1 x2 x3 x4 x5 x7 : Int} (h1 : ¬ x1 = 1) : ev 279 8 104 [vR 78, vI x1, vI x2, vI x3, vI x4, vI x5, vU, vI x7, vU, vU, vU] [] (SH T, c) = ev 279 8 130 [vR 78, vI x1, vI x2, vI x3, vI x4, vI x5, vU, vI x7, vU, vU, vU] [] (SH T, c) := by
  refine (ev_eq _ _ _ _ _ _).trans ?_
  refine (if_neg h1).trans ?_
  rfl
theorem B_X12_weigh_130 {T : List Shp} {c : Nat → Int → Int} {x1 x2 x3 x4 x5 x7 : Int}  : ev 279 8 130 [vR 78, vI x1, vI x2, vI x3, vI x4, vI x5, vU, vI x7, vU, vU, vU] [] (SH T, c) = ev 279 8 31 [vR 78, vI x1, vI x2, vI x3, vI x4, vI x5, vI 1, vI (w32 (x7 + 1)), vU, vU, vU] [] (SH T, c) := by
  refine (ev_eq _ _ _ _ _ _).trans ?_
  rfl
theorem B_X12_weigh_134 {T : List Shp} {c : Nat → Int → Int} {x1 x2 x3 x4 x5 x7 : Int}  : ev 279 8 134 [vR 78, vI x1, vI x2, vI x3, vI x4, vI x5, vU, vI x7, vU, vU, vU] [] (SH T, c) = ev 279 8 31 [vR 78, vI x1, vI x2, vI x3, vI x4, vI x5, vI 0, vI (w32 (x7 + 1)), vU, vU, vU] [] (SH T, c) := by
  refine (ev_eq _ _ _ _ _ _).trans ?_
  rfl
theorem B_X12_weigh_170_1 {T : List Shp} {c : Nat → Int → Int} {x1 x2 x3 x4 y0 : Int} (h1 : x1 = 1) : ev 279 8 170 [vR 78, vI x1, vI x2, vI x3, vI x4, vU, vU, vU, vU, vU, vU] [vI y0] (SH T, c) = ev 279 8 193 [vR 78, vU, vI x2, vI x3, vI x4, vU, vU, vI y0, vU, vU, vU] [vI (w32 (x3 - (c 77 44)))] (SH T, c) := by
  refine (ev_eq _ _ _ _ _ _).trans ?_
  refine (if_pos h1).trans ?_
  rfl
theorem B_X12_weigh_170_2 {T : List Shp} {c : Nat → Int → Int} {x1 x2 x3 x4 y0 : Int} (h1 : ¬ x1 = 1) : ev 279 8 170 [vR 78, vI x1, vI x2, vI x3, vI x4, vU, vU, vU, vU, vU, vU] [vI y0] (SH T, c) = ev 279 8 193 [vR 78, vU, vI x2, vI x3, vI x4, vU, vU, vI y0, vU, vU, vU] [vI (w32 (x4 - (c 77 45)))] (SH T, c) := by
  refine (ev_eq _ _ _ _ _ _).trans ?_
  refine (if_neg h1).trans ?_
  refine (ev_eq _ _ _ _ _ _).trans ?_
  rfl
theorem B_X12_weigh_193_1 {T : List Shp} {c : Nat → Int → Int} {x2 x3 x4 x7 y0 : Int} (h1 : (c 77 46) = 0) : ev 279 8 193 [vR 78, vU, vI x2, vI x3, vI x4, vU, vU, vI x7, vU, vU, vU] [vI y0] (SH T, c) = ev 279 8 217 [vR 78, vU, vI x2, vI x3, vI x4, vU, vU, vU, vU, vU, vU] [] (SH T, c) := by
  refine (ev_eq _ _ _ _ _ _).trans ?_
  refine (if_pos h1).trans ?_
  rfl
theorem B_X12_weigh_193_2 {T : List Shp} {c : Nat → Int → Int} {x2 x3 x4 x7 y0 : Int} (h1 : ¬ (c 77 46) = 0) (h2 : x7 < 0) : ev 279 8 193 [vR 78, vU, vI x2, vI x3, vI x4, vU, vU, vI x7, vU, vU, vU] [vI y0] (SH T, c) = ev 279 8 217 [vR 78, vU, vI x2, vI x3, vI x4, vU, vU, vU, vU, vU, vU] [] (SH T, c) := by
  refine (ev_eq _ _ _ _ _ _).trans ?_
  refine (if_neg h1).trans ?_
  refine (if_pos h2).trans ?_
  rfl
theorem B_X12_weigh_193_3 {T : List Shp} {c : Nat → Int → Int} {x2 x3 x4 x7 y0 : Int} (h1 : ¬ (c 77 46) = 0) (h2 : ¬ x7 < 0) (h3 : x7 = 0) (h4 : y0 < 0) : ev 279 8 193 [vR 78, vU, vI x2, vI x3, vI x4, vU, vU, vI x7, vU, vU, vU] [vI y0] (SH T, c) = ev 279 8 217 [vR 78, vU, vI x2, vI x3, vI x4, vU, vU, vU, vU, vU, vU] [] (SH T, c) := by
  refine (ev_eq _ _ _ _ _ _).trans ?_
  refine (if_neg h1).trans ?_
  refine (if_neg h2).trans ?_
  refine (if_pos h3).trans ?_
  refine (if_pos h4).trans ?_
  rfl
theorem B_X12_weigh_193_4 {T : List Shp} {c : Nat → Int → Int} {x2 x3 x4 x7 y0 : Int} (h1 : ¬ (c 77 46) = 0) (h2 : ¬ x7 < 0) (h3 : x7 = 0) (h4 : ¬ y0 < 0) : ev 279 8 193 [vR 78, vU, vI x2, vI x3, vI x4, vU, vU, vI x7, vU, vU, vU] [vI y0] (SH T, c) = ev 279 8 221 [vR 78, vU, vI x2, vI x3, vI x4, vU, vU, vU, vU, vU, vU] [] (SH T, c) := by
  refine (ev_eq _ _ _ _ _ _).trans ?_
  refine (if_neg h1).trans ?_
  refine (if_neg h2).trans ?_
  refine (if_pos h3).trans ?_
  refine (if_neg h4).trans ?_
  rfl
theorem B_X12_weigh_193_5 {T : List Shp} {c : Nat → Int → Int} {x2 x3 x4 x7 y0 : Int} (h1 : ¬ (c 77 46) = 0) (h2 : ¬ x7 < 0) (h3 : ¬ x7 = 0) : ev 279 8 193 [vR 78, vU, vI x2, vI x3, vI x4, vU, vU, vI x7, vU, vU, vU] [vI y0] (SH T, c) = ev 279 8 221 [vR 78, vU, vI x2, vI x3, vI x4, vU, vU, vU, vU, vU, vU] [] (SH T, c) := by
  refine (ev_eq _ _ _ _ _ _).trans ?_
  refine (if_neg h1).trans ?_
  refine (if_neg h2).trans ?_
  refine (if_neg h3).trans ?_
  rfl
theorem B_X12_weigh_217 {T : List Shp} {c : Nat → Int → Int} {x2 x3 x4 : Int}  : ev 279 8 217 [vR 78, vU, vI x2, vI x3, vI x4, vU, vU, vU, vU, vU, vU] [] (SH T, c) = ev 279 8 222 [vR 78, vU, vI x2, vI x3, vI x4, vU, vU, vU, vU, vU, vU] [vI 1] (SH T, c) := by
  refine (ev_eq _ _ _ _ _ _).trans ?_
  rfl
theorem B_X12_weigh_221 {T : List Shp} {c : Nat → Int → Int} {x2 x3 x4 : Int}  : ev 279 8 221 [vR 78, vU, vI x2, vI x3, vI x4, vU, vU, vU, vU, vU, vU] [] (SH T, c) = ev 279 8 222 [vR 78, vU, vI x2, vI x3, vI x4, vU, vU, vU, vU, vU, vU] [vI 0] (SH T, c) := by
  refine (ev_eq _ _ _ _ _ _).trans ?_
  rfl
theorem B_X12_weigh_222_1 {T : List Shp} {c : Nat → Int → Int} {x2 x3 x4 y0 : Int} (h1 : y0 = 0) : ev 279 8 222 [vR 78, vU, vI x2, vI x3, vI x4, vU, vU, vU, vU, vU, vU] [vI y0] (SH T, c) = ev 279 8 274 [vR 78, vU, vU, vI x3, vI x4, vU, vU, vU, vU, vU, vU] [] (SH T, c) := by
  refine (ev_eq _ _ _ _ _ _).trans ?_
  refine (if_pos h1).trans ?_
  rfl
theorem B_X12_weigh_222_2 {T : List Shp} {c : Nat → Int → Int} {x2 x3 x4 y0 : Int} (h1 : ¬ y0 = 0) : ev 279 8 222 [vR 78, vU, vI x2, vI x3, vI x4, vU, vU, vU, vU, vU, vU] [vI y0] (SH T, c) = ev 279 8 248 [vR 78, vU, vI x2, vI x3, vI x4, vU, vU, vU, vU, vU, vI 0] [] (SH T, (up (up (up c 77 44 x3) 77 45 x4) 77 46 0)) := by
  refine (ev_eq _ _ _ _ _ _).trans ?_
  refine (if_neg h1).trans ?_
  rfl
theorem B_X12_weigh_248_1 {T : List Shp} {c : Nat → Int → Int} {x2 x3 x4 x10 : Int} (h1 : x10 < x2) (h2 : 0 ≤ x10 ∧ x10 < 5) (h3 : 0 ≤ x10 ∧ x10 < 5) : ev 279 8 248 [vR 78, vU, vI x2, vI x3, vI x4, vU, vU, vU, vU, vU, vI x10] [] (SH T, c) = ev 279 8 248 [vR 78, vU, vI x2, vI x3, vI x4, vU, vU, vU, vU, vU, vI (w32 (x10 + 1))] [] (SH T, (up c 98 x10 (c 97 x10))) := by
  refine (ev_eq _ _ _ _ _ _).trans ?_
  refine (if_pos h1).trans ?_
  refine (if_pos h2).trans ?_
  refine (if_pos h3).trans ?_
  rfl
theorem B_X12_weigh_248_2 {T : List Shp} {c : Nat → Int → Int} {x2 x3 x4 x10 : Int} (h1 : ¬ x10 < x2) : ev 279 8 248 [vR 78, vU, vI x2, vI x3, vI x4, vU, vU, vU, vU, vU, vI x10] [] (SH T, c) = ev 279 8 274 [vR 78, vU, vU, vI x3, vI x4, vU, vU, vU, vU, vU, vU] [] (SH T, c) := by
  refine (ev_eq _ _ _ _ _ _).trans ?_
  refine (if_neg h1).trans ?_
  rfl
theorem B_X12_weigh_274_1 {T : List Shp} {c : Nat → Int → Int} {x3 x4 : Int} (h1 : x3 = (c 77 44)) (h2 : x4 = (c 77 45)) : ev 279 8 274 [vR 78, vU, vU, vI x3, vI x4, vU, vU, vU, vU, vU, vU] [] (SH T, c) = some (none, (SH T, (up c 77 46 (w32 ((c 77 46) + 1))))) := by
  refine (ev_eq _ _ _ _ _ _).trans ?_
  refine (if_pos h1).trans ?_
  refine (if_pos h2).trans ?_
  rfl

theorem B_X12_weigh_274_2 {T : List Shp} {c : Nat → Int → Int} {x3 x4 : Int} (h1 : x3 = (c 77 44)) (h2 : ¬ x4 = (c 77 45)) : ev 279 8 274 [vR 78, vU, vU, vI x3, vI x4, vU, vU, vU, vU, vU, vU] [] (SH T, c) = some (none, (SH T, (up c 77 46 (w32 ((c 77 46) + 0))))) := by
  refine (ev_eq _ _ _ _ _ _).trans ?_
  refine (if_pos h1).trans ?_
  refine (if_neg h2).trans ?_
  refine (ev_eq _ _ _ _ _ _).trans ?_
  rfl
theorem B_X12_weigh_274_3 {T : List Shp} {c : Nat → Int → Int} {x3 x4 : Int} (h1 : ¬ x3 = (c 77 44)) : ev 279 8 274 [vR 78, vU, vU, vI x3, vI x4, vU, vU, vU, vU, vU, vU] [] (SH T, c) = some (none, (SH T, (up c 77 46 (w32 ((c 77 46) + 0))))) := by
  refine (ev_eq _ _ _ _ _ _).trans ?_
  refine (if_neg h1).trans ?_
  refine (ev_eq _ _ _ _ _ _).trans ?_
  rfl
theorem E_X12_plan_1 {T : List Shp} {c : Nat → Int → Int} {x1 x2 x3 : Int} {r1 : Int} {c2 : Nat → Int → Int} (h1 : cal 186 [vL x1, vL 0, vL 2] (SH T, (up c 77 0 0)) = some (some (vI r1), (SH T, c2))) (h2 : r1 = 0) : cal 280 [vR 78, vI x1, vI x2, vI x3] (SH T, c) = some (some (vI (-1)), (SH T, c2)) := by
  refine (ev_eq _ _ _ _ _ _).trans ?_
  refine (el_call rfl h1).trans ?_
  refine (if_pos h2).trans ?_
  refine (ev_eq _ _ _ _ _ _).trans ?_
  rfl
theorem E_X12_plan_2 {T : List Shp} {c : Nat → Int → Int} {x1 x2 x3 : Int} {r1 : Int} {c2 : Nat → Int → Int} {r3 : Int} {c4 : Nat → Int → Int} (h1 : cal 186 [vL x1, vL 0, vL 2] (SH T, (up c 77 0 0)) = some (some (vI r1), (SH T, c2))) (h2 : ¬ r1 = 0) (h3 : cal 186 [vL x2, vL 0, vL 5] (SH T, c2) = some (some (vI r3), (SH T, c4))) (h4 : r3 = 0) : cal 280 [vR 78, vI x1, vI x2, vI x3] (SH T, c) = some (some (vI (-1)), (SH T, c4)) := by
  refine (ev_eq _ _ _ _ _ _).trans ?_
  refine (el_call rfl h1).trans ?_
  refine (if_neg h2).trans ?_
  refine (el_call rfl h3).trans ?_
  refine (if_pos h4).trans ?_
  refine (ev_eq _ _ _ _ _ _).trans ?_
  rfl
theorem E_X12_plan_3 {T : List Shp} {c : Nat → Int → Int} {x1 x2 x3 : Int} {r1 : Int} {c2 : Nat → Int → Int} {r3 : Int} {c4 : Nat → Int → Int} {r5 : Int} {c6 : Nat → Int → Int} (h1 : cal 186 [vL x1, vL 0, vL 2] (SH T, (up c 77 0 0)) = some (some (vI r1), (SH T, c2))) (h2 : ¬ r1 = 0) (h3 : cal 186 [vL x2, vL 0, vL 5] (SH T, c2) = some (some (vI r3), (SH T, c4))) (h4 : ¬ r3 = 0) (h5 : cal 186 [vL x3, vL 0, vL (w64 (2 + x2))] (SH T, c4) = some (some (vI r5), (SH T, c6))) (h6 : r5 = 0) : cal 280 [vR 78, vI x1, vI x2, vI x3] (SH T, c) = some (some (vI (-1)), (SH T, c6)) := by
  refine (ev_eq _ _ _ _ _ _).trans ?_
  refine (el_call rfl h1).trans ?_
  refine (if_neg h2).trans ?_
  refine (el_call rfl h3).trans ?_
  refine (if_neg h4).trans ?_
  refine (el_call rfl h5).trans ?_
  refine (if_pos h6).trans ?_
  refine (ev_eq _ _ _ _ _ _).trans ?_
  rfl
theorem E_X12_plan_4 {T : List Shp} {c : Nat → Int → Int} {x1 x2 x3 : Int} {r1 : Int} {c2 : Nat → Int → Int} {r3 : Int} {c4 : Nat → Int → Int} {r5 : Int} {c6 : Nat → Int → Int} {c7 : Nat → Int → Int} (h1 : cal 186 [vL x1, vL 0, vL 2] (SH T, (up c 77 0 0)) = some (some (vI r1), (SH T, c2))) (h2 : ¬ r1 = 0) (h3 : cal 186 [vL x2, vL 0, vL 5] (SH T, c2) = some (some (vI r3), (SH T, c4))) (h4 : ¬ r3 = 0) (h5 : cal 186 [vL x3, vL 0, vL (w64 (2 + x2))] (SH T, c4) = some (some (vI r5), (SH T, c6))) (h6 : ¬ r5 = 0) (h7 : cal 278 [vR 78, vI x1, vI x2] (SH T, c6) = some (none, (SH T, c7))) (h8 : x3 = 2) : cal 280 [vR 78, vI x1, vI x2, vI x3] (SH T, c) = some (some (vI (c7 77 46)), (SH T, c7)) := by
  refine (ev_eq _ _ _ _ _ _).trans ?_
  refine (el_call rfl h1).trans ?_
  refine (if_neg h2).trans ?_
  refine (el_call rfl h3).trans ?_
  refine (if_neg h4).trans ?_
  refine (el_call rfl h5).trans ?_
  refine (if_neg h6).trans ?_
  refine (ev_eq _ _ _ _ _ _).trans ?_
  refine (el_call rfl h7).trans ?_
  refine (if_pos h8).trans ?_
  rfl
theorem E_X12_plan_5 {T : List Shp} {c : Nat → Int → Int} {x1 x2 x3 : Int} {r1 : Int} {c2 : Nat → Int → Int} {r3 : Int} {c4 : Nat → Int → Int} {r5 : Int} {c6 : Nat → Int → Int} {c7 : Nat → Int → Int} (h1 : cal 186 [vL x1, vL 0, vL 2] (SH T, (up c 77 0 0)) = some (some (vI r1), (SH T, c2))) (h2 : ¬ r1 = 0) (h3 : cal 186 [vL x2, vL 0, vL 5] (SH T, c2) = some (some (vI r3), (SH T, c4))) (h4 : ¬ r3 = 0) (h5 : cal 186 [vL x3, vL 0, vL (w64 (2 + x2))] (SH T, c4) = some (some (vI r5), (SH T, c6))) (h6 : ¬ r5 = 0) (h7 : cal 278 [vR 78, vI x1, vI x2] (SH T, c6) = some (none, (SH T, c7))) (h8 : ¬ x3 = 2) (h9 : (c7 77 46) = 0) : cal 280 [vR 78, vI x1, vI x2, vI x3] (SH T, c) = some (some (vI (-1)), (SH T, c7)) := by
  refine (ev_eq _ _ _ _ _ _).trans ?_
  refine (el_call rfl h1).trans ?_
  refine (if_neg h2).trans ?_
  refine (el_call rfl h3).trans ?_
  refine (if_neg h4).trans ?_
  refine (el_call rfl h5).trans ?_
  refine (if_neg h6).trans ?_
  refine (ev_eq _ _ _ _ _ _).trans ?_
  refine (el_call rfl h7).trans ?_
  refine (if_neg h8).trans ?_
  refine (ev_eq _ _ _ _ _ _).trans ?_
  refine (if_pos h9).trans ?_
  rfl
theorem E_X12_plan_6 {T : List Shp} {c : Nat → Int → Int} {x1 x2 x3 : Int} {r1 : Int} {c2 : Nat → Int → Int} {r3 : Int} {c4 : Nat → Int → Int} {r5 : Int} {c6 : Nat → Int → Int} {c7 : Nat → Int → Int} (h1 : cal 186 [vL x1, vL 0, vL 2] (SH T, (up c 77 0 0)) = some (some (vI r1), (SH T, c2))) (h2 : ¬ r1 = 0) (h3 : cal 186 [vL x2, vL 0, vL 5] (SH T, c2) = some (some (vI r3), (SH T, c4))) (h4 : ¬ r3 = 0) (h5 : cal 186 [vL x3, vL 0, vL (w64 (2 + x2))] (SH T, c4) = some (some (vI r5), (SH T, c6))) (h6 : ¬ r5 = 0) (h7 : cal 278 [vR 78, vI x1, vI x2] (SH T, c6) = some (none, (SH T, c7))) (h8 : ¬ x3 = 2) (h9 : ¬ (c7 77 46) = 0) (h10 : x3 = 0) : cal 280 [vR 78, vI x1, vI x2, vI x3] (SH T, c) = some (some (vI (c7 77 44)), (SH T, c7)) := by
  refine (ev_eq _ _ _ _ _ _).trans ?_
  refine (el_call rfl h1).trans ?_
  refine (if_neg h2).trans ?_
  refine (el_call rfl h3).trans ?_
  refine (if_neg h4).trans ?_
  refine (el_call rfl h5).trans ?_
  refine (if_neg h6).trans ?_
  refine (ev_eq _ _ _ _ _ _).trans ?_
  refine (el_call rfl h7).trans ?_
  refine (if_neg h8).trans ?_
  refine (ev_eq _ _ _ _ _ _).trans ?_
  refine (if_neg h9).trans ?_
  refine (ev_eq _ _ _ _ _ _).trans ?_
  refine (if_pos h10).trans ?_
  rfl
theorem E_X12_plan_7 {T : List Shp} {c : Nat → Int → Int} {x1 x2 x3 : Int} {r1 : Int} {c2 : Nat → Int → Int} {r3 : Int} {c4 : Nat → Int → Int} {r5 : Int} {c6 : Nat → Int → Int} {c7 : Nat → Int → Int} (h1 : cal 186 [vL x1, vL 0, vL 2] (SH T, (up c 77 0 0)) = some (some (vI r1), (SH T, c2))) (h2 : ¬ r1 = 0) (h3 : cal 186 [vL x2, vL 0, vL 5] (SH T, c2) = some (some (vI r3), (SH T, c4))) (h4 : ¬ r3 = 0) (h5 : cal 186 [vL x3, vL 0, vL (w64 (2 + x2))] (SH T, c4) = some (some (vI r5), (SH T, c6))) (h6 : ¬ r5 = 0) (h7 : cal 278 [vR 78, vI x1, vI x2] (SH T, c6) = some (none, (SH T, c7))) (h8 : ¬ x3 = 2) (h9 : ¬ (c7 77 46) = 0) (h10 : ¬ x3 = 0) (h11 : x3 = 1) : cal 280 [vR 78, vI x1, vI x2, vI x3] (SH T, c) = some (some (vI (c7 77 45)), (SH T, c7)) := by
  refine (ev_eq _ _ _ _ _ _).trans ?_
  refine (el_call rfl h1).trans ?_
  refine (if_neg h2).trans ?_
  refine (el_call rfl h3).trans ?_
  refine (if_neg h4).trans ?_
  refine (el_call rfl h5).trans ?_
  refine (if_neg h6).trans ?_
  refine (ev_eq _ _ _ _ _ _).trans ?_
  refine (el_call rfl h7).trans ?_
  refine (if_neg h8).trans ?_
  refine (ev_eq _ _ _ _ _ _).trans ?_
  refine (if_neg h9).trans ?_
  refine (ev_eq _ _ _ _ _ _).trans ?_
  refine (if_neg h10).trans ?_
  refine (ev_eq _ _ _ _ _ _).trans ?_
  refine (if_pos h11).trans ?_
  rfl
theorem E_X12_plan_8 {T : List Shp} {c : Nat → Int → Int} {x1 x2 x3 : Int} {r1 : Int} {c2 : Nat → Int → Int} {r3 : Int} {c4 : Nat → Int → Int} {r5 : Int} {c6 : Nat → Int → Int} {c7 : Nat → Int → Int} (h1 : cal 186 [vL x1, vL 0, vL 2] (SH T, (up c 77 0 0)) = some (some (vI r1), (SH T, c2))) (h2 : ¬ r1 = 0) (h3 : cal 186 [vL x2, vL 0, vL 5] (SH T, c2) = some (some (vI r3), (SH T, c4))) (h4 : ¬ r3 = 0) (h5 : cal 186 [vL x3, vL 0, vL (w64 (2 + x2))] (SH T, c4) = some (some (vI r5), (SH T, c6))) (h6 : ¬ r5 = 0) (h7 : cal 278 [vR 78, vI x1, vI x2] (SH T, c6) = some (none, (SH T, c7))) (h8 : ¬ x3 = 2) (h9 : ¬ (c7 77 46) = 0) (h10 : ¬ x3 = 0) (h11 : ¬ x3 = 1) (h12 : 0 ≤ (w32 (x3 - 3)) ∧ (w32 (x3 - 3)) < 5) : cal 280 [vR 78, vI x1, vI x2, vI x3] (SH T, c) = some (some (vI (c7 98 (w32 (x3 - 3)))), (SH T, c7)) := by
  refine (ev_eq _ _ _ _ _ _).trans ?_
  refine (el_call rfl h1).trans ?_
  refine (if_neg h2).trans ?_
  refine (el_call rfl h3).trans ?_
  refine (if_neg h4).trans ?_
  refine (el_call rfl h5).trans ?_
  refine (if_neg h6).trans ?_
  refine (ev_eq _ _ _ _ _ _).trans ?_
  refine (el_call rfl h7).trans ?_
  refine (if_neg h8).trans ?_
  refine (ev_eq _ _ _ _ _ _).trans ?_
  refine (if_neg h9).trans ?_
  refine (ev_eq _ _ _ _ _ _).trans ?_
  refine (if_neg h10).trans ?_
  refine (ev_eq _ _ _ _ _ _).trans ?_
  refine (if_neg h11).trans ?_
  refine (ev_eq _ _ _ _ _ _).trans ?_
  refine (if_pos h12).trans ?_
  rfl
theorem E_X12_driftOf {T : List Shp} {c : Nat → Int → Int} {x1 x2 : Int} {r1 : Int} {c2 : Nat → Int → Int} {r3 : Int} {c4 : Nat → Int → Int} (h1 : cal 203 [vR 78, vI x1] (SH T, c) = some (some (vI r1), (SH T, c2))) (h2 : cal 197 [vR 78] (SH T, c2) = some (some (vI r3), (SH T, c4))) : cal 281 [vR 78, vI x1, vI x2] (SH T, c) = ev 281 8 16 [vR 78, vI x1, vI x2, vI (ishl 1 r1), vI (w32 (r3 + 1)), vU, vU, vU] [] (SH T, c4) := by
  refine (ev_eq _ _ _ _ _ _).trans ?_
  refine (el_call rfl h1).trans ?_
  refine (el_call rfl h2).trans ?_
  rfl
theorem B_X12_driftOf_16_1 {T : List Shp} {c : Nat → Int → Int} {x1 x2 x3 x4 : Int} {r1 : Int} {c2 : Nat → Int → Int} (h1 : cal 197 [vR 78] (SH T, c) = some (some (vI r1), (SH T, c2))) (h2 : (w32 (r1 + x2)) < x4) : ev 281 8 16 [vR 78, vI x1, vI x2, vI x3, vI x4, vU, vU, vU] [] (SH T, c) = some (some (vI x3), (SH T, c2)) := by
  refine (ev_eq _ _ _ _ _ _).trans ?_
  refine (el_call rfl h1).trans ?_
  refine (if_pos h2).trans ?_
  refine (ev_eq _ _ _ _ _ _).trans ?_
  rfl
theorem B_X12_driftOf_16_2 {T : List Shp} {c : Nat → Int → Int} {x1 x2 x3 x4 : Int} {r1 : Int} {c2 : Nat → Int → Int} {c3 : Nat → Int → Int} (h1 : cal 197 [vR 78] (SH T, c) = some (some (vI r1), (SH T, c2))) (h2 : ¬ (w32 (r1 + x2)) < x4) (h3 : cal 259 [vR 78, vI x4] (SH T, c2) = some (none, (SH T, c3))) : ev 281 8 16 [vR 78, vI x1, vI x2, vI x3, vI x4, vU, vU, vU] [] (SH T, c) = ev 281 8 39 [vR 78, vI x1, vI x2, vI x3, vI x4, vI 0, vI 0, vU] [] (SH T, c3) := by
  refine (ev_eq _ _ _ _ _ _).trans ?_
  refine (el_call rfl h1).trans ?_
  refine (if_neg h2).trans ?_
  refine (el_call rfl h3).trans ?_
  rfl
theorem B_X12_driftOf_39_1 {T : List Shp} {c : Nat → Int → Int} {x1 x2 x3 x4 x5 x6 : Int} {r1 : Int} {c2 : Nat → Int → Int} (h1 : x6 < (c 79 0)) (h2 : cal 256 [vR 78, vI x6, vI x4] (SH T, c) = some (some (vI r1), (SH T, c2))) (h3 : r1 = 0) : ev 281 8 39 [vR 78, vI x1, vI x2, vI x3, vI x4, vI x5, vI x6, vU] [] (SH T, c) = ev 281 8 64 [vR 78, vI x1, vI x2, vI x3, vI x4, vI x5, vI x6, vI 0] [] (SH T, c2) := by
  refine (ev_eq _ _ _ _ _ _).trans ?_
  refine (if_pos h1).trans ?_
  refine (el_call rfl h2).trans ?_
  refine (if_pos h3).trans ?_
  rfl
theorem B_X12_driftOf_39_2 {T : List Shp} {c : Nat → Int → Int} {x1 x2 x3 x4 x5 x6 : Int} {r1 : Int} {c2 : Nat → Int → Int} (h1 : x6 < (c 79 0)) (h2 : cal 256 [vR 78, vI x6, vI x4] (SH T, c) = some (some (vI r1), (SH T, c2))) (h3 : ¬ r1 = 0) : ev 281 8 39 [vR 78, vI x1, vI x2, vI x3, vI x4, vI x5, vI x6, vU] [] (SH T, c) = ev 281 8 108 [vR 78, vI x1, vI x2, vI x3, vI x4, vI x5, vI x6, vU] [] (SH T, c2) := by
  refine (ev_eq _ _ _ _ _ _).trans ?_
  refine (if_pos h1).trans ?_
  refine (el_call rfl h2).trans ?_
  refine (if_neg h3).trans ?_
  rfl
theorem B_X12_driftOf_39_3 {T : List Shp} {c : Nat → Int → Int} {x1 x2 x3 x4 x5 x6 : Int} (h1 : ¬ x6 < (c 79 0)) : ev 281 8 39 [vR 78, vI x1, vI x2, vI x3, vI x4, vI x5, vI x6, vU] [] (SH T, c) = ev 281 8 16 [vR 78, vI x1, vI x2, vI x5, vI (w32 (x4 + 1)), vU, vU, vU] [] (SH T, c) := by
  refine (ev_eq _ _ _ _ _ _).trans ?_
  refine (if_neg h1).trans ?_
  refine (ev_eq _ _ _ _ _ _).trans ?_
  rfl
theorem B_X12_driftOf_64_1 {T : List Shp} {c : Nat → Int → Int} {x1 x2 x3 x4 x5 x6 x7 : Int} {r1 : Int} {c2 : Nat → Int → Int} (h1 : x7 < 10) (h2 : cal 187 [vI x3, vI x7] (SH T, c) = some (some (vI r1), (SH T, c2))) (h3 : r1 = 0) : ev 281 8 64 [vR 78, vI x1, vI x2, vI x3, vI x4, vI x5, vI x6, vI x7] [] (SH T, c) = ev 281 8 64 [vR 78, vI x1, vI x2, vI x3, vI x4, vI (ior x5 0), vI x6, vI (w32 (x7 + 1))] [] (SH T, c2) := by
  refine (ev_eq _ _ _ _ _ _).trans ?_
  refine (if_pos h1).trans ?_
  refine (el_call rfl h2).trans ?_
  refine (if_pos h3).trans ?_
  refine (ev_eq _ _ _ _ _ _).trans ?_
  rfl
theorem B_X12_driftOf_64_2 {T : List Shp} {c : Nat → Int → Int} {x1 x2 x3 x4 x5 x6 x7 : Int} {r1 : Int} {c2 : Nat → Int → Int} {r3 : Int} {c4 : Nat → Int → Int} (h1 : x7 < 10) (h2 : cal 187 [vI x3, vI x7] (SH T, c) = some (some (vI r1), (SH T, c2))) (h3 : ¬ r1 = 0) (h4 : cal 260 [vR 78, vI x6, vI x1, vI x4, vI x7] (SH T, c2) = some (some (vI r3), (SH T, c4))) : ev 281 8 64 [vR 78, vI x1, vI x2, vI x3, vI x4, vI x5, vI x6, vI x7] [] (SH T, c) = ev 281 8 64 [vR 78, vI x1, vI x2, vI x3, vI x4, vI (ior x5 (ishl 1 r3)), vI x6, vI (w32 (x7 + 1))] [] (SH T, c4) := by
  refine (ev_eq _ _ _ _ _ _).trans ?_
  refine (if_pos h1).trans ?_
  refine (el_call rfl h2).trans ?_
  refine (if_neg h3).trans ?_
  refine (el_call rfl h4).trans ?_
  rfl
theorem B_X12_driftOf_64_3 {T : List Shp} {c : Nat → Int → Int} {x1 x2 x3 x4 x5 x6 x7 : Int} (h1 : ¬ x7 < 10) : ev 281 8 64 [vR 78, vI x1, vI x2, vI x3, vI x4, vI x5, vI x6, vI x7] [] (SH T, c) = ev 281 8 108 [vR 78, vI x1, vI x2, vI x3, vI x4, vI x5, vI x6, vU] [] (SH T, c) := by
  refine (ev_eq _ _ _ _ _ _).trans ?_
  refine (if_neg h1).trans ?_
  rfl
theorem B_X12_driftOf_108 {T : List Shp} {c : Nat → Int → Int} {x1 x2 x3 x4 x5 x6 : Int}  : ev 281 8 108 [vR 78, vI x1, vI x2, vI x3, vI x4, vI x5, vI x6, vU] [] (SH T, c) = ev 281 8 39 [vR 78, vI x1, vI x2, vI x3, vI x4, vI x5, vI (w32 (x6 + 1)), vU] [] (SH T, c) := by
  refine (ev_eq _ _ _ _ _ _).trans ?_
  rfl
theorem E_X12_drift_1 {T : List Shp} {c : Nat → Int → Int} {x1 x2 x3 : Int} {r1 : Int} {c2 : Nat → Int → Int} (h1 : cal 194 [vI x1] (SH T, (up c 77 0 0)) = some (some (vI r1), (SH T, c2))) (h2 : r1 = 0) : cal 282 [vR 78, vI x1, vI x2, vI x3] (SH T, c) = some (some (vI (-1)), (SH T, c2)) := by
  refine (ev_eq _ _ _ _ _ _).trans ?_
  refine (el_call rfl h1).trans ?_
  refine (if_pos h2).trans ?_
  refine (ev_eq _ _ _ _ _ _).trans ?_
  rfl
theorem E_X12_drift_2 {T : List Shp} {c : Nat → Int → Int} {x1 x2 x3 : Int} {r1 : Int} {c2 : Nat → Int → Int} {r3 : Int} {c4 : Nat → Int → Int} (h1 : cal 194 [vI x1] (SH T, (up c 77 0 0)) = some (some (vI r1), (SH T, c2))) (h2 : ¬ r1 = 0) (h3 : cal 186 [vL x2, vL 0, vL 10] (SH T, c2) = some (some (vI r3), (SH T, c4))) (h4 : r3 = 0) : cal 282 [vR 78, vI x1, vI x2, vI x3] (SH T, c) = some (some (vI (-1)), (SH T, c4)) := by
  refine (ev_eq _ _ _ _ _ _).trans ?_
  refine (el_call rfl h1).trans ?_
  refine (if_neg h2).trans ?_
  refine (el_call rfl h3).trans ?_
  refine (if_pos h4).trans ?_
  refine (ev_eq _ _ _ _ _ _).trans ?_
  rfl
theorem E_X12_drift_3 {T : List Shp} {c : Nat → Int → Int} {x1 x2 x3 : Int} {r1 : Int} {c2 : Nat → Int → Int} {r3 : Int} {c4 : Nat → Int → Int} {r5 : Int} {c6 : Nat → Int → Int} (h1 : cal 194 [vI x1] (SH T, (up c 77 0 0)) = some (some (vI r1), (SH T, c2))) (h2 : ¬ r1 = 0) (h3 : cal 186 [vL x2, vL 0, vL 10] (SH T, c2) = some (some (vI r3), (SH T, c4))) (h4 : ¬ r3 = 0) (h5 : cal 186 [vL x3, vL 0, vL 2] (SH T, c4) = some (some (vI r5), (SH T, c6))) (h6 : r5 = 0) : cal 282 [vR 78, vI x1, vI x2, vI x3] (SH T, c) = some (some (vI (-1)), (SH T, c6)) := by
  refine (ev_eq _ _ _ _ _ _).trans ?_
  refine (el_call rfl h1).trans ?_
  refine (if_neg h2).trans ?_
  refine (el_call rfl h3).trans ?_
  refine (if_neg h4).trans ?_
  refine (el_call rfl h5).trans ?_
  refine (if_pos h6).trans ?_
  refine (ev_eq _ _ _ _ _ _).trans ?_
  rfl
theorem E_X12_drift_4 {T : List Shp} {c : Nat → Int → Int} {x1 x2 x3 : Int} {r1 : Int} {c2 : Nat → Int → Int} {r3 : Int} {c4 : Nat → Int → Int} {r5 : Int} {c6 : Nat → Int → Int} {r7 : Int} {c8 : Nat → Int → Int} (h1 : cal 194 [vI x1] (SH T, (up c 77 0 0)) = some (some (vI r1), (SH T, c2))) (h2 : ¬ r1 = 0) (h3 : cal 186 [vL x2, vL 0, vL 10] (SH T, c2) = some (some (vI r3), (SH T, c4))) (h4 : ¬ r3 = 0) (h5 : cal 186 [vL x3, vL 0, vL 2] (SH T, c4) = some (some (vI r5), (SH T, c6))) (h6 : ¬ r5 = 0) (h7 : cal 281 [vR 78, vI x1, vI x2] (SH T, c6) = some (some (vI r7), (SH T, c8))) (h8 : x3 = 2) : cal 282 [vR 78, vI x1, vI x2, vI x3] (SH T, c) = some (some (vI r7), (SH T, c8)) := by
  refine (ev_eq _ _ _ _ _ _).trans ?_
  refine (el_call rfl h1).trans ?_
  refine (if_neg h2).trans ?_
  refine (el_call rfl h3).trans ?_
  refine (if_neg h4).trans ?_
  refine (el_call rfl h5).trans ?_
  refine (if_neg h6).trans ?_
  refine (ev_eq _ _ _ _ _ _).trans ?_
  refine (el_call rfl h7).trans ?_
  refine (if_pos h8).trans ?_
  rfl
theorem E_X12_drift_5 {T : List Shp} {c : Nat → Int → Int} {x1 x2 x3 : Int} {r1 : Int} {c2 : Nat → Int → Int} {r3 : Int} {c4 : Nat → Int → Int} {r5 : Int} {c6 : Nat → Int → Int} {r7 : Int} {c8 : Nat → Int → Int} (h1 : cal 194 [vI x1] (SH T, (up c 77 0 0)) = some (some (vI r1), (SH T, c2))) (h2 : ¬ r1 = 0) (h3 : cal 186 [vL x2, vL 0, vL 10] (SH T, c2) = some (some (vI r3), (SH T, c4))) (h4 : ¬ r3 = 0) (h5 : cal 186 [vL x3, vL 0, vL 2] (SH T, c4) = some (some (vI r5), (SH T, c6))) (h6 : ¬ r5 = 0) (h7 : cal 281 [vR 78, vI x1, vI x2] (SH T, c6) = some (some (vI r7), (SH T, c8))) (h8 : ¬ x3 = 2) : cal 282 [vR 78, vI x1, vI x2, vI x3] (SH T, c) = ev 282 9 60 [vU, vU, vU, vI x3, vI r7, vI (-1), vI 0] [] (SH T, c8) := by
  refine (ev_eq _ _ _ _ _ _).trans ?_
  refine (el_call rfl h1).trans ?_
  refine (if_neg h2).trans ?_
  refine (el_call rfl h3).trans ?_
  refine (if_neg h4).trans ?_
  refine (el_call rfl h5).trans ?_
  refine (if_neg h6).trans ?_
  refine (ev_eq _ _ _ _ _ _).trans ?_
  refine (el_call rfl h7).trans ?_
  refine (if_neg h8).trans ?_
  refine (ev_eq _ _ _ _ _ _).trans ?_
  rfl
theorem B_X12_drift_60_1 {T : List Shp} {c : Nat → Int → Int} {x3 x4 x5 x6 : Int} {r1 : Int} {c2 : Nat → Int → Int} (h1 : x6 < 10) (h2 : cal 187 [vI x4, vI x6] (SH T, c) = some (some (vI r1), (SH T, c2))) (h3 : r1 = 0) : ev 282 9 60 [vU, vU, vU, vI x3, vI x4, vI x5, vI x6] [] (SH T, c) = ev 282 9 93 [vU, vU, vU, vI x3, vI x4, vI x5, vI x6] [] (SH T, c2) := by
  refine (ev_eq _ _ _ _ _ _).trans ?_
  refine (if_pos h1).trans ?_
  refine (el_call rfl h2).trans ?_
  refine (if_pos h3).trans ?_
  rfl
theorem B_X12_drift_60_2 {T : List Shp} {c : Nat → Int → Int} {x3 x4 x5 x6 : Int} {r1 : Int} {c2 : Nat → Int → Int} (h1 : x6 < 10) (h2 : cal 187 [vI x4, vI x6] (SH T, c) = some (some (vI r1), (SH T, c2))) (h3 : ¬ r1 = 0) (h4 : x5 = (-1)) : ev 282 9 60 [vU, vU, vU, vI x3, vI x4, vI x5, vI x6] [] (SH T, c) = ev 282 9 88 [vU, vU, vU, vI x3, vI x4, vU, vI x6] [] (SH T, c2) := by
  refine (ev_eq _ _ _ _ _ _).trans ?_
  refine (if_pos h1).trans ?_
  refine (el_call rfl h2).trans ?_
  refine (if_neg h3).trans ?_
  refine (if_pos h4).trans ?_
  rfl
theorem B_X12_drift_60_3 {T : List Shp} {c : Nat → Int → Int} {x3 x4 x5 x6 : Int} {r1 : Int} {c2 : Nat → Int → Int} (h1 : x6 < 10) (h2 : cal 187 [vI x4, vI x6] (SH T, c) = some (some (vI r1), (SH T, c2))) (h3 : ¬ r1 = 0) (h4 : ¬ x5 = (-1)) (h5 : x3 = 1) : ev 282 9 60 [vU, vU, vU, vI x3, vI x4, vI x5, vI x6] [] (SH T, c) = ev 282 9 88 [vU, vU, vU, vI x3, vI x4, vU, vI x6] [] (SH T, c2) := by
  refine (ev_eq _ _ _ _ _ _).trans ?_
  refine (if_pos h1).trans ?_
  refine (el_call rfl h2).trans ?_
  refine (if_neg h3).trans ?_
  refine (if_neg h4).trans ?_
  refine (if_pos h5).trans ?_
  rfl
theorem B_X12_drift_60_4 {T : List Shp} {c : Nat → Int → Int} {x3 x4 x5 x6 : Int} {r1 : Int} {c2 : Nat → Int → Int} (h1 : x6 < 10) (h2 : cal 187 [vI x4, vI x6] (SH T, c) = some (some (vI r1), (SH T, c2))) (h3 : ¬ r1 = 0) (h4 : ¬ x5 = (-1)) (h5 : ¬ x3 = 1) : ev 282 9 60 [vU, vU, vU, vI x3, vI x4, vI x5, vI x6] [] (SH T, c) = ev 282 9 93 [vU, vU, vU, vI x3, vI x4, vI x5, vI x6] [] (SH T, c2) := by
  refine (ev_eq _ _ _ _ _ _).trans ?_
  refine (if_pos h1).trans ?_
  refine (el_call rfl h2).trans ?_
  refine (if_neg h3).trans ?_
  refine (if_neg h4).trans ?_
  refine (if_neg h5).trans ?_
  rfl
theorem B_X12_drift_60_5 {T : List Shp} {c : Nat → Int → Int} {x3 x4 x5 x6 : Int} (h1 : ¬ x6 < 10) : ev 282 9 60 [vU, vU, vU, vI x3, vI x4, vI x5, vI x6] [] (SH T, c) = some (some (vI x5), (SH T, c)) := by
  refine (ev_eq _ _ _ _ _ _).trans ?_
  refine (if_neg h1).trans ?_
  refine (ev_eq _ _ _ _ _ _).trans ?_
  rfl
theorem B_X12_drift_88 {T : List Shp} {c : Nat → Int → Int} {x3 x4 x6 : Int}  : ev 282 9 88 [vU, vU, vU, vI x3, vI x4, vU, vI x6] [] (SH T, c) = ev 282 9 60 [vU, vU, vU, vI x3, vI x4, vI x6, vI (w32 (x6 + 1))] [] (SH T, c) := by
  refine (ev_eq _ _ _ _ _ _).trans ?_
  rfl
theorem B_X12_drift_93 {T : List Shp} {c : Nat → Int → Int} {x3 x4 x5 x6 : Int}  : ev 282 9 93 [vU, vU, vU, vI x3, vI x4, vI x5, vI x6] [] (SH T, c) = ev 282 9 60 [vU, vU, vU, vI x3, vI x4, vI x5, vI (w32 (x6 + 1))] [] (SH T, c) := by
  refine (ev_eq _ _ _ _ _ _).trans ?_
  rfl
theorem E_X12_undoing {T : List Shp} {c : Nat → Int → Int} {x1 : Int} {r1 : Int} {c2 : Nat → Int → Int} {c3 : Nat → Int → Int} {c4 : Nat → Int → Int} {r5 : Int} {c6 : Nat → Int → Int} {c7 : Nat → Int → Int} (h1 : cal 197 [vR 78] (SH T, (up c 77 0 0)) = some (some (vI r1), (SH T, c2))) (h2 : cal 259 [vR 78, vI (w32 (r1 + 1))] (SH T, c2) = some (none, (SH T, c3))) (h3 : cal 259 [vR 78, vI (w32 ((w32 (r1 + 1)) + 1))] (SH T, c3) = some (none, (SH T, c4))) (h4 : cal 197 [vR 78] (SH T, c4) = some (some (vI r5), (SH T, c6))) (h5 : cal 262 [vR 78, vI 0, vI r5] (SH T, c6) = some (none, (SH T, c7))) : cal 283 [vR 78, vI x1] (SH T, c) = ev 283 8 38 [vR 78, vI x1, vI (w32 (r1 + 1)), vI 0, vI 0, vU, vU] [] (SH T, c7) := by
  refine (ev_eq _ _ _ _ _ _).trans ?_
  refine (el_call rfl h1).trans ?_
  refine (el_call rfl h2).trans ?_
  refine (el_call rfl h3).trans ?_
  refine (el_call rfl h4).trans ?_
  refine (el_call rfl h5).trans ?_
  rfl
theorem B_X12_undoing_38_1 {T : List Shp} {c : Nat → Int → Int} {x1 x2 x3 x4 : Int} {r1 : Int} {c2 : Nat → Int → Int} (h1 : x4 < 25) (h2 : cal 199 [vR 78, vI (w32 (Int.tdiv x4 5))] (SH T, c) = some (some (vI r1), (SH T, c2))) (h3 : r1 = 0) : ev 283 8 38 [vR 78, vI x1, vI x2, vI x3, vI x4, vU, vU] [] (SH T, c) = ev 283 8 115 [vR 78, vI x1, vI x2, vI x3, vI x4, vU, vU] [] (SH T, c2) := by
  refine (ev_eq _ _ _ _ _ _).trans ?_
  refine (if_pos h1).trans ?_
  refine (el_call rfl h2).trans ?_
  refine (if_pos h3).trans ?_
  rfl
theorem B_X12_undoing_38_2 {T : List Shp} {c : Nat → Int → Int} {x1 x2 x3 x4 : Int} {r1 : Int} {c2 : Nat → Int → Int} {r3 : Int} {c4 : Nat → Int → Int} (h1 : x4 < 25) (h2 : cal 199 [vR 78, vI (w32 (Int.tdiv x4 5))] (SH T, c) = some (some (vI r1), (SH T, c2))) (h3 : ¬ r1 = 0) (h4 : cal 199 [vR 78, vI (w32 (Int.tmod x4 5))] (SH T, c2) = some (some (vI r3), (SH T, c4))) (h5 : r3 = 0) : ev 283 8 38 [vR 78, vI x1, vI x2, vI x3, vI x4, vU, vU] [] (SH T, c) = ev 283 8 115 [vR 78, vI x1, vI x2, vI x3, vI x4, vU, vU] [] (SH T, c4) := by
  refine (ev_eq _ _ _ _ _ _).trans ?_
  refine (if_pos h1).trans ?_
  refine (el_call rfl h2).trans ?_
  refine (if_neg h3).trans ?_
  refine (el_call rfl h4).trans ?_
  refine (if_pos h5).trans ?_
  rfl
theorem B_X12_undoing_38_3 {T : List Shp} {c : Nat → Int → Int} {x1 x2 x3 x4 : Int} {r1 : Int} {c2 : Nat → Int → Int} {r3 : Int} {c4 : Nat → Int → Int} {c5 : Nat → Int → Int} {c6 : Nat → Int → Int} {r7 : Int} {c8 : Nat → Int → Int} (h1 : x4 < 25) (h2 : cal 199 [vR 78, vI (w32 (Int.tdiv x4 5))] (SH T, c) = some (some (vI r1), (SH T, c2))) (h3 : ¬ r1 = 0) (h4 : cal 199 [vR 78, vI (w32 (Int.tmod x4 5))] (SH T, c2) = some (some (vI r3), (SH T, c4))) (h5 : ¬ r3 = 0) (h6 : cal 261 [vR 78, vI 0, vI 1, vI (w32 (Int.tdiv x4 5)), vI x2] (SH T, c4) = some (none, (SH T, c5))) (h7 : cal 261 [vR 78, vI 1, vI 2, vI (w32 (Int.tmod x4 5)), vI (w32 (x2 + 1))] (SH T, c5) = some (none, (SH T, c6))) (h8 : cal 284 [vR 78, vI 0, vI 2] (SH T, c6) = some (some (vI r7), (SH T, c8))) (h9 : r7 = 0) : ev 283 8 38 [vR 78, vI x1, vI x2, vI x3, vI x4, vU, vU] [] (SH T, c) = ev 283 8 115 [vR 78, vI x1, vI x2, vI x3, vI x4, vU, vU] [] (SH T, c8) := by
  refine (ev_eq _ _ _ _ _ _).trans ?_
  refine (if_pos h1).trans ?_
  refine (el_call rfl h2).trans ?_
  refine (if_neg h3).trans ?_
  refine (el_call rfl h4).trans ?_
  refine (if_neg h5).trans ?_
  refine (el_call rfl h6).trans ?_
  refine (el_call rfl h7).trans ?_
  refine (el_call rfl h8).trans ?_
  refine (if_pos h9).trans ?_
  rfl
theorem B_X12_undoing_38_4 {T : List Shp} {c : Nat → Int → Int} {x1 x2 x3 x4 : Int} {r1 : Int} {c2 : Nat → Int → Int} {r3 : Int} {c4 : Nat → Int → Int} {c5 : Nat → Int → Int} {c6 : Nat → Int → Int} {r7 : Int} {c8 : Nat → Int → Int} (h1 : x4 < 25) (h2 : cal 199 [vR 78, vI (w32 (Int.tdiv x4 5))] (SH T, c) = some (some (vI r1), (SH T, c2))) (h3 : ¬ r1 = 0) (h4 : cal 199 [vR 78, vI (w32 (Int.tmod x4 5))] (SH T, c2) = some (some (vI r3), (SH T, c4))) (h5 : ¬ r3 = 0) (h6 : cal 261 [vR 78, vI 0, vI 1, vI (w32 (Int.tdiv x4 5)), vI x2] (SH T, c4) = some (none, (SH T, c5))) (h7 : cal 261 [vR 78, vI 1, vI 2, vI (w32 (Int.tmod x4 5)), vI (w32 (x2 + 1))] (SH T, c5) = some (none, (SH T, c6))) (h8 : cal 284 [vR 78, vI 0, vI 2] (SH T, c6) = some (some (vI r7), (SH T, c8))) (h9 : ¬ r7 = 0) (h10 : x3 = x1) : ev 283 8 38 [vR 78, vI x1, vI x2, vI x3, vI x4, vU, vU] [] (SH T, c) = some (some (vI x4), (SH T, c8)) := by
  refine (ev_eq _ _ _ _ _ _).trans ?_
  refine (if_pos h1).trans ?_
  refine (el_call rfl h2).trans ?_
  refine (if_neg h3).trans ?_
  refine (el_call rfl h4).trans ?_
  refine (if_neg h5).trans ?_
  refine (el_call rfl h6).trans ?_
  refine (el_call rfl h7).trans ?_
  refine (el_call rfl h8).trans ?_
  refine (if_neg h9).trans ?_
  refine (if_pos h10).trans ?_
  rfl
theorem B_X12_undoing_38_5 {T : List Shp} {c : Nat → Int → Int} {x1 x2 x3 x4 : Int} {r1 : Int} {c2 : Nat → Int → Int} {r3 : Int} {c4 : Nat → Int → Int} {c5 : Nat → Int → Int} {c6 : Nat → Int → Int} {r7 : Int} {c8 : Nat → Int → Int} (h1 : x4 < 25) (h2 : cal 199 [vR 78, vI (w32 (Int.tdiv x4 5))] (SH T, c) = some (some (vI r1), (SH T, c2))) (h3 : ¬ r1 = 0) (h4 : cal 199 [vR 78, vI (w32 (Int.tmod x4 5))] (SH T, c2) = some (some (vI r3), (SH T, c4))) (h5 : ¬ r3 = 0) (h6 : cal 261 [vR 78, vI 0, vI 1, vI (w32 (Int.tdiv x4 5)), vI x2] (SH T, c4) = some (none, (SH T, c5))) (h7 : cal 261 [vR 78, vI 1, vI 2, vI (w32 (Int.tmod x4 5)), vI (w32 (x2 + 1))] (SH T, c5) = some (none, (SH T, c6))) (h8 : cal 284 [vR 78, vI 0, vI 2] (SH T, c6) = some (some (vI r7), (SH T, c8))) (h9 : ¬ r7 = 0) (h10 : ¬ x3 = x1) : ev 283 8 38 [vR 78, vI x1, vI x2, vI x3, vI x4, vU, vU] [] (SH T, c) = ev 283 8 115 [vR 78, vI x1, vI x2, vI (w32 (x3 + 1)), vI x4, vU, vU] [] (SH T, c8) := by
  refine (ev_eq _ _ _ _ _ _).trans ?_
  refine (if_pos h1).trans ?_
  refine (el_call rfl h2).trans ?_
  refine (if_neg h3).trans ?_
  refine (el_call rfl h4).trans ?_
  refine (if_neg h5).trans ?_
  refine (el_call rfl h6).trans ?_
  refine (el_call rfl h7).trans ?_
  refine (el_call rfl h8).trans ?_
  refine (if_neg h9).trans ?_
  refine (if_neg h10).trans ?_
  refine (ev_eq _ _ _ _ _ _).trans ?_
  rfl
theorem B_X12_undoing_38_6 {T : List Shp} {c : Nat → Int → Int} {x1 x2 x3 x4 : Int} (h1 : ¬ x4 < 25) (h2 : x1 = (-1)) : ev 283 8 38 [vR 78, vI x1, vI x2, vI x3, vI x4, vU, vU] [] (SH T, c) = some (some (vI x3), (SH T, c)) := by
  refine (ev_eq _ _ _ _ _ _).trans ?_
  refine (if_neg h1).trans ?_
  refine (ev_eq _ _ _ _ _ _).trans ?_
  refine (if_pos h2).trans ?_
  rfl
theorem B_X12_undoing_38_7 {T : List Shp} {c : Nat → Int → Int} {x1 x2 x3 x4 : Int} (h1 : ¬ x4 < 25) (h2 : ¬ x1 = (-1)) : ev 283 8 38 [vR 78, vI x1, vI x2, vI x3, vI x4, vU, vU] [] (SH T, c) = some (some (vI (-1)), (SH T, c)) := by
  refine (ev_eq _ _ _ _ _ _).trans ?_
  refine (if_neg h1).trans ?_
  refine (ev_eq _ _ _ _ _ _).trans ?_
  refine (if_neg h2).trans ?_
  refine (ev_eq _ _ _ _ _ _).trans ?_
  rfl
theorem B_X12_undoing_115 {T : List Shp} {c : Nat → Int → Int} {x1 x2 x3 x4 : Int}  : ev 283 8 115 [vR 78, vI x1, vI x2, vI x3, vI x4, vU, vU] [] (SH T, c) = ev 283 8 38 [vR 78, vI x1, vI x2, vI x3, vI (w32 (x4 + 1)), vU, vU] [] (SH T, c) := by
  refine (ev_eq _ _ _ _ _ _).trans ?_
  rfl
theorem E_X12_isSame {T : List Shp} {c : Nat → Int → Int} {x1 x2 : Int}  : cal 284 [vR 78, vI x1, vI x2] (SH T, c) = ev 284 1 5 [vR 78, vI x1, vI x2, vI 1, vI 0] [] (SH T, c) := by
  refine (ev_eq _ _ _ _ _ _).trans ?_
  rfl
theorem B_X12_isSame_5_1 {T : List Shp} {c : Nat → Int → Int} {x1 x2 x3 x4 : Int} (h1 : x4 < 12) (h2 : x3 = 0) : ev 284 1 5 [vR 78, vI x1, vI x2, vI x3, vI x4] [] (SH T, c) = ev 284 1 47 [vR 78, vI x1, vI x2, vU, vI x4] [] (SH T, c) := by
  refine (ev_eq _ _ _ _ _ _).trans ?_
  refine (if_pos h1).trans ?_
  refine (if_pos h2).trans ?_
  rfl
theorem B_X12_isSame_5_2 {T : List Shp} {c : Nat → Int → Int} {x1 x2 x3 x4 : Int} (h1 : x4 < 12) (h2 : ¬ x3 = 0) (h3 : 0 ≤ (w32 ((w32 (12 * x1)) + x4)) ∧ (w32 ((w32 (12 * x1)) + x4)) < 600) (h4 : 0 ≤ (w32 ((w32 (12 * x2)) + x4)) ∧ (w32 ((w32 (12 * x2)) + x4)) < 600) (h5 : (c 96 (w32 ((w32 (12 * x1)) + x4))) = (c 96 (w32 ((w32 (12 * x2)) + x4)))) : ev 284 1 5 [vR 78, vI x1, vI x2, vI x3, vI x4] [] (SH T, c) = ev 284 1 5 [vR 78, vI x1, vI x2, vI 1, vI (w32 (x4 + 1))] [] (SH T, c) := by
  refine (ev_eq _ _ _ _ _ _).trans ?_
  refine (if_pos h1).trans ?_
  refine (if_neg h2).trans ?_
  refine (if_pos h3).trans ?_
  refine (if_pos h4).trans ?_
  refine (if_pos h5).trans ?_
  rfl
theorem B_X12_isSame_5_3 {T : List Shp} {c : Nat → Int → Int} {x1 x2 x3 x4 : Int} (h1 : x4 < 12) (h2 : ¬ x3 = 0) (h3 : 0 ≤ (w32 ((w32 (12 * x1)) + x4)) ∧ (w32 ((w32 (12 * x1)) + x4)) < 600) (h4 : 0 ≤ (w32 ((w32 (12 * x2)) + x4)) ∧ (w32 ((w32 (12 * x2)) + x4)) < 600) (h5 : ¬ (c 96 (w32 ((w32 (12 * x1)) + x4))) = (c 96 (w32 ((w32 (12 * x2)) + x4)))) : ev 284 1 5 [vR 78, vI x1, vI x2, vI x3, vI x4] [] (SH T, c) = ev 284 1 47 [vR 78, vI x1, vI x2, vU, vI x4] [] (SH T, c) := by
  refine (ev_eq _ _ _ _ _ _).trans ?_
  refine (if_pos h1).trans ?_
  refine (if_neg h2).trans ?_
  refine (if_pos h3).trans ?_
  refine (if_pos h4).trans ?_
  refine (if_neg h5).trans ?_
  rfl
theorem B_X12_isSame_5_4 {T : List Shp} {c : Nat → Int → Int} {x1 x2 x3 x4 : Int} (h1 : ¬ x4 < 12) (h2 : x3 = 0 ∨ x3 = 1) : ev 284 1 5 [vR 78, vI x1, vI x2, vI x3, vI x4] [] (SH T, c) = some (some (vI x3), (SH T, c)) := by
  refine (ev_eq _ _ _ _ _ _).trans ?_
  refine (if_neg h1).trans ?_
  refine (ev_eq _ _ _ _ _ _).trans ?_
  refine (if_pos h2).trans ?_
  rfl
theorem B_X12_isSame_47 {T : List Shp} {c : Nat → Int → Int} {x1 x2 x4 : Int}  : ev 284 1 47 [vR 78, vI x1, vI x2, vU, vI x4] [] (SH T, c) = ev 284 1 5 [vR 78, vI x1, vI x2, vI 0, vI (w32 (x4 + 1))] [] (SH T, c) := by
  refine (ev_eq _ _ _ _ _ _).trans ?_
  rfl
theorem E_X12_copyNow_1 {T : List Shp} {c : Nat → Int → Int} (h1 : (c 79 5) = 6) : cal 285 [vR 78] (SH T, c) = some (some (vI (-5)), (SH T, c)) := by
  refine (ev_eq _ _ _ _ _ _).trans ?_
  refine (if_pos h1).trans ?_
  rfl
theorem E_X12_copyNow_2 {T : List Shp} {c : Nat → Int → Int} (h1 : ¬ (c 79 5) = 6) : cal 285 [vR 78] (SH T, c) = ev 285 3 18 [vR 78, vI (c 79 5), vI 0] [] (SH T, c) := by
  refine (ev_eq _ _ _ _ _ _).trans ?_
  refine (if_neg h1).trans ?_
  refine (ev_eq _ _ _ _ _ _).trans ?_
  rfl
theorem B_X12_copyNow_18_1 {T : List Shp} {c : Nat → Int → Int} {x1 x2 : Int} {r1 : Int} {c2 : Nat → Int → Int} (h1 : x2 < 12) (h2 : cal 203 [vR 78, vI x2] (SH T, c) = some (some (vI r1), (SH T, c2))) (h3 : 0 ≤ (w32 ((w32 (276 + (w32 (12 * x1)))) + x2)) ∧ (w32 ((w32 (276 + (w32 (12 * x1)))) + x2)) < 5780) : ev 285 3 18 [vR 78, vI x1, vI x2] [] (SH T, c) = ev 285 3 18 [vR 78, vI x1, vI (w32 (x2 + 1))] [] (SH T, (up c2 79 (w32 ((w32 (276 + (w32 (12 * x1)))) + x2)) r1)) := by
  refine (ev_eq _ _ _ _ _ _).trans ?_
  refine (if_pos h1).trans ?_
  refine (el_call rfl h2).trans ?_
  refine (if_pos h3).trans ?_
  rfl
theorem B_X12_copyNow_18_2 {T : List Shp} {c : Nat → Int → Int} {x1 x2 : Int} (h1 : ¬ x2 < 12) : ev 285 3 18 [vR 78, vI x1, vI x2] [] (SH T, c) = some (some (vI x1), (SH T, (up c 79 5 (w32 ((c 79 5) + 1))))) := by
  refine (ev_eq _ _ _ _ _ _).trans ?_
  refine (if_neg h1).trans ?_
  refine (ev_eq _ _ _ _ _ _).trans ?_
  rfl
theorem E_X12_copy {T : List Shp} {c : Nat → Int → Int} {r1 : Int} {c2 : Nat → Int → Int} {r3 : Int} {c4 : Nat → Int → Int} (h1 : cal 285 [vR 78] (SH T, (up c 77 0 0)) = some (some (vI r1), (SH T, c2))) (h2 : cal 190 [vR 78, vI r1] (SH T, c2) = some (some (vI r3), (SH T, c4))) : cal 286 [vR 78] (SH T, c) = some (some (vI r3), (SH T, c4)) := by
  refine (ev_eq _ _ _ _ _ _).trans ?_
  refine (el_call rfl h1).trans ?_
  refine (el_call rfl h2).trans ?_
  rfl
theorem E_X12_touch_1 {T : List Shp} {c : Nat → Int → Int} {x1 x2 x3 : Int} {r1 : Int} {c2 : Nat → Int → Int} (h1 : cal 194 [vI x2] (SH T, (up c 77 0 0)) = some (some (vI r1), (SH T, c2))) (h2 : r1 = 0) : cal 287 [vR 78, vI x1, vI x2, vI x3] (SH T, c) = ev 287 3 19 [vR 78, vU, vU, vU] [] (SH T, c2) := by
  refine (ev_eq _ _ _ _ _ _).trans ?_
  refine (el_call rfl h1).trans ?_
  refine (if_pos h2).trans ?_
  rfl
theorem E_X12_touch_2 {T : List Shp} {c : Nat → Int → Int} {x1 x2 x3 : Int} {r1 : Int} {c2 : Nat → Int → Int} {r3 : Int} {c4 : Nat → Int → Int} (h1 : cal 194 [vI x2] (SH T, (up c 77 0 0)) = some (some (vI r1), (SH T, c2))) (h2 : ¬ r1 = 0) (h3 : cal 195 [vI x3] (SH T, c2) = some (some (vI r3), (SH T, c4))) (h4 : r3 = 0) : cal 287 [vR 78, vI x1, vI x2, vI x3] (SH T, c) = ev 287 3 19 [vR 78, vU, vU, vU] [] (SH T, c4) := by
  refine (ev_eq _ _ _ _ _ _).trans ?_
  refine (el_call rfl h1).trans ?_
  refine (if_neg h2).trans ?_
  refine (el_call rfl h3).trans ?_
  refine (if_pos h4).trans ?_
  rfl
theorem E_X12_touch_3 {T : List Shp} {c : Nat → Int → Int} {x1 x2 x3 : Int} {r1 : Int} {c2 : Nat → Int → Int} {r3 : Int} {c4 : Nat → Int → Int} {r5 : Int} {c6 : Nat → Int → Int} {r7 : Int} {c8 : Nat → Int → Int} (h1 : cal 194 [vI x2] (SH T, (up c 77 0 0)) = some (some (vI r1), (SH T, c2))) (h2 : ¬ r1 = 0) (h3 : cal 195 [vI x3] (SH T, c2) = some (some (vI r3), (SH T, c4))) (h4 : ¬ r3 = 0) (h5 : cal 200 [vR 78, vI x1] (SH T, c4) = some (some (vI r5), (SH T, c6))) (h6 : r5 = 0) (h7 : cal 190 [vR 78, vI (-2)] (SH T, c6) = some (some (vI r7), (SH T, c8))) : cal 287 [vR 78, vI x1, vI x2, vI x3] (SH T, c) = some (some (vI r7), (SH T, c8)) := by
  refine (ev_eq _ _ _ _ _ _).trans ?_
  refine (el_call rfl h1).trans ?_
  refine (if_neg h2).trans ?_
  refine (el_call rfl h3).trans ?_
  refine (if_neg h4).trans ?_
  refine (ev_eq _ _ _ _ _ _).trans ?_
  refine (el_call rfl h5).trans ?_
  refine (if_pos h6).trans ?_
  refine (ev_eq _ _ _ _ _ _).trans ?_
  refine (el_call rfl h7).trans ?_
  rfl
theorem E_X12_touch_4 {T : List Shp} {c : Nat → Int → Int} {x1 x2 x3 : Int} {r1 : Int} {c2 : Nat → Int → Int} {r3 : Int} {c4 : Nat → Int → Int} {r5 : Int} {c6 : Nat → Int → Int} {r7 : Int} {c8 : Nat → Int → Int} (h1 : cal 194 [vI x2] (SH T, (up c 77 0 0)) = some (some (vI r1), (SH T, c2))) (h2 : ¬ r1 = 0) (h3 : cal 195 [vI x3] (SH T, c2) = some (some (vI r3), (SH T, c4))) (h4 : ¬ r3 = 0) (h5 : cal 200 [vR 78, vI x1] (SH T, c4) = some (some (vI r5), (SH T, c6))) (h6 : ¬ r5 = 0) (h7 : cal 191 [vR 78, vI (w32 ((w32 (276 + (w32 (12 * x1)))) + x2)), vI x3] (SH T, c6) = some (some (vI r7), (SH T, c8))) : cal 287 [vR 78, vI x1, vI x2, vI x3] (SH T, c) = some (some (vI r7), (SH T, c8)) := by
  refine (ev_eq _ _ _ _ _ _).trans ?_
  refine (el_call rfl h1).trans ?_
  refine (if_neg h2).trans ?_
  refine (el_call rfl h3).trans ?_
  refine (if_neg h4).trans ?_
  refine (ev_eq _ _ _ _ _ _).trans ?_
  refine (el_call rfl h5).trans ?_
  refine (if_neg h6).trans ?_
  refine (el_call rfl h7).trans ?_
  rfl
theorem B_X12_touch_19 {T : List Shp} {c : Nat → Int → Int} {r1 : Int} {c2 : Nat → Int → Int} (h1 : cal 190 [vR 78, vI (-1)] (SH T, c) = some (some (vI r1), (SH T, c2))) : ev 287 3 19 [vR 78, vU, vU, vU] [] (SH T, c) = some (some (vI r1), (SH T, c2)) := by
  refine (ev_eq _ _ _ _ _ _).trans ?_
  refine (el_call rfl h1).trans ?_
  rfl
theorem E_X12_burn {T : List Shp} {c : Nat → Int → Int}  : cal 288 [vR 78] (SH T, c) = some (some (vI (c 79 5)), (SH T, (up (up c 77 0 0) 79 5 0))) := by
  refine (ev_eq _ _ _ _ _ _).trans ?_
  rfl
theorem E_X12_apart {T : List Shp} {c : Nat → Int → Int} {x1 x2 : Int}  : cal 289 [vR 78, vI x1, vI x2] (SH T, c) = ev 289 1 5 [vR 78, vI x1, vI x2, vI 0, vI 0] [] (SH T, c) := by
  refine (ev_eq _ _ _ _ _ _).trans ?_
  rfl
theorem B_X12_apart_5_1 {T : List Shp} {c : Nat → Int → Int} {x1 x2 x3 x4 : Int} (h1 : x4 < 12) (h2 : 0 ≤ (w32 (x1 + x4)) ∧ (w32 (x1 + x4)) < 5780) (h3 : 0 ≤ (w32 (x2 + x4)) ∧ (w32 (x2 + x4)) < 5780) (h4 : (c 79 (w32 (x1 + x4))) = (c 79 (w32 (x2 + x4)))) : ev 289 1 5 [vR 78, vI x1, vI x2, vI x3, vI x4] [] (SH T, c) = ev 289 1 5 [vR 78, vI x1, vI x2, vI (w32 (x3 + 0)), vI (w32 (x4 + 1))] [] (SH T, c) := by
  refine (ev_eq _ _ _ _ _ _).trans ?_
  refine (if_pos h1).trans ?_
  refine (if_pos h2).trans ?_
  refine (if_pos h3).trans ?_
  refine (if_pos h4).trans ?_
  rfl
theorem B_X12_apart_5_2 {T : List Shp} {c : Nat → Int → Int} {x1 x2 x3 x4 : Int} (h1 : x4 < 12) (h2 : 0 ≤ (w32 (x1 + x4)) ∧ (w32 (x1 + x4)) < 5780) (h3 : 0 ≤ (w32 (x2 + x4)) ∧ (w32 (x2 + x4)) < 5780) (h4 : ¬ (c 79 (w32 (x1 + x4))) = (c 79 (w32 (x2 + x4)))) : ev 289 1 5 [vR 78, vI x1, vI x2, vI x3, vI x4] [] (SH T, c) = ev 289 1 5 [vR 78, vI x1, vI x2, vI (w32 (x3 + 1)), vI (w32 (x4 + 1))] [] (SH T, c) := by
  refine (ev_eq _ _ _ _ _ _).trans ?_
  refine (if_pos h1).trans ?_
  refine (if_pos h2).trans ?_
  refine (if_pos h3).trans ?_
  refine (if_neg h4).trans ?_
  refine (ev_eq _ _ _ _ _ _).trans ?_
  rfl
theorem B_X12_apart_5_3 {T : List Shp} {c : Nat → Int → Int} {x1 x2 x3 x4 : Int} (h1 : ¬ x4 < 12) : ev 289 1 5 [vR 78, vI x1, vI x2, vI x3, vI x4] [] (SH T, c) = some (some (vI x3), (SH T, c)) := by
  refine (ev_eq _ _ _ _ _ _).trans ?_
  refine (if_neg h1).trans ?_
  refine (ev_eq _ _ _ _ _ _).trans ?_
  rfl
theorem E_X12_nearOf {T : List Shp} {c : Nat → Int → Int} {x1 : Int} {r1 : Int} {c2 : Nat → Int → Int} {r3 : Int} {c4 : Nat → Int → Int} (h1 : cal 197 [vR 78] (SH T, c) = some (some (vI r1), (SH T, c2))) (h2 : cal 289 [vR 78, vI (w32 (276 + (w32 (12 * x1)))), vI (w32 (12 + (w32 (12 * r1))))] (SH T, c2) = some (some (vI r3), (SH T, c4))) : cal 290 [vR 78, vI x1] (SH T, c) = some (some (vI r3), (SH T, c4)) := by
  refine (ev_eq _ _ _ _ _ _).trans ?_
  refine (el_call rfl h1).trans ?_
  refine (el_call rfl h2).trans ?_
  rfl
theorem E_X12_near_1 {T : List Shp} {c : Nat → Int → Int} {x1 : Int} (h1 : x1 = (-1)) : cal 291 [vR 78, vI x1] (SH T, c) = ev 291 3 37 [vR 78, vU, vI 0, vI 100000000, vI 0, vU] [] (SH T, (up c 77 0 0)) := by
  refine (ev_eq _ _ _ _ _ _).trans ?_
  refine (if_pos h1).trans ?_
  refine (ev_eq _ _ _ _ _ _).trans ?_
  rfl
theorem E_X12_near_2 {T : List Shp} {c : Nat → Int → Int} {x1 : Int} {r1 : Int} {c2 : Nat → Int → Int} (h1 : ¬ x1 = (-1)) (h2 : cal 200 [vR 78, vI x1] (SH T, (up c 77 0 0)) = some (some (vI r1), (SH T, c2))) (h3 : r1 = 0) : cal 291 [vR 78, vI x1] (SH T, c) = some (some (vI (-1)), (SH T, c2)) := by
  refine (ev_eq _ _ _ _ _ _).trans ?_
  refine (if_neg h1).trans ?_
  refine (el_call rfl h2).trans ?_
  refine (if_pos h3).trans ?_
  refine (ev_eq _ _ _ _ _ _).trans ?_
  rfl
theorem E_X12_near_3 {T : List Shp} {c : Nat → Int → Int} {x1 : Int} {r1 : Int} {c2 : Nat → Int → Int} {r3 : Int} {c4 : Nat → Int → Int} (h1 : ¬ x1 = (-1)) (h2 : cal 200 [vR 78, vI x1] (SH T, (up c 77 0 0)) = some (some (vI r1), (SH T, c2))) (h3 : ¬ r1 = 0) (h4 : cal 290 [vR 78, vI x1] (SH T, c2) = some (some (vI r3), (SH T, c4))) : cal 291 [vR 78, vI x1] (SH T, c) = some (some (vI r3), (SH T, c4)) := by
  refine (ev_eq _ _ _ _ _ _).trans ?_
  refine (if_neg h1).trans ?_
  refine (el_call rfl h2).trans ?_
  refine (if_neg h3).trans ?_
  refine (el_call rfl h4).trans ?_
  rfl
theorem B_X12_near_37_1 {T : List Shp} {c : Nat → Int → Int} {x2 x3 x4 : Int} {r1 : Int} {c2 : Nat → Int → Int} (h1 : x4 < (c 79 5)) (h2 : cal 290 [vR 78, vI x4] (SH T, c) = some (some (vI r1), (SH T, c2))) (h3 : r1 < x3) : ev 291 3 37 [vR 78, vU, vI x2, vI x3, vI x4, vU] [] (SH T, c) = ev 291 3 85 [vR 78, vU, vU, vI x3, vI x4, vI r1] [vI (ishl 1 x4)] (SH T, c2) := by
  refine (ev_eq _ _ _ _ _ _).trans ?_
  refine (if_pos h1).trans ?_
  refine (el_call rfl h2).trans ?_
  refine (if_pos h3).trans ?_
  rfl
theorem B_X12_near_37_2 {T : List Shp} {c : Nat → Int → Int} {x2 x3 x4 : Int} {r1 : Int} {c2 : Nat → Int → Int} (h1 : x4 < (c 79 5)) (h2 : cal 290 [vR 78, vI x4] (SH T, c) = some (some (vI r1), (SH T, c2))) (h3 : ¬ r1 < x3) (h4 : r1 = x3) : ev 291 3 37 [vR 78, vU, vI x2, vI x3, vI x4, vU] [] (SH T, c) = ev 291 3 85 [vR 78, vU, vU, vI x3, vI x4, vI r1] [vI (ior x2 (ishl 1 x4))] (SH T, c2) := by
  refine (ev_eq _ _ _ _ _ _).trans ?_
  refine (if_pos h1).trans ?_
  refine (el_call rfl h2).trans ?_
  refine (if_neg h3).trans ?_
  refine (ev_eq _ _ _ _ _ _).trans ?_
  refine (if_pos h4).trans ?_
  rfl
theorem B_X12_near_37_3 {T : List Shp} {c : Nat → Int → Int} {x2 x3 x4 : Int} {r1 : Int} {c2 : Nat → Int → Int} (h1 : x4 < (c 79 5)) (h2 : cal 290 [vR 78, vI x4] (SH T, c) = some (some (vI r1), (SH T, c2))) (h3 : ¬ r1 < x3) (h4 : ¬ r1 = x3) : ev 291 3 37 [vR 78, vU, vI x2, vI x3, vI x4, vU] [] (SH T, c) = ev 291 3 85 [vR 78, vU, vU, vI x3, vI x4, vI r1] [vI x2] (SH T, c2) := by
  refine (ev_eq _ _ _ _ _ _).trans ?_
  refine (if_pos h1).trans ?_
  refine (el_call rfl h2).trans ?_
  refine (if_neg h3).trans ?_
  refine (ev_eq _ _ _ _ _ _).trans ?_
  refine (if_neg h4).trans ?_
  refine (ev_eq _ _ _ _ _ _).trans ?_
  rfl
theorem B_X12_near_37_4 {T : List Shp} {c : Nat → Int → Int} {x2 x3 x4 : Int} (h1 : ¬ x4 < (c 79 5)) : ev 291 3 37 [vR 78, vU, vI x2, vI x3, vI x4, vU] [] (SH T, c) = some (some (vI x2), (SH T, c)) := by
  refine (ev_eq _ _ _ _ _ _).trans ?_
  refine (if_neg h1).trans ?_
  refine (ev_eq _ _ _ _ _ _).trans ?_
  rfl
theorem B_X12_near_85_1 {T : List Shp} {c : Nat → Int → Int} {x3 x4 x5 y0 : Int} (h1 : x5 < x3) : ev 291 3 85 [vR 78, vU, vU, vI x3, vI x4, vI x5] [vI y0] (SH T, c) = ev 291 3 37 [vR 78, vU, vI y0, vI x5, vI (w32 (x4 + 1)), vU] [] (SH T, c) := by
  refine (ev_eq _ _ _ _ _ _).trans ?_
  refine (if_pos h1).trans ?_
  rfl
theorem B_X12_near_85_2 {T : List Shp} {c : Nat → Int → Int} {x3 x4 x5 y0 : Int} (h1 : ¬ x5 < x3) : ev 291 3 85 [vR 78, vU, vU, vI x3, vI x4, vI x5] [vI y0] (SH T, c) = ev 291 3 37 [vR 78, vU, vI y0, vI x3, vI (w32 (x4 + 1)), vU] [] (SH T, c) := by
  refine (ev_eq _ _ _ _ _ _).trans ?_
  refine (if_neg h1).trans ?_
  refine (ev_eq _ _ _ _ _ _).trans ?_
  rfl
theorem E_X12_pictureAt_1 {T : List Shp} {c : Nat → Int → Int} {x1 : Int} (h1 : x1 = (-1)) : cal 292 [vR 78, vI x1] (SH T, c) = some (some (vI 12), (SH T, c)) := by
  refine (ev_eq _ _ _ _ _ _).trans ?_
  refine (if_pos h1).trans ?_
  rfl
theorem E_X12_pictureAt_2 {T : List Shp} {c : Nat → Int → Int} {x1 : Int} (h1 : ¬ x1 = (-1)) : cal 292 [vR 78, vI x1] (SH T, c) = some (some (vI (w32 (276 + (w32 (12 * x1))))), (SH T, c)) := by
  refine (ev_eq _ _ _ _ _ _).trans ?_
  refine (if_neg h1).trans ?_
  refine (ev_eq _ _ _ _ _ _).trans ?_
  rfl
theorem E_X12_like_1 {T : List Shp} {c : Nat → Int → Int} {x1 x2 : Int} (h1 : x1 = (-1)) : cal 293 [vR 78, vI x1, vI x2] (SH T, c) = ev 293 3 18 [vR 78, vI x1, vI x2, vU] [] (SH T, (up c 77 0 0)) := by
  refine (ev_eq _ _ _ _ _ _).trans ?_
  refine (if_pos h1).trans ?_
  rfl
theorem E_X12_like_2 {T : List Shp} {c : Nat → Int → Int} {x1 x2 : Int} {r1 : Int} {c2 : Nat → Int → Int} (h1 : ¬ x1 = (-1)) (h2 : cal 200 [vR 78, vI x1] (SH T, (up c 77 0 0)) = some (some (vI r1), (SH T, c2))) (h3 : r1 = 0) : cal 293 [vR 78, vI x1, vI x2] (SH T, c) = ev 293 3 35 [vR 78, vI x1, vI x2, vU] [] (SH T, c2) := by
  refine (ev_eq _ _ _ _ _ _).trans ?_
  refine (if_neg h1).trans ?_
  refine (el_call rfl h2).trans ?_
  refine (if_pos h3).trans ?_
  rfl
theorem E_X12_like_3 {T : List Shp} {c : Nat → Int → Int} {x1 x2 : Int} {r1 : Int} {c2 : Nat → Int → Int} (h1 : ¬ x1 = (-1)) (h2 : cal 200 [vR 78, vI x1] (SH T, (up c 77 0 0)) = some (some (vI r1), (SH T, c2))) (h3 : ¬ r1 = 0) : cal 293 [vR 78, vI x1, vI x2] (SH T, c) = ev 293 3 18 [vR 78, vI x1, vI x2, vU] [] (SH T, c2) := by
  refine (ev_eq _ _ _ _ _ _).trans ?_
  refine (if_neg h1).trans ?_
  refine (el_call rfl h2).trans ?_
  refine (if_neg h3).trans ?_
  rfl
theorem B_X12_like_18_1 {T : List Shp} {c : Nat → Int → Int} {x1 x2 : Int} (h1 : x2 = (-1)) : ev 293 3 18 [vR 78, vI x1, vI x2, vU] [] (SH T, c) = ev 293 3 31 [vR 78, vI x1, vI x2, vU] [] (SH T, c) := by
  refine (ev_eq _ _ _ _ _ _).trans ?_
  refine (if_pos h1).trans ?_
  rfl
theorem B_X12_like_18_2 {T : List Shp} {c : Nat → Int → Int} {x1 x2 : Int} {r1 : Int} {c2 : Nat → Int → Int} (h1 : ¬ x2 = (-1)) (h2 : cal 200 [vR 78, vI x2] (SH T, c) = some (some (vI r1), (SH T, c2))) (h3 : r1 = 0) : ev 293 3 18 [vR 78, vI x1, vI x2, vU] [] (SH T, c) = ev 293 3 35 [vR 78, vI x1, vI x2, vU] [] (SH T, c2) := by
  refine (ev_eq _ _ _ _ _ _).trans ?_
  refine (if_neg h1).trans ?_
  refine (el_call rfl h2).trans ?_
  refine (if_pos h3).trans ?_
  rfl
theorem B_X12_like_18_3 {T : List Shp} {c : Nat → Int → Int} {x1 x2 : Int} {r1 : Int} {c2 : Nat → Int → Int} (h1 : ¬ x2 = (-1)) (h2 : cal 200 [vR 78, vI x2] (SH T, c) = some (some (vI r1), (SH T, c2))) (h3 : ¬ r1 = 0) : ev 293 3 18 [vR 78, vI x1, vI x2, vU] [] (SH T, c) = ev 293 3 31 [vR 78, vI x1, vI x2, vU] [] (SH T, c2) := by
  refine (ev_eq _ _ _ _ _ _).trans ?_
  refine (if_neg h1).trans ?_
  refine (el_call rfl h2).trans ?_
  refine (if_neg h3).trans ?_
  rfl
theorem B_X12_like_31 {T : List Shp} {c : Nat → Int → Int} {x1 x2 : Int}  : ev 293 3 31 [vR 78, vI x1, vI x2, vU] [] (SH T, c) = ev 293 3 36 [vR 78, vI x1, vI x2, vU] [vI 1] (SH T, c) := by
  refine (ev_eq _ _ _ _ _ _).trans ?_
  rfl
theorem B_X12_like_35 {T : List Shp} {c : Nat → Int → Int} {x1 x2 : Int}  : ev 293 3 35 [vR 78, vI x1, vI x2, vU] [] (SH T, c) = ev 293 3 36 [vR 78, vI x1, vI x2, vU] [vI 0] (SH T, c) := by
  refine (ev_eq _ _ _ _ _ _).trans ?_
  rfl
theorem B_X12_like_36_1 {T : List Shp} {c : Nat → Int → Int} {x1 x2 y0 : Int} (h1 : y0 = 0) : ev 293 3 36 [vR 78, vI x1, vI x2, vU] [vI y0] (SH T, c) = some (some (vI (-1)), (SH T, c)) := by
  refine (ev_eq _ _ _ _ _ _).trans ?_
  refine (if_pos h1).trans ?_
  refine (ev_eq _ _ _ _ _ _).trans ?_
  rfl
theorem B_X12_like_36_2 {T : List Shp} {c : Nat → Int → Int} {x1 x2 y0 : Int} {r1 : Int} {c2 : Nat → Int → Int} {r3 : Int} {c4 : Nat → Int → Int} {r5 : Int} {c6 : Nat → Int → Int} (h1 : ¬ y0 = 0) (h2 : cal 292 [vR 78, vI x1] (SH T, c) = some (some (vI r1), (SH T, c2))) (h3 : cal 292 [vR 78, vI x2] (SH T, c2) = some (some (vI r3), (SH T, c4))) (h4 : cal 289 [vR 78, vI r1, vI r3] (SH T, c4) = some (some (vI r5), (SH T, c6))) : ev 293 3 36 [vR 78, vI x1, vI x2, vU] [vI y0] (SH T, c) = some (some (vI r5), (SH T, c6)) := by
  refine (ev_eq _ _ _ _ _ _).trans ?_
  refine (if_neg h1).trans ?_
  refine (el_call rfl h2).trans ?_
  refine (el_call rfl h3).trans ?_
  refine (el_call rfl h4).trans ?_
  rfl
theorem E_X12_isTree {T : List Shp} {c : Nat → Int → Int} {x1 : Int}  : cal 294 [vR 78, vI x1] (SH T, c) = ev 294 1 2 [vR 78, vI x1, vI 0, vU, vU] [] (SH T, c) := by
  refine (ev_eq _ _ _ _ _ _).trans ?_
  rfl
theorem B_X12_isTree_2_1 {T : List Shp} {c : Nat → Int → Int} {x1 x2 : Int} (h1 : x2 < x1) : ev 294 1 2 [vR 78, vI x1, vI x2, vU, vU] [] (SH T, c) = ev 294 1 14 [vR 78, vI x1, vI x2, vI (w32 (x2 + 1)), vI 0] [] (SH T, c) := by
  refine (ev_eq _ _ _ _ _ _).trans ?_
  refine (if_pos h1).trans ?_
  rfl
theorem B_X12_isTree_2_2 {T : List Shp} {c : Nat → Int → Int} {x1 x2 : Int} (h1 : ¬ x2 < x1) : ev 294 1 2 [vR 78, vI x1, vI x2, vU, vU] [] (SH T, c) = some (some (vI 1), (SH T, c)) := by
  refine (ev_eq _ _ _ _ _ _).trans ?_
  refine (if_neg h1).trans ?_
  refine (ev_eq _ _ _ _ _ _).trans ?_
  rfl
theorem B_X12_isTree_14_1 {T : List Shp} {c : Nat → Int → Int} {x1 x2 x3 x4 : Int} (h1 : 0 < x3) (h2 : x4 < 8) (h3 : 0 ≤ (w32 (x3 - 1)) ∧ (w32 (x3 - 1)) < 6) : ev 294 1 14 [vR 78, vI x1, vI x2, vI x3, vI x4] [] (SH T, c) = ev 294 1 14 [vR 78, vI x1, vI x2, vI (c 102 (w32 (x3 - 1))), vI (w32 (x4 + 1))] [] (SH T, c) := by
  refine (ev_eq _ _ _ _ _ _).trans ?_
  refine (if_pos h1).trans ?_
  refine (if_pos h2).trans ?_
  refine (if_pos h3).trans ?_
  rfl
theorem B_X12_isTree_14_2 {T : List Shp} {c : Nat → Int → Int} {x1 x2 x3 x4 : Int} (h1 : 0 < x3) (h2 : ¬ x4 < 8) : ev 294 1 14 [vR 78, vI x1, vI x2, vI x3, vI x4] [] (SH T, c) = ev 294 1 40 [vR 78, vI x1, vI x2, vI x3, vU] [] (SH T, c) := by
  refine (ev_eq _ _ _ _ _ _).trans ?_
  refine (if_pos h1).trans ?_
  refine (if_neg h2).trans ?_
  rfl
theorem B_X12_isTree_14_3 {T : List Shp} {c : Nat → Int → Int} {x1 x2 x3 x4 : Int} (h1 : ¬ 0 < x3) : ev 294 1 14 [vR 78, vI x1, vI x2, vI x3, vI x4] [] (SH T, c) = ev 294 1 40 [vR 78, vI x1, vI x2, vI x3, vU] [] (SH T, c) := by
  refine (ev_eq _ _ _ _ _ _).trans ?_
  refine (if_neg h1).trans ?_
  rfl
theorem B_X12_isTree_40_1 {T : List Shp} {c : Nat → Int → Int} {x1 x2 x3 : Int} (h1 : 0 < x3) : ev 294 1 40 [vR 78, vI x1, vI x2, vI x3, vU] [] (SH T, c) = some (some (vI 0), (SH T, c)) := by
  refine (ev_eq _ _ _ _ _ _).trans ?_
  refine (if_pos h1).trans ?_
  rfl
theorem B_X12_isTree_40_2 {T : List Shp} {c : Nat → Int → Int} {x1 x2 x3 : Int} (h1 : ¬ 0 < x3) : ev 294 1 40 [vR 78, vI x1, vI x2, vI x3, vU] [] (SH T, c) = ev 294 1 2 [vR 78, vI x1, vI (w32 (x2 + 1)), vU, vU] [] (SH T, c) := by
  refine (ev_eq _ _ _ _ _ _).trans ?_
  refine (if_neg h1).trans ?_
  refine (ev_eq _ _ _ _ _ _).trans ?_
  rfl
theorem E_X12_findTree {T : List Shp} {c : Nat → Int → Int}  : cal 295 [vR 78] (SH T, c) = ev 295 2 11 [vR 78, vI (c 79 5), vI 1, vI 0, vU, vU, vU] [] (SH T, c) := by
  refine (ev_eq _ _ _ _ _ _).trans ?_
  rfl
theorem B_X12_findTree_11_1 {T : List Shp} {c : Nat → Int → Int} {x1 x2 x3 : Int} (h1 : x3 < x1) : ev 295 2 11 [vR 78, vI x1, vI x2, vI x3, vU, vU, vU] [] (SH T, c) = ev 295 2 11 [vR 78, vI x1, vI (w32 (x2 * (w32 (x1 + 1)))), vI (w32 (x3 + 1)), vU, vU, vU] [] (SH T, c) := by
  refine (ev_eq _ _ _ _ _ _).trans ?_
  refine (if_pos h1).trans ?_
  rfl
theorem B_X12_findTree_11_2 {T : List Shp} {c : Nat → Int → Int} {x1 x2 x3 : Int} (h1 : ¬ x3 < x1) : ev 295 2 11 [vR 78, vI x1, vI x2, vI x3, vU, vU, vU] [] (SH T, c) = ev 295 2 42 [vR 78, vI x1, vI x2, vI 0, vU, vU, vU] [] (SH T, (up (up c 77 49 100000000) 77 50 0)) := by
  refine (ev_eq _ _ _ _ _ _).trans ?_
  refine (if_neg h1).trans ?_
  refine (ev_eq _ _ _ _ _ _).trans ?_
  rfl
theorem B_X12_findTree_42_1 {T : List Shp} {c : Nat → Int → Int} {x1 x2 x3 : Int} (h1 : x3 < x2) : ev 295 2 42 [vR 78, vI x1, vI x2, vI x3, vU, vU, vU] [] (SH T, c) = ev 295 2 58 [vR 78, vI x1, vI x2, vI x3, vI x3, vI 0, vI (w32 (x1 - 1))] [] (SH T, c) := by
  refine (ev_eq _ _ _ _ _ _).trans ?_
  refine (if_pos h1).trans ?_
  rfl
theorem B_X12_findTree_42_2 {T : List Shp} {c : Nat → Int → Int} {x1 x2 x3 : Int} (h1 : ¬ x3 < x2) : ev 295 2 42 [vR 78, vI x1, vI x2, vI x3, vU, vU, vU] [] (SH T, c) = some (none, (SH T, c)) := by
  refine (ev_eq _ _ _ _ _ _).trans ?_
  refine (if_neg h1).trans ?_
  refine (ev_eq _ _ _ _ _ _).trans ?_
  rfl
theorem B_X12_findTree_58_1 {T : List Shp} {c : Nat → Int → Int} {x1 x2 x3 x4 x5 x6 : Int} (h1 : x6 < 0) (h2 : (c 77 49) < x5) : ev 295 2 58 [vR 78, vI x1, vI x2, vI x3, vI x4, vI x5, vI x6] [] (SH T, c) = ev 295 2 210 [vR 78, vI x1, vI x2, vI x3, vU, vU, vU] [] (SH T, c) := by
  refine (ev_eq _ _ _ _ _ _).trans ?_
  refine (if_pos h1).trans ?_
  refine (ev_eq _ _ _ _ _ _).trans ?_
  refine (if_pos h2).trans ?_
  rfl
theorem B_X12_findTree_58_2 {T : List Shp} {c : Nat → Int → Int} {x1 x2 x3 x4 x5 x6 : Int} {r1 : Int} {c2 : Nat → Int → Int} (h1 : x6 < 0) (h2 : ¬ (c 77 49) < x5) (h3 : cal 294 [vR 78, vI x1] (SH T, c) = some (some (vI r1), (SH T, c2))) (h4 : r1 = 0) : ev 295 2 58 [vR 78, vI x1, vI x2, vI x3, vI x4, vI x5, vI x6] [] (SH T, c) = ev 295 2 210 [vR 78, vI x1, vI x2, vI x3, vU, vU, vU] [] (SH T, c2) := by
  refine (ev_eq _ _ _ _ _ _).trans ?_
  refine (if_pos h1).trans ?_
  refine (ev_eq _ _ _ _ _ _).trans ?_
  refine (if_neg h2).trans ?_
  refine (el_call rfl h3).trans ?_
  refine (if_pos h4).trans ?_
  rfl
theorem B_X12_findTree_58_3 {T : List Shp} {c : Nat → Int → Int} {x1 x2 x3 x4 x5 x6 : Int} {r1 : Int} {c2 : Nat → Int → Int} (h1 : x6 < 0) (h2 : ¬ (c 77 49) < x5) (h3 : cal 294 [vR 78, vI x1] (SH T, c) = some (some (vI r1), (SH T, c2))) (h4 : ¬ r1 = 0) (h5 : x5 < (c2 77 49)) : ev 295 2 58 [vR 78, vI x1, vI x2, vI x3, vI x4, vI x5, vI x6] [] (SH T, c) = ev 295 2 159 [vR 78, vI x1, vI x2, vI x3, vU, vI x5, vI 0] [] (SH T, (up c2 77 50 0)) := by
  refine (ev_eq _ _ _ _ _ _).trans ?_
  refine (if_pos h1).trans ?_
  refine (ev_eq _ _ _ _ _ _).trans ?_
  refine (if_neg h2).trans ?_
  refine (el_call rfl h3).trans ?_
  refine (if_neg h4).trans ?_
  refine (if_pos h5).trans ?_
  rfl
theorem B_X12_findTree_58_4 {T : List Shp} {c : Nat → Int → Int} {x1 x2 x3 x4 x5 x6 : Int} {r1 : Int} {c2 : Nat → Int → Int} (h1 : x6 < 0) (h2 : ¬ (c 77 49) < x5) (h3 : cal 294 [vR 78, vI x1] (SH T, c) = some (some (vI r1), (SH T, c2))) (h4 : ¬ r1 = 0) (h5 : ¬ x5 < (c2 77 49)) : ev 295 2 58 [vR 78, vI x1, vI x2, vI x3, vI x4, vI x5, vI x6] [] (SH T, c) = ev 295 2 159 [vR 78, vI x1, vI x2, vI x3, vU, vI x5, vI 0] [] (SH T, (up c2 77 50 (c2 77 50))) := by
  refine (ev_eq _ _ _ _ _ _).trans ?_
  refine (if_pos h1).trans ?_
  refine (ev_eq _ _ _ _ _ _).trans ?_
  refine (if_neg h2).trans ?_
  refine (el_call rfl h3).trans ?_
  refine (if_neg h4).trans ?_
  refine (if_neg h5).trans ?_
  refine (ev_eq _ _ _ _ _ _).trans ?_
  rfl
theorem B_X12_findTree_58_5 {T : List Shp} {c : Nat → Int → Int} {x1 x2 x3 x4 x5 x6 : Int} {r1 : Int} {c2 : Nat → Int → Int} {r3 : Int} {c4 : Nat → Int → Int} {r5 : Int} {c6 : Nat → Int → Int} (h1 : ¬ x6 < 0) (h2 : ¬ (w32 (x1 + 1)) = 0) (h3 : 0 ≤ x6 ∧ x6 < 6) (h4 : ¬ (w32 (x1 + 1)) = 0) (h5 : 0 ≤ x6 ∧ x6 < 6) (h6 : cal 292 [vR 78, vI (w32 (((up c 102 x6 (w32 (Int.tmod x4 (w32 (x1 + 1))))) 102 x6) - 1))] (SH T, (up c 102 x6 (w32 (Int.tmod x4 (w32 (x1 + 1)))))) = some (some (vI r1), (SH T, c2))) (h7 : cal 292 [vR 78, vI x6] (SH T, c2) = some (some (vI r3), (SH T, c4))) (h8 : cal 289 [vR 78, vI r1, vI r3] (SH T, c4) = some (some (vI r5), (SH T, c6))) : ev 295 2 58 [vR 78, vI x1, vI x2, vI x3, vI x4, vI x5, vI x6] [] (SH T, c) = ev 295 2 58 [vR 78, vI x1, vI x2, vI x3, vI (w32 (Int.tdiv x4 (w32 (x1 + 1)))), vI (w32 (x5 + r5)), vI (w32 (x6 + (-1)))] [] (SH T, c6) := by
  refine (ev_eq _ _ _ _ _ _).trans ?_
  refine (if_neg h1).trans ?_
  refine (if_neg h2).trans ?_
  refine (if_pos h3).trans ?_
  refine (if_neg h4).trans ?_
  refine (if_pos h5).trans ?_
  refine (el_call rfl h6).trans ?_
  refine (el_call rfl h7).trans ?_
  refine (el_call rfl h8).trans ?_
  rfl
theorem B_X12_findTree_159_1 {T : List Shp} {c : Nat → Int → Int} {x1 x2 x3 x5 x6 : Int} (h1 : x6 < x1) (h2 : x5 < (c 77 49)) (h3 : 0 ≤ x6 ∧ x6 < 6) (h4 : 0 ≤ x6 ∧ x6 < 6) : ev 295 2 159 [vR 78, vI x1, vI x2, vI x3, vU, vI x5, vI x6] [] (SH T, c) = ev 295 2 159 [vR 78, vI x1, vI x2, vI x3, vU, vI x5, vI (w32 (x6 + 1))] [] (SH T, (up c 103 x6 (c 102 x6))) := by
  refine (ev_eq _ _ _ _ _ _).trans ?_
  refine (if_pos h1).trans ?_
  refine (if_pos h2).trans ?_
  refine (if_pos h3).trans ?_
  refine (if_pos h4).trans ?_
  rfl
theorem B_X12_findTree_159_2 {T : List Shp} {c : Nat → Int → Int} {x1 x2 x3 x5 x6 : Int} (h1 : x6 < x1) (h2 : ¬ x5 < (c 77 49)) : ev 295 2 159 [vR 78, vI x1, vI x2, vI x3, vU, vI x5, vI x6] [] (SH T, c) = ev 295 2 194 [vR 78, vI x1, vI x2, vI x3, vU, vI x5, vU] [] (SH T, c) := by
  refine (ev_eq _ _ _ _ _ _).trans ?_
  refine (if_pos h1).trans ?_
  refine (if_neg h2).trans ?_
  rfl
theorem B_X12_findTree_159_3 {T : List Shp} {c : Nat → Int → Int} {x1 x2 x3 x5 x6 : Int} (h1 : ¬ x6 < x1) : ev 295 2 159 [vR 78, vI x1, vI x2, vI x3, vU, vI x5, vI x6] [] (SH T, c) = ev 295 2 194 [vR 78, vI x1, vI x2, vI x3, vU, vI x5, vU] [] (SH T, c) := by
  refine (ev_eq _ _ _ _ _ _).trans ?_
  refine (if_neg h1).trans ?_
  rfl
theorem B_X12_findTree_194 {T : List Shp} {c : Nat → Int → Int} {x1 x2 x3 x5 : Int}  : ev 295 2 194 [vR 78, vI x1, vI x2, vI x3, vU, vI x5, vU] [] (SH T, c) = ev 295 2 210 [vR 78, vI x1, vI x2, vI x3, vU, vU, vU] [] (SH T, (up (up c 77 49 x5) 77 50 (w32 ((c 77 50) + 1)))) := by
  refine (ev_eq _ _ _ _ _ _).trans ?_
  rfl
theorem B_X12_findTree_210 {T : List Shp} {c : Nat → Int → Int} {x1 x2 x3 : Int}  : ev 295 2 210 [vR 78, vI x1, vI x2, vI x3, vU, vU, vU] [] (SH T, c) = ev 295 2 42 [vR 78, vI x1, vI x2, vI (w32 (x3 + 1)), vU, vU, vU] [] (SH T, c) := by
  refine (ev_eq _ _ _ _ _ _).trans ?_
  rfl
theorem E_X12_tree_1 {T : List Shp} {c : Nat → Int → Int} {x1 : Int} {r1 : Int} {c2 : Nat → Int → Int} (h1 : cal 186 [vL x1, vL 0, vL (c 79 5)] (SH T, (up c 77 0 0)) = some (some (vI r1), (SH T, c2))) (h2 : r1 = 0) : cal 296 [vR 78, vI x1] (SH T, c) = some (some (vI (-1)), (SH T, c2)) := by
  refine (ev_eq _ _ _ _ _ _).trans ?_
  refine (el_call rfl h1).trans ?_
  refine (if_pos h2).trans ?_
  rfl
theorem E_X12_tree_2 {T : List Shp} {c : Nat → Int → Int} {x1 : Int} {r1 : Int} {c2 : Nat → Int → Int} {c3 : Nat → Int → Int} (h1 : cal 186 [vL x1, vL 0, vL (c 79 5)] (SH T, (up c 77 0 0)) = some (some (vI r1), (SH T, c2))) (h2 : ¬ r1 = 0) (h3 : cal 295 [vR 78] (SH T, c2) = some (none, (SH T, c3))) (h4 : x1 = 0) : cal 296 [vR 78, vI x1] (SH T, c) = some (some (vI (c3 77 49)), (SH T, c3)) := by
  refine (ev_eq _ _ _ _ _ _).trans ?_
  refine (el_call rfl h1).trans ?_
  refine (if_neg h2).trans ?_
  refine (ev_eq _ _ _ _ _ _).trans ?_
  refine (el_call rfl h3).trans ?_
  refine (if_pos h4).trans ?_
  rfl
theorem E_X12_tree_3 {T : List Shp} {c : Nat → Int → Int} {x1 : Int} {r1 : Int} {c2 : Nat → Int → Int} {c3 : Nat → Int → Int} (h1 : cal 186 [vL x1, vL 0, vL (c 79 5)] (SH T, (up c 77 0 0)) = some (some (vI r1), (SH T, c2))) (h2 : ¬ r1 = 0) (h3 : cal 295 [vR 78] (SH T, c2) = some (none, (SH T, c3))) (h4 : ¬ x1 = 0) (h5 : 0 ≤ (w32 (x1 - 1)) ∧ (w32 (x1 - 1)) < 6) (h6 : (c3 103 (w32 (x1 - 1))) = 0) : cal 296 [vR 78, vI x1] (SH T, c) = some (some (vI 100), (SH T, c3)) := by
  refine (ev_eq _ _ _ _ _ _).trans ?_
  refine (el_call rfl h1).trans ?_
  refine (if_neg h2).trans ?_
  refine (ev_eq _ _ _ _ _ _).trans ?_
  refine (el_call rfl h3).trans ?_
  refine (if_neg h4).trans ?_
  refine (ev_eq _ _ _ _ _ _).trans ?_
  refine (if_pos h5).trans ?_
  refine (if_pos h6).trans ?_
  rfl
theorem E_X12_tree_4 {T : List Shp} {c : Nat → Int → Int} {x1 : Int} {r1 : Int} {c2 : Nat → Int → Int} {c3 : Nat → Int → Int} (h1 : cal 186 [vL x1, vL 0, vL (c 79 5)] (SH T, (up c 77 0 0)) = some (some (vI r1), (SH T, c2))) (h2 : ¬ r1 = 0) (h3 : cal 295 [vR 78] (SH T, c2) = some (none, (SH T, c3))) (h4 : ¬ x1 = 0) (h5 : 0 ≤ (w32 (x1 - 1)) ∧ (w32 (x1 - 1)) < 6) (h6 : ¬ (c3 103 (w32 (x1 - 1))) = 0) (h7 : 0 ≤ (w32 (x1 - 1)) ∧ (w32 (x1 - 1)) < 6) : cal 296 [vR 78, vI x1] (SH T, c) = some (some (vI (w32 ((c3 103 (w32 (x1 - 1))) - 1))), (SH T, c3)) := by
  refine (ev_eq _ _ _ _ _ _).trans ?_
  refine (el_call rfl h1).trans ?_
  refine (if_neg h2).trans ?_
  refine (ev_eq _ _ _ _ _ _).trans ?_
  refine (el_call rfl h3).trans ?_
  refine (if_neg h4).trans ?_
  refine (ev_eq _ _ _ _ _ _).trans ?_
  refine (if_pos h5).trans ?_
  refine (if_neg h6).trans ?_
  refine (ev_eq _ _ _ _ _ _).trans ?_
  refine (if_pos h7).trans ?_
  rfl
theorem E_X12_trees {T : List Shp} {c : Nat → Int → Int} {c1 : Nat → Int → Int} (h1 : cal 295 [vR 78] (SH T, (up c 77 0 0)) = some (none, (SH T, c1))) : cal 297 [vR 78] (SH T, c) = some (some (vI (c1 77 50)), (SH T, c1)) := by
  refine (ev_eq _ _ _ _ _ _).trans ?_
  refine (el_call rfl h1).trans ?_
  rfl
theorem E_X12_dated_1 {T : List Shp} {c : Nat → Int → Int} {x1 x2 : Int} {r1 : Int} {c2 : Nat → Int → Int} (h1 : cal 200 [vR 78, vI x1] (SH T, (up c 77 0 0)) = some (some (vI r1), (SH T, c2))) (h2 : r1 = 0) : cal 298 [vR 78, vI x1, vI x2] (SH T, c) = some (some (vI (-1)), (SH T, c2)) := by
  refine (ev_eq _ _ _ _ _ _).trans ?_
  refine (el_call rfl h1).trans ?_
  refine (if_pos h2).trans ?_
  refine (ev_eq _ _ _ _ _ _).trans ?_
  rfl
theorem E_X12_dated_2 {T : List Shp} {c : Nat → Int → Int} {x1 x2 : Int} {r1 : Int} {c2 : Nat → Int → Int} {r3 : Int} {c4 : Nat → Int → Int} (h1 : cal 200 [vR 78, vI x1] (SH T, (up c 77 0 0)) = some (some (vI r1), (SH T, c2))) (h2 : ¬ r1 = 0) (h3 : cal 186 [vL x2, vL 0, vL 3] (SH T, c2) = some (some (vI r3), (SH T, c4))) (h4 : r3 = 0) : cal 298 [vR 78, vI x1, vI x2] (SH T, c) = some (some (vI (-1)), (SH T, c4)) := by
  refine (ev_eq _ _ _ _ _ _).trans ?_
  refine (el_call rfl h1).trans ?_
  refine (if_neg h2).trans ?_
  refine (el_call rfl h3).trans ?_
  refine (if_pos h4).trans ?_
  refine (ev_eq _ _ _ _ _ _).trans ?_
  rfl
theorem E_X12_dated_3 {T : List Shp} {c : Nat → Int → Int} {x1 x2 : Int} {r1 : Int} {c2 : Nat → Int → Int} {r3 : Int} {c4 : Nat → Int → Int} (h1 : cal 200 [vR 78, vI x1] (SH T, (up c 77 0 0)) = some (some (vI r1), (SH T, c2))) (h2 : ¬ r1 = 0) (h3 : cal 186 [vL x2, vL 0, vL 3] (SH T, c2) = some (some (vI r3), (SH T, c4))) (h4 : ¬ r3 = 0) : cal 298 [vR 78, vI x1, vI x2] (SH T, c) = ev 298 3 43 [vR 78, vI x1, vI x2, vI 100000000, vI 0, vI 0, vI 0, vI 0, vU] [] (SH T, c4) := by
  refine (ev_eq _ _ _ _ _ _).trans ?_
  refine (el_call rfl h1).trans ?_
  refine (if_neg h2).trans ?_
  refine (el_call rfl h3).trans ?_
  refine (if_neg h4).trans ?_
  refine (ev_eq _ _ _ _ _ _).trans ?_
  rfl
theorem B_X12_dated_43_1 {T : List Shp} {c : Nat → Int → Int} {x1 x2 x3 x4 x5 x6 x7 : Int} {r1 : Int} {c2 : Nat → Int → Int} (h1 : cal 197 [vR 78] (SH T, c) = some (some (vI r1), (SH T, c2))) (h2 : r1 < x7) (h3 : x2 = 0) : ev 298 3 43 [vR 78, vI x1, vI x2, vI x3, vI x4, vI x5, vI x6, vI x7, vU] [] (SH T, c) = some (some (vI x3), (SH T, c2)) := by
  refine (ev_eq _ _ _ _ _ _).trans ?_
  refine (el_call rfl h1).trans ?_
  refine (if_pos h2).trans ?_
  refine (ev_eq _ _ _ _ _ _).trans ?_
  refine (if_pos h3).trans ?_
  rfl
theorem B_X12_dated_43_2 {T : List Shp} {c : Nat → Int → Int} {x1 x2 x3 x4 x5 x6 x7 : Int} {r1 : Int} {c2 : Nat → Int → Int} (h1 : cal 197 [vR 78] (SH T, c) = some (some (vI r1), (SH T, c2))) (h2 : r1 < x7) (h3 : ¬ x2 = 0) (h4 : x2 = 1) : ev 298 3 43 [vR 78, vI x1, vI x2, vI x3, vI x4, vI x5, vI x6, vI x7, vU] [] (SH T, c) = some (some (vI x4), (SH T, c2)) := by
  refine (ev_eq _ _ _ _ _ _).trans ?_
  refine (el_call rfl h1).trans ?_
  refine (if_pos h2).trans ?_
  refine (ev_eq _ _ _ _ _ _).trans ?_
  refine (if_neg h3).trans ?_
  refine (ev_eq _ _ _ _ _ _).trans ?_
  refine (if_pos h4).trans ?_
  rfl
theorem B_X12_dated_43_3 {T : List Shp} {c : Nat → Int → Int} {x1 x2 x3 x4 x5 x6 x7 : Int} {r1 : Int} {c2 : Nat → Int → Int} (h1 : cal 197 [vR 78] (SH T, c) = some (some (vI r1), (SH T, c2))) (h2 : r1 < x7) (h3 : ¬ x2 = 0) (h4 : ¬ x2 = 1) (h5 : x2 = 2) : ev 298 3 43 [vR 78, vI x1, vI x2, vI x3, vI x4, vI x5, vI x6, vI x7, vU] [] (SH T, c) = some (some (vI x5), (SH T, c2)) := by
  refine (ev_eq _ _ _ _ _ _).trans ?_
  refine (el_call rfl h1).trans ?_
  refine (if_pos h2).trans ?_
  refine (ev_eq _ _ _ _ _ _).trans ?_
  refine (if_neg h3).trans ?_
  refine (ev_eq _ _ _ _ _ _).trans ?_
  refine (if_neg h4).trans ?_
  refine (ev_eq _ _ _ _ _ _).trans ?_
  refine (if_pos h5).trans ?_
  rfl
theorem B_X12_dated_43_4 {T : List Shp} {c : Nat → Int → Int} {x1 x2 x3 x4 x5 x6 x7 : Int} {r1 : Int} {c2 : Nat → Int → Int} (h1 : cal 197 [vR 78] (SH T, c) = some (some (vI r1), (SH T, c2))) (h2 : r1 < x7) (h3 : ¬ x2 = 0) (h4 : ¬ x2 = 1) (h5 : ¬ x2 = 2) : ev 298 3 43 [vR 78, vI x1, vI x2, vI x3, vI x4, vI x5, vI x6, vI x7, vU] [] (SH T, c) = some (some (vI x6), (SH T, c2)) := by
  refine (ev_eq _ _ _ _ _ _).trans ?_
  refine (el_call rfl h1).trans ?_
  refine (if_pos h2).trans ?_
  refine (ev_eq _ _ _ _ _ _).trans ?_
  refine (if_neg h3).trans ?_
  refine (ev_eq _ _ _ _ _ _).trans ?_
  refine (if_neg h4).trans ?_
  refine (ev_eq _ _ _ _ _ _).trans ?_
  refine (if_neg h5).trans ?_
  refine (ev_eq _ _ _ _ _ _).trans ?_
  rfl
theorem B_X12_dated_43_5 {T : List Shp} {c : Nat → Int → Int} {x1 x2 x3 x4 x5 x6 x7 : Int} {r1 : Int} {c2 : Nat → Int → Int} {r3 : Int} {c4 : Nat → Int → Int} (h1 : cal 197 [vR 78] (SH T, c) = some (some (vI r1), (SH T, c2))) (h2 : ¬ r1 < x7) (h3 : cal 289 [vR 78, vI (w32 (276 + (w32 (12 * x1)))), vI (w32 (12 + (w32 (12 * x7))))] (SH T, c2) = some (some (vI r3), (SH T, c4))) (h4 : r3 < x3) : ev 298 3 43 [vR 78, vI x1, vI x2, vI x3, vI x4, vI x5, vI x6, vI x7, vU] [] (SH T, c) = ev 298 3 87 [vR 78, vI x1, vI x2, vI x3, vU, vI x5, vI x6, vI x7, vI r3] [vI x7] (SH T, c4) := by
  refine (ev_eq _ _ _ _ _ _).trans ?_
  refine (el_call rfl h1).trans ?_
  refine (if_neg h2).trans ?_
  refine (el_call rfl h3).trans ?_
  refine (if_pos h4).trans ?_
  rfl
theorem B_X12_dated_43_6 {T : List Shp} {c : Nat → Int → Int} {x1 x2 x3 x4 x5 x6 x7 : Int} {r1 : Int} {c2 : Nat → Int → Int} {r3 : Int} {c4 : Nat → Int → Int} (h1 : cal 197 [vR 78] (SH T, c) = some (some (vI r1), (SH T, c2))) (h2 : ¬ r1 < x7) (h3 : cal 289 [vR 78, vI (w32 (276 + (w32 (12 * x1)))), vI (w32 (12 + (w32 (12 * x7))))] (SH T, c2) = some (some (vI r3), (SH T, c4))) (h4 : ¬ r3 < x3) : ev 298 3 43 [vR 78, vI x1, vI x2, vI x3, vI x4, vI x5, vI x6, vI x7, vU] [] (SH T, c) = ev 298 3 87 [vR 78, vI x1, vI x2, vI x3, vU, vI x5, vI x6, vI x7, vI r3] [vI x4] (SH T, c4) := by
  refine (ev_eq _ _ _ _ _ _).trans ?_
  refine (el_call rfl h1).trans ?_
  refine (if_neg h2).trans ?_
  refine (el_call rfl h3).trans ?_
  refine (if_neg h4).trans ?_
  refine (ev_eq _ _ _ _ _ _).trans ?_
  rfl
theorem B_X12_dated_87_1 {T : List Shp} {c : Nat → Int → Int} {x1 x2 x3 x5 x6 x7 x8 y0 : Int} (h1 : x8 < x3) : ev 298 3 87 [vR 78, vI x1, vI x2, vI x3, vU, vI x5, vI x6, vI x7, vI x8] [vI y0] (SH T, c) = ev 298 3 114 [vR 78, vI x1, vI x2, vI x3, vI y0, vI x5, vU, vI x7, vI x8] [vI 1] (SH T, c) := by
  refine (ev_eq _ _ _ _ _ _).trans ?_
  refine (if_pos h1).trans ?_
  rfl
theorem B_X12_dated_87_2 {T : List Shp} {c : Nat → Int → Int} {x1 x2 x3 x5 x6 x7 x8 y0 : Int} (h1 : ¬ x8 < x3) (h2 : x8 = x3) : ev 298 3 87 [vR 78, vI x1, vI x2, vI x3, vU, vI x5, vI x6, vI x7, vI x8] [vI y0] (SH T, c) = ev 298 3 114 [vR 78, vI x1, vI x2, vI x3, vI y0, vI x5, vU, vI x7, vI x8] [vI (w32 (x6 + 1))] (SH T, c) := by
  refine (ev_eq _ _ _ _ _ _).trans ?_
  refine (if_neg h1).trans ?_
  refine (ev_eq _ _ _ _ _ _).trans ?_
  refine (if_pos h2).trans ?_
  rfl
theorem B_X12_dated_87_3 {T : List Shp} {c : Nat → Int → Int} {x1 x2 x3 x5 x6 x7 x8 y0 : Int} (h1 : ¬ x8 < x3) (h2 : ¬ x8 = x3) : ev 298 3 87 [vR 78, vI x1, vI x2, vI x3, vU, vI x5, vI x6, vI x7, vI x8] [vI y0] (SH T, c) = ev 298 3 114 [vR 78, vI x1, vI x2, vI x3, vI y0, vI x5, vU, vI x7, vI x8] [vI x6] (SH T, c) := by
  refine (ev_eq _ _ _ _ _ _).trans ?_
  refine (if_neg h1).trans ?_
  refine (ev_eq _ _ _ _ _ _).trans ?_
  refine (if_neg h2).trans ?_
  refine (ev_eq _ _ _ _ _ _).trans ?_
  rfl
theorem B_X12_dated_114_1 {T : List Shp} {c : Nat → Int → Int} {x1 x2 x3 x4 x5 x7 x8 y0 : Int} (h1 : x3 < x8) : ev 298 3 114 [vR 78, vI x1, vI x2, vI x3, vI x4, vI x5, vU, vI x7, vI x8] [vI y0] (SH T, c) = ev 298 3 129 [vR 78, vI x1, vI x2, vI x3, vI x4, vU, vI y0, vI x7, vI x8] [vI x5] (SH T, c) := by
  refine (ev_eq _ _ _ _ _ _).trans ?_
  refine (if_pos h1).trans ?_
  refine (ev_eq _ _ _ _ _ _).trans ?_
  rfl
theorem B_X12_dated_114_2 {T : List Shp} {c : Nat → Int → Int} {x1 x2 x3 x4 x5 x7 x8 y0 : Int} (h1 : ¬ x3 < x8) : ev 298 3 114 [vR 78, vI x1, vI x2, vI x3, vI x4, vI x5, vU, vI x7, vI x8] [vI y0] (SH T, c) = ev 298 3 129 [vR 78, vI x1, vI x2, vI x3, vI x4, vU, vI y0, vI x7, vI x8] [vI x7] (SH T, c) := by
  refine (ev_eq _ _ _ _ _ _).trans ?_
  refine (if_neg h1).trans ?_
  rfl
theorem B_X12_dated_129_1 {T : List Shp} {c : Nat → Int → Int} {x1 x2 x3 x4 x6 x7 x8 y0 : Int} (h1 : x8 < x3) : ev 298 3 129 [vR 78, vI x1, vI x2, vI x3, vI x4, vU, vI x6, vI x7, vI x8] [vI y0] (SH T, c) = ev 298 3 43 [vR 78, vI x1, vI x2, vI x8, vI x4, vI y0, vI x6, vI (w32 (x7 + 1)), vU] [] (SH T, c) := by
  refine (ev_eq _ _ _ _ _ _).trans ?_
  refine (if_pos h1).trans ?_
  rfl
theorem B_X12_dated_129_2 {T : List Shp} {c : Nat → Int → Int} {x1 x2 x3 x4 x6 x7 x8 y0 : Int} (h1 : ¬ x8 < x3) : ev 298 3 129 [vR 78, vI x1, vI x2, vI x3, vI x4, vU, vI x6, vI x7, vI x8] [vI y0] (SH T, c) = ev 298 3 43 [vR 78, vI x1, vI x2, vI x3, vI x4, vI y0, vI x6, vI (w32 (x7 + 1)), vU] [] (SH T, c) := by
  refine (ev_eq _ _ _ _ _ _).trans ?_
  refine (if_neg h1).trans ?_
  refine (ev_eq _ _ _ _ _ _).trans ?_
  rfl
theorem E_X12_worst {T : List Shp} {c : Nat → Int → Int} {x1 x2 : Int}  : cal 299 [vR 78, vI x1, vI x2] (SH T, c) = ev 299 2 5 [vR 78, vI x1, vI x2, vI 0, vI 0, vU, vU] [] (SH T, c) := by
  refine (ev_eq _ _ _ _ _ _).trans ?_
  rfl
theorem B_X12_worst_5_1 {T : List Shp} {c : Nat → Int → Int} {x1 x2 x3 x4 : Int} (h1 : x4 < 10) : ev 299 2 5 [vR 78, vI x1, vI x2, vI x3, vI x4, vU, vU] [] (SH T, c) = ev 299 2 18 [vR 78, vI x1, vI x2, vI x3, vI x4, vI 0, vI 0] [] (SH T, c) := by
  refine (ev_eq _ _ _ _ _ _).trans ?_
  refine (if_pos h1).trans ?_
  rfl
theorem B_X12_worst_5_2 {T : List Shp} {c : Nat → Int → Int} {x1 x2 x3 x4 : Int} (h1 : ¬ x4 < 10) : ev 299 2 5 [vR 78, vI x1, vI x2, vI x3, vI x4, vU, vU] [] (SH T, c) = some (some (vI x3), (SH T, c)) := by
  refine (ev_eq _ _ _ _ _ _).trans ?_
  refine (if_neg h1).trans ?_
  refine (ev_eq _ _ _ _ _ _).trans ?_
  rfl
theorem B_X12_worst_18_1 {T : List Shp} {c : Nat → Int → Int} {x1 x2 x3 x4 x5 x6 : Int} {r1 : Int} {c2 : Nat → Int → Int} (h1 : x6 < (c 79 5)) (h2 : cal 187 [vI x1, vI x6] (SH T, c) = some (some (vI r1), (SH T, c2))) (h3 : r1 = 0) : ev 299 2 18 [vR 78, vI x1, vI x2, vI x3, vI x4, vI x5, vI x6] [] (SH T, c) = ev 299 2 68 [vR 78, vI x1, vI x2, vI x3, vI x4, vU, vI x6] [vI x5] (SH T, c2) := by
  refine (ev_eq _ _ _ _ _ _).trans ?_
  refine (if_pos h1).trans ?_
  refine (el_call rfl h2).trans ?_
  refine (if_pos h3).trans ?_
  rfl
theorem B_X12_worst_18_2 {T : List Shp} {c : Nat → Int → Int} {x1 x2 x3 x4 x5 x6 : Int} {r1 : Int} {c2 : Nat → Int → Int} (h1 : x6 < (c 79 5)) (h2 : cal 187 [vI x1, vI x6] (SH T, c) = some (some (vI r1), (SH T, c2))) (h3 : ¬ r1 = 0) (h4 : 0 ≤ (w32 ((w32 (276 + (w32 (12 * x6)))) + x2)) ∧ (w32 ((w32 (276 + (w32 (12 * x6)))) + x2)) < 5780) (h5 : (c2 79 (w32 ((w32 (276 + (w32 (12 * x6)))) + x2))) = x4) : ev 299 2 18 [vR 78, vI x1, vI x2, vI x3, vI x4, vI x5, vI x6] [] (SH T, c) = ev 299 2 18 [vR 78, vI x1, vI x2, vI x3, vI x4, vI (ior x5 (ishl 1 x6)), vI (w32 (x6 + 1))] [] (SH T, c2) := by
  refine (ev_eq _ _ _ _ _ _).trans ?_
  refine (if_pos h1).trans ?_
  refine (el_call rfl h2).trans ?_
  refine (if_neg h3).trans ?_
  refine (if_pos h4).trans ?_
  refine (if_pos h5).trans ?_
  rfl
theorem B_X12_worst_18_3 {T : List Shp} {c : Nat → Int → Int} {x1 x2 x3 x4 x5 x6 : Int} {r1 : Int} {c2 : Nat → Int → Int} (h1 : x6 < (c 79 5)) (h2 : cal 187 [vI x1, vI x6] (SH T, c) = some (some (vI r1), (SH T, c2))) (h3 : ¬ r1 = 0) (h4 : 0 ≤ (w32 ((w32 (276 + (w32 (12 * x6)))) + x2)) ∧ (w32 ((w32 (276 + (w32 (12 * x6)))) + x2)) < 5780) (h5 : ¬ (c2 79 (w32 ((w32 (276 + (w32 (12 * x6)))) + x2))) = x4) : ev 299 2 18 [vR 78, vI x1, vI x2, vI x3, vI x4, vI x5, vI x6] [] (SH T, c) = ev 299 2 68 [vR 78, vI x1, vI x2, vI x3, vI x4, vU, vI x6] [vI x5] (SH T, c2) := by
  refine (ev_eq _ _ _ _ _ _).trans ?_
  refine (if_pos h1).trans ?_
  refine (el_call rfl h2).trans ?_
  refine (if_neg h3).trans ?_
  refine (if_pos h4).trans ?_
  refine (if_neg h5).trans ?_
  rfl
theorem B_X12_worst_18_4 {T : List Shp} {c : Nat → Int → Int} {x1 x2 x3 x4 x5 x6 : Int} (h1 : ¬ x6 < (c 79 5)) (h2 : x5 = x1) : ev 299 2 18 [vR 78, vI x1, vI x2, vI x3, vI x4, vI x5, vI x6] [] (SH T, c) = some (some (vI 100000000), (SH T, c)) := by
  refine (ev_eq _ _ _ _ _ _).trans ?_
  refine (if_neg h1).trans ?_
  refine (ev_eq _ _ _ _ _ _).trans ?_
  refine (if_pos h2).trans ?_
  rfl
theorem B_X12_worst_18_5 {T : List Shp} {c : Nat → Int → Int} {x1 x2 x3 x4 x5 x6 : Int} (h1 : ¬ x6 < (c 79 5)) (h2 : ¬ x5 = x1) (h3 : x5 = 0) : ev 299 2 18 [vR 78, vI x1, vI x2, vI x3, vI x4, vI x5, vI x6] [] (SH T, c) = ev 299 2 114 [vR 78, vI x1, vI x2, vI x3, vI x4, vU, vU] [] (SH T, c) := by
  refine (ev_eq _ _ _ _ _ _).trans ?_
  refine (if_neg h1).trans ?_
  refine (ev_eq _ _ _ _ _ _).trans ?_
  refine (if_neg h2).trans ?_
  refine (ev_eq _ _ _ _ _ _).trans ?_
  refine (if_pos h3).trans ?_
  rfl
theorem B_X12_worst_18_6 {T : List Shp} {c : Nat → Int → Int} {x1 x2 x3 x4 x5 x6 : Int} (h1 : ¬ x6 < (c 79 5)) (h2 : ¬ x5 = x1) (h3 : ¬ x5 = 0) (h4 : 0 ≤ x5 ∧ x5 < 64) (h5 : x3 < (c 104 x5)) (h6 : 0 ≤ x5 ∧ x5 < 64) : ev 299 2 18 [vR 78, vI x1, vI x2, vI x3, vI x4, vI x5, vI x6] [] (SH T, c) = ev 299 2 5 [vR 78, vI x1, vI x2, vI (c 104 x5), vI (w32 (x4 + 1)), vU, vU] [] (SH T, c) := by
  refine (ev_eq _ _ _ _ _ _).trans ?_
  refine (if_neg h1).trans ?_
  refine (ev_eq _ _ _ _ _ _).trans ?_
  refine (if_neg h2).trans ?_
  refine (ev_eq _ _ _ _ _ _).trans ?_
  refine (if_neg h3).trans ?_
  refine (if_pos h4).trans ?_
  refine (if_pos h5).trans ?_
  refine (if_pos h6).trans ?_
  rfl
theorem B_X12_worst_18_7 {T : List Shp} {c : Nat → Int → Int} {x1 x2 x3 x4 x5 x6 : Int} (h1 : ¬ x6 < (c 79 5)) (h2 : ¬ x5 = x1) (h3 : ¬ x5 = 0) (h4 : 0 ≤ x5 ∧ x5 < 64) (h5 : ¬ x3 < (c 104 x5)) : ev 299 2 18 [vR 78, vI x1, vI x2, vI x3, vI x4, vI x5, vI x6] [] (SH T, c) = ev 299 2 114 [vR 78, vI x1, vI x2, vI x3, vI x4, vU, vU] [] (SH T, c) := by
  refine (ev_eq _ _ _ _ _ _).trans ?_
  refine (if_neg h1).trans ?_
  refine (ev_eq _ _ _ _ _ _).trans ?_
  refine (if_neg h2).trans ?_
  refine (ev_eq _ _ _ _ _ _).trans ?_
  refine (if_neg h3).trans ?_
  refine (if_pos h4).trans ?_
  refine (if_neg h5).trans ?_
  rfl
theorem B_X12_worst_68 {T : List Shp} {c : Nat → Int → Int} {x1 x2 x3 x4 x6 y0 : Int}  : ev 299 2 68 [vR 78, vI x1, vI x2, vI x3, vI x4, vU, vI x6] [vI y0] (SH T, c) = ev 299 2 18 [vR 78, vI x1, vI x2, vI x3, vI x4, vI (ior y0 0), vI (w32 (x6 + 1))] [] (SH T, c) := by
  refine (ev_eq _ _ _ _ _ _).trans ?_
  rfl
theorem B_X12_worst_114 {T : List Shp} {c : Nat → Int → Int} {x1 x2 x3 x4 : Int}  : ev 299 2 114 [vR 78, vI x1, vI x2, vI x3, vI x4, vU, vU] [] (SH T, c) = ev 299 2 5 [vR 78, vI x1, vI x2, vI x3, vI (w32 (x4 + 1)), vU, vU] [] (SH T, c) := by
  refine (ev_eq _ _ _ _ _ _).trans ?_
  rfl
theorem E_X12_findDepths {T : List Shp} {c : Nat → Int → Int}  : cal 300 [vR 78] (SH T, c) = ev 300 3 2 [vR 78, vI 1, vU, vU, vU] [] (SH T, c) := by
  refine (ev_eq _ _ _ _ _ _).trans ?_
  rfl
theorem B_X12_findDepths_2_1 {T : List Shp} {c : Nat → Int → Int} {x1 : Int} (h1 : x1 < (ishl 1 (c 79 5))) : ev 300 3 2 [vR 78, vI x1, vU, vU, vU] [] (SH T, c) = ev 300 3 20 [vR 78, vI x1, vI 100000000, vI 0, vU] [] (SH T, c) := by
  refine (ev_eq _ _ _ _ _ _).trans ?_
  refine (if_pos h1).trans ?_
  rfl
theorem B_X12_findDepths_2_2 {T : List Shp} {c : Nat → Int → Int} {x1 : Int} (h1 : ¬ x1 < (ishl 1 (c 79 5))) : ev 300 3 2 [vR 78, vI x1, vU, vU, vU] [] (SH T, c) = some (none, (SH T, c)) := by
  refine (ev_eq _ _ _ _ _ _).trans ?_
  refine (if_neg h1).trans ?_
  refine (ev_eq _ _ _ _ _ _).trans ?_
  rfl
theorem B_X12_findDepths_20_1 {T : List Shp} {c : Nat → Int → Int} {x1 x2 x3 : Int} {r1 : Int} {c2 : Nat → Int → Int} (h1 : x3 < 12) (h2 : cal 299 [vR 78, vI x1, vI x3] (SH T, c) = some (some (vI r1), (SH T, c2))) (h3 : r1 < x2) : ev 300 3 20 [vR 78, vI x1, vI x2, vI x3, vU] [] (SH T, c) = ev 300 3 20 [vR 78, vI x1, vI r1, vI (w32 (x3 + 1)), vU] [] (SH T, c2) := by
  refine (ev_eq _ _ _ _ _ _).trans ?_
  refine (if_pos h1).trans ?_
  refine (el_call rfl h2).trans ?_
  refine (if_pos h3).trans ?_
  rfl
theorem B_X12_findDepths_20_2 {T : List Shp} {c : Nat → Int → Int} {x1 x2 x3 : Int} {r1 : Int} {c2 : Nat → Int → Int} (h1 : x3 < 12) (h2 : cal 299 [vR 78, vI x1, vI x3] (SH T, c) = some (some (vI r1), (SH T, c2))) (h3 : ¬ r1 < x2) : ev 300 3 20 [vR 78, vI x1, vI x2, vI x3, vU] [] (SH T, c) = ev 300 3 20 [vR 78, vI x1, vI x2, vI (w32 (x3 + 1)), vU] [] (SH T, c2) := by
  refine (ev_eq _ _ _ _ _ _).trans ?_
  refine (if_pos h1).trans ?_
  refine (el_call rfl h2).trans ?_
  refine (if_neg h3).trans ?_
  refine (ev_eq _ _ _ _ _ _).trans ?_
  rfl
theorem B_X12_findDepths_20_3 {T : List Shp} {c : Nat → Int → Int} {x1 x2 x3 : Int} (h1 : ¬ x3 < 12) (h2 : x2 = 100000000) (h3 : 0 ≤ x1 ∧ x1 < 64) : ev 300 3 20 [vR 78, vI x1, vI x2, vI x3, vU] [] (SH T, c) = ev 300 3 2 [vR 78, vI (w32 (x1 + 1)), vU, vU, vU] [] (SH T, (up c 104 x1 0)) := by
  refine (ev_eq _ _ _ _ _ _).trans ?_
  refine (if_neg h1).trans ?_
  refine (ev_eq _ _ _ _ _ _).trans ?_
  refine (if_pos h2).trans ?_
  refine (if_pos h3).trans ?_
  rfl
theorem B_X12_findDepths_20_4 {T : List Shp} {c : Nat → Int → Int} {x1 x2 x3 : Int} (h1 : ¬ x3 < 12) (h2 : ¬ x2 = 100000000) (h3 : 0 ≤ x1 ∧ x1 < 64) : ev 300 3 20 [vR 78, vI x1, vI x2, vI x3, vU] [] (SH T, c) = ev 300 3 2 [vR 78, vI (w32 (x1 + 1)), vU, vU, vU] [] (SH T, (up c 104 x1 (w32 (x2 + 1)))) := by
  refine (ev_eq _ _ _ _ _ _).trans ?_
  refine (if_neg h1).trans ?_
  refine (ev_eq _ _ _ _ _ _).trans ?_
  refine (if_neg h2).trans ?_
  refine (ev_eq _ _ _ _ _ _).trans ?_
  refine (if_pos h3).trans ?_
  rfl
theorem E_X12_know_1 {T : List Shp} {c : Nat → Int → Int} {x1 : Int} {r1 : Int} {c2 : Nat → Int → Int} (h1 : cal 186 [vL x1, vL 0, vL 1] (SH T, (up c 77 0 0)) = some (some (vI r1), (SH T, c2))) (h2 : r1 = 0) : cal 301 [vR 78, vI x1] (SH T, c) = some (some (vI (-1)), (SH T, c2)) := by
  refine (ev_eq _ _ _ _ _ _).trans ?_
  refine (el_call rfl h1).trans ?_
  refine (if_pos h2).trans ?_
  refine (ev_eq _ _ _ _ _ _).trans ?_
  rfl
theorem E_X12_know_2 {T : List Shp} {c : Nat → Int → Int} {x1 : Int} {r1 : Int} {c2 : Nat → Int → Int} (h1 : cal 186 [vL x1, vL 0, vL 1] (SH T, (up c 77 0 0)) = some (some (vI r1), (SH T, c2))) (h2 : ¬ r1 = 0) (h3 : (w32 ((ishl 1 (c 79 5)) - 1)) = 0) : cal 301 [vR 78, vI x1] (SH T, c) = some (some (vI (-1)), (SH T, c2)) := by
  refine (ev_eq _ _ _ _ _ _).trans ?_
  refine (el_call rfl h1).trans ?_
  refine (if_neg h2).trans ?_
  refine (if_pos h3).trans ?_
  refine (ev_eq _ _ _ _ _ _).trans ?_
  rfl
theorem E_X12_know_3 {T : List Shp} {c : Nat → Int → Int} {x1 : Int} {r1 : Int} {c2 : Nat → Int → Int} {c3 : Nat → Int → Int} (h1 : cal 186 [vL x1, vL 0, vL 1] (SH T, (up c 77 0 0)) = some (some (vI r1), (SH T, c2))) (h2 : ¬ r1 = 0) (h3 : ¬ (w32 ((ishl 1 (c 79 5)) - 1)) = 0) (h4 : cal 300 [vR 78] (SH T, c2) = some (none, (SH T, c3))) (h5 : x1 = 0) : cal 301 [vR 78, vI x1] (SH T, c) = ev 301 4 49 [vR 78, vI x1, vI (w32 ((ishl 1 (c 79 5)) - 1)), vU] [] (SH T, c3) := by
  refine (ev_eq _ _ _ _ _ _).trans ?_
  refine (el_call rfl h1).trans ?_
  refine (if_neg h2).trans ?_
  refine (if_neg h3).trans ?_
  refine (ev_eq _ _ _ _ _ _).trans ?_
  refine (el_call rfl h4).trans ?_
  refine (if_pos h5).trans ?_
  rfl
theorem E_X12_know_4 {T : List Shp} {c : Nat → Int → Int} {x1 : Int} {r1 : Int} {c2 : Nat → Int → Int} {c3 : Nat → Int → Int} (h1 : cal 186 [vL x1, vL 0, vL 1] (SH T, (up c 77 0 0)) = some (some (vI r1), (SH T, c2))) (h2 : ¬ r1 = 0) (h3 : ¬ (w32 ((ishl 1 (c 79 5)) - 1)) = 0) (h4 : cal 300 [vR 78] (SH T, c2) = some (none, (SH T, c3))) (h5 : ¬ x1 = 0) (h6 : 0 ≤ (w32 ((ishl 1 (c 79 5)) - 1)) ∧ (w32 ((ishl 1 (c 79 5)) - 1)) < 64) (h7 : (c3 104 (w32 ((ishl 1 (c 79 5)) - 1))) = 0) : cal 301 [vR 78, vI x1] (SH T, c) = ev 301 4 49 [vR 78, vI x1, vI (w32 ((ishl 1 (c 79 5)) - 1)), vU] [] (SH T, c3) := by
  refine (ev_eq _ _ _ _ _ _).trans ?_
  refine (el_call rfl h1).trans ?_
  refine (if_neg h2).trans ?_
  refine (if_neg h3).trans ?_
  refine (ev_eq _ _ _ _ _ _).trans ?_
  refine (el_call rfl h4).trans ?_
  refine (if_neg h5).trans ?_
  refine (if_pos h6).trans ?_
  refine (if_pos h7).trans ?_
  rfl
theorem E_X12_know_5 {T : List Shp} {c : Nat → Int → Int} {x1 : Int} {r1 : Int} {c2 : Nat → Int → Int} {c3 : Nat → Int → Int} (h1 : cal 186 [vL x1, vL 0, vL 1] (SH T, (up c 77 0 0)) = some (some (vI r1), (SH T, c2))) (h2 : ¬ r1 = 0) (h3 : ¬ (w32 ((ishl 1 (c 79 5)) - 1)) = 0) (h4 : cal 300 [vR 78] (SH T, c2) = some (none, (SH T, c3))) (h5 : ¬ x1 = 0) (h6 : 0 ≤ (w32 ((ishl 1 (c 79 5)) - 1)) ∧ (w32 ((ishl 1 (c 79 5)) - 1)) < 64) (h7 : ¬ (c3 104 (w32 ((ishl 1 (c 79 5)) - 1))) = 0) : cal 301 [vR 78, vI x1] (SH T, c) = ev 301 4 66 [vR 78, vU, vI (w32 ((ishl 1 (c 79 5)) - 1)), vI 0] [] (SH T, c3) := by
  refine (ev_eq _ _ _ _ _ _).trans ?_
  refine (el_call rfl h1).trans ?_
  refine (if_neg h2).trans ?_
  refine (if_neg h3).trans ?_
  refine (ev_eq _ _ _ _ _ _).trans ?_
  refine (el_call rfl h4).trans ?_
  refine (if_neg h5).trans ?_
  refine (if_pos h6).trans ?_
  refine (if_neg h7).trans ?_
  refine (ev_eq _ _ _ _ _ _).trans ?_
  rfl
theorem B_X12_know_49_1 {T : List Shp} {c : Nat → Int → Int} {x1 x2 : Int} (h1 : x1 = 0) (h2 : 0 ≤ x2 ∧ x2 < 64) : ev 301 4 49 [vR 78, vI x1, vI x2, vU] [] (SH T, c) = some (some (vI (c 104 x2)), (SH T, c)) := by
  refine (ev_eq _ _ _ _ _ _).trans ?_
  refine (if_pos h1).trans ?_
  refine (if_pos h2).trans ?_
  rfl
theorem B_X12_know_49_2 {T : List Shp} {c : Nat → Int → Int} {x1 x2 : Int} (h1 : ¬ x1 = 0) : ev 301 4 49 [vR 78, vI x1, vI x2, vU] [] (SH T, c) = some (some (vI (-1)), (SH T, c)) := by
  refine (ev_eq _ _ _ _ _ _).trans ?_
  refine (if_neg h1).trans ?_
  refine (ev_eq _ _ _ _ _ _).trans ?_
  rfl
theorem B_X12_know_66_1 {T : List Shp} {c : Nat → Int → Int} {x2 x3 : Int} {r1 : Int} {c2 : Nat → Int → Int} (h1 : cal 299 [vR 78, vI x2, vI x3] (SH T, c) = some (some (vI r1), (SH T, c2))) (h2 : 0 ≤ x2 ∧ x2 < 64) (h3 : (w32 (r1 + 1)) = (c2 104 x2)) : ev 301 4 66 [vR 78, vU, vI x2, vI x3] [] (SH T, c) = some (some (vI x3), (SH T, c2)) := by
  refine (ev_eq _ _ _ _ _ _).trans ?_
  refine (el_call rfl h1).trans ?_
  refine (if_pos h2).trans ?_
  refine (if_pos h3).trans ?_
  refine (ev_eq _ _ _ _ _ _).trans ?_
  rfl
theorem B_X12_know_66_2 {T : List Shp} {c : Nat → Int → Int} {x2 x3 : Int} {r1 : Int} {c2 : Nat → Int → Int} (h1 : cal 299 [vR 78, vI x2, vI x3] (SH T, c) = some (some (vI r1), (SH T, c2))) (h2 : 0 ≤ x2 ∧ x2 < 64) (h3 : ¬ (w32 (r1 + 1)) = (c2 104 x2)) : ev 301 4 66 [vR 78, vU, vI x2, vI x3] [] (SH T, c) = ev 301 4 66 [vR 78, vU, vI x2, vI (w32 (x3 + 1))] [] (SH T, c2) := by
  refine (ev_eq _ _ _ _ _ _).trans ?_
  refine (el_call rfl h1).trans ?_
  refine (if_pos h2).trans ?_
  refine (if_neg h3).trans ?_
  rfl
theorem E_X12_whoOf {T : List Shp} {c : Nat → Int → Int} {x1 : Int} {c1 : Nat → Int → Int} {c2 : Nat → Int → Int} {c3 : Nat → Int → Int} (h1 : cal 259 [vR 78, vI x1] (SH T, c) = some (none, (SH T, c1))) (h2 : cal 262 [vR 78, vI 0, vI (w32 (x1 - 1))] (SH T, c1) = some (none, (SH T, c2))) (h3 : cal 262 [vR 78, vI 2, vI x1] (SH T, c2) = some (none, (SH T, c3))) : cal 302 [vR 78, vI x1] (SH T, c) = ev 302 8 23 [vR 78, vI x1, vI 0, vI 0] [] (SH T, c3) := by
  refine (ev_eq _ _ _ _ _ _).trans ?_
  refine (el_call rfl h1).trans ?_
  refine (el_call rfl h2).trans ?_
  refine (el_call rfl h3).trans ?_
  rfl
theorem B_X12_whoOf_23_1 {T : List Shp} {c : Nat → Int → Int} {x1 x2 x3 : Int} {c1 : Nat → Int → Int} {r2 : Int} {c3 : Nat → Int → Int} (h1 : x3 < (c 79 0)) (h2 : cal 261 [vR 78, vI 0, vI 1, vI x3, vI x1] (SH T, c) = some (none, (SH T, c1))) (h3 : cal 284 [vR 78, vI 1, vI 2] (SH T, c1) = some (some (vI r2), (SH T, c3))) (h4 : r2 = 0) : ev 302 8 23 [vR 78, vI x1, vI x2, vI x3] [] (SH T, c) = ev 302 8 23 [vR 78, vI x1, vI (ior x2 0), vI (w32 (x3 + 1))] [] (SH T, c3) := by
  refine (ev_eq _ _ _ _ _ _).trans ?_
  refine (if_pos h1).trans ?_
  refine (el_call rfl h2).trans ?_
  refine (el_call rfl h3).trans ?_
  refine (if_pos h4).trans ?_
  refine (ev_eq _ _ _ _ _ _).trans ?_
  rfl
theorem B_X12_whoOf_23_2 {T : List Shp} {c : Nat → Int → Int} {x1 x2 x3 : Int} {c1 : Nat → Int → Int} {r2 : Int} {c3 : Nat → Int → Int} (h1 : x3 < (c 79 0)) (h2 : cal 261 [vR 78, vI 0, vI 1, vI x3, vI x1] (SH T, c) = some (none, (SH T, c1))) (h3 : cal 284 [vR 78, vI 1, vI 2] (SH T, c1) = some (some (vI r2), (SH T, c3))) (h4 : ¬ r2 = 0) : ev 302 8 23 [vR 78, vI x1, vI x2, vI x3] [] (SH T, c) = ev 302 8 23 [vR 78, vI x1, vI (ior x2 (ishl 1 x3)), vI (w32 (x3 + 1))] [] (SH T, c3) := by
  refine (ev_eq _ _ _ _ _ _).trans ?_
  refine (if_pos h1).trans ?_
  refine (el_call rfl h2).trans ?_
  refine (el_call rfl h3).trans ?_
  refine (if_neg h4).trans ?_
  rfl
theorem B_X12_whoOf_23_3 {T : List Shp} {c : Nat → Int → Int} {x1 x2 x3 : Int} (h1 : ¬ x3 < (c 79 0)) : ev 302 8 23 [vR 78, vI x1, vI x2, vI x3] [] (SH T, c) = some (some (vI x2), (SH T, c)) := by
  refine (ev_eq _ _ _ _ _ _).trans ?_
  refine (if_neg h1).trans ?_
  refine (ev_eq _ _ _ _ _ _).trans ?_
  rfl
theorem E_X12_who_1 {T : List Shp} {c : Nat → Int → Int} {x1 : Int} {r1 : Int} {c2 : Nat → Int → Int} {r3 : Int} {c4 : Nat → Int → Int} (h1 : cal 197 [vR 78] (SH T, (up c 77 0 0)) = some (some (vI r1), (SH T, c2))) (h2 : cal 186 [vL x1, vL 1, vL r1] (SH T, c2) = some (some (vI r3), (SH T, c4))) (h3 : r3 = 0) : cal 303 [vR 78, vI x1] (SH T, c) = some (some (vI (-1)), (SH T, c4)) := by
  refine (ev_eq _ _ _ _ _ _).trans ?_
  refine (el_call rfl h1).trans ?_
  refine (el_call rfl h2).trans ?_
  refine (if_pos h3).trans ?_
  refine (ev_eq _ _ _ _ _ _).trans ?_
  rfl
theorem E_X12_who_2 {T : List Shp} {c : Nat → Int → Int} {x1 : Int} {r1 : Int} {c2 : Nat → Int → Int} {r3 : Int} {c4 : Nat → Int → Int} {r5 : Int} {c6 : Nat → Int → Int} (h1 : cal 197 [vR 78] (SH T, (up c 77 0 0)) = some (some (vI r1), (SH T, c2))) (h2 : cal 186 [vL x1, vL 1, vL r1] (SH T, c2) = some (some (vI r3), (SH T, c4))) (h3 : ¬ r3 = 0) (h4 : cal 302 [vR 78, vI x1] (SH T, c4) = some (some (vI r5), (SH T, c6))) : cal 303 [vR 78, vI x1] (SH T, c) = some (some (vI r5), (SH T, c6)) := by
  refine (ev_eq _ _ _ _ _ _).trans ?_
  refine (el_call rfl h1).trans ?_
  refine (el_call rfl h2).trans ?_
  refine (if_neg h3).trans ?_
  refine (el_call rfl h4).trans ?_
  rfl
theorem E_X12_forge_1 {T : List Shp} {c : Nat → Int → Int} {x1 x2 x3 : Int} {r1 : Int} {c2 : Nat → Int → Int} (h1 : cal 194 [vI x2] (SH T, (up c 77 0 0)) = some (some (vI r1), (SH T, c2))) (h2 : r1 = 0) : cal 304 [vR 78, vI x1, vI x2, vI x3] (SH T, c) = ev 304 3 19 [vR 78, vU, vU, vU] [] (SH T, c2) := by
  refine (ev_eq _ _ _ _ _ _).trans ?_
  refine (el_call rfl h1).trans ?_
  refine (if_pos h2).trans ?_
  rfl
theorem E_X12_forge_2 {T : List Shp} {c : Nat → Int → Int} {x1 x2 x3 : Int} {r1 : Int} {c2 : Nat → Int → Int} {r3 : Int} {c4 : Nat → Int → Int} (h1 : cal 194 [vI x2] (SH T, (up c 77 0 0)) = some (some (vI r1), (SH T, c2))) (h2 : ¬ r1 = 0) (h3 : cal 195 [vI x3] (SH T, c2) = some (some (vI r3), (SH T, c4))) (h4 : r3 = 0) : cal 304 [vR 78, vI x1, vI x2, vI x3] (SH T, c) = ev 304 3 19 [vR 78, vU, vU, vU] [] (SH T, c4) := by
  refine (ev_eq _ _ _ _ _ _).trans ?_
  refine (el_call rfl h1).trans ?_
  refine (if_neg h2).trans ?_
  refine (el_call rfl h3).trans ?_
  refine (if_pos h4).trans ?_
  rfl
theorem E_X12_forge_3 {T : List Shp} {c : Nat → Int → Int} {x1 x2 x3 : Int} {r1 : Int} {c2 : Nat → Int → Int} {r3 : Int} {c4 : Nat → Int → Int} {r5 : Int} {c6 : Nat → Int → Int} {r7 : Int} {c8 : Nat → Int → Int} {r9 : Int} {c10 : Nat → Int → Int} (h1 : cal 194 [vI x2] (SH T, (up c 77 0 0)) = some (some (vI r1), (SH T, c2))) (h2 : ¬ r1 = 0) (h3 : cal 195 [vI x3] (SH T, c2) = some (some (vI r3), (SH T, c4))) (h4 : ¬ r3 = 0) (h5 : cal 197 [vR 78] (SH T, c4) = some (some (vI r5), (SH T, c6))) (h6 : cal 186 [vL x1, vL 1, vL r5] (SH T, c6) = some (some (vI r7), (SH T, c8))) (h7 : r7 = 0) (h8 : cal 190 [vR 78, vI (-2)] (SH T, c8) = some (some (vI r9), (SH T, c10))) : cal 304 [vR 78, vI x1, vI x2, vI x3] (SH T, c) = some (some (vI r9), (SH T, c10)) := by
  refine (ev_eq _ _ _ _ _ _).trans ?_
  refine (el_call rfl h1).trans ?_
  refine (if_neg h2).trans ?_
  refine (el_call rfl h3).trans ?_
  refine (if_neg h4).trans ?_
  refine (ev_eq _ _ _ _ _ _).trans ?_
  refine (el_call rfl h5).trans ?_
  refine (el_call rfl h6).trans ?_
  refine (if_pos h7).trans ?_
  refine (ev_eq _ _ _ _ _ _).trans ?_
  refine (el_call rfl h8).trans ?_
  rfl
theorem E_X12_forge_4 {T : List Shp} {c : Nat → Int → Int} {x1 x2 x3 : Int} {r1 : Int} {c2 : Nat → Int → Int} {r3 : Int} {c4 : Nat → Int → Int} {r5 : Int} {c6 : Nat → Int → Int} {r7 : Int} {c8 : Nat → Int → Int} {r9 : Int} {c10 : Nat → Int → Int} (h1 : cal 194 [vI x2] (SH T, (up c 77 0 0)) = some (some (vI r1), (SH T, c2))) (h2 : ¬ r1 = 0) (h3 : cal 195 [vI x3] (SH T, c2) = some (some (vI r3), (SH T, c4))) (h4 : ¬ r3 = 0) (h5 : cal 197 [vR 78] (SH T, c4) = some (some (vI r5), (SH T, c6))) (h6 : cal 186 [vL x1, vL 1, vL r5] (SH T, c6) = some (some (vI r7), (SH T, c8))) (h7 : ¬ r7 = 0) (h8 : cal 191 [vR 78, vI (w32 ((w32 (12 + (w32 (12 * x1)))) + x2)), vI x3] (SH T, c8) = some (some (vI r9), (SH T, c10))) : cal 304 [vR 78, vI x1, vI x2, vI x3] (SH T, c) = some (some (vI r9), (SH T, c10)) := by
  refine (ev_eq _ _ _ _ _ _).trans ?_
  refine (el_call rfl h1).trans ?_
  refine (if_neg h2).trans ?_
  refine (el_call rfl h3).trans ?_
  refine (if_neg h4).trans ?_
  refine (ev_eq _ _ _ _ _ _).trans ?_
  refine (el_call rfl h5).trans ?_
  refine (el_call rfl h6).trans ?_
  refine (if_neg h7).trans ?_
  refine (el_call rfl h8).trans ?_
  rfl
theorem B_X12_forge_19 {T : List Shp} {c : Nat → Int → Int} {r1 : Int} {c2 : Nat → Int → Int} (h1 : cal 190 [vR 78, vI (-1)] (SH T, c) = some (some (vI r1), (SH T, c2))) : ev 304 3 19 [vR 78, vU, vU, vU] [] (SH T, c) = some (some (vI r1), (SH T, c2)) := by
  refine (ev_eq _ _ _ _ _ _).trans ?_
  refine (el_call rfl h1).trans ?_
  rfl
theorem E_X12_skipped {T : List Shp} {c : Nat → Int → Int}  : cal 305 [vR 78] (SH T, c) = ev 305 9 7 [vR 78, vI 1] [] (SH T, (up c 77 0 0)) := by
  refine (ev_eq _ _ _ _ _ _).trans ?_
  rfl
theorem B_X12_skipped_7_1 {T : List Shp} {c : Nat → Int → Int} {x1 : Int} {r1 : Int} {c2 : Nat → Int → Int} (h1 : cal 197 [vR 78] (SH T, c) = some (some (vI r1), (SH T, c2))) (h2 : r1 < x1) : ev 305 9 7 [vR 78, vI x1] [] (SH T, c) = some (some (vI (-1)), (SH T, c2)) := by
  refine (ev_eq _ _ _ _ _ _).trans ?_
  refine (el_call rfl h1).trans ?_
  refine (if_pos h2).trans ?_
  refine (ev_eq _ _ _ _ _ _).trans ?_
  rfl
theorem B_X12_skipped_7_2 {T : List Shp} {c : Nat → Int → Int} {x1 : Int} {r1 : Int} {c2 : Nat → Int → Int} {r3 : Int} {c4 : Nat → Int → Int} (h1 : cal 197 [vR 78] (SH T, c) = some (some (vI r1), (SH T, c2))) (h2 : ¬ r1 < x1) (h3 : cal 302 [vR 78, vI x1] (SH T, c2) = some (some (vI r3), (SH T, c4))) (h4 : r3 = 0) : ev 305 9 7 [vR 78, vI x1] [] (SH T, c) = some (some (vI x1), (SH T, c4)) := by
  refine (ev_eq _ _ _ _ _ _).trans ?_
  refine (el_call rfl h1).trans ?_
  refine (if_neg h2).trans ?_
  refine (el_call rfl h3).trans ?_
  refine (if_pos h4).trans ?_
  rfl
theorem B_X12_skipped_7_3 {T : List Shp} {c : Nat → Int → Int} {x1 : Int} {r1 : Int} {c2 : Nat → Int → Int} {r3 : Int} {c4 : Nat → Int → Int} (h1 : cal 197 [vR 78] (SH T, c) = some (some (vI r1), (SH T, c2))) (h2 : ¬ r1 < x1) (h3 : cal 302 [vR 78, vI x1] (SH T, c2) = some (some (vI r3), (SH T, c4))) (h4 : ¬ r3 = 0) : ev 305 9 7 [vR 78, vI x1] [] (SH T, c) = ev 305 9 7 [vR 78, vI (w32 (x1 + 1))] [] (SH T, c4) := by
  refine (ev_eq _ _ _ _ _ _).trans ?_
  refine (el_call rfl h1).trans ?_
  refine (if_neg h2).trans ?_
  refine (el_call rfl h3).trans ?_
  refine (if_neg h4).trans ?_
  refine (ev_eq _ _ _ _ _ _).trans ?_
  rfl
theorem E_X12_missing_1 {T : List Shp} {c : Nat → Int → Int} {x1 x2 : Int} {r1 : Int} {c2 : Nat → Int → Int} {r3 : Int} {c4 : Nat → Int → Int} (h1 : cal 197 [vR 78] (SH T, (up c 77 0 0)) = some (some (vI r1), (SH T, c2))) (h2 : cal 186 [vL x1, vL 1, vL r1] (SH T, c2) = some (some (vI r3), (SH T, c4))) (h3 : r3 = 0) : cal 306 [vR 78, vI x1, vI x2] (SH T, c) = some (some (vI (-1)), (SH T, c4)) := by
  refine (ev_eq _ _ _ _ _ _).trans ?_
  refine (el_call rfl h1).trans ?_
  refine (el_call rfl h2).trans ?_
  refine (if_pos h3).trans ?_
  refine (ev_eq _ _ _ _ _ _).trans ?_
  rfl
theorem E_X12_missing_2 {T : List Shp} {c : Nat → Int → Int} {x1 x2 : Int} {r1 : Int} {c2 : Nat → Int → Int} {r3 : Int} {c4 : Nat → Int → Int} {r5 : Int} {c6 : Nat → Int → Int} (h1 : cal 197 [vR 78] (SH T, (up c 77 0 0)) = some (some (vI r1), (SH T, c2))) (h2 : cal 186 [vL x1, vL 1, vL r1] (SH T, c2) = some (some (vI r3), (SH T, c4))) (h3 : ¬ r3 = 0) (h4 : cal 186 [vL x2, vL 1, vL 2] (SH T, c4) = some (some (vI r5), (SH T, c6))) (h5 : r5 = 0) : cal 306 [vR 78, vI x1, vI x2] (SH T, c) = some (some (vI (-1)), (SH T, c6)) := by
  refine (ev_eq _ _ _ _ _ _).trans ?_
  refine (el_call rfl h1).trans ?_
  refine (el_call rfl h2).trans ?_
  refine (if_neg h3).trans ?_
  refine (el_call rfl h4).trans ?_
  refine (if_pos h5).trans ?_
  refine (ev_eq _ _ _ _ _ _).trans ?_
  rfl
theorem E_X12_missing_3 {T : List Shp} {c : Nat → Int → Int} {x1 x2 : Int} {r1 : Int} {c2 : Nat → Int → Int} {r3 : Int} {c4 : Nat → Int → Int} {r5 : Int} {c6 : Nat → Int → Int} {c7 : Nat → Int → Int} {c8 : Nat → Int → Int} {c9 : Nat → Int → Int} (h1 : cal 197 [vR 78] (SH T, (up c 77 0 0)) = some (some (vI r1), (SH T, c2))) (h2 : cal 186 [vL x1, vL 1, vL r1] (SH T, c2) = some (some (vI r3), (SH T, c4))) (h3 : ¬ r3 = 0) (h4 : cal 186 [vL x2, vL 1, vL 2] (SH T, c4) = some (some (vI r5), (SH T, c6))) (h5 : ¬ r5 = 0) (h6 : cal 259 [vR 78, vI x1] (SH T, c6) = some (none, (SH T, c7))) (h7 : cal 262 [vR 78, vI 0, vI (w32 (x1 - 1))] (SH T, c7) = some (none, (SH T, c8))) (h8 : cal 262 [vR 78, vI 4, vI x1] (SH T, c8) = some (none, (SH T, c9))) : cal 306 [vR 78, vI x1, vI x2] (SH T, c) = ev 306 8 65 [vR 78, vI x1, vI x2, vI (c9 79 0), vI 0, vI 0, vU, vU] [] (SH T, c9) := by
  refine (ev_eq _ _ _ _ _ _).trans ?_
  refine (el_call rfl h1).trans ?_
  refine (el_call rfl h2).trans ?_
  refine (if_neg h3).trans ?_
  refine (el_call rfl h4).trans ?_
  refine (if_neg h5).trans ?_
  refine (ev_eq _ _ _ _ _ _).trans ?_
  refine (el_call rfl h6).trans ?_
  refine (el_call rfl h7).trans ?_
  refine (el_call rfl h8).trans ?_
  rfl
theorem B_X12_missing_65_1 {T : List Shp} {c : Nat → Int → Int} {x1 x2 x3 x4 x5 : Int} {c1 : Nat → Int → Int} (h1 : x5 < x3) (h2 : cal 261 [vR 78, vI 0, vI 1, vI x5, vI x1] (SH T, c) = some (none, (SH T, c1))) : ev 306 8 65 [vR 78, vI x1, vI x2, vI x3, vI x4, vI x5, vU, vU] [] (SH T, c) = ev 306 8 83 [vR 78, vI x1, vI x2, vI x3, vI x4, vI x5, vI 0, vU] [] (SH T, c1) := by
  refine (ev_eq _ _ _ _ _ _).trans ?_
  refine (if_pos h1).trans ?_
  refine (el_call rfl h2).trans ?_
  rfl
theorem B_X12_missing_65_2 {T : List Shp} {c : Nat → Int → Int} {x1 x2 x3 x4 x5 : Int} (h1 : ¬ x5 < x3) : ev 306 8 65 [vR 78, vI x1, vI x2, vI x3, vI x4, vI x5, vU, vU] [] (SH T, c) = some (some (vI x4), (SH T, c)) := by
  refine (ev_eq _ _ _ _ _ _).trans ?_
  refine (if_neg h1).trans ?_
  refine (ev_eq _ _ _ _ _ _).trans ?_
  rfl
theorem B_X12_missing_83_1 {T : List Shp} {c : Nat → Int → Int} {x1 x2 x3 x4 x5 x6 : Int} {c1 : Nat → Int → Int} {r2 : Int} {c3 : Nat → Int → Int} (h1 : x6 < x3) (h2 : cal 261 [vR 78, vI 1, vI 2, vI x6, vI x1] (SH T, c) = some (none, (SH T, c1))) (h3 : x2 = 1) (h4 : cal 284 [vR 78, vI 2, vI 4] (SH T, c1) = some (some (vI r2), (SH T, c3))) (h5 : r2 = 0) : ev 306 8 83 [vR 78, vI x1, vI x2, vI x3, vI x4, vI x5, vI x6, vU] [] (SH T, c) = ev 306 8 118 [vR 78, vI x1, vI x2, vI x3, vU, vI x5, vI x6, vU] [vI x4] (SH T, c3) := by
  refine (ev_eq _ _ _ _ _ _).trans ?_
  refine (if_pos h1).trans ?_
  refine (el_call rfl h2).trans ?_
  refine (if_pos h3).trans ?_
  refine (el_call rfl h4).trans ?_
  refine (if_pos h5).trans ?_
  rfl
theorem B_X12_missing_83_2 {T : List Shp} {c : Nat → Int → Int} {x1 x2 x3 x4 x5 x6 : Int} {c1 : Nat → Int → Int} {r2 : Int} {c3 : Nat → Int → Int} (h1 : x6 < x3) (h2 : cal 261 [vR 78, vI 1, vI 2, vI x6, vI x1] (SH T, c) = some (none, (SH T, c1))) (h3 : x2 = 1) (h4 : cal 284 [vR 78, vI 2, vI 4] (SH T, c1) = some (some (vI r2), (SH T, c3))) (h5 : ¬ r2 = 0) : ev 306 8 83 [vR 78, vI x1, vI x2, vI x3, vI x4, vI x5, vI x6, vU] [] (SH T, c) = ev 306 8 125 [vR 78, vI x1, vI x2, vI x3, vI (w32 (x4 + 1)), vI x5, vI x6, vI 0] [] (SH T, c3) := by
  refine (ev_eq _ _ _ _ _ _).trans ?_
  refine (if_pos h1).trans ?_
  refine (el_call rfl h2).trans ?_
  refine (if_pos h3).trans ?_
  refine (el_call rfl h4).trans ?_
  refine (if_neg h5).trans ?_
  rfl
theorem B_X12_missing_83_3 {T : List Shp} {c : Nat → Int → Int} {x1 x2 x3 x4 x5 x6 : Int} {c1 : Nat → Int → Int} (h1 : x6 < x3) (h2 : cal 261 [vR 78, vI 1, vI 2, vI x6, vI x1] (SH T, c) = some (none, (SH T, c1))) (h3 : ¬ x2 = 1) : ev 306 8 83 [vR 78, vI x1, vI x2, vI x3, vI x4, vI x5, vI x6, vU] [] (SH T, c) = ev 306 8 118 [vR 78, vI x1, vI x2, vI x3, vU, vI x5, vI x6, vU] [vI x4] (SH T, c1) := by
  refine (ev_eq _ _ _ _ _ _).trans ?_
  refine (if_pos h1).trans ?_
  refine (el_call rfl h2).trans ?_
  refine (if_neg h3).trans ?_
  rfl
theorem B_X12_missing_83_4 {T : List Shp} {c : Nat → Int → Int} {x1 x2 x3 x4 x5 x6 : Int} (h1 : ¬ x6 < x3) : ev 306 8 83 [vR 78, vI x1, vI x2, vI x3, vI x4, vI x5, vI x6, vU] [] (SH T, c) = ev 306 8 65 [vR 78, vI x1, vI x2, vI x3, vI x4, vI (w32 (x5 + 1)), vU, vU] [] (SH T, c) := by
  refine (ev_eq _ _ _ _ _ _).trans ?_
  refine (if_neg h1).trans ?_
  refine (ev_eq _ _ _ _ _ _).trans ?_
  rfl
theorem B_X12_missing_118 {T : List Shp} {c : Nat → Int → Int} {x1 x2 x3 x5 x6 y0 : Int}  : ev 306 8 118 [vR 78, vI x1, vI x2, vI x3, vU, vI x5, vI x6, vU] [vI y0] (SH T, c) = ev 306 8 125 [vR 78, vI x1, vI x2, vI x3, vI (w32 (y0 + 0)), vI x5, vI x6, vI 0] [] (SH T, c) := by
  refine (ev_eq _ _ _ _ _ _).trans ?_
  rfl
theorem B_X12_missing_125_1 {T : List Shp} {c : Nat → Int → Int} {x1 x2 x3 x4 x5 x6 x7 : Int} {c1 : Nat → Int → Int} {r2 : Int} {c3 : Nat → Int → Int} (h1 : x7 < x3) (h2 : x2 = 2) (h3 : cal 261 [vR 78, vI 2, vI 3, vI x7, vI x1] (SH T, c) = some (none, (SH T, c1))) (h4 : cal 284 [vR 78, vI 3, vI 4] (SH T, c1) = some (some (vI r2), (SH T, c3))) (h5 : r2 = 0) : ev 306 8 125 [vR 78, vI x1, vI x2, vI x3, vI x4, vI x5, vI x6, vI x7] [] (SH T, c) = ev 306 8 125 [vR 78, vI x1, vI x2, vI x3, vI (w32 (x4 + 0)), vI x5, vI x6, vI (w32 (x7 + 1))] [] (SH T, c3) := by
  refine (ev_eq _ _ _ _ _ _).trans ?_
  refine (if_pos h1).trans ?_
  refine (if_pos h2).trans ?_
  refine (el_call rfl h3).trans ?_
  refine (el_call rfl h4).trans ?_
  refine (if_pos h5).trans ?_
  refine (ev_eq _ _ _ _ _ _).trans ?_
  rfl
theorem B_X12_missing_125_2 {T : List Shp} {c : Nat → Int → Int} {x1 x2 x3 x4 x5 x6 x7 : Int} {c1 : Nat → Int → Int} {r2 : Int} {c3 : Nat → Int → Int} (h1 : x7 < x3) (h2 : x2 = 2) (h3 : cal 261 [vR 78, vI 2, vI 3, vI x7, vI x1] (SH T, c) = some (none, (SH T, c1))) (h4 : cal 284 [vR 78, vI 3, vI 4] (SH T, c1) = some (some (vI r2), (SH T, c3))) (h5 : ¬ r2 = 0) : ev 306 8 125 [vR 78, vI x1, vI x2, vI x3, vI x4, vI x5, vI x6, vI x7] [] (SH T, c) = ev 306 8 125 [vR 78, vI x1, vI x2, vI x3, vI (w32 (x4 + 1)), vI x5, vI x6, vI (w32 (x7 + 1))] [] (SH T, c3) := by
  refine (ev_eq _ _ _ _ _ _).trans ?_
  refine (if_pos h1).trans ?_
  refine (if_pos h2).trans ?_
  refine (el_call rfl h3).trans ?_
  refine (el_call rfl h4).trans ?_
  refine (if_neg h5).trans ?_
  rfl
theorem B_X12_missing_125_3 {T : List Shp} {c : Nat → Int → Int} {x1 x2 x3 x4 x5 x6 x7 : Int} (h1 : x7 < x3) (h2 : ¬ x2 = 2) : ev 306 8 125 [vR 78, vI x1, vI x2, vI x3, vI x4, vI x5, vI x6, vI x7] [] (SH T, c) = ev 306 8 170 [vR 78, vI x1, vI x2, vI x3, vI x4, vI x5, vI x6, vU] [] (SH T, c) := by
  refine (ev_eq _ _ _ _ _ _).trans ?_
  refine (if_pos h1).trans ?_
  refine (if_neg h2).trans ?_
  rfl
theorem B_X12_missing_125_4 {T : List Shp} {c : Nat → Int → Int} {x1 x2 x3 x4 x5 x6 x7 : Int} (h1 : ¬ x7 < x3) : ev 306 8 125 [vR 78, vI x1, vI x2, vI x3, vI x4, vI x5, vI x6, vI x7] [] (SH T, c) = ev 306 8 170 [vR 78, vI x1, vI x2, vI x3, vI x4, vI x5, vI x6, vU] [] (SH T, c) := by
  refine (ev_eq _ _ _ _ _ _).trans ?_
  refine (if_neg h1).trans ?_
  rfl
theorem B_X12_missing_170 {T : List Shp} {c : Nat → Int → Int} {x1 x2 x3 x4 x5 x6 : Int}  : ev 306 8 170 [vR 78, vI x1, vI x2, vI x3, vI x4, vI x5, vI x6, vU] [] (SH T, c) = ev 306 8 83 [vR 78, vI x1, vI x2, vI x3, vI x4, vI x5, vI (w32 (x6 + 1)), vU] [] (SH T, c) := by
  refine (ev_eq _ _ _ _ _ _).trans ?_
  rfl
theorem E_X12_wasOf {T : List Shp} {c : Nat → Int → Int} {x1 : Int}  : cal 307 [vR 78, vI x1] (SH T, c) = ev 307 3 4 [vR 78, vI x1, vI 0, vI 0, vU, vU] [] (SH T, c) := by
  refine (ev_eq _ _ _ _ _ _).trans ?_
  rfl
theorem B_X12_wasOf_4_1 {T : List Shp} {c : Nat → Int → Int} {x1 x2 x3 : Int} (h1 : x3 < 10) : ev 307 3 4 [vR 78, vI x1, vI x2, vI x3, vU, vU] [] (SH T, c) = ev 307 3 16 [vR 78, vI x1, vI x2, vI x3, vI x3, vI 1] [] (SH T, c) := by
  refine (ev_eq _ _ _ _ _ _).trans ?_
  refine (if_pos h1).trans ?_
  rfl
theorem B_X12_wasOf_4_2 {T : List Shp} {c : Nat → Int → Int} {x1 x2 x3 : Int} (h1 : ¬ x3 < 10) : ev 307 3 4 [vR 78, vI x1, vI x2, vI x3, vU, vU] [] (SH T, c) = some (some (vI x2), (SH T, c)) := by
  refine (ev_eq _ _ _ _ _ _).trans ?_
  refine (if_neg h1).trans ?_
  refine (ev_eq _ _ _ _ _ _).trans ?_
  rfl
theorem B_X12_wasOf_16_1 {T : List Shp} {c : Nat → Int → Int} {x1 x2 x3 x4 x5 : Int} {r1 : Int} {c2 : Nat → Int → Int} {r3 : Int} {c4 : Nat → Int → Int} (h1 : cal 197 [vR 78] (SH T, c) = some (some (vI r1), (SH T, c2))) (h2 : r1 < x5) (h3 : cal 203 [vR 78, vI x1] (SH T, c2) = some (some (vI r3), (SH T, c4))) (h4 : x4 = r3) : ev 307 3 16 [vR 78, vI x1, vI x2, vI x3, vI x4, vI x5] [] (SH T, c) = ev 307 3 4 [vR 78, vI x1, vI (ior x2 (ishl 1 x3)), vI (w32 (x3 + 1)), vU, vU] [] (SH T, c4) := by
  refine (ev_eq _ _ _ _ _ _).trans ?_
  refine (el_call rfl h1).trans ?_
  refine (if_pos h2).trans ?_
  refine (ev_eq _ _ _ _ _ _).trans ?_
  refine (el_call rfl h3).trans ?_
  refine (if_pos h4).trans ?_
  rfl
theorem B_X12_wasOf_16_2 {T : List Shp} {c : Nat → Int → Int} {x1 x2 x3 x4 x5 : Int} {r1 : Int} {c2 : Nat → Int → Int} {r3 : Int} {c4 : Nat → Int → Int} (h1 : cal 197 [vR 78] (SH T, c) = some (some (vI r1), (SH T, c2))) (h2 : r1 < x5) (h3 : cal 203 [vR 78, vI x1] (SH T, c2) = some (some (vI r3), (SH T, c4))) (h4 : ¬ x4 = r3) : ev 307 3 16 [vR 78, vI x1, vI x2, vI x3, vI x4, vI x5] [] (SH T, c) = ev 307 3 4 [vR 78, vI x1, vI (ior x2 0), vI (w32 (x3 + 1)), vU, vU] [] (SH T, c4) := by
  refine (ev_eq _ _ _ _ _ _).trans ?_
  refine (el_call rfl h1).trans ?_
  refine (if_pos h2).trans ?_
  refine (ev_eq _ _ _ _ _ _).trans ?_
  refine (el_call rfl h3).trans ?_
  refine (if_neg h4).trans ?_
  refine (ev_eq _ _ _ _ _ _).trans ?_
  rfl
theorem B_X12_wasOf_16_3 {T : List Shp} {c : Nat → Int → Int} {x1 x2 x3 x4 x5 : Int} {r1 : Int} {c2 : Nat → Int → Int} {r3 : Int} {c4 : Nat → Int → Int} (h1 : cal 197 [vR 78] (SH T, c) = some (some (vI r1), (SH T, c2))) (h2 : ¬ r1 < x5) (h3 : 0 ≤ (w32 (216 + x5)) ∧ (w32 (216 + x5)) < 5780) (h4 : cal 260 [vR 78, vI (c2 79 (w32 (216 + x5))), vI x1, vI x5, vI x4] (SH T, c2) = some (some (vI r3), (SH T, c4))) : ev 307 3 16 [vR 78, vI x1, vI x2, vI x3, vI x4, vI x5] [] (SH T, c) = ev 307 3 16 [vR 78, vI x1, vI x2, vI x3, vI r3, vI (w32 (x5 + 1))] [] (SH T, c4) := by
  refine (ev_eq _ _ _ _ _ _).trans ?_
  refine (el_call rfl h1).trans ?_
  refine (if_neg h2).trans ?_
  refine (if_pos h3).trans ?_
  refine (el_call rfl h4).trans ?_
  rfl
theorem E_X12_layAll {T : List Shp} {c : Nat → Int → Int}  : cal 308 [vR 78] (SH T, c) = ev 308 8 2 [vR 78, vI 1] [] (SH T, c) := by
  refine (ev_eq _ _ _ _ _ _).trans ?_
  rfl
theorem B_X12_layAll_2_1 {T : List Shp} {c : Nat → Int → Int} {x1 : Int} {r1 : Int} {c2 : Nat → Int → Int} (h1 : cal 197 [vR 78] (SH T, c) = some (some (vI r1), (SH T, c2))) (h2 : r1 < x1) : ev 308 8 2 [vR 78, vI x1] [] (SH T, c) = some (none, (SH T, c2)) := by
  refine (ev_eq _ _ _ _ _ _).trans ?_
  refine (el_call rfl h1).trans ?_
  refine (if_pos h2).trans ?_
  refine (ev_eq _ _ _ _ _ _).trans ?_
  rfl
theorem B_X12_layAll_2_2 {T : List Shp} {c : Nat → Int → Int} {x1 : Int} {r1 : Int} {c2 : Nat → Int → Int} {c3 : Nat → Int → Int} (h1 : cal 197 [vR 78] (SH T, c) = some (some (vI r1), (SH T, c2))) (h2 : ¬ r1 < x1) (h3 : cal 259 [vR 78, vI x1] (SH T, c2) = some (none, (SH T, c3))) : ev 308 8 2 [vR 78, vI x1] [] (SH T, c) = ev 308 8 2 [vR 78, vI (w32 (x1 + 1))] [] (SH T, c3) := by
  refine (ev_eq _ _ _ _ _ _).trans ?_
  refine (el_call rfl h1).trans ?_
  refine (if_neg h2).trans ?_
  refine (el_call rfl h3).trans ?_
  rfl
theorem E_X12_was_1 {T : List Shp} {c : Nat → Int → Int} {x1 : Int} {r1 : Int} {c2 : Nat → Int → Int} (h1 : cal 194 [vI x1] (SH T, (up c 77 0 0)) = some (some (vI r1), (SH T, c2))) (h2 : r1 = 0) : cal 309 [vR 78, vI x1] (SH T, c) = some (some (vI (-1)), (SH T, c2)) := by
  refine (ev_eq _ _ _ _ _ _).trans ?_
  refine (el_call rfl h1).trans ?_
  refine (if_pos h2).trans ?_
  rfl
theorem E_X12_was_2 {T : List Shp} {c : Nat → Int → Int} {x1 : Int} {r1 : Int} {c2 : Nat → Int → Int} {c3 : Nat → Int → Int} {r4 : Int} {c5 : Nat → Int → Int} (h1 : cal 194 [vI x1] (SH T, (up c 77 0 0)) = some (some (vI r1), (SH T, c2))) (h2 : ¬ r1 = 0) (h3 : cal 308 [vR 78] (SH T, c2) = some (none, (SH T, c3))) (h4 : cal 307 [vR 78, vI x1] (SH T, c3) = some (some (vI r4), (SH T, c5))) : cal 309 [vR 78, vI x1] (SH T, c) = some (some (vI r4), (SH T, c5)) := by
  refine (ev_eq _ _ _ _ _ _).trans ?_
  refine (el_call rfl h1).trans ?_
  refine (if_neg h2).trans ?_
  refine (ev_eq _ _ _ _ _ _).trans ?_
  refine (el_call rfl h3).trans ?_
  refine (el_call rfl h4).trans ?_
  rfl
theorem E_X12_ways {T : List Shp} {c : Nat → Int → Int} {c1 : Nat → Int → Int} (h1 : cal 308 [vR 78] (SH T, (up c 77 0 0)) = some (none, (SH T, c1))) : cal 310 [vR 78] (SH T, c) = ev 310 9 13 [vR 78, vL 1, vU, vI 0, vU, vU, vU] [] (SH T, c1) := by
  refine (ev_eq _ _ _ _ _ _).trans ?_
  refine (el_call rfl h1).trans ?_
  rfl
theorem B_X12_ways_13_1 {T : List Shp} {c : Nat → Int → Int} {x1 x3 : Int} {r1 : Int} {c2 : Nat → Int → Int} (h1 : x3 < 12) (h2 : cal 307 [vR 78, vI x3] (SH T, c) = some (some (vI r1), (SH T, c2))) : ev 310 9 13 [vR 78, vL x1, vU, vI x3, vU, vU, vU] [] (SH T, c) = ev 310 9 32 [vR 78, vL x1, vU, vI x3, vI r1, vI 0, vI 0] [] (SH T, c2) := by
  refine (ev_eq _ _ _ _ _ _).trans ?_
  refine (if_pos h1).trans ?_
  refine (el_call rfl h2).trans ?_
  rfl
theorem B_X12_ways_13_2 {T : List Shp} {c : Nat → Int → Int} {x1 x3 : Int} (h1 : ¬ x3 < 12) : ev 310 9 13 [vR 78, vL x1, vU, vI x3, vU, vU, vU] [] (SH T, c) = some (some (vL x1), (SH T, c)) := by
  refine (ev_eq _ _ _ _ _ _).trans ?_
  refine (if_neg h1).trans ?_
  refine (ev_eq _ _ _ _ _ _).trans ?_
  rfl
theorem B_X12_ways_32_1 {T : List Shp} {c : Nat → Int → Int} {x1 x3 x4 x5 x6 : Int} (h1 : x6 < 10) : ev 310 9 32 [vR 78, vL x1, vU, vI x3, vI x4, vI x5, vI x6] [] (SH T, c) = ev 310 9 32 [vR 78, vL x1, vU, vI x3, vI x4, vI (w32 (x5 + (iand (ishr x4 x6) 1))), vI (w32 (x6 + 1))] [] (SH T, c) := by
  refine (ev_eq _ _ _ _ _ _).trans ?_
  refine (if_pos h1).trans ?_
  rfl
theorem B_X12_ways_32_2 {T : List Shp} {c : Nat → Int → Int} {x1 x3 x4 x5 x6 : Int} (h1 : ¬ x6 < 10) : ev 310 9 32 [vR 78, vL x1, vU, vI x3, vI x4, vI x5, vI x6] [] (SH T, c) = ev 310 9 13 [vR 78, vL (w64 (x1 * x5)), vU, vI (w32 (x3 + 1)), vU, vU, vU] [] (SH T, c) := by
  refine (ev_eq _ _ _ _ _ _).trans ?_
  refine (if_neg h1).trans ?_
  refine (ev_eq _ _ _ _ _ _).trans ?_
  rfl
theorem E_X12_claimant_1 {T : List Shp} {c : Nat → Int → Int} {x1 x2 x3 x4 : Int} (h1 : x1 < (-1)) : cal 311 [vR 78, vI x1, vI x2, vI x3, vI x4] (SH T, c) = ev 311 3 44 [vR 78, vU, vU, vU, vU, vU, vU] [] (SH T, (up c 77 0 0)) := by
  refine (ev_eq _ _ _ _ _ _).trans ?_
  refine (if_pos h1).trans ?_
  rfl
theorem E_X12_claimant_2 {T : List Shp} {c : Nat → Int → Int} {x1 x2 x3 x4 : Int} {r1 : Int} {c2 : Nat → Int → Int} (h1 : ¬ x1 < (-1)) (h2 : cal 196 [vI x2] (SH T, (up c 77 0 0)) = some (some (vI r1), (SH T, c2))) (h3 : r1 = 0) : cal 311 [vR 78, vI x1, vI x2, vI x3, vI x4] (SH T, c) = ev 311 3 44 [vR 78, vU, vU, vU, vU, vU, vU] [] (SH T, c2) := by
  refine (ev_eq _ _ _ _ _ _).trans ?_
  refine (if_neg h1).trans ?_
  refine (el_call rfl h2).trans ?_
  refine (if_pos h3).trans ?_
  rfl
theorem E_X12_claimant_3 {T : List Shp} {c : Nat → Int → Int} {x1 x2 x3 x4 : Int} {r1 : Int} {c2 : Nat → Int → Int} (h1 : ¬ x1 < (-1)) (h2 : cal 196 [vI x2] (SH T, (up c 77 0 0)) = some (some (vI r1), (SH T, c2))) (h3 : ¬ r1 = 0) (h4 : x2 < x3) (h5 : 150 < x3) : cal 311 [vR 78, vI x1, vI x2, vI x3, vI x4] (SH T, c) = ev 311 3 44 [vR 78, vU, vU, vU, vU, vU, vU] [] (SH T, c2) := by
  refine (ev_eq _ _ _ _ _ _).trans ?_
  refine (if_neg h1).trans ?_
  refine (el_call rfl h2).trans ?_
  refine (if_neg h3).trans ?_
  refine (if_pos h4).trans ?_
  refine (if_pos h5).trans ?_
  rfl
theorem E_X12_claimant_4 {T : List Shp} {c : Nat → Int → Int} {x1 x2 x3 x4 : Int} {r1 : Int} {c2 : Nat → Int → Int} {r3 : Int} {c4 : Nat → Int → Int} (h1 : ¬ x1 < (-1)) (h2 : cal 196 [vI x2] (SH T, (up c 77 0 0)) = some (some (vI r1), (SH T, c2))) (h3 : ¬ r1 = 0) (h4 : x2 < x3) (h5 : ¬ 150 < x3) (h6 : cal 186 [vL x4, vL (-1), vL 5] (SH T, c2) = some (some (vI r3), (SH T, c4))) (h7 : r3 = 0) : cal 311 [vR 78, vI x1, vI x2, vI x3, vI x4] (SH T, c) = ev 311 3 44 [vR 78, vU, vU, vU, vU, vU, vU] [] (SH T, c4) := by
  refine (ev_eq _ _ _ _ _ _).trans ?_
  refine (if_neg h1).trans ?_
  refine (el_call rfl h2).trans ?_
  refine (if_neg h3).trans ?_
  refine (if_pos h4).trans ?_
  refine (if_neg h5).trans ?_
  refine (el_call rfl h6).trans ?_
  refine (if_pos h7).trans ?_
  rfl
theorem E_X12_claimant_5 {T : List Shp} {c : Nat → Int → Int} {x1 x2 x3 x4 : Int} {r1 : Int} {c2 : Nat → Int → Int} {r3 : Int} {c4 : Nat → Int → Int} (h1 : ¬ x1 < (-1)) (h2 : cal 196 [vI x2] (SH T, (up c 77 0 0)) = some (some (vI r1), (SH T, c2))) (h3 : ¬ r1 = 0) (h4 : x2 < x3) (h5 : ¬ 150 < x3) (h6 : cal 186 [vL x4, vL (-1), vL 5] (SH T, c2) = some (some (vI r3), (SH T, c4))) (h7 : ¬ r3 = 0) (h8 : x1 = (-1)) : cal 311 [vR 78, vI x1, vI x2, vI x3, vI x4] (SH T, c) = ev 311 3 70 [vR 78, vI x1, vI x2, vI x3, vI x4, vU, vU] [] (SH T, c4) := by
  refine (ev_eq _ _ _ _ _ _).trans ?_
  refine (if_neg h1).trans ?_
  refine (el_call rfl h2).trans ?_
  refine (if_neg h3).trans ?_
  refine (if_pos h4).trans ?_
  refine (if_neg h5).trans ?_
  refine (el_call rfl h6).trans ?_
  refine (if_neg h7).trans ?_
  refine (ev_eq _ _ _ _ _ _).trans ?_
  refine (if_pos h8).trans ?_
  rfl
theorem E_X12_claimant_6 {T : List Shp} {c : Nat → Int → Int} {x1 x2 x3 x4 : Int} {r1 : Int} {c2 : Nat → Int → Int} {r3 : Int} {c4 : Nat → Int → Int} {r5 : Int} {c6 : Nat → Int → Int} {r7 : Int} {c8 : Nat → Int → Int} (h1 : ¬ x1 < (-1)) (h2 : cal 196 [vI x2] (SH T, (up c 77 0 0)) = some (some (vI r1), (SH T, c2))) (h3 : ¬ r1 = 0) (h4 : x2 < x3) (h5 : ¬ 150 < x3) (h6 : cal 186 [vL x4, vL (-1), vL 5] (SH T, c2) = some (some (vI r3), (SH T, c4))) (h7 : ¬ r3 = 0) (h8 : ¬ x1 = (-1)) (h9 : cal 201 [vR 78, vI x1] (SH T, c4) = some (some (vI r5), (SH T, c6))) (h10 : r5 = 0) (h11 : cal 190 [vR 78, vI (-2)] (SH T, c6) = some (some (vI r7), (SH T, c8))) : cal 311 [vR 78, vI x1, vI x2, vI x3, vI x4] (SH T, c) = some (some (vI r7), (SH T, c8)) := by
  refine (ev_eq _ _ _ _ _ _).trans ?_
  refine (if_neg h1).trans ?_
  refine (el_call rfl h2).trans ?_
  refine (if_neg h3).trans ?_
  refine (if_pos h4).trans ?_
  refine (if_neg h5).trans ?_
  refine (el_call rfl h6).trans ?_
  refine (if_neg h7).trans ?_
  refine (ev_eq _ _ _ _ _ _).trans ?_
  refine (if_neg h8).trans ?_
  refine (el_call rfl h9).trans ?_
  refine (if_pos h10).trans ?_
  refine (el_call rfl h11).trans ?_
  rfl
theorem E_X12_claimant_7 {T : List Shp} {c : Nat → Int → Int} {x1 x2 x3 x4 : Int} {r1 : Int} {c2 : Nat → Int → Int} {r3 : Int} {c4 : Nat → Int → Int} {r5 : Int} {c6 : Nat → Int → Int} (h1 : ¬ x1 < (-1)) (h2 : cal 196 [vI x2] (SH T, (up c 77 0 0)) = some (some (vI r1), (SH T, c2))) (h3 : ¬ r1 = 0) (h4 : x2 < x3) (h5 : ¬ 150 < x3) (h6 : cal 186 [vL x4, vL (-1), vL 5] (SH T, c2) = some (some (vI r3), (SH T, c4))) (h7 : ¬ r3 = 0) (h8 : ¬ x1 = (-1)) (h9 : cal 201 [vR 78, vI x1] (SH T, c4) = some (some (vI r5), (SH T, c6))) (h10 : ¬ r5 = 0) : cal 311 [vR 78, vI x1, vI x2, vI x3, vI x4] (SH T, c) = ev 311 3 70 [vR 78, vI x1, vI x2, vI x3, vI x4, vU, vU] [] (SH T, c6) := by
  refine (ev_eq _ _ _ _ _ _).trans ?_
  refine (if_neg h1).trans ?_
  refine (el_call rfl h2).trans ?_
  refine (if_neg h3).trans ?_
  refine (if_pos h4).trans ?_
  refine (if_neg h5).trans ?_
  refine (el_call rfl h6).trans ?_
  refine (if_neg h7).trans ?_
  refine (ev_eq _ _ _ _ _ _).trans ?_
  refine (if_neg h8).trans ?_
  refine (el_call rfl h9).trans ?_
  refine (if_neg h10).trans ?_
  rfl
theorem E_X12_claimant_8 {T : List Shp} {c : Nat → Int → Int} {x1 x2 x3 x4 : Int} {r1 : Int} {c2 : Nat → Int → Int} (h1 : ¬ x1 < (-1)) (h2 : cal 196 [vI x2] (SH T, (up c 77 0 0)) = some (some (vI r1), (SH T, c2))) (h3 : ¬ r1 = 0) (h4 : ¬ x2 < x3) : cal 311 [vR 78, vI x1, vI x2, vI x3, vI x4] (SH T, c) = ev 311 3 44 [vR 78, vU, vU, vU, vU, vU, vU] [] (SH T, c2) := by
  refine (ev_eq _ _ _ _ _ _).trans ?_
  refine (if_neg h1).trans ?_
  refine (el_call rfl h2).trans ?_
  refine (if_neg h3).trans ?_
  refine (if_neg h4).trans ?_
  rfl

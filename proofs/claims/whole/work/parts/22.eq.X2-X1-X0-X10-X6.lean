theorem B_X2_crownTill_4_1 {T : List Shp} {c : Nat → Int → Int} {x1 x2 x3 : Int} (h1 : x1 < x3) : ev 13 6 4 [vR 56, vI x1, vI x2, vI x3] [] (SH T, c) = some (none, (SH T, c)) := by
  refine (ev_eq _ _ _ _ _ _).trans ?_
  refine (if_pos h1).trans ?_
  refine (ev_eq _ _ _ _ _ _).trans ?_
  rfl
theorem B_X2_crownTill_4_2 {T : List Shp} {c : Nat → Int → Int} {x1 x2 x3 : Int} (h1 : ¬ x1 < x3) (h2 : x3 < 100) (h3 : x2 = (-1)) : ev 13 6 4 [vR 56, vI x1, vI x2, vI x3] [] (SH T, c) = ev 13 6 32 [vR 56, vI x1, vU, vI x3] [] (SH T, c) := by
  refine (ev_eq _ _ _ _ _ _).trans ?_
  refine (if_neg h1).trans ?_
  refine (if_pos h2).trans ?_
  refine (if_pos h3).trans ?_
  rfl
theorem B_X2_crownTill_4_3 {T : List Shp} {c : Nat → Int → Int} {x1 x2 x3 : Int} {r1 : Int} {c2 : Nat → Int → Int} (h1 : ¬ x1 < x3) (h2 : x3 < 100) (h3 : ¬ x2 = (-1)) (h4 : cal 74 [vR 2, vI x2, vI x3] (SH T, c) = some (some (vI r1), (SH T, c2))) (h5 : r1 = 0) : ev 13 6 4 [vR 56, vI x1, vI x2, vI x3] [] (SH T, c) = ev 13 6 32 [vR 56, vI x1, vU, vI x3] [] (SH T, c2) := by
  refine (ev_eq _ _ _ _ _ _).trans ?_
  refine (if_neg h1).trans ?_
  refine (if_pos h2).trans ?_
  refine (if_neg h3).trans ?_
  refine (el_call rfl h4).trans ?_
  refine (if_pos h5).trans ?_
  rfl
theorem B_X2_crownTill_4_4 {T : List Shp} {c : Nat → Int → Int} {x1 x2 x3 : Int} {r1 : Int} {c2 : Nat → Int → Int} (h1 : ¬ x1 < x3) (h2 : x3 < 100) (h3 : ¬ x2 = (-1)) (h4 : cal 74 [vR 2, vI x2, vI x3] (SH T, c) = some (some (vI r1), (SH T, c2))) (h5 : ¬ r1 = 0) : ev 13 6 4 [vR 56, vI x1, vI x2, vI x3] [] (SH T, c) = ev 13 6 55 [vR 56, vI x1, vI x2, vI x3] [] (SH T, c2) := by
  refine (ev_eq _ _ _ _ _ _).trans ?_
  refine (if_neg h1).trans ?_
  refine (if_pos h2).trans ?_
  refine (if_neg h3).trans ?_
  refine (el_call rfl h4).trans ?_
  refine (if_neg h5).trans ?_
  rfl
theorem B_X2_crownTill_4_5 {T : List Shp} {c : Nat → Int → Int} {x1 x2 x3 : Int} (h1 : ¬ x1 < x3) (h2 : ¬ x3 < 100) : ev 13 6 4 [vR 56, vI x1, vI x2, vI x3] [] (SH T, c) = some (none, (SH T, c)) := by
  refine (ev_eq _ _ _ _ _ _).trans ?_
  refine (if_neg h1).trans ?_
  refine (if_neg h2).trans ?_
  refine (ev_eq _ _ _ _ _ _).trans ?_
  rfl
theorem B_X2_crownTill_32_1 {T : List Shp} {c : Nat → Int → Int} {x1 x3 : Int} {c1 : Nat → Int → Int} (h1 : cal 16 [vR 56, vI x3] (SH T, c) = some (none, (SH T, c1))) (h2 : 0 < (c1 55 5)) : ev 13 6 32 [vR 56, vI x1, vU, vI x3] [] (SH T, c) = ev 13 6 55 [vR 56, vI x1, vI (c1 58 0), vI x3] [] (SH T, c1) := by
  refine (ev_eq _ _ _ _ _ _).trans ?_
  refine (el_call rfl h1).trans ?_
  refine (if_pos h2).trans ?_
  rfl
theorem B_X2_crownTill_32_2 {T : List Shp} {c : Nat → Int → Int} {x1 x3 : Int} {c1 : Nat → Int → Int} (h1 : cal 16 [vR 56, vI x3] (SH T, c) = some (none, (SH T, c1))) (h2 : ¬ 0 < (c1 55 5)) : ev 13 6 32 [vR 56, vI x1, vU, vI x3] [] (SH T, c) = ev 13 6 55 [vR 56, vI x1, vI (-1), vI x3] [] (SH T, c1) := by
  refine (ev_eq _ _ _ _ _ _).trans ?_
  refine (el_call rfl h1).trans ?_
  refine (if_neg h2).trans ?_
  refine (ev_eq _ _ _ _ _ _).trans ?_
  rfl
theorem B_X2_crownTill_55 {T : List Shp} {c : Nat → Int → Int} {x1 x2 x3 : Int} (h1 : 0 ≤ x3 ∧ x3 < 100) : ev 13 6 55 [vR 56, vI x1, vI x2, vI x3] [] (SH T, c) = ev 13 6 4 [vR 56, vI x1, vI x2, vI (w32 (x3 + 1))] [] (SH T, (up c 57 x3 x2)) := by
  refine (ev_eq _ _ _ _ _ _).trans ?_
  refine (if_pos h1).trans ?_
  rfl
theorem E_X2_reigns {T : List Shp} {c : Nat → Int → Int}  : cal 14 [vR 56] (SH T, c) = ev 14 2 4 [vR 56, vI 0, vI 0] [] (SH T, c) := by
  refine (ev_eq _ _ _ _ _ _).trans ?_
  rfl
theorem B_X2_reigns_4_1 {T : List Shp} {c : Nat → Int → Int} {x1 x2 : Int} {r1 : Int} {c2 : Nat → Int → Int} (h1 : x2 < 100) (h2 : cal 17 [vR 56, vI x2] (SH T, c) = some (some (vI r1), (SH T, c2))) (h3 : r1 = 0) : ev 14 2 4 [vR 56, vI x1, vI x2] [] (SH T, c) = ev 14 2 21 [vR 56, vI x1, vI x2] [] (SH T, c2) := by
  refine (ev_eq _ _ _ _ _ _).trans ?_
  refine (if_pos h1).trans ?_
  refine (el_call rfl h2).trans ?_
  refine (if_pos h3).trans ?_
  rfl
theorem B_X2_reigns_4_2 {T : List Shp} {c : Nat → Int → Int} {x1 x2 : Int} {r1 : Int} {c2 : Nat → Int → Int} (h1 : x2 < 100) (h2 : cal 17 [vR 56, vI x2] (SH T, c) = some (some (vI r1), (SH T, c2))) (h3 : ¬ r1 = 0) : ev 14 2 4 [vR 56, vI x1, vI x2] [] (SH T, c) = ev 14 2 21 [vR 56, vI (w32 (x1 + 1)), vI x2] [] (SH T, c2) := by
  refine (ev_eq _ _ _ _ _ _).trans ?_
  refine (if_pos h1).trans ?_
  refine (el_call rfl h2).trans ?_
  refine (if_neg h3).trans ?_
  rfl
theorem B_X2_reigns_4_3 {T : List Shp} {c : Nat → Int → Int} {x1 x2 : Int} (h1 : ¬ x2 < 100) : ev 14 2 4 [vR 56, vI x1, vI x2] [] (SH T, c) = some (some (vI x1), (SH T, c)) := by
  refine (ev_eq _ _ _ _ _ _).trans ?_
  refine (if_neg h1).trans ?_
  refine (ev_eq _ _ _ _ _ _).trans ?_
  rfl
theorem B_X2_reigns_21 {T : List Shp} {c : Nat → Int → Int} {x1 x2 : Int}  : ev 14 2 21 [vR 56, vI x1, vI x2] [] (SH T, c) = ev 14 2 4 [vR 56, vI x1, vI (w32 (x2 + 1))] [] (SH T, c) := by
  refine (ev_eq _ _ _ _ _ _).trans ?_
  rfl
theorem E_X2_reignOf {T : List Shp} {c : Nat → Int → Int} {x1 x2 : Int}  : cal 15 [vR 56, vI x1, vI x2] (SH T, c) = ev 15 2 5 [vR 56, vI x1, vI x2, vI 0, vI 0] [] (SH T, c) := by
  refine (ev_eq _ _ _ _ _ _).trans ?_
  rfl
theorem B_X2_reignOf_5_1 {T : List Shp} {c : Nat → Int → Int} {x1 x2 x3 x4 : Int} {r1 : Int} {c2 : Nat → Int → Int} (h1 : x4 < 100) (h2 : cal 17 [vR 56, vI x4] (SH T, c) = some (some (vI r1), (SH T, c2))) (h3 : r1 = 0) : ev 15 2 5 [vR 56, vI x1, vI x2, vI x3, vI x4] [] (SH T, c) = ev 15 2 60 [vR 56, vI x1, vI x2, vI x3, vI x4] [] (SH T, c2) := by
  refine (ev_eq _ _ _ _ _ _).trans ?_
  refine (if_pos h1).trans ?_
  refine (el_call rfl h2).trans ?_
  refine (if_pos h3).trans ?_
  rfl
theorem B_X2_reignOf_5_2 {T : List Shp} {c : Nat → Int → Int} {x1 x2 x3 x4 : Int} {r1 : Int} {c2 : Nat → Int → Int} (h1 : x4 < 100) (h2 : cal 17 [vR 56, vI x4] (SH T, c) = some (some (vI r1), (SH T, c2))) (h3 : ¬ r1 = 0) (h4 : x3 = x1) (h5 : x2 = 0) (h6 : 0 ≤ x4 ∧ x4 < 100) : ev 15 2 5 [vR 56, vI x1, vI x2, vI x3, vI x4] [] (SH T, c) = some (some (vI (c2 57 x4)), (SH T, c2)) := by
  refine (ev_eq _ _ _ _ _ _).trans ?_
  refine (if_pos h1).trans ?_
  refine (el_call rfl h2).trans ?_
  refine (if_neg h3).trans ?_
  refine (if_pos h4).trans ?_
  refine (if_pos h5).trans ?_
  refine (if_pos h6).trans ?_
  rfl
theorem B_X2_reignOf_5_3 {T : List Shp} {c : Nat → Int → Int} {x1 x2 x3 x4 : Int} {r1 : Int} {c2 : Nat → Int → Int} (h1 : x4 < 100) (h2 : cal 17 [vR 56, vI x4] (SH T, c) = some (some (vI r1), (SH T, c2))) (h3 : ¬ r1 = 0) (h4 : x3 = x1) (h5 : ¬ x2 = 0) (h6 : x2 = 1) : ev 15 2 5 [vR 56, vI x1, vI x2, vI x3, vI x4] [] (SH T, c) = some (some (vI x4), (SH T, c2)) := by
  refine (ev_eq _ _ _ _ _ _).trans ?_
  refine (if_pos h1).trans ?_
  refine (el_call rfl h2).trans ?_
  refine (if_neg h3).trans ?_
  refine (if_pos h4).trans ?_
  refine (if_neg h5).trans ?_
  refine (ev_eq _ _ _ _ _ _).trans ?_
  refine (if_pos h6).trans ?_
  rfl
theorem B_X2_reignOf_5_4 {T : List Shp} {c : Nat → Int → Int} {x1 x2 x3 x4 : Int} {r1 : Int} {c2 : Nat → Int → Int} {r3 : Int} {c4 : Nat → Int → Int} (h1 : x4 < 100) (h2 : cal 17 [vR 56, vI x4] (SH T, c) = some (some (vI r1), (SH T, c2))) (h3 : ¬ r1 = 0) (h4 : x3 = x1) (h5 : ¬ x2 = 0) (h6 : ¬ x2 = 1) (h7 : cal 18 [vR 56, vI x4] (SH T, c2) = some (some (vI r3), (SH T, c4))) : ev 15 2 5 [vR 56, vI x1, vI x2, vI x3, vI x4] [] (SH T, c) = some (some (vI r3), (SH T, c4)) := by
  refine (ev_eq _ _ _ _ _ _).trans ?_
  refine (if_pos h1).trans ?_
  refine (el_call rfl h2).trans ?_
  refine (if_neg h3).trans ?_
  refine (if_pos h4).trans ?_
  refine (if_neg h5).trans ?_
  refine (ev_eq _ _ _ _ _ _).trans ?_
  refine (if_neg h6).trans ?_
  refine (ev_eq _ _ _ _ _ _).trans ?_
  refine (el_call rfl h7).trans ?_
  rfl
theorem B_X2_reignOf_5_5 {T : List Shp} {c : Nat → Int → Int} {x1 x2 x3 x4 : Int} {r1 : Int} {c2 : Nat → Int → Int} (h1 : x4 < 100) (h2 : cal 17 [vR 56, vI x4] (SH T, c) = some (some (vI r1), (SH T, c2))) (h3 : ¬ r1 = 0) (h4 : ¬ x3 = x1) : ev 15 2 5 [vR 56, vI x1, vI x2, vI x3, vI x4] [] (SH T, c) = ev 15 2 60 [vR 56, vI x1, vI x2, vI (w32 (x3 + 1)), vI x4] [] (SH T, c2) := by
  refine (ev_eq _ _ _ _ _ _).trans ?_
  refine (if_pos h1).trans ?_
  refine (el_call rfl h2).trans ?_
  refine (if_neg h3).trans ?_
  refine (if_neg h4).trans ?_
  refine (ev_eq _ _ _ _ _ _).trans ?_
  rfl
theorem B_X2_reignOf_5_6 {T : List Shp} {c : Nat → Int → Int} {x1 x2 x3 x4 : Int} (h1 : ¬ x4 < 100) : ev 15 2 5 [vR 56, vI x1, vI x2, vI x3, vI x4] [] (SH T, c) = some (some (vI (-1)), (SH T, c)) := by
  refine (ev_eq _ _ _ _ _ _).trans ?_
  refine (if_neg h1).trans ?_
  refine (ev_eq _ _ _ _ _ _).trans ?_
  rfl
theorem B_X2_reignOf_60 {T : List Shp} {c : Nat → Int → Int} {x1 x2 x3 x4 : Int}  : ev 15 2 60 [vR 56, vI x1, vI x2, vI x3, vI x4] [] (SH T, c) = ev 15 2 5 [vR 56, vI x1, vI x2, vI x3, vI (w32 (x4 + 1))] [] (SH T, c) := by
  refine (ev_eq _ _ _ _ _ _).trans ?_
  rfl
theorem E_X2_standInLine {T : List Shp} {c : Nat → Int → Int} {x1 : Int}  : cal 16 [vR 56, vI x1] (SH T, c) = ev 16 5 7 [vR 56, vI x1, vI 0, vU, vU] [] (SH T, (up c 55 5 0)) := by
  refine (ev_eq _ _ _ _ _ _).trans ?_
  rfl
theorem B_X2_standInLine_7_1 {T : List Shp} {c : Nat → Int → Int} {x1 x2 : Int} {r1 : Int} {c2 : Nat → Int → Int} (h1 : x2 < (c 1 13)) (h2 : cal 74 [vR 2, vI x2, vI x1] (SH T, c) = some (some (vI r1), (SH T, c2))) (h3 : r1 = 0) : ev 16 5 7 [vR 56, vI x1, vI x2, vU, vU] [] (SH T, c) = ev 16 5 140 [vR 56, vI x1, vI x2, vU, vU] [] (SH T, c2) := by
  refine (ev_eq _ _ _ _ _ _).trans ?_
  refine (if_pos h1).trans ?_
  refine (el_call rfl h2).trans ?_
  refine (if_pos h3).trans ?_
  rfl
theorem B_X2_standInLine_7_2 {T : List Shp} {c : Nat → Int → Int} {x1 x2 : Int} {r1 : Int} {c2 : Nat → Int → Int} {r3 : Int} {c4 : Nat → Int → Int} {r5 : Int} {c6 : Nat → Int → Int} (h1 : x2 < (c 1 13)) (h2 : cal 74 [vR 2, vI x2, vI x1] (SH T, c) = some (some (vI r1), (SH T, c2))) (h3 : ¬ r1 = 0) (h4 : cal 28 [vR 15, vI x2, vI x1] (SH T, c2) = some (some (vI r3), (SH T, c4))) (h5 : r3 = 0) (h6 : cal 27 [vR 15, vI x2, vI x1] (SH T, c4) = some (some (vI r5), (SH T, c6))) : ev 16 5 7 [vR 56, vI x1, vI x2, vU, vU] [] (SH T, c) = ev 16 5 58 [vR 56, vI x1, vI x2, vI r5, vI (c6 55 5)] [] (SH T, c6) := by
  refine (ev_eq _ _ _ _ _ _).trans ?_
  refine (if_pos h1).trans ?_
  refine (el_call rfl h2).trans ?_
  refine (if_neg h3).trans ?_
  refine (el_call rfl h4).trans ?_
  refine (if_pos h5).trans ?_
  refine (el_call rfl h6).trans ?_
  rfl
theorem B_X2_standInLine_7_3 {T : List Shp} {c : Nat → Int → Int} {x1 x2 : Int} {r1 : Int} {c2 : Nat → Int → Int} {r3 : Int} {c4 : Nat → Int → Int} (h1 : x2 < (c 1 13)) (h2 : cal 74 [vR 2, vI x2, vI x1] (SH T, c) = some (some (vI r1), (SH T, c2))) (h3 : ¬ r1 = 0) (h4 : cal 28 [vR 15, vI x2, vI x1] (SH T, c2) = some (some (vI r3), (SH T, c4))) (h5 : ¬ r3 = 0) : ev 16 5 7 [vR 56, vI x1, vI x2, vU, vU] [] (SH T, c) = ev 16 5 140 [vR 56, vI x1, vI x2, vU, vU] [] (SH T, c4) := by
  refine (ev_eq _ _ _ _ _ _).trans ?_
  refine (if_pos h1).trans ?_
  refine (el_call rfl h2).trans ?_
  refine (if_neg h3).trans ?_
  refine (el_call rfl h4).trans ?_
  refine (if_neg h5).trans ?_
  rfl
theorem B_X2_standInLine_7_4 {T : List Shp} {c : Nat → Int → Int} {x1 x2 : Int} (h1 : ¬ x2 < (c 1 13)) : ev 16 5 7 [vR 56, vI x1, vI x2, vU, vU] [] (SH T, c) = some (none, (SH T, c)) := by
  refine (ev_eq _ _ _ _ _ _).trans ?_
  refine (if_neg h1).trans ?_
  refine (ev_eq _ _ _ _ _ _).trans ?_
  rfl
theorem B_X2_standInLine_58_1 {T : List Shp} {c : Nat → Int → Int} {x1 x2 x3 x4 : Int} (h1 : 0 < x4) (h2 : 0 ≤ (w32 (x4 - 1)) ∧ (w32 (x4 - 1)) < 8) (h3 : x3 < (c 56 (w32 (x4 - 1)))) (h4 : 0 ≤ (w32 (x4 - 1)) ∧ (w32 (x4 - 1)) < 8) (h5 : 0 ≤ x4 ∧ x4 < 8) (h6 : 0 ≤ (w32 (x4 - 1)) ∧ (w32 (x4 - 1)) < 8) (h7 : 0 ≤ x4 ∧ x4 < 8) : ev 16 5 58 [vR 56, vI x1, vI x2, vI x3, vI x4] [] (SH T, c) = ev 16 5 58 [vR 56, vI x1, vI x2, vI x3, vI (w32 (x4 + (-1)))] [] (SH T, (up (up c 56 x4 (c 56 (w32 (x4 - 1)))) 58 x4 (c 58 (w32 (x4 - 1))))) := by
  refine (ev_eq _ _ _ _ _ _).trans ?_
  refine (if_pos h1).trans ?_
  refine (if_pos h2).trans ?_
  refine (if_pos h3).trans ?_
  refine (if_pos h4).trans ?_
  refine (if_pos h5).trans ?_
  refine (if_pos h6).trans ?_
  refine (if_pos h7).trans ?_
  rfl
theorem B_X2_standInLine_58_2 {T : List Shp} {c : Nat → Int → Int} {x1 x2 x3 x4 : Int} (h1 : 0 < x4) (h2 : 0 ≤ (w32 (x4 - 1)) ∧ (w32 (x4 - 1)) < 8) (h3 : ¬ x3 < (c 56 (w32 (x4 - 1)))) : ev 16 5 58 [vR 56, vI x1, vI x2, vI x3, vI x4] [] (SH T, c) = ev 16 5 114 [vR 56, vI x1, vI x2, vI x3, vI x4] [] (SH T, c) := by
  refine (ev_eq _ _ _ _ _ _).trans ?_
  refine (if_pos h1).trans ?_
  refine (if_pos h2).trans ?_
  refine (if_neg h3).trans ?_
  rfl
theorem B_X2_standInLine_58_3 {T : List Shp} {c : Nat → Int → Int} {x1 x2 x3 x4 : Int} (h1 : ¬ 0 < x4) : ev 16 5 58 [vR 56, vI x1, vI x2, vI x3, vI x4] [] (SH T, c) = ev 16 5 114 [vR 56, vI x1, vI x2, vI x3, vI x4] [] (SH T, c) := by
  refine (ev_eq _ _ _ _ _ _).trans ?_
  refine (if_neg h1).trans ?_
  rfl
theorem B_X2_standInLine_114 {T : List Shp} {c : Nat → Int → Int} {x1 x2 x3 x4 : Int} (h1 : 0 ≤ x4 ∧ x4 < 8) (h2 : 0 ≤ x4 ∧ x4 < 8) : ev 16 5 114 [vR 56, vI x1, vI x2, vI x3, vI x4] [] (SH T, c) = ev 16 5 140 [vR 56, vI x1, vI x2, vU, vU] [] (SH T, (up (up (up c 56 x4 x3) 58 x4 x2) 55 5 (w32 ((c 55 5) + 1)))) := by
  refine (ev_eq _ _ _ _ _ _).trans ?_
  refine (if_pos h1).trans ?_
  refine (if_pos h2).trans ?_
  rfl
theorem B_X2_standInLine_140 {T : List Shp} {c : Nat → Int → Int} {x1 x2 : Int}  : ev 16 5 140 [vR 56, vI x1, vI x2, vU, vU] [] (SH T, c) = ev 16 5 7 [vR 56, vI x1, vI (w32 (x2 + 1)), vU, vU] [] (SH T, c) := by
  refine (ev_eq _ _ _ _ _ _).trans ?_
  rfl
theorem E_X2_begins_1 {T : List Shp} {c : Nat → Int → Int} {x1 : Int} (h1 : 0 ≤ x1 ∧ x1 < 100) (h2 : (c 57 x1) = (-1)) : cal 17 [vR 56, vI x1] (SH T, c) = some (some (vI 0), (SH T, c)) := by
  refine (ev_eq _ _ _ _ _ _).trans ?_
  refine (if_pos h1).trans ?_
  refine (if_pos h2).trans ?_
  refine (ev_eq _ _ _ _ _ _).trans ?_
  rfl
theorem E_X2_begins_2 {T : List Shp} {c : Nat → Int → Int} {x1 : Int} (h1 : 0 ≤ x1 ∧ x1 < 100) (h2 : ¬ (c 57 x1) = (-1)) (h3 : x1 = 0) : cal 17 [vR 56, vI x1] (SH T, c) = some (some (vI 1), (SH T, c)) := by
  refine (ev_eq _ _ _ _ _ _).trans ?_
  refine (if_pos h1).trans ?_
  refine (if_neg h2).trans ?_
  refine (if_pos h3).trans ?_
  refine (ev_eq _ _ _ _ _ _).trans ?_
  rfl
theorem E_X2_begins_3 {T : List Shp} {c : Nat → Int → Int} {x1 : Int} (h1 : 0 ≤ x1 ∧ x1 < 100) (h2 : ¬ (c 57 x1) = (-1)) (h3 : ¬ x1 = 0) (h4 : 0 ≤ (w32 (x1 - 1)) ∧ (w32 (x1 - 1)) < 100) (h5 : 0 ≤ x1 ∧ x1 < 100) (h6 : (c 57 (w32 (x1 - 1))) = (c 57 x1)) : cal 17 [vR 56, vI x1] (SH T, c) = some (some (vI 0), (SH T, c)) := by
  refine (ev_eq _ _ _ _ _ _).trans ?_
  refine (if_pos h1).trans ?_
  refine (if_neg h2).trans ?_
  refine (if_neg h3).trans ?_
  refine (if_pos h4).trans ?_
  refine (if_pos h5).trans ?_
  refine (if_pos h6).trans ?_
  refine (ev_eq _ _ _ _ _ _).trans ?_
  rfl
theorem E_X2_begins_4 {T : List Shp} {c : Nat → Int → Int} {x1 : Int} (h1 : 0 ≤ x1 ∧ x1 < 100) (h2 : ¬ (c 57 x1) = (-1)) (h3 : ¬ x1 = 0) (h4 : 0 ≤ (w32 (x1 - 1)) ∧ (w32 (x1 - 1)) < 100) (h5 : 0 ≤ x1 ∧ x1 < 100) (h6 : ¬ (c 57 (w32 (x1 - 1))) = (c 57 x1)) : cal 17 [vR 56, vI x1] (SH T, c) = some (some (vI 1), (SH T, c)) := by
  refine (ev_eq _ _ _ _ _ _).trans ?_
  refine (if_pos h1).trans ?_
  refine (if_neg h2).trans ?_
  refine (if_neg h3).trans ?_
  refine (if_pos h4).trans ?_
  refine (if_pos h5).trans ?_
  refine (if_neg h6).trans ?_
  refine (ev_eq _ _ _ _ _ _).trans ?_
  rfl
theorem E_X2_lasts {T : List Shp} {c : Nat → Int → Int} {x1 : Int}  : cal 18 [vR 56, vI x1] (SH T, c) = ev 18 1 2 [vR 56, vI x1, vI x1] [] (SH T, c) := by
  refine (ev_eq _ _ _ _ _ _).trans ?_
  rfl
theorem B_X2_lasts_2_1 {T : List Shp} {c : Nat → Int → Int} {x1 x2 : Int} (h1 : x2 < 100) (h2 : 0 ≤ x2 ∧ x2 < 100) (h3 : 0 ≤ x1 ∧ x1 < 100) (h4 : (c 57 x2) = (c 57 x1)) : ev 18 1 2 [vR 56, vI x1, vI x2] [] (SH T, c) = ev 18 1 2 [vR 56, vI x1, vI (w32 (x2 + 1))] [] (SH T, c) := by
  refine (ev_eq _ _ _ _ _ _).trans ?_
  refine (if_pos h1).trans ?_
  refine (if_pos h2).trans ?_
  refine (if_pos h3).trans ?_
  refine (if_pos h4).trans ?_
  rfl
theorem B_X2_lasts_2_2 {T : List Shp} {c : Nat → Int → Int} {x1 x2 : Int} (h1 : x2 < 100) (h2 : 0 ≤ x2 ∧ x2 < 100) (h3 : 0 ≤ x1 ∧ x1 < 100) (h4 : ¬ (c 57 x2) = (c 57 x1)) : ev 18 1 2 [vR 56, vI x1, vI x2] [] (SH T, c) = some (some (vI (w32 (x2 - x1))), (SH T, c)) := by
  refine (ev_eq _ _ _ _ _ _).trans ?_
  refine (if_pos h1).trans ?_
  refine (if_pos h2).trans ?_
  refine (if_pos h3).trans ?_
  refine (if_neg h4).trans ?_
  refine (ev_eq _ _ _ _ _ _).trans ?_
  rfl
theorem B_X2_lasts_2_3 {T : List Shp} {c : Nat → Int → Int} {x1 x2 : Int} (h1 : ¬ x2 < 100) : ev 18 1 2 [vR 56, vI x1, vI x2] [] (SH T, c) = some (some (vI (w32 (x2 - x1))), (SH T, c)) := by
  refine (ev_eq _ _ _ _ _ _).trans ?_
  refine (if_neg h1).trans ?_
  refine (ev_eq _ _ _ _ _ _).trans ?_
  rfl
theorem E_X1_runAll {T : List Shp} {c : Nat → Int → Int} {c1 : Nat → Int → Int} (h1 : cal 65 [vR 61, vR 2] (SH T, c) = some (none, (SH T, c1))) : cal 6 [vR 60, vR 12] (SH T, c) = ev 6 19 21 [vR 60, vR 12, vU, vU, vU, vU] [] (SH T, (up (up c1 59 9 0) 59 8 0)) := by
  refine (ev_eq _ _ _ _ _ _).trans ?_
  refine (el_call rfl h1).trans ?_
  rfl
theorem B_X1_runAll_21_1 {T : List Shp} {c : Nat → Int → Int} (h1 : (c 59 8) < (c 11 2)) : ev 6 19 21 [vR 60, vR 12, vU, vU, vU, vU] [] (SH T, c) = ev 6 19 42 [vR 60, vR 12, vI (w32 ((c 59 8) * 6)), vI 0, vU, vU] [] (SH T, c) := by
  refine (ev_eq _ _ _ _ _ _).trans ?_
  refine (if_pos h1).trans ?_
  rfl
theorem B_X1_runAll_21_2 {T : List Shp} {c : Nat → Int → Int} (h1 : ¬ (c 59 8) < (c 11 2)) : ev 6 19 21 [vR 60, vR 12, vU, vU, vU, vU] [] (SH T, c) = some (some (vI 0), (SH T, c)) := by
  refine (ev_eq _ _ _ _ _ _).trans ?_
  refine (if_neg h1).trans ?_
  refine (ev_eq _ _ _ _ _ _).trans ?_
  rfl
theorem B_X1_runAll_42_1 {T : List Shp} {c : Nat → Int → Int} {x2 x3 : Int} {c1 : Nat → Int → Int} {r2 : Int} {c3 : Nat → Int → Int} (h1 : 0 ≤ (w32 (x2 + 1)) ∧ (w32 (x2 + 1)) < 72) (h2 : x3 < (c 12 (w32 (x2 + 1)))) (h3 : cal 7 [vR 60, vI (c 11 4)] (SH T, c) = some (none, (SH T, c1))) (h4 : cal 8 [vR 60, vR 12, vI x2] (SH T, c1) = some (some (vI r2), (SH T, c3))) (h5 : r2 = 0) : ev 6 19 42 [vR 60, vR 12, vI x2, vI x3, vU, vU] [] (SH T, c) = ev 6 19 146 [vR 60, vR 12, vI x2, vI x3, vU, vU] [] (SH T, c3) := by
  refine (ev_eq _ _ _ _ _ _).trans ?_
  refine (if_pos h1).trans ?_
  refine (if_pos h2).trans ?_
  refine (el_call rfl h3).trans ?_
  refine (el_call rfl h4).trans ?_
  refine (if_pos h5).trans ?_
  rfl
theorem B_X1_runAll_42_2 {T : List Shp} {c : Nat → Int → Int} {x2 x3 : Int} {c1 : Nat → Int → Int} {r2 : Int} {c3 : Nat → Int → Int} {r4 : Int} {c5 : Nat → Int → Int} (h1 : 0 ≤ (w32 (x2 + 1)) ∧ (w32 (x2 + 1)) < 72) (h2 : x3 < (c 12 (w32 (x2 + 1)))) (h3 : cal 7 [vR 60, vI (c 11 4)] (SH T, c) = some (none, (SH T, c1))) (h4 : cal 8 [vR 60, vR 12, vI x2] (SH T, c1) = some (some (vI r2), (SH T, c3))) (h5 : ¬ r2 = 0) (h6 : cal 9 [vR 60, vR 12, vI x2] (SH T, c3) = some (some (vI r4), (SH T, c5))) (h7 : r4 = 0) : ev 6 19 42 [vR 60, vR 12, vI x2, vI x3, vU, vU] [] (SH T, c) = ev 6 19 117 [vR 60, vR 12, vI x2, vI x3, vI (-3), vU] [] (SH T, c5) := by
  refine (ev_eq _ _ _ _ _ _).trans ?_
  refine (if_pos h1).trans ?_
  refine (if_pos h2).trans ?_
  refine (el_call rfl h3).trans ?_
  refine (el_call rfl h4).trans ?_
  refine (if_neg h5).trans ?_
  refine (el_call rfl h6).trans ?_
  refine (if_pos h7).trans ?_
  rfl
theorem B_X1_runAll_42_3 {T : List Shp} {c : Nat → Int → Int} {x2 x3 : Int} {c1 : Nat → Int → Int} {r2 : Int} {c3 : Nat → Int → Int} {r4 : Int} {c5 : Nat → Int → Int} {r6 : Int} {c7 : Nat → Int → Int} (h1 : 0 ≤ (w32 (x2 + 1)) ∧ (w32 (x2 + 1)) < 72) (h2 : x3 < (c 12 (w32 (x2 + 1)))) (h3 : cal 7 [vR 60, vI (c 11 4)] (SH T, c) = some (none, (SH T, c1))) (h4 : cal 8 [vR 60, vR 12, vI x2] (SH T, c1) = some (some (vI r2), (SH T, c3))) (h5 : ¬ r2 = 0) (h6 : cal 9 [vR 60, vR 12, vI x2] (SH T, c3) = some (some (vI r4), (SH T, c5))) (h7 : ¬ r4 = 0) (h8 : 0 ≤ (w32 (x2 + 0)) ∧ (w32 (x2 + 0)) < 72) (h9 : 2 < (c5 12 (w32 (x2 + 0)))) (h10 : cal 11 [vR 60, vI (c5 12 (w32 (x2 + 0)))] (SH T, c5) = some (some (vI r6), (SH T, c7))) : ev 6 19 42 [vR 60, vR 12, vI x2, vI x3, vU, vU] [] (SH T, c) = ev 6 19 117 [vR 60, vR 12, vI x2, vI x3, vI r6, vU] [] (SH T, c7) := by
  refine (ev_eq _ _ _ _ _ _).trans ?_
  refine (if_pos h1).trans ?_
  refine (if_pos h2).trans ?_
  refine (el_call rfl h3).trans ?_
  refine (el_call rfl h4).trans ?_
  refine (if_neg h5).trans ?_
  refine (el_call rfl h6).trans ?_
  refine (if_neg h7).trans ?_
  refine (if_pos h8).trans ?_
  refine (if_pos h9).trans ?_
  refine (ev_eq _ _ _ _ _ _).trans ?_
  refine (el_call rfl h10).trans ?_
  rfl
theorem B_X1_runAll_42_4 {T : List Shp} {c : Nat → Int → Int} {x2 x3 : Int} {c1 : Nat → Int → Int} {r2 : Int} {c3 : Nat → Int → Int} {r4 : Int} {c5 : Nat → Int → Int} {r6 : Int} {c7 : Nat → Int → Int} (h1 : 0 ≤ (w32 (x2 + 1)) ∧ (w32 (x2 + 1)) < 72) (h2 : x3 < (c 12 (w32 (x2 + 1)))) (h3 : cal 7 [vR 60, vI (c 11 4)] (SH T, c) = some (none, (SH T, c1))) (h4 : cal 8 [vR 60, vR 12, vI x2] (SH T, c1) = some (some (vI r2), (SH T, c3))) (h5 : ¬ r2 = 0) (h6 : cal 9 [vR 60, vR 12, vI x2] (SH T, c3) = some (some (vI r4), (SH T, c5))) (h7 : ¬ r4 = 0) (h8 : 0 ≤ (w32 (x2 + 0)) ∧ (w32 (x2 + 0)) < 72) (h9 : ¬ 2 < (c5 12 (w32 (x2 + 0)))) (h10 : cal 10 [vR 60, vI (c5 12 (w32 (x2 + 0)))] (SH T, c5) = some (some (vI r6), (SH T, c7))) : ev 6 19 42 [vR 60, vR 12, vI x2, vI x3, vU, vU] [] (SH T, c) = ev 6 19 117 [vR 60, vR 12, vI x2, vI x3, vI r6, vU] [] (SH T, c7) := by
  refine (ev_eq _ _ _ _ _ _).trans ?_
  refine (if_pos h1).trans ?_
  refine (if_pos h2).trans ?_
  refine (el_call rfl h3).trans ?_
  refine (el_call rfl h4).trans ?_
  refine (if_neg h5).trans ?_
  refine (el_call rfl h6).trans ?_
  refine (if_neg h7).trans ?_
  refine (if_pos h8).trans ?_
  refine (if_neg h9).trans ?_
  refine (el_call rfl h10).trans ?_
  rfl
theorem B_X1_runAll_42_5 {T : List Shp} {c : Nat → Int → Int} {x2 x3 : Int} (h1 : 0 ≤ (w32 (x2 + 1)) ∧ (w32 (x2 + 1)) < 72) (h2 : ¬ x3 < (c 12 (w32 (x2 + 1)))) : ev 6 19 42 [vR 60, vR 12, vI x2, vI x3, vU, vU] [] (SH T, c) = ev 6 19 21 [vR 60, vR 12, vU, vU, vU, vU] [] (SH T, (up c 59 8 (w32 ((c 59 8) + 1)))) := by
  refine (ev_eq _ _ _ _ _ _).trans ?_
  refine (if_pos h1).trans ?_
  refine (if_neg h2).trans ?_
  refine (ev_eq _ _ _ _ _ _).trans ?_
  rfl
theorem B_X1_runAll_117_1 {T : List Shp} {c : Nat → Int → Int} {x2 x3 x4 : Int} (h1 : x4 = 0) : ev 6 19 117 [vR 60, vR 12, vI x2, vI x3, vI x4, vU] [] (SH T, c) = ev 6 19 146 [vR 60, vR 12, vI x2, vI x3, vU, vU] [] (SH T, (up c 59 9 (w32 ((c 59 9) + 1)))) := by
  refine (ev_eq _ _ _ _ _ _).trans ?_
  refine (if_pos h1).trans ?_
  refine (ev_eq _ _ _ _ _ _).trans ?_
  rfl
theorem B_X1_runAll_117_2 {T : List Shp} {c : Nat → Int → Int} {x2 x3 x4 : Int} {c1 : Nat → Int → Int} (h1 : ¬ x4 = 0) (h2 : cal 65 [vR 2, vR 61] (SH T, c) = some (none, (SH T, c1))) : ev 6 19 117 [vR 60, vR 12, vI x2, vI x3, vI x4, vU] [] (SH T, c) = some (some (vI x4), (SH T, c1)) := by
  refine (ev_eq _ _ _ _ _ _).trans ?_
  refine (if_neg h1).trans ?_
  refine (el_call rfl h2).trans ?_
  rfl
theorem B_X1_runAll_146 {T : List Shp} {c : Nat → Int → Int} {x2 x3 : Int}  : ev 6 19 146 [vR 60, vR 12, vI x2, vI x3, vU, vU] [] (SH T, c) = ev 6 19 42 [vR 60, vR 12, vI x2, vI (w32 (x3 + 1)), vU, vU] [] (SH T, c) := by
  refine (ev_eq _ _ _ _ _ _).trans ?_
  rfl
theorem E_X1_learnWords {T : List Shp} {c : Nat → Int → Int} {x1 : Int} {r1 : Int} {c2 : Nat → Int → Int} (h1 : cal 69 [vR 2, vI (c 1 8)] (SH T, (up (up c 71 0 (c 1 8)) 71 3 (c 1 11))) = some (some (vI r1), (SH T, c2))) : cal 7 [vR 60, vI x1] (SH T, c) = ev 7 6 58 [vR 60, vI x1, vI 0] [] (SH T, (up (up c2 71 4 r1) 71 5 (c2 59 9))) := by
  refine (ev_eq _ _ _ _ _ _).trans ?_
  refine (el_call rfl h1).trans ?_
  rfl
theorem B_X1_learnWords_58_1 {T : List Shp} {c : Nat → Int → Int} {x1 x2 : Int} {r1 : Int} {c2 : Nat → Int → Int} (h1 : x2 < 12) (h2 : cal 71 [vR 2, vI x2] (SH T, c) = some (some (vI r1), (SH T, c2))) (h3 : 0 ≤ (w32 (6 + x2)) ∧ (w32 (6 + x2)) < 18) : ev 7 6 58 [vR 60, vI x1, vI x2] [] (SH T, c) = ev 7 6 58 [vR 60, vI x1, vI (w32 (x2 + 1))] [] (SH T, (up c2 71 (w32 (6 + x2)) r1)) := by
  refine (ev_eq _ _ _ _ _ _).trans ?_
  refine (if_pos h1).trans ?_
  refine (el_call rfl h2).trans ?_
  refine (if_pos h3).trans ?_
  rfl
theorem B_X1_learnWords_58_2 {T : List Shp} {c : Nat → Int → Int} {x1 x2 : Int} {r1 : Int} {c2 : Nat → Int → Int} (h1 : ¬ x2 < 12) (h2 : (iand (ishr x1 1) 1) = 1) (h3 : cal 96 [vR 19, vI (c 1 8)] (SH T, c) = some (some (vI r1), (SH T, c2))) : ev 7 6 58 [vR 60, vI x1, vI x2] [] (SH T, c) = ev 7 6 116 [vR 60, vI x1, vU] [] (SH T, (up c2 71 1 r1)) := by
  refine (ev_eq _ _ _ _ _ _).trans ?_
  refine (if_neg h1).trans ?_
  refine (ev_eq _ _ _ _ _ _).trans ?_
  refine (if_pos h2).trans ?_
  refine (el_call rfl h3).trans ?_
  rfl
theorem B_X1_learnWords_58_3 {T : List Shp} {c : Nat → Int → Int} {x1 x2 : Int} (h1 : ¬ x2 < 12) (h2 : ¬ (iand (ishr x1 1) 1) = 1) : ev 7 6 58 [vR 60, vI x1, vI x2] [] (SH T, c) = ev 7 6 116 [vR 60, vI x1, vU] [] (SH T, c) := by
  refine (ev_eq _ _ _ _ _ _).trans ?_
  refine (if_neg h1).trans ?_
  refine (ev_eq _ _ _ _ _ _).trans ?_
  refine (if_neg h2).trans ?_
  rfl
theorem B_X1_learnWords_116_1 {T : List Shp} {c : Nat → Int → Int} {x1 : Int} {r1 : Int} {c2 : Nat → Int → Int} (h1 : (iand (ishr x1 2) 1) = 1) (h2 : cal 98 [vR 19, vI (c 1 8)] (SH T, c) = some (some (vI r1), (SH T, c2))) : ev 7 6 116 [vR 60, vI x1, vU] [] (SH T, c) = some (none, (SH T, (up c2 71 2 r1))) := by
  refine (ev_eq _ _ _ _ _ _).trans ?_
  refine (if_pos h1).trans ?_
  refine (el_call rfl h2).trans ?_
  refine (ev_eq _ _ _ _ _ _).trans ?_
  rfl
theorem B_X1_learnWords_116_2 {T : List Shp} {c : Nat → Int → Int} {x1 : Int} (h1 : ¬ (iand (ishr x1 2) 1) = 1) : ev 7 6 116 [vR 60, vI x1, vU] [] (SH T, c) = some (none, (SH T, c)) := by
  refine (ev_eq _ _ _ _ _ _).trans ?_
  refine (if_neg h1).trans ?_
  refine (ev_eq _ _ _ _ _ _).trans ?_
  rfl
theorem E_X1_isWanted_1 {T : List Shp} {c : Nat → Int → Int} {x2 : Int} (h1 : 0 ≤ (w32 (x2 + 2)) ∧ (w32 (x2 + 2)) < 72) (h2 : (c 12 (w32 (x2 + 2))) = (-1)) : cal 8 [vR 60, vR 12, vI x2] (SH T, c) = some (some (vI 1), (SH T, c)) := by
  refine (ev_eq _ _ _ _ _ _).trans ?_
  refine (if_pos h1).trans ?_
  refine (if_pos h2).trans ?_
  refine (ev_eq _ _ _ _ _ _).trans ?_
  rfl
theorem E_X1_isWanted_2 {T : List Shp} {c : Nat → Int → Int} {x2 : Int} {r1 : Int} {c2 : Nat → Int → Int} (h1 : 0 ≤ (w32 (x2 + 2)) ∧ (w32 (x2 + 2)) < 72) (h2 : ¬ (c 12 (w32 (x2 + 2))) = (-1)) (h3 : cal 20 [vR 70, vR 12, vI (c 12 (w32 (x2 + 2))), vR 72] (SH T, c) = some (some (vI r1), (SH T, c2))) (h4 : r1 = 0) : cal 8 [vR 60, vR 12, vI x2] (SH T, c) = some (some (vI 0), (SH T, c2)) := by
  refine (ev_eq _ _ _ _ _ _).trans ?_
  refine (if_pos h1).trans ?_
  refine (if_neg h2).trans ?_
  refine (el_call rfl h3).trans ?_
  refine (if_pos h4).trans ?_
  refine (ev_eq _ _ _ _ _ _).trans ?_
  rfl
theorem E_X1_isWanted_3 {T : List Shp} {c : Nat → Int → Int} {x2 : Int} {r1 : Int} {c2 : Nat → Int → Int} (h1 : 0 ≤ (w32 (x2 + 2)) ∧ (w32 (x2 + 2)) < 72) (h2 : ¬ (c 12 (w32 (x2 + 2))) = (-1)) (h3 : cal 20 [vR 70, vR 12, vI (c 12 (w32 (x2 + 2))), vR 72] (SH T, c) = some (some (vI r1), (SH T, c2))) (h4 : ¬ r1 = 0) (h5 : (c2 69 2) = 1) : cal 8 [vR 60, vR 12, vI x2] (SH T, c) = some (some (vI 1), (SH T, c2)) := by
  refine (ev_eq _ _ _ _ _ _).trans ?_
  refine (if_pos h1).trans ?_
  refine (if_neg h2).trans ?_
  refine (el_call rfl h3).trans ?_
  refine (if_neg h4).trans ?_
  refine (if_pos h5).trans ?_
  refine (ev_eq _ _ _ _ _ _).trans ?_
  rfl
theorem E_X1_isWanted_4 {T : List Shp} {c : Nat → Int → Int} {x2 : Int} {r1 : Int} {c2 : Nat → Int → Int} (h1 : 0 ≤ (w32 (x2 + 2)) ∧ (w32 (x2 + 2)) < 72) (h2 : ¬ (c 12 (w32 (x2 + 2))) = (-1)) (h3 : cal 20 [vR 70, vR 12, vI (c 12 (w32 (x2 + 2))), vR 72] (SH T, c) = some (some (vI r1), (SH T, c2))) (h4 : ¬ r1 = 0) (h5 : ¬ (c2 69 2) = 1) : cal 8 [vR 60, vR 12, vI x2] (SH T, c) = some (some (vI 0), (SH T, c2)) := by
  refine (ev_eq _ _ _ _ _ _).trans ?_
  refine (if_pos h1).trans ?_
  refine (if_neg h2).trans ?_
  refine (el_call rfl h3).trans ?_
  refine (if_neg h4).trans ?_
  refine (if_neg h5).trans ?_
  refine (ev_eq _ _ _ _ _ _).trans ?_
  rfl
theorem E_X1_sumsWork {T : List Shp} {c : Nat → Int → Int} {x2 : Int}  : cal 9 [vR 60, vR 12, vI x2] (SH T, c) = ev 9 3 2 [vR 60, vR 12, vI x2, vI 0, vU] [] (SH T, c) := by
  refine (ev_eq _ _ _ _ _ _).trans ?_
  rfl
theorem B_X1_sumsWork_2_1 {T : List Shp} {c : Nat → Int → Int} {x2 x3 : Int} (h1 : x3 < 3) (h2 : 0 ≤ (w32 ((w32 (x2 + 3)) + x3)) ∧ (w32 ((w32 (x2 + 3)) + x3)) < 72) (h3 : (c 12 (w32 ((w32 (x2 + 3)) + x3))) = (-1)) : ev 9 3 2 [vR 60, vR 12, vI x2, vI x3, vU] [] (SH T, c) = ev 9 3 61 [vR 60, vR 12, vI x2, vI x3, vU] [] (SH T, c) := by
  refine (ev_eq _ _ _ _ _ _).trans ?_
  refine (if_pos h1).trans ?_
  refine (if_pos h2).trans ?_
  refine (if_pos h3).trans ?_
  rfl
theorem B_X1_sumsWork_2_2 {T : List Shp} {c : Nat → Int → Int} {x2 x3 : Int} {r1 : Int} {c2 : Nat → Int → Int} (h1 : x3 < 3) (h2 : 0 ≤ (w32 ((w32 (x2 + 3)) + x3)) ∧ (w32 ((w32 (x2 + 3)) + x3)) < 72) (h3 : ¬ (c 12 (w32 ((w32 (x2 + 3)) + x3))) = (-1)) (h4 : cal 20 [vR 70, vR 12, vI (c 12 (w32 ((w32 (x2 + 3)) + x3))), vR 72] (SH T, c) = some (some (vI r1), (SH T, c2))) (h5 : r1 = 0) : ev 9 3 2 [vR 60, vR 12, vI x2, vI x3, vU] [] (SH T, c) = some (some (vI 0), (SH T, c2)) := by
  refine (ev_eq _ _ _ _ _ _).trans ?_
  refine (if_pos h1).trans ?_
  refine (if_pos h2).trans ?_
  refine (if_neg h3).trans ?_
  refine (el_call rfl h4).trans ?_
  refine (if_pos h5).trans ?_
  rfl
theorem B_X1_sumsWork_2_3 {T : List Shp} {c : Nat → Int → Int} {x2 x3 : Int} {r1 : Int} {c2 : Nat → Int → Int} (h1 : x3 < 3) (h2 : 0 ≤ (w32 ((w32 (x2 + 3)) + x3)) ∧ (w32 ((w32 (x2 + 3)) + x3)) < 72) (h3 : ¬ (c 12 (w32 ((w32 (x2 + 3)) + x3))) = (-1)) (h4 : cal 20 [vR 70, vR 12, vI (c 12 (w32 ((w32 (x2 + 3)) + x3))), vR 72] (SH T, c) = some (some (vI r1), (SH T, c2))) (h5 : ¬ r1 = 0) (h6 : 0 ≤ x3 ∧ x3 < 3) : ev 9 3 2 [vR 60, vR 12, vI x2, vI x3, vU] [] (SH T, c) = ev 9 3 61 [vR 60, vR 12, vI x2, vI x3, vU] [] (SH T, (up c2 72 x3 (c2 69 2))) := by
  refine (ev_eq _ _ _ _ _ _).trans ?_
  refine (if_pos h1).trans ?_
  refine (if_pos h2).trans ?_
  refine (if_neg h3).trans ?_
  refine (el_call rfl h4).trans ?_
  refine (if_neg h5).trans ?_
  refine (ev_eq _ _ _ _ _ _).trans ?_
  refine (if_pos h6).trans ?_
  rfl
theorem B_X1_sumsWork_2_4 {T : List Shp} {c : Nat → Int → Int} {x2 x3 : Int} (h1 : ¬ x3 < 3) : ev 9 3 2 [vR 60, vR 12, vI x2, vI x3, vU] [] (SH T, c) = some (some (vI 1), (SH T, c)) := by
  refine (ev_eq _ _ _ _ _ _).trans ?_
  refine (if_neg h1).trans ?_
  refine (ev_eq _ _ _ _ _ _).trans ?_
  rfl
theorem B_X1_sumsWork_61 {T : List Shp} {c : Nat → Int → Int} {x2 x3 : Int}  : ev 9 3 61 [vR 60, vR 12, vI x2, vI x3, vU] [] (SH T, c) = ev 9 3 2 [vR 60, vR 12, vI x2, vI (w32 (x3 + 1)), vU] [] (SH T, c) := by
  refine (ev_eq _ _ _ _ _ _).trans ?_
  rfl
theorem E_X1_paints_1 {T : List Shp} {c : Nat → Int → Int} {x1 : Int} (h1 : x1 = 2) : cal 10 [vR 60, vI x1] (SH T, c) = ev 10 18 45 [vR 60, vU, vI (c 72 0), vU] [] (SH T, c) := by
  refine (ev_eq _ _ _ _ _ _).trans ?_
  refine (if_pos h1).trans ?_
  rfl
theorem E_X1_paints_2 {T : List Shp} {c : Nat → Int → Int} {x1 : Int} {c1 : Nat → Int → Int} (h1 : ¬ x1 = 2) (h2 : cal 35 [vR 22, vI x1, vI 1] (SH T, c) = some (none, (SH T, c1))) (h3 : 0 < (c1 21 14)) : cal 10 [vR 60, vI x1] (SH T, c) = ev 10 18 45 [vR 60, vU, vI (c1 28 0), vU] [] (SH T, c1) := by
  refine (ev_eq _ _ _ _ _ _).trans ?_
  refine (if_neg h1).trans ?_
  refine (el_call rfl h2).trans ?_
  refine (if_pos h3).trans ?_
  rfl
theorem E_X1_paints_3 {T : List Shp} {c : Nat → Int → Int} {x1 : Int} {c1 : Nat → Int → Int} (h1 : ¬ x1 = 2) (h2 : cal 35 [vR 22, vI x1, vI 1] (SH T, c) = some (none, (SH T, c1))) (h3 : ¬ 0 < (c1 21 14)) : cal 10 [vR 60, vI x1] (SH T, c) = ev 10 18 45 [vR 60, vU, vI (-1), vU] [] (SH T, c1) := by
  refine (ev_eq _ _ _ _ _ _).trans ?_
  refine (if_neg h1).trans ?_
  refine (el_call rfl h2).trans ?_
  refine (if_neg h3).trans ?_
  refine (ev_eq _ _ _ _ _ _).trans ?_
  rfl
theorem B_X1_paints_45_1 {T : List Shp} {c : Nat → Int → Int} {x2 : Int} {r1 : Int} {c2 : Nat → Int → Int} (h1 : cal 66 [vR 2, vI x2] (SH T, c) = some (some (vI r1), (SH T, c2))) (h2 : r1 = 0) : ev 10 18 45 [vR 60, vU, vI x2, vU] [] (SH T, c) = some (some (vI (-3)), (SH T, c2)) := by
  refine (ev_eq _ _ _ _ _ _).trans ?_
  refine (el_call rfl h1).trans ?_
  refine (if_pos h2).trans ?_
  refine (ev_eq _ _ _ _ _ _).trans ?_
  rfl
theorem B_X1_paints_45_2 {T : List Shp} {c : Nat → Int → Int} {x2 : Int} {r1 : Int} {c2 : Nat → Int → Int} {r3 : Int} {c4 : Nat → Int → Int} {r5 : Int} {c6 : Nat → Int → Int} {c7 : Nat → Int → Int} (h1 : cal 66 [vR 2, vI x2] (SH T, c) = some (some (vI r1), (SH T, c2))) (h2 : ¬ r1 = 0) (h3 : cal 26 [vR 15, vI x2, vI (w32 ((c 1 8) + 1))] (SH T, c2) = some (some (vI r3), (SH T, c4))) (h4 : r3 = 0) (h5 : cal 70 [vR 2, vI x2, vI (w32 ((c 1 8) + 1))] (SH T, c4) = some (some (vI r5), (SH T, c6))) (h6 : r5 = 0) (h7 : (c6 1 8) < 16) (h8 : cal 95 [vR 19, vI x2] (SH T, c6) = some (none, (SH T, c7))) : ev 10 18 45 [vR 60, vU, vI x2, vU] [] (SH T, c) = some (some (vI 0), (SH T, c7)) := by
  refine (ev_eq _ _ _ _ _ _).trans ?_
  refine (el_call rfl h1).trans ?_
  refine (if_neg h2).trans ?_
  refine (el_call rfl h3).trans ?_
  refine (if_pos h4).trans ?_
  refine (el_call rfl h5).trans ?_
  refine (if_pos h6).trans ?_
  refine (ev_eq _ _ _ _ _ _).trans ?_
  refine (if_pos h7).trans ?_
  refine (ev_eq _ _ _ _ _ _).trans ?_
  refine (el_call rfl h8).trans ?_
  rfl
theorem B_X1_paints_45_3 {T : List Shp} {c : Nat → Int → Int} {x2 : Int} {r1 : Int} {c2 : Nat → Int → Int} {r3 : Int} {c4 : Nat → Int → Int} {r5 : Int} {c6 : Nat → Int → Int} (h1 : cal 66 [vR 2, vI x2] (SH T, c) = some (some (vI r1), (SH T, c2))) (h2 : ¬ r1 = 0) (h3 : cal 26 [vR 15, vI x2, vI (w32 ((c 1 8) + 1))] (SH T, c2) = some (some (vI r3), (SH T, c4))) (h4 : r3 = 0) (h5 : cal 70 [vR 2, vI x2, vI (w32 ((c 1 8) + 1))] (SH T, c4) = some (some (vI r5), (SH T, c6))) (h6 : r5 = 0) (h7 : ¬ (c6 1 8) < 16) : ev 10 18 45 [vR 60, vU, vI x2, vU] [] (SH T, c) = some (some (vI (-5)), (SH T, c6)) := by
  refine (ev_eq _ _ _ _ _ _).trans ?_
  refine (el_call rfl h1).trans ?_
  refine (if_neg h2).trans ?_
  refine (el_call rfl h3).trans ?_
  refine (if_pos h4).trans ?_
  refine (el_call rfl h5).trans ?_
  refine (if_pos h6).trans ?_
  refine (ev_eq _ _ _ _ _ _).trans ?_
  refine (if_neg h7).trans ?_
  rfl
theorem B_X1_paints_45_4 {T : List Shp} {c : Nat → Int → Int} {x2 : Int} {r1 : Int} {c2 : Nat → Int → Int} {r3 : Int} {c4 : Nat → Int → Int} {r5 : Int} {c6 : Nat → Int → Int} (h1 : cal 66 [vR 2, vI x2] (SH T, c) = some (some (vI r1), (SH T, c2))) (h2 : ¬ r1 = 0) (h3 : cal 26 [vR 15, vI x2, vI (w32 ((c 1 8) + 1))] (SH T, c2) = some (some (vI r3), (SH T, c4))) (h4 : r3 = 0) (h5 : cal 70 [vR 2, vI x2, vI (w32 ((c 1 8) + 1))] (SH T, c4) = some (some (vI r5), (SH T, c6))) (h6 : ¬ r5 = 0) : ev 10 18 45 [vR 60, vU, vI x2, vU] [] (SH T, c) = some (some (vI (-3)), (SH T, c6)) := by
  refine (ev_eq _ _ _ _ _ _).trans ?_
  refine (el_call rfl h1).trans ?_
  refine (if_neg h2).trans ?_
  refine (el_call rfl h3).trans ?_
  refine (if_pos h4).trans ?_
  refine (el_call rfl h5).trans ?_
  refine (if_neg h6).trans ?_
  refine (ev_eq _ _ _ _ _ _).trans ?_
  rfl
theorem B_X1_paints_45_5 {T : List Shp} {c : Nat → Int → Int} {x2 : Int} {r1 : Int} {c2 : Nat → Int → Int} {r3 : Int} {c4 : Nat → Int → Int} (h1 : cal 66 [vR 2, vI x2] (SH T, c) = some (some (vI r1), (SH T, c2))) (h2 : ¬ r1 = 0) (h3 : cal 26 [vR 15, vI x2, vI (w32 ((c 1 8) + 1))] (SH T, c2) = some (some (vI r3), (SH T, c4))) (h4 : ¬ r3 = 0) : ev 10 18 45 [vR 60, vU, vI x2, vU] [] (SH T, c) = some (some (vI (-3)), (SH T, c4)) := by
  refine (ev_eq _ _ _ _ _ _).trans ?_
  refine (el_call rfl h1).trans ?_
  refine (if_neg h2).trans ?_
  refine (el_call rfl h3).trans ?_
  refine (if_neg h4).trans ?_
  refine (ev_eq _ _ _ _ _ _).trans ?_
  rfl
theorem E_X1_changes_1 {T : List Shp} {c : Nat → Int → Int} {x1 : Int} {c1 : Nat → Int → Int} (h1 : x1 = 4) (h2 : (c 1 11) < 6) (h3 : cal 72 [vR 2] (SH T, c) = some (none, (SH T, c1))) : cal 11 [vR 60, vI x1] (SH T, c) = some (some (vI 0), (SH T, c1)) := by
  refine (ev_eq _ _ _ _ _ _).trans ?_
  refine (if_pos h1).trans ?_
  refine (if_pos h2).trans ?_
  refine (ev_eq _ _ _ _ _ _).trans ?_
  refine (el_call rfl h3).trans ?_
  rfl
theorem E_X1_changes_2 {T : List Shp} {c : Nat → Int → Int} {x1 : Int} (h1 : x1 = 4) (h2 : ¬ (c 1 11) < 6) : cal 11 [vR 60, vI x1] (SH T, c) = some (some (vI (-5)), (SH T, c)) := by
  refine (ev_eq _ _ _ _ _ _).trans ?_
  refine (if_pos h1).trans ?_
  refine (if_neg h2).trans ?_
  rfl
theorem E_X1_changes_3 {T : List Shp} {c : Nat → Int → Int} {x1 : Int} (h1 : ¬ x1 = 4) (h2 : x1 = 3) (h3 : (c 1 8) = 0) : cal 11 [vR 60, vI x1] (SH T, c) = some (some (vI (-3)), (SH T, c)) := by
  refine (ev_eq _ _ _ _ _ _).trans ?_
  refine (if_neg h1).trans ?_
  refine (ev_eq _ _ _ _ _ _).trans ?_
  refine (if_pos h2).trans ?_
  refine (if_pos h3).trans ?_
  rfl
theorem E_X1_changes_4 {T : List Shp} {c : Nat → Int → Int} {x1 : Int} (h1 : ¬ x1 = 4) (h2 : x1 = 3) (h3 : ¬ (c 1 8) = 0) : cal 11 [vR 60, vI x1] (SH T, c) = some (some (vI 0), (SH T, (up c 1 8 (w32 ((c 1 8) - 1))))) := by
  refine (ev_eq _ _ _ _ _ _).trans ?_
  refine (if_neg h1).trans ?_
  refine (ev_eq _ _ _ _ _ _).trans ?_
  refine (if_pos h2).trans ?_
  refine (if_neg h3).trans ?_
  refine (ev_eq _ _ _ _ _ _).trans ?_
  rfl
theorem E_X1_changes_5 {T : List Shp} {c : Nat → Int → Int} {x1 : Int} {r1 : Int} {c2 : Nat → Int → Int} (h1 : ¬ x1 = 4) (h2 : ¬ x1 = 3) (h3 : cal 177 [vI (c 72 0), vI (c 1 11)] (SH T, c) = some (some (vI r1), (SH T, c2))) (h4 : r1 = 0) : cal 11 [vR 60, vI x1] (SH T, c) = some (some (vI (-3)), (SH T, c2)) := by
  refine (ev_eq _ _ _ _ _ _).trans ?_
  refine (if_neg h1).trans ?_
  refine (ev_eq _ _ _ _ _ _).trans ?_
  refine (if_neg h2).trans ?_
  refine (ev_eq _ _ _ _ _ _).trans ?_
  refine (el_call rfl h3).trans ?_
  refine (if_pos h4).trans ?_
  refine (ev_eq _ _ _ _ _ _).trans ?_
  rfl
theorem E_X1_changes_6 {T : List Shp} {c : Nat → Int → Int} {x1 : Int} {r1 : Int} {c2 : Nat → Int → Int} {r3 : Int} {c4 : Nat → Int → Int} (h1 : ¬ x1 = 4) (h2 : ¬ x1 = 3) (h3 : cal 177 [vI (c 72 0), vI (c 1 11)] (SH T, c) = some (some (vI r1), (SH T, c2))) (h4 : ¬ r1 = 0) (h5 : cal 178 [vI (c2 72 1)] (SH T, c2) = some (some (vI r3), (SH T, c4))) (h6 : r3 = 0) : cal 11 [vR 60, vI x1] (SH T, c) = some (some (vI (-3)), (SH T, c4)) := by
  refine (ev_eq _ _ _ _ _ _).trans ?_
  refine (if_neg h1).trans ?_
  refine (ev_eq _ _ _ _ _ _).trans ?_
  refine (if_neg h2).trans ?_
  refine (ev_eq _ _ _ _ _ _).trans ?_
  refine (el_call rfl h3).trans ?_
  refine (if_neg h4).trans ?_
  refine (el_call rfl h5).trans ?_
  refine (if_pos h6).trans ?_
  refine (ev_eq _ _ _ _ _ _).trans ?_
  rfl
theorem E_X1_changes_7 {T : List Shp} {c : Nat → Int → Int} {x1 : Int} {r1 : Int} {c2 : Nat → Int → Int} {r3 : Int} {c4 : Nat → Int → Int} {r5 : Int} {c6 : Nat → Int → Int} (h1 : ¬ x1 = 4) (h2 : ¬ x1 = 3) (h3 : cal 177 [vI (c 72 0), vI (c 1 11)] (SH T, c) = some (some (vI r1), (SH T, c2))) (h4 : ¬ r1 = 0) (h5 : cal 178 [vI (c2 72 1)] (SH T, c2) = some (some (vI r3), (SH T, c4))) (h6 : ¬ r3 = 0) (h7 : cal 179 [vI (c4 72 2)] (SH T, c4) = some (some (vI r5), (SH T, c6))) (h8 : r5 = 0) : cal 11 [vR 60, vI x1] (SH T, c) = some (some (vI (-3)), (SH T, c6)) := by
  refine (ev_eq _ _ _ _ _ _).trans ?_
  refine (if_neg h1).trans ?_
  refine (ev_eq _ _ _ _ _ _).trans ?_
  refine (if_neg h2).trans ?_
  refine (ev_eq _ _ _ _ _ _).trans ?_
  refine (el_call rfl h3).trans ?_
  refine (if_neg h4).trans ?_
  refine (el_call rfl h5).trans ?_
  refine (if_neg h6).trans ?_
  refine (el_call rfl h7).trans ?_
  refine (if_pos h8).trans ?_
  refine (ev_eq _ _ _ _ _ _).trans ?_
  rfl
theorem E_X1_changes_8 {T : List Shp} {c : Nat → Int → Int} {x1 : Int} {r1 : Int} {c2 : Nat → Int → Int} {r3 : Int} {c4 : Nat → Int → Int} {r5 : Int} {c6 : Nat → Int → Int} (h1 : ¬ x1 = 4) (h2 : ¬ x1 = 3) (h3 : cal 177 [vI (c 72 0), vI (c 1 11)] (SH T, c) = some (some (vI r1), (SH T, c2))) (h4 : ¬ r1 = 0) (h5 : cal 178 [vI (c2 72 1)] (SH T, c2) = some (some (vI r3), (SH T, c4))) (h6 : ¬ r3 = 0) (h7 : cal 179 [vI (c4 72 2)] (SH T, c4) = some (some (vI r5), (SH T, c6))) (h8 : ¬ r5 = 0) (h9 : 0 ≤ (w32 ((w32 ((c6 72 0) * 12)) + (c6 72 1))) ∧ (w32 ((w32 ((c6 72 0) * 12)) + (c6 72 1))) < 72) : cal 11 [vR 60, vI x1] (SH T, c) = some (some (vI 0), (SH T, (up c6 8 (w32 ((w32 ((c6 72 0) * 12)) + (c6 72 1))) (c6 72 2)))) := by
  refine (ev_eq _ _ _ _ _ _).trans ?_
  refine (if_neg h1).trans ?_
  refine (ev_eq _ _ _ _ _ _).trans ?_
  refine (if_neg h2).trans ?_
  refine (ev_eq _ _ _ _ _ _).trans ?_
  refine (el_call rfl h3).trans ?_
  refine (if_neg h4).trans ?_
  refine (el_call rfl h5).trans ?_
  refine (if_neg h6).trans ?_
  refine (el_call rfl h7).trans ?_
  refine (if_neg h8).trans ?_
  refine (ev_eq _ _ _ _ _ _).trans ?_
  refine (if_pos h9).trans ?_
  rfl
theorem E_X0_pass {T : List Shp} {c : Nat → Int → Int} {x1 x2 : Int} (h1 : (0 ≤ (w32 ((c 1 8) * 12)) ∧ 0 ≤ 0 ∧ 0 ≤ 12) ∧ (w32 ((c 1 8) * 12)) + 12 ≤ 204 ∧ 0 + 12 ≤ 12) : cal 1 [vR 74, vI x1, vI x2] (SH T, c) = ev 1 6 50 [vR 74, vU, vI x2, vI 0, vU] [] (SH T, (cpy (up (up (up c 73 2 x1) 73 3 (c 1 0)) 73 7 1) 7 (w32 ((c 1 8) * 12)) 75 0 12)) := by
  refine (ev_eq _ _ _ _ _ _).trans ?_
  refine (if_pos h1).trans ?_
  rfl
theorem B_X0_pass_50_1 {T : List Shp} {c : Nat → Int → Int} {x2 x3 : Int} (h1 : x3 < 5) (h2 : 0 ≤ x3 ∧ x3 < 5) : ev 1 6 50 [vR 74, vU, vI x2, vI x3, vU] [] (SH T, c) = ev 1 6 50 [vR 74, vU, vI x2, vI (w32 (x3 + 1)), vU] [] (SH T, (up c 74 x3 0)) := by
  refine (ev_eq _ _ _ _ _ _).trans ?_
  refine (if_pos h1).trans ?_
  refine (if_pos h2).trans ?_
  rfl
theorem B_X0_pass_50_2 {T : List Shp} {c : Nat → Int → Int} {x2 x3 : Int} (h1 : ¬ x3 < 5) : ev 1 6 50 [vR 74, vU, vI x2, vI x3, vU] [] (SH T, c) = ev 1 6 89 [vR 74, vU, vU, vI (w32 ((c 1 8) + x2)), vI (w32 ((c 1 8) + 1))] [] (SH T, c) := by
  refine (ev_eq _ _ _ _ _ _).trans ?_
  refine (if_neg h1).trans ?_
  refine (ev_eq _ _ _ _ _ _).trans ?_
  rfl
theorem B_X0_pass_89_1 {T : List Shp} {c : Nat → Int → Int} {x3 x4 : Int} (h1 : x3 < x4) : ev 1 6 89 [vR 74, vU, vU, vI x3, vI x4] [] (SH T, c) = ev 1 6 114 [vR 74, vU, vU, vI x3, vU] [] (SH T, c) := by
  refine (ev_eq _ _ _ _ _ _).trans ?_
  refine (if_pos h1).trans ?_
  rfl
theorem B_X0_pass_89_2 {T : List Shp} {c : Nat → Int → Int} {x3 x4 : Int} {c1 : Nat → Int → Int} (h1 : ¬ x3 < x4) (h2 : 0 < (c 73 3)) (h3 : cal 3 [vR 74, vI x4] (SH T, c) = some (none, (SH T, c1))) : ev 1 6 89 [vR 74, vU, vU, vI x3, vI x4] [] (SH T, c) = ev 1 6 89 [vR 74, vU, vU, vI x3, vI (w32 (x4 + 1))] [] (SH T, c1) := by
  refine (ev_eq _ _ _ _ _ _).trans ?_
  refine (if_neg h1).trans ?_
  refine (if_pos h2).trans ?_
  refine (el_call rfl h3).trans ?_
  rfl
theorem B_X0_pass_89_3 {T : List Shp} {c : Nat → Int → Int} {x3 x4 : Int} (h1 : ¬ x3 < x4) (h2 : ¬ 0 < (c 73 3)) : ev 1 6 89 [vR 74, vU, vU, vI x3, vI x4] [] (SH T, c) = ev 1 6 114 [vR 74, vU, vU, vI x3, vU] [] (SH T, c) := by
  refine (ev_eq _ _ _ _ _ _).trans ?_
  refine (if_neg h1).trans ?_
  refine (if_neg h2).trans ?_
  rfl
theorem B_X0_pass_114 {T : List Shp} {c : Nat → Int → Int} {x3 : Int}  : ev 1 6 114 [vR 74, vU, vU, vI x3, vU] [] (SH T, c) = ev 1 6 122 [vR 74, vU, vU, vI x3, vI 0] [] (SH T, (up c 73 6 0)) := by
  refine (ev_eq _ _ _ _ _ _).trans ?_
  rfl
theorem B_X0_pass_122_1 {T : List Shp} {c : Nat → Int → Int} {x3 x4 : Int} {r1 : Int} {c2 : Nat → Int → Int} {r3 : Int} {c4 : Nat → Int → Int} (h1 : x4 < 12) (h2 : 0 ≤ x4 ∧ x4 < 12) (h3 : cal 23 [vR 15, vI x4, vI x3] (SH T, c) = some (some (vI r1), (SH T, c2))) (h4 : cal 342 [vI (w32 ((c 75 x4) - r1))] (SH T, c2) = some (some (vI r3), (SH T, c4))) : ev 1 6 122 [vR 74, vU, vU, vI x3, vI x4] [] (SH T, c) = ev 1 6 122 [vR 74, vU, vU, vI x3, vI (w32 (x4 + 1))] [] (SH T, (up c4 73 6 (w32 ((c 73 6) + r3)))) := by
  refine (ev_eq _ _ _ _ _ _).trans ?_
  refine (if_pos h1).trans ?_
  refine (if_pos h2).trans ?_
  refine (el_call rfl h3).trans ?_
  refine (el_call rfl h4).trans ?_
  rfl
theorem B_X0_pass_122_2 {T : List Shp} {c : Nat → Int → Int} {x3 x4 : Int} (h1 : ¬ x4 < 12) : ev 1 6 122 [vR 74, vU, vU, vI x3, vI x4] [] (SH T, c) = some (none, (SH T, c)) := by
  refine (ev_eq _ _ _ _ _ _).trans ?_
  refine (if_neg h1).trans ?_
  refine (ev_eq _ _ _ _ _ _).trans ?_
  rfl
theorem E_X0_yearsOf_1 {T : List Shp} {c : Nat → Int → Int} {x1 : Int} {r1 : Int} {c2 : Nat → Int → Int} (h1 : cal 177 [vI x1, vI (c 73 3)] (SH T, c) = some (some (vI r1), (SH T, c2))) (h2 : r1 = 0) : cal 2 [vR 74, vI x1] (SH T, c) = some (some (vI (-1)), (SH T, c2)) := by
  refine (ev_eq _ _ _ _ _ _).trans ?_
  refine (el_call rfl h1).trans ?_
  refine (if_pos h2).trans ?_
  refine (ev_eq _ _ _ _ _ _).trans ?_
  rfl
theorem E_X0_yearsOf_2 {T : List Shp} {c : Nat → Int → Int} {x1 : Int} {r1 : Int} {c2 : Nat → Int → Int} (h1 : cal 177 [vI x1, vI (c 73 3)] (SH T, c) = some (some (vI r1), (SH T, c2))) (h2 : ¬ r1 = 0) (h3 : 0 ≤ x1 ∧ x1 < 5) : cal 2 [vR 74, vI x1] (SH T, c) = some (some (vI (c2 74 x1)), (SH T, c2)) := by
  refine (ev_eq _ _ _ _ _ _).trans ?_
  refine (el_call rfl h1).trans ?_
  refine (if_neg h2).trans ?_
  refine (if_pos h3).trans ?_
  rfl
theorem E_X0_paintOne {T : List Shp} {c : Nat → Int → Int} {x1 : Int} {r1 : Int} {c2 : Nat → Int → Int} (h1 : cal 4 [vR 74, vI (c 73 3)] (SH T, c) = some (some (vI r1), (SH T, c2))) (h2 : 0 ≤ r1 ∧ r1 < 5) (h3 : 0 ≤ r1 ∧ r1 < 5) : cal 3 [vR 74, vI x1] (SH T, c) = ev 3 5 21 [vR 74, vI x1, vI r1, vI 0, vU, vU, vU, vU] [] (SH T, (up c2 74 r1 (w32 ((c2 74 r1) + 1)))) := by
  refine (ev_eq _ _ _ _ _ _).trans ?_
  refine (el_call rfl h1).trans ?_
  refine (if_pos h2).trans ?_
  refine (if_pos h3).trans ?_
  rfl
theorem B_X0_paintOne_21_1 {T : List Shp} {c : Nat → Int → Int} {x1 x2 x3 : Int} {r1 : Int} {c2 : Nat → Int → Int} {r3 : Int} {c4 : Nat → Int → Int} {r5 : Int} {c6 : Nat → Int → Int} (h1 : x3 < 12) (h2 : cal 23 [vR 15, vI x3, vI x1] (SH T, c) = some (some (vI r1), (SH T, c2))) (h3 : 0 ≤ x3 ∧ x3 < 12) (h4 : cal 76 [vR 2, vI x2, vI x3, vI (c2 75 x3), vI r1] (SH T, c2) = some (some (vI r3), (SH T, c4))) (h5 : cal 4 [vR 74, vI 8] (SH T, c4) = some (some (vI r5), (SH T, c6))) (h6 : r5 = 0) : ev 3 5 21 [vR 74, vI x1, vI x2, vI x3, vU, vU, vU, vU] [] (SH T, c) = ev 3 5 85 [vR 74, vI x1, vI x2, vI x3, vU, vI r3, vU, vU] [vI (-1)] (SH T, c6) := by
  refine (ev_eq _ _ _ _ _ _).trans ?_
  refine (if_pos h1).trans ?_
  refine (el_call rfl h2).trans ?_
  refine (if_pos h3).trans ?_
  refine (el_call rfl h4).trans ?_
  refine (el_call rfl h5).trans ?_
  refine (if_pos h6).trans ?_
  rfl
theorem B_X0_paintOne_21_2 {T : List Shp} {c : Nat → Int → Int} {x1 x2 x3 : Int} {r1 : Int} {c2 : Nat → Int → Int} {r3 : Int} {c4 : Nat → Int → Int} {r5 : Int} {c6 : Nat → Int → Int} (h1 : x3 < 12) (h2 : cal 23 [vR 15, vI x3, vI x1] (SH T, c) = some (some (vI r1), (SH T, c2))) (h3 : 0 ≤ x3 ∧ x3 < 12) (h4 : cal 76 [vR 2, vI x2, vI x3, vI (c2 75 x3), vI r1] (SH T, c2) = some (some (vI r3), (SH T, c4))) (h5 : cal 4 [vR 74, vI 8] (SH T, c4) = some (some (vI r5), (SH T, c6))) (h6 : ¬ r5 = 0) (h7 : r5 = 1) : ev 3 5 21 [vR 74, vI x1, vI x2, vI x3, vU, vU, vU, vU] [] (SH T, c) = ev 3 5 85 [vR 74, vI x1, vI x2, vI x3, vU, vI r3, vU, vU] [vI 1] (SH T, c6) := by
  refine (ev_eq _ _ _ _ _ _).trans ?_
  refine (if_pos h1).trans ?_
  refine (el_call rfl h2).trans ?_
  refine (if_pos h3).trans ?_
  refine (el_call rfl h4).trans ?_
  refine (el_call rfl h5).trans ?_
  refine (if_neg h6).trans ?_
  refine (ev_eq _ _ _ _ _ _).trans ?_
  refine (if_pos h7).trans ?_
  rfl
theorem B_X0_paintOne_21_3 {T : List Shp} {c : Nat → Int → Int} {x1 x2 x3 : Int} {r1 : Int} {c2 : Nat → Int → Int} {r3 : Int} {c4 : Nat → Int → Int} {r5 : Int} {c6 : Nat → Int → Int} (h1 : x3 < 12) (h2 : cal 23 [vR 15, vI x3, vI x1] (SH T, c) = some (some (vI r1), (SH T, c2))) (h3 : 0 ≤ x3 ∧ x3 < 12) (h4 : cal 76 [vR 2, vI x2, vI x3, vI (c2 75 x3), vI r1] (SH T, c2) = some (some (vI r3), (SH T, c4))) (h5 : cal 4 [vR 74, vI 8] (SH T, c4) = some (some (vI r5), (SH T, c6))) (h6 : ¬ r5 = 0) (h7 : ¬ r5 = 1) : ev 3 5 21 [vR 74, vI x1, vI x2, vI x3, vU, vU, vU, vU] [] (SH T, c) = ev 3 5 85 [vR 74, vI x1, vI x2, vI x3, vU, vI r3, vU, vU] [vI 0] (SH T, c6) := by
  refine (ev_eq _ _ _ _ _ _).trans ?_
  refine (if_pos h1).trans ?_
  refine (el_call rfl h2).trans ?_
  refine (if_pos h3).trans ?_
  refine (el_call rfl h4).trans ?_
  refine (el_call rfl h5).trans ?_
  refine (if_neg h6).trans ?_
  refine (ev_eq _ _ _ _ _ _).trans ?_
  refine (if_neg h7).trans ?_
  refine (ev_eq _ _ _ _ _ _).trans ?_
  rfl
theorem B_X0_paintOne_21_4 {T : List Shp} {c : Nat → Int → Int} {x1 x2 x3 : Int} (h1 : ¬ x3 < 12) : ev 3 5 21 [vR 74, vI x1, vI x2, vI x3, vU, vU, vU, vU] [] (SH T, c) = some (none, (SH T, c)) := by
  refine (ev_eq _ _ _ _ _ _).trans ?_
  refine (if_neg h1).trans ?_
  refine (ev_eq _ _ _ _ _ _).trans ?_
  rfl
theorem B_X0_paintOne_85 {T : List Shp} {c : Nat → Int → Int} {x1 x2 x3 x5 y0 : Int} {r1 : Int} {c2 : Nat → Int → Int} (h1 : cal 184 [vI (w32 (x5 + y0)), vI 0, vI 9] (SH T, c) = some (some (vI r1), (SH T, c2))) (h2 : 0 ≤ x3 ∧ x3 < 12) : ev 3 5 85 [vR 74, vI x1, vI x2, vI x3, vU, vI x5, vU, vU] [vI y0] (SH T, c) = ev 3 5 21 [vR 74, vI x1, vI x2, vI (w32 (x3 + 1)), vU, vU, vU, vU] [] (SH T, (up c2 75 x3 r1)) := by
  refine (ev_eq _ _ _ _ _ _).trans ?_
  refine (el_call rfl h1).trans ?_
  refine (if_pos h2).trans ?_
  rfl
theorem E_X0_draw_1 {T : List Shp} {c : Nat → Int → Int} {x1 : Int} (h1 : 0 < x1) (h2 : ¬ x1 = 0) : cal 4 [vR 74, vI x1] (SH T, c) = some (some (vI (w32 (Int.tmod (w32 (Int.tmod (w32 ((w32 ((c 73 2) * 1103)) + 12345)) 1000003)) x1))), (SH T, (up c 73 2 (w32 (Int.tmod (w32 ((w32 ((c 73 2) * 1103)) + 12345)) 1000003))))) := by
  refine (ev_eq _ _ _ _ _ _).trans ?_
  refine (if_pos h1).trans ?_
  refine (if_neg h2).trans ?_
  rfl
theorem E_X0_draw_2 {T : List Shp} {c : Nat → Int → Int} {x1 : Int} (h1 : ¬ 0 < x1) : cal 4 [vR 74, vI x1] (SH T, c) = some (some (vI 0), (SH T, (up c 73 2 (w32 (Int.tmod (w32 ((w32 ((c 73 2) * 1103)) + 12345)) 1000003))))) := by
  refine (ev_eq _ _ _ _ _ _).trans ?_
  refine (if_neg h1).trans ?_
  refine (ev_eq _ _ _ _ _ _).trans ?_
  rfl
theorem E_X10_clear {T : List Shp} {c : Nat → Int → Int}  : cal 109 [vR 12] (SH T, c) = some (none, (SH T, (up (up (up c 11 2 0) 11 3 0) 11 4 0))) := by
  refine (ev_eq _ _ _ _ _ _).trans ?_
  rfl
theorem E_X10_add_1 {T : List Shp} {c : Nat → Int → Int} {x1 x2 : Int} (h1 : (c 11 3) < 450) (h2 : 0 ≤ (c 11 3) ∧ (c 11 3) < 450) : cal 110 [vR 12, vI x1, vI x2] (SH T, c) = some (none, (SH T, (up (up c 13 (c 11 3) (w32 (x1 + (w32 (16 * x2))))) 11 3 (w32 ((c 11 3) + 1))))) := by
  refine (ev_eq _ _ _ _ _ _).trans ?_
  refine (if_pos h1).trans ?_
  refine (if_pos h2).trans ?_
  refine (ev_eq _ _ _ _ _ _).trans ?_
  rfl
theorem E_X10_add_2 {T : List Shp} {c : Nat → Int → Int} {x1 x2 : Int} (h1 : ¬ (c 11 3) < 450) : cal 110 [vR 12, vI x1, vI x2] (SH T, c) = some (none, (SH T, c)) := by
  refine (ev_eq _ _ _ _ _ _).trans ?_
  refine (if_neg h1).trans ?_
  refine (ev_eq _ _ _ _ _ _).trans ?_
  rfl
theorem E_X10_jumpHere_1 {T : List Shp} {c : Nat → Int → Int} {x1 : Int} (h1 : x1 < 0) : cal 111 [vR 12, vI x1] (SH T, c) = some (none, (SH T, c)) := by
  refine (ev_eq _ _ _ _ _ _).trans ?_
  refine (if_pos h1).trans ?_
  refine (ev_eq _ _ _ _ _ _).trans ?_
  rfl
theorem E_X10_jumpHere_2 {T : List Shp} {c : Nat → Int → Int} {x1 : Int} (h1 : ¬ x1 < 0) (h2 : x1 < (c 11 3)) (h3 : 0 ≤ x1 ∧ x1 < 450) (h4 : 0 ≤ x1 ∧ x1 < 450) : cal 111 [vR 12, vI x1] (SH T, c) = some (none, (SH T, (up c 13 x1 (w32 ((iand (c 13 x1) 15) + (w32 (16 * (c 11 3)))))))) := by
  refine (ev_eq _ _ _ _ _ _).trans ?_
  refine (if_neg h1).trans ?_
  refine (if_pos h2).trans ?_
  refine (if_pos h3).trans ?_
  refine (if_pos h4).trans ?_
  refine (ev_eq _ _ _ _ _ _).trans ?_
  rfl
theorem E_X10_jumpHere_3 {T : List Shp} {c : Nat → Int → Int} {x1 : Int} (h1 : ¬ x1 < 0) (h2 : ¬ x1 < (c 11 3)) : cal 111 [vR 12, vI x1] (SH T, c) = some (none, (SH T, c)) := by
  refine (ev_eq _ _ _ _ _ _).trans ?_
  refine (if_neg h1).trans ?_
  refine (if_neg h2).trans ?_
  refine (ev_eq _ _ _ _ _ _).trans ?_
  rfl
theorem E_X6_faultIn {T : List Shp} {c : Nat → Int → Int} {x1 x2 : Int} {r1 : Int} {c2 : Nat → Int → Int} {c3 : Nat → Int → Int} {c4 : Nat → Int → Int} (h1 : cal 344 [vI x1, vI 400] (SH T, c) = some (some (vI r1), (SH T, c2))) (h2 : x2 = 0 ∨ x2 = 1) (h3 : cal 109 [vR 12] (SH T, (up (up c2 48 1 r1) 48 3 x2)) = some (none, (SH T, c3))) (h4 : cal 62 [vR 49] (SH T, (up (up c3 48 6 0) 48 8 0)) = some (none, (SH T, c4))) : cal 43 [vR 49, vI x1, vI x2] (SH T, c) = ev 43 104 41 [vR 49, vU, vU, vI 0, vU] [] (SH T, c4) := by
  refine (ev_eq _ _ _ _ _ _).trans ?_
  refine (el_call rfl h1).trans ?_
  refine (if_pos h2).trans ?_
  refine (el_call rfl h3).trans ?_
  refine (el_call rfl h4).trans ?_
  rfl
theorem B_X6_faultIn_41_1 {T : List Shp} {c : Nat → Int → Int} {x3 : Int} {c1 : Nat → Int → Int} {r2 : Int} {c3 : Nat → Int → Int} (h1 : x3 < 12) (h2 : cal 44 [vR 49, vI (w32 (x3 * 6))] (SH T, c) = some (none, (SH T, c1))) (h3 : (c1 48 3) = 0) (h4 : cal 45 [vR 49, vI (w32 (x3 * 6))] (SH T, c1) = some (some (vI r2), (SH T, c3))) (h5 : r2 = 0) : ev 43 104 41 [vR 49, vU, vU, vI x3, vU] [] (SH T, c) = some (some (vI (c3 48 5)), (SH T, c3)) := by
  refine (ev_eq _ _ _ _ _ _).trans ?_
  refine (if_pos h1).trans ?_
  refine (el_call rfl h2).trans ?_
  refine (if_pos h3).trans ?_
  refine (ev_eq _ _ _ _ _ _).trans ?_
  refine (el_call rfl h4).trans ?_
  refine (if_pos h5).trans ?_
  refine (ev_eq _ _ _ _ _ _).trans ?_
  rfl
theorem B_X6_faultIn_41_2 {T : List Shp} {c : Nat → Int → Int} {x3 : Int} {c1 : Nat → Int → Int} {r2 : Int} {c3 : Nat → Int → Int} (h1 : x3 < 12) (h2 : cal 44 [vR 49, vI (w32 (x3 * 6))] (SH T, c) = some (none, (SH T, c1))) (h3 : (c1 48 3) = 0) (h4 : cal 45 [vR 49, vI (w32 (x3 * 6))] (SH T, c1) = some (some (vI r2), (SH T, c3))) (h5 : ¬ r2 = 0) : ev 43 104 41 [vR 49, vU, vU, vI x3, vU] [] (SH T, c) = ev 43 104 87 [vR 49, vU, vU, vI x3, vI (w32 (x3 * 6))] [] (SH T, c3) := by
  refine (ev_eq _ _ _ _ _ _).trans ?_
  refine (if_pos h1).trans ?_
  refine (el_call rfl h2).trans ?_
  refine (if_pos h3).trans ?_
  refine (ev_eq _ _ _ _ _ _).trans ?_
  refine (el_call rfl h4).trans ?_
  refine (if_neg h5).trans ?_
  rfl
theorem B_X6_faultIn_41_3 {T : List Shp} {c : Nat → Int → Int} {x3 : Int} {c1 : Nat → Int → Int} {r2 : Int} {c3 : Nat → Int → Int} (h1 : x3 < 12) (h2 : cal 44 [vR 49, vI (w32 (x3 * 6))] (SH T, c) = some (none, (SH T, c1))) (h3 : ¬ (c1 48 3) = 0) (h4 : cal 46 [vR 49, vI (w32 (x3 * 6))] (SH T, c1) = some (some (vI r2), (SH T, c3))) (h5 : r2 = 0) : ev 43 104 41 [vR 49, vU, vU, vI x3, vU] [] (SH T, c) = some (some (vI (c3 48 5)), (SH T, c3)) := by
  refine (ev_eq _ _ _ _ _ _).trans ?_
  refine (if_pos h1).trans ?_
  refine (el_call rfl h2).trans ?_
  refine (if_neg h3).trans ?_
  refine (el_call rfl h4).trans ?_
  refine (if_pos h5).trans ?_
  refine (ev_eq _ _ _ _ _ _).trans ?_
  rfl
theorem B_X6_faultIn_41_4 {T : List Shp} {c : Nat → Int → Int} {x3 : Int} {c1 : Nat → Int → Int} {r2 : Int} {c3 : Nat → Int → Int} (h1 : x3 < 12) (h2 : cal 44 [vR 49, vI (w32 (x3 * 6))] (SH T, c) = some (none, (SH T, c1))) (h3 : ¬ (c1 48 3) = 0) (h4 : cal 46 [vR 49, vI (w32 (x3 * 6))] (SH T, c1) = some (some (vI r2), (SH T, c3))) (h5 : ¬ r2 = 0) : ev 43 104 41 [vR 49, vU, vU, vI x3, vU] [] (SH T, c) = ev 43 104 87 [vR 49, vU, vU, vI x3, vI (w32 (x3 * 6))] [] (SH T, c3) := by
  refine (ev_eq _ _ _ _ _ _).trans ?_
  refine (if_pos h1).trans ?_
  refine (el_call rfl h2).trans ?_
  refine (if_neg h3).trans ?_
  refine (el_call rfl h4).trans ?_
  refine (if_neg h5).trans ?_
  rfl
theorem B_X6_faultIn_41_5 {T : List Shp} {c : Nat → Int → Int} {x3 : Int} (h1 : ¬ x3 < 12) : ev 43 104 41 [vR 49, vU, vU, vI x3, vU] [] (SH T, c) = some (some (vI (c 48 5)), (SH T, c)) := by
  refine (ev_eq _ _ _ _ _ _).trans ?_
  refine (if_neg h1).trans ?_
  refine (ev_eq _ _ _ _ _ _).trans ?_
  rfl
theorem B_X6_faultIn_87_1 {T : List Shp} {c : Nat → Int → Int} {x3 x4 : Int} {r1 : Int} {c2 : Nat → Int → Int} (h1 : cal 48 [vR 49, vI x4] (SH T, c) = some (some (vI r1), (SH T, c2))) (h2 : r1 = 0) : ev 43 104 87 [vR 49, vU, vU, vI x3, vI x4] [] (SH T, c) = some (some (vI (c2 48 5)), (SH T, c2)) := by
  refine (ev_eq _ _ _ _ _ _).trans ?_
  refine (el_call rfl h1).trans ?_
  refine (if_pos h2).trans ?_
  refine (ev_eq _ _ _ _ _ _).trans ?_
  rfl
theorem B_X6_faultIn_87_2 {T : List Shp} {c : Nat → Int → Int} {x3 x4 : Int} {r1 : Int} {c2 : Nat → Int → Int} (h1 : cal 48 [vR 49, vI x4] (SH T, c) = some (some (vI r1), (SH T, c2))) (h2 : ¬ r1 = 0) (h3 : (c2 48 4) = 3) : ev 43 104 87 [vR 49, vU, vU, vI x3, vI x4] [] (SH T, c) = some (some (vI (-1)), (SH T, (up c2 11 2 (w32 (x3 + 1))))) := by
  refine (ev_eq _ _ _ _ _ _).trans ?_
  refine (el_call rfl h1).trans ?_
  refine (if_neg h2).trans ?_
  refine (ev_eq _ _ _ _ _ _).trans ?_
  refine (if_pos h3).trans ?_
  rfl
theorem B_X6_faultIn_87_3 {T : List Shp} {c : Nat → Int → Int} {x3 x4 : Int} {r1 : Int} {c2 : Nat → Int → Int} {r3 : Int} {c4 : Nat → Int → Int} (h1 : cal 48 [vR 49, vI x4] (SH T, c) = some (some (vI r1), (SH T, c2))) (h2 : ¬ r1 = 0) (h3 : ¬ (c2 48 4) = 3) (h4 : cal 58 [vR 49, vI 59] (SH T, (up c2 11 2 (w32 (x3 + 1)))) = some (some (vI r3), (SH T, c4))) (h5 : r3 = 0) : ev 43 104 87 [vR 49, vU, vU, vI x3, vI x4] [] (SH T, c) = some (some (vI (c4 48 5)), (SH T, c4)) := by
  refine (ev_eq _ _ _ _ _ _).trans ?_
  refine (el_call rfl h1).trans ?_
  refine (if_neg h2).trans ?_
  refine (ev_eq _ _ _ _ _ _).trans ?_
  refine (if_neg h3).trans ?_
  refine (ev_eq _ _ _ _ _ _).trans ?_
  refine (el_call rfl h4).trans ?_
  refine (if_pos h5).trans ?_
  rfl
theorem B_X6_faultIn_87_4 {T : List Shp} {c : Nat → Int → Int} {x3 x4 : Int} {r1 : Int} {c2 : Nat → Int → Int} {r3 : Int} {c4 : Nat → Int → Int} (h1 : cal 48 [vR 49, vI x4] (SH T, c) = some (some (vI r1), (SH T, c2))) (h2 : ¬ r1 = 0) (h3 : ¬ (c2 48 4) = 3) (h4 : cal 58 [vR 49, vI 59] (SH T, (up c2 11 2 (w32 (x3 + 1)))) = some (some (vI r3), (SH T, c4))) (h5 : ¬ r3 = 0) : ev 43 104 87 [vR 49, vU, vU, vI x3, vI x4] [] (SH T, c) = ev 43 104 41 [vR 49, vU, vU, vI (w32 (x3 + 1)), vU] [] (SH T, c4) := by
  refine (ev_eq _ _ _ _ _ _).trans ?_
  refine (el_call rfl h1).trans ?_
  refine (if_neg h2).trans ?_
  refine (ev_eq _ _ _ _ _ _).trans ?_
  refine (if_neg h3).trans ?_
  refine (ev_eq _ _ _ _ _ _).trans ?_
  refine (el_call rfl h4).trans ?_
  refine (if_neg h5).trans ?_
  refine (ev_eq _ _ _ _ _ _).trans ?_
  rfl
theorem E_X6_clearRow {T : List Shp} {c : Nat → Int → Int} {x1 : Int}  : cal 44 [vR 49, vI x1] (SH T, c) = ev 44 1 2 [vR 49, vI x1, vI 0] [] (SH T, c) := by
  refine (ev_eq _ _ _ _ _ _).trans ?_
  rfl
theorem B_X6_clearRow_2_1 {T : List Shp} {c : Nat → Int → Int} {x1 x2 : Int} (h1 : x2 < 6) (h2 : 0 ≤ (w32 (x1 + x2)) ∧ (w32 (x1 + x2)) < 72) : ev 44 1 2 [vR 49, vI x1, vI x2] [] (SH T, c) = ev 44 1 2 [vR 49, vI x1, vI (w32 (x2 + 1))] [] (SH T, (up c 12 (w32 (x1 + x2)) (-1))) := by
  refine (ev_eq _ _ _ _ _ _).trans ?_
  refine (if_pos h1).trans ?_
  refine (if_pos h2).trans ?_
  rfl
theorem B_X6_clearRow_2_2 {T : List Shp} {c : Nat → Int → Int} {x1 x2 : Int} (h1 : ¬ x2 < 6) (h2 : 0 ≤ (w32 (x1 + 1)) ∧ (w32 (x1 + 1)) < 72) : ev 44 1 2 [vR 49, vI x1, vI x2] [] (SH T, c) = some (none, (SH T, (up c 12 (w32 (x1 + 1)) 1))) := by
  refine (ev_eq _ _ _ _ _ _).trans ?_
  refine (if_neg h1).trans ?_
  refine (ev_eq _ _ _ _ _ _).trans ?_
  refine (if_pos h2).trans ?_
  rfl
theorem E_X6_readClause_1 {T : List Shp} {c : Nat → Int → Int} {x1 : Int} {r1 : Int} {c2 : Nat → Int → Int} (h1 : cal 60 [vR 49, vR (-100)] (SH T, c) = some (some (vI r1), (SH T, c2))) (h2 : r1 = (-1)) : cal 45 [vR 49, vI x1] (SH T, c) = some (some (vI 0), (SH T, c2)) := by
  refine (ev_eq _ _ _ _ _ _).trans ?_
  refine (el_call rfl h1).trans ?_
  refine (if_pos h2).trans ?_
  rfl
theorem E_X6_readClause_2 {T : List Shp} {c : Nat → Int → Int} {x1 : Int} {r1 : Int} {c2 : Nat → Int → Int} {c3 : Nat → Int → Int} (h1 : cal 60 [vR 49, vR (-100)] (SH T, c) = some (some (vI r1), (SH T, c2))) (h2 : ¬ r1 = (-1)) (h3 : 0 ≤ (w32 (x1 + 0)) ∧ (w32 (x1 + 0)) < 72) (h4 : cal 62 [vR 49] (SH T, (up c2 12 (w32 (x1 + 0)) r1)) = some (none, (SH T, c3))) (h5 : r1 = 4) : cal 45 [vR 49, vI x1] (SH T, c) = some (some (vI 1), (SH T, c3)) := by
  refine (ev_eq _ _ _ _ _ _).trans ?_
  refine (el_call rfl h1).trans ?_
  refine (if_neg h2).trans ?_
  refine (ev_eq _ _ _ _ _ _).trans ?_
  refine (if_pos h3).trans ?_
  refine (el_call rfl h4).trans ?_
  refine (if_pos h5).trans ?_
  refine (ev_eq _ _ _ _ _ _).trans ?_
  rfl
theorem E_X6_readClause_3 {T : List Shp} {c : Nat → Int → Int} {x1 : Int} {r1 : Int} {c2 : Nat → Int → Int} {c3 : Nat → Int → Int} {r4 : Int} {c5 : Nat → Int → Int} (h1 : cal 60 [vR 49, vR (-100)] (SH T, c) = some (some (vI r1), (SH T, c2))) (h2 : ¬ r1 = (-1)) (h3 : 0 ≤ (w32 (x1 + 0)) ∧ (w32 (x1 + 0)) < 72) (h4 : cal 62 [vR 49] (SH T, (up c2 12 (w32 (x1 + 0)) r1)) = some (none, (SH T, c3))) (h5 : ¬ r1 = 4) (h6 : cal 49 [vR 49, vI x1, vI 0] (SH T, c3) = some (some (vI r4), (SH T, c5))) (h7 : r4 = 0) : cal 45 [vR 49, vI x1] (SH T, c) = some (some (vI 0), (SH T, c5)) := by
  refine (ev_eq _ _ _ _ _ _).trans ?_
  refine (el_call rfl h1).trans ?_
  refine (if_neg h2).trans ?_
  refine (ev_eq _ _ _ _ _ _).trans ?_
  refine (if_pos h3).trans ?_
  refine (el_call rfl h4).trans ?_
  refine (if_neg h5).trans ?_
  refine (el_call rfl h6).trans ?_
  refine (if_pos h7).trans ?_
  refine (ev_eq _ _ _ _ _ _).trans ?_
  rfl
theorem E_X6_readClause_4 {T : List Shp} {c : Nat → Int → Int} {x1 : Int} {r1 : Int} {c2 : Nat → Int → Int} {c3 : Nat → Int → Int} {r4 : Int} {c5 : Nat → Int → Int} (h1 : cal 60 [vR 49, vR (-100)] (SH T, c) = some (some (vI r1), (SH T, c2))) (h2 : ¬ r1 = (-1)) (h3 : 0 ≤ (w32 (x1 + 0)) ∧ (w32 (x1 + 0)) < 72) (h4 : cal 62 [vR 49] (SH T, (up c2 12 (w32 (x1 + 0)) r1)) = some (none, (SH T, c3))) (h5 : ¬ r1 = 4) (h6 : cal 49 [vR 49, vI x1, vI 0] (SH T, c3) = some (some (vI r4), (SH T, c5))) (h7 : ¬ r4 = 0) : cal 45 [vR 49, vI x1] (SH T, c) = some (some (vI 1), (SH T, c5)) := by
  refine (ev_eq _ _ _ _ _ _).trans ?_
  refine (el_call rfl h1).trans ?_
  refine (if_neg h2).trans ?_
  refine (ev_eq _ _ _ _ _ _).trans ?_
  refine (if_pos h3).trans ?_
  refine (el_call rfl h4).trans ?_
  refine (if_neg h5).trans ?_
  refine (el_call rfl h6).trans ?_
  refine (if_neg h7).trans ?_
  refine (ev_eq _ _ _ _ _ _).trans ?_
  rfl
theorem E_X6_readOrder_1 {T : List Shp} {c : Nat → Int → Int} {x1 : Int} {r1 : Int} {c2 : Nat → Int → Int} (h1 : cal 60 [vR 49, vR (-101)] (SH T, c) = some (some (vI r1), (SH T, c2))) (h2 : r1 = (-1)) : cal 46 [vR 49, vI x1] (SH T, c) = some (some (vI 0), (SH T, c2)) := by
  refine (ev_eq _ _ _ _ _ _).trans ?_
  refine (el_call rfl h1).trans ?_
  refine (if_pos h2).trans ?_
  rfl
theorem E_X6_readOrder_2 {T : List Shp} {c : Nat → Int → Int} {x1 : Int} {r1 : Int} {c2 : Nat → Int → Int} {c3 : Nat → Int → Int} {r4 : Int} {c5 : Nat → Int → Int} (h1 : cal 60 [vR 49, vR (-101)] (SH T, c) = some (some (vI r1), (SH T, c2))) (h2 : ¬ r1 = (-1)) (h3 : cal 62 [vR 49] (SH T, c2) = some (none, (SH T, c3))) (h4 : r1 = 0) (h5 : cal 60 [vR 49, vR (-102)] (SH T, c3) = some (some (vI r4), (SH T, c5))) (h6 : r4 = (-1)) : cal 46 [vR 49, vI x1] (SH T, c) = some (some (vI 0), (SH T, c5)) := by
  refine (ev_eq _ _ _ _ _ _).trans ?_
  refine (el_call rfl h1).trans ?_
  refine (if_neg h2).trans ?_
  refine (ev_eq _ _ _ _ _ _).trans ?_
  refine (el_call rfl h3).trans ?_
  refine (if_pos h4).trans ?_
  refine (el_call rfl h5).trans ?_
  refine (if_pos h6).trans ?_
  rfl
theorem E_X6_readOrder_3 {T : List Shp} {c : Nat → Int → Int} {x1 : Int} {r1 : Int} {c2 : Nat → Int → Int} {c3 : Nat → Int → Int} {r4 : Int} {c5 : Nat → Int → Int} {c6 : Nat → Int → Int} (h1 : cal 60 [vR 49, vR (-101)] (SH T, c) = some (some (vI r1), (SH T, c2))) (h2 : ¬ r1 = (-1)) (h3 : cal 62 [vR 49] (SH T, c2) = some (none, (SH T, c3))) (h4 : r1 = 0) (h5 : cal 60 [vR 49, vR (-102)] (SH T, c3) = some (some (vI r4), (SH T, c5))) (h6 : ¬ r4 = (-1)) (h7 : cal 62 [vR 49] (SH T, c5) = some (none, (SH T, c6))) : cal 46 [vR 49, vI x1] (SH T, c) = ev 46 101 46 [vR 49, vI x1, vI r4] [] (SH T, c6) := by
  refine (ev_eq _ _ _ _ _ _).trans ?_
  refine (el_call rfl h1).trans ?_
  refine (if_neg h2).trans ?_
  refine (ev_eq _ _ _ _ _ _).trans ?_
  refine (el_call rfl h3).trans ?_
  refine (if_pos h4).trans ?_
  refine (el_call rfl h5).trans ?_
  refine (if_neg h6).trans ?_
  refine (ev_eq _ _ _ _ _ _).trans ?_
  refine (el_call rfl h7).trans ?_
  rfl
theorem E_X6_readOrder_4 {T : List Shp} {c : Nat → Int → Int} {x1 : Int} {r1 : Int} {c2 : Nat → Int → Int} {c3 : Nat → Int → Int} (h1 : cal 60 [vR 49, vR (-101)] (SH T, c) = some (some (vI r1), (SH T, c2))) (h2 : ¬ r1 = (-1)) (h3 : cal 62 [vR 49] (SH T, c2) = some (none, (SH T, c3))) (h4 : ¬ r1 = 0) : cal 46 [vR 49, vI x1] (SH T, c) = ev 46 101 46 [vR 49, vI x1, vI (w32 (r1 + 2))] [] (SH T, c3) := by
  refine (ev_eq _ _ _ _ _ _).trans ?_
  refine (el_call rfl h1).trans ?_
  refine (if_neg h2).trans ?_
  refine (ev_eq _ _ _ _ _ _).trans ?_
  refine (el_call rfl h3).trans ?_
  refine (if_neg h4).trans ?_
  refine (ev_eq _ _ _ _ _ _).trans ?_
  rfl
theorem B_X6_readOrder_46_1 {T : List Shp} {c : Nat → Int → Int} {x1 x2 : Int} {r1 : Int} {c2 : Nat → Int → Int} (h1 : 0 ≤ (w32 (x1 + 0)) ∧ (w32 (x1 + 0)) < 72) (h2 : x2 = 2) (h3 : cal 49 [vR 49, vI x1, vI 0] (SH T, (up c 12 (w32 (x1 + 0)) x2)) = some (some (vI r1), (SH T, c2))) (h4 : r1 = 0) : ev 46 101 46 [vR 49, vI x1, vI x2] [] (SH T, c) = some (some (vI 0), (SH T, c2)) := by
  refine (ev_eq _ _ _ _ _ _).trans ?_
  refine (if_pos h1).trans ?_
  refine (if_pos h2).trans ?_
  refine (el_call rfl h3).trans ?_
  refine (if_pos h4).trans ?_
  rfl
theorem B_X6_readOrder_46_2 {T : List Shp} {c : Nat → Int → Int} {x1 x2 : Int} {r1 : Int} {c2 : Nat → Int → Int} (h1 : 0 ≤ (w32 (x1 + 0)) ∧ (w32 (x1 + 0)) < 72) (h2 : x2 = 2) (h3 : cal 49 [vR 49, vI x1, vI 0] (SH T, (up c 12 (w32 (x1 + 0)) x2)) = some (some (vI r1), (SH T, c2))) (h4 : ¬ r1 = 0) : ev 46 101 46 [vR 49, vI x1, vI x2] [] (SH T, c) = ev 46 101 74 [vR 49, vI x1, vI x2] [] (SH T, c2) := by
  refine (ev_eq _ _ _ _ _ _).trans ?_
  refine (if_pos h1).trans ?_
  refine (if_pos h2).trans ?_
  refine (el_call rfl h3).trans ?_
  refine (if_neg h4).trans ?_
  rfl
theorem B_X6_readOrder_46_3 {T : List Shp} {c : Nat → Int → Int} {x1 x2 : Int} (h1 : 0 ≤ (w32 (x1 + 0)) ∧ (w32 (x1 + 0)) < 72) (h2 : ¬ x2 = 2) : ev 46 101 46 [vR 49, vI x1, vI x2] [] (SH T, c) = ev 46 101 74 [vR 49, vI x1, vI x2] [] (SH T, (up c 12 (w32 (x1 + 0)) x2)) := by
  refine (ev_eq _ _ _ _ _ _).trans ?_
  refine (if_pos h1).trans ?_
  refine (if_neg h2).trans ?_
  rfl
theorem B_X6_readOrder_74_1 {T : List Shp} {c : Nat → Int → Int} {x1 x2 : Int} {r1 : Int} {c2 : Nat → Int → Int} (h1 : x2 = 5) (h2 : cal 49 [vR 49, vI x1, vI 0] (SH T, c) = some (some (vI r1), (SH T, c2))) (h3 : r1 = 0) : ev 46 101 74 [vR 49, vI x1, vI x2] [] (SH T, c) = some (some (vI 0), (SH T, c2)) := by
  refine (ev_eq _ _ _ _ _ _).trans ?_
  refine (if_pos h1).trans ?_
  refine (el_call rfl h2).trans ?_
  refine (if_pos h3).trans ?_
  refine (ev_eq _ _ _ _ _ _).trans ?_
  rfl
theorem B_X6_readOrder_74_2 {T : List Shp} {c : Nat → Int → Int} {x1 x2 : Int} {r1 : Int} {c2 : Nat → Int → Int} {r3 : Int} {c4 : Nat → Int → Int} (h1 : x2 = 5) (h2 : cal 49 [vR 49, vI x1, vI 0] (SH T, c) = some (some (vI r1), (SH T, c2))) (h3 : ¬ r1 = 0) (h4 : cal 59 [vR 49, vR (-103)] (SH T, c2) = some (some (vI r3), (SH T, c4))) (h5 : r3 = 0) : ev 46 101 74 [vR 49, vI x1, vI x2] [] (SH T, c) = some (some (vI 0), (SH T, c4)) := by
  refine (ev_eq _ _ _ _ _ _).trans ?_
  refine (if_pos h1).trans ?_
  refine (el_call rfl h2).trans ?_
  refine (if_neg h3).trans ?_
  refine (el_call rfl h4).trans ?_
  refine (if_pos h5).trans ?_
  refine (ev_eq _ _ _ _ _ _).trans ?_
  rfl
theorem B_X6_readOrder_74_3 {T : List Shp} {c : Nat → Int → Int} {x1 x2 : Int} {r1 : Int} {c2 : Nat → Int → Int} {r3 : Int} {c4 : Nat → Int → Int} {r5 : Int} {c6 : Nat → Int → Int} (h1 : x2 = 5) (h2 : cal 49 [vR 49, vI x1, vI 0] (SH T, c) = some (some (vI r1), (SH T, c2))) (h3 : ¬ r1 = 0) (h4 : cal 59 [vR 49, vR (-103)] (SH T, c2) = some (some (vI r3), (SH T, c4))) (h5 : ¬ r3 = 0) (h6 : cal 49 [vR 49, vI x1, vI 1] (SH T, c4) = some (some (vI r5), (SH T, c6))) (h7 : r5 = 0) : ev 46 101 74 [vR 49, vI x1, vI x2] [] (SH T, c) = some (some (vI 0), (SH T, c6)) := by
  refine (ev_eq _ _ _ _ _ _).trans ?_
  refine (if_pos h1).trans ?_
  refine (el_call rfl h2).trans ?_
  refine (if_neg h3).trans ?_
  refine (el_call rfl h4).trans ?_
  refine (if_neg h5).trans ?_
  refine (el_call rfl h6).trans ?_
  refine (if_pos h7).trans ?_
  refine (ev_eq _ _ _ _ _ _).trans ?_
  rfl
theorem B_X6_readOrder_74_4 {T : List Shp} {c : Nat → Int → Int} {x1 x2 : Int} {r1 : Int} {c2 : Nat → Int → Int} {r3 : Int} {c4 : Nat → Int → Int} {r5 : Int} {c6 : Nat → Int → Int} {r7 : Int} {c8 : Nat → Int → Int} (h1 : x2 = 5) (h2 : cal 49 [vR 49, vI x1, vI 0] (SH T, c) = some (some (vI r1), (SH T, c2))) (h3 : ¬ r1 = 0) (h4 : cal 59 [vR 49, vR (-103)] (SH T, c2) = some (some (vI r3), (SH T, c4))) (h5 : ¬ r3 = 0) (h6 : cal 49 [vR 49, vI x1, vI 1] (SH T, c4) = some (some (vI r5), (SH T, c6))) (h7 : ¬ r5 = 0) (h8 : cal 59 [vR 49, vR (-104)] (SH T, c6) = some (some (vI r7), (SH T, c8))) (h9 : r7 = 0) : ev 46 101 74 [vR 49, vI x1, vI x2] [] (SH T, c) = some (some (vI 0), (SH T, c8)) := by
  refine (ev_eq _ _ _ _ _ _).trans ?_
  refine (if_pos h1).trans ?_
  refine (el_call rfl h2).trans ?_
  refine (if_neg h3).trans ?_
  refine (el_call rfl h4).trans ?_
  refine (if_neg h5).trans ?_
  refine (el_call rfl h6).trans ?_
  refine (if_neg h7).trans ?_
  refine (el_call rfl h8).trans ?_
  refine (if_pos h9).trans ?_
  refine (ev_eq _ _ _ _ _ _).trans ?_
  rfl
theorem B_X6_readOrder_74_5 {T : List Shp} {c : Nat → Int → Int} {x1 x2 : Int} {r1 : Int} {c2 : Nat → Int → Int} {r3 : Int} {c4 : Nat → Int → Int} {r5 : Int} {c6 : Nat → Int → Int} {r7 : Int} {c8 : Nat → Int → Int} {r9 : Int} {c10 : Nat → Int → Int} (h1 : x2 = 5) (h2 : cal 49 [vR 49, vI x1, vI 0] (SH T, c) = some (some (vI r1), (SH T, c2))) (h3 : ¬ r1 = 0) (h4 : cal 59 [vR 49, vR (-103)] (SH T, c2) = some (some (vI r3), (SH T, c4))) (h5 : ¬ r3 = 0) (h6 : cal 49 [vR 49, vI x1, vI 1] (SH T, c4) = some (some (vI r5), (SH T, c6))) (h7 : ¬ r5 = 0) (h8 : cal 59 [vR 49, vR (-104)] (SH T, c6) = some (some (vI r7), (SH T, c8))) (h9 : ¬ r7 = 0) (h10 : cal 49 [vR 49, vI x1, vI 2] (SH T, c8) = some (some (vI r9), (SH T, c10))) (h11 : r9 = 0) : ev 46 101 74 [vR 49, vI x1, vI x2] [] (SH T, c) = some (some (vI 0), (SH T, c10)) := by
  refine (ev_eq _ _ _ _ _ _).trans ?_
  refine (if_pos h1).trans ?_
  refine (el_call rfl h2).trans ?_
  refine (if_neg h3).trans ?_
  refine (el_call rfl h4).trans ?_
  refine (if_neg h5).trans ?_
  refine (el_call rfl h6).trans ?_
  refine (if_neg h7).trans ?_
  refine (el_call rfl h8).trans ?_
  refine (if_neg h9).trans ?_
  refine (el_call rfl h10).trans ?_
  refine (if_pos h11).trans ?_
  refine (ev_eq _ _ _ _ _ _).trans ?_
  rfl
theorem B_X6_readOrder_74_6 {T : List Shp} {c : Nat → Int → Int} {x1 x2 : Int} {r1 : Int} {c2 : Nat → Int → Int} {r3 : Int} {c4 : Nat → Int → Int} {r5 : Int} {c6 : Nat → Int → Int} {r7 : Int} {c8 : Nat → Int → Int} {r9 : Int} {c10 : Nat → Int → Int} (h1 : x2 = 5) (h2 : cal 49 [vR 49, vI x1, vI 0] (SH T, c) = some (some (vI r1), (SH T, c2))) (h3 : ¬ r1 = 0) (h4 : cal 59 [vR 49, vR (-103)] (SH T, c2) = some (some (vI r3), (SH T, c4))) (h5 : ¬ r3 = 0) (h6 : cal 49 [vR 49, vI x1, vI 1] (SH T, c4) = some (some (vI r5), (SH T, c6))) (h7 : ¬ r5 = 0) (h8 : cal 59 [vR 49, vR (-104)] (SH T, c6) = some (some (vI r7), (SH T, c8))) (h9 : ¬ r7 = 0) (h10 : cal 49 [vR 49, vI x1, vI 2] (SH T, c8) = some (some (vI r9), (SH T, c10))) (h11 : ¬ r9 = 0) : ev 46 101 74 [vR 49, vI x1, vI x2] [] (SH T, c) = ev 46 101 126 [vR 49, vI x1, vU] [] (SH T, c10) := by
  refine (ev_eq _ _ _ _ _ _).trans ?_
  refine (if_pos h1).trans ?_
  refine (el_call rfl h2).trans ?_
  refine (if_neg h3).trans ?_
  refine (el_call rfl h4).trans ?_
  refine (if_neg h5).trans ?_
  refine (el_call rfl h6).trans ?_
  refine (if_neg h7).trans ?_
  refine (el_call rfl h8).trans ?_
  refine (if_neg h9).trans ?_
  refine (el_call rfl h10).trans ?_
  refine (if_neg h11).trans ?_
  rfl
theorem B_X6_readOrder_74_7 {T : List Shp} {c : Nat → Int → Int} {x1 x2 : Int} (h1 : ¬ x2 = 5) : ev 46 101 74 [vR 49, vI x1, vI x2] [] (SH T, c) = ev 46 101 126 [vR 49, vI x1, vU] [] (SH T, c) := by
  refine (ev_eq _ _ _ _ _ _).trans ?_
  refine (if_neg h1).trans ?_
  rfl
theorem B_X6_readOrder_126 {T : List Shp} {c : Nat → Int → Int} {x1 : Int} {r1 : Int} {c2 : Nat → Int → Int} (h1 : cal 47 [vR 49, vI x1] (SH T, c) = some (some (vI r1), (SH T, c2))) (h2 : r1 = 0 ∨ r1 = 1) : ev 46 101 126 [vR 49, vI x1, vU] [] (SH T, c) = some (some (vI r1), (SH T, c2)) := by
  refine (ev_eq _ _ _ _ _ _).trans ?_
  refine (el_call rfl h1).trans ?_
  refine (if_pos h2).trans ?_
  rfl
theorem E_X6_readTimes_1 {T : List Shp} {c : Nat → Int → Int} {x1 : Int} {r1 : Int} {c2 : Nat → Int → Int} (h1 : cal 59 [vR 49, vR (-105)] (SH T, c) = some (some (vI r1), (SH T, c2))) (h2 : r1 = 0) : cal 47 [vR 49, vI x1] (SH T, c) = some (some (vI 1), (SH T, c2)) := by
  refine (ev_eq _ _ _ _ _ _).trans ?_
  refine (el_call rfl h1).trans ?_
  refine (if_pos h2).trans ?_
  rfl
theorem E_X6_readTimes_2 {T : List Shp} {c : Nat → Int → Int} {x1 : Int} {r1 : Int} {c2 : Nat → Int → Int} (h1 : cal 59 [vR 49, vR (-105)] (SH T, c) = some (some (vI r1), (SH T, c2))) (h2 : ¬ r1 = 0) (h3 : (c2 48 4) = 1) (h4 : (c2 48 7) < 1) : cal 47 [vR 49, vI x1] (SH T, c) = some (some (vI 0), (SH T, c2)) := by
  refine (ev_eq _ _ _ _ _ _).trans ?_
  refine (el_call rfl h1).trans ?_
  refine (if_neg h2).trans ?_
  refine (ev_eq _ _ _ _ _ _).trans ?_
  refine (if_pos h3).trans ?_
  refine (if_pos h4).trans ?_
  refine (ev_eq _ _ _ _ _ _).trans ?_
  rfl
theorem E_X6_readTimes_3 {T : List Shp} {c : Nat → Int → Int} {x1 : Int} {r1 : Int} {c2 : Nat → Int → Int} (h1 : cal 59 [vR 49, vR (-105)] (SH T, c) = some (some (vI r1), (SH T, c2))) (h2 : ¬ r1 = 0) (h3 : (c2 48 4) = 1) (h4 : ¬ (c2 48 7) < 1) (h5 : 20 < (c2 48 7)) : cal 47 [vR 49, vI x1] (SH T, c) = some (some (vI 0), (SH T, c2)) := by
  refine (ev_eq _ _ _ _ _ _).trans ?_
  refine (el_call rfl h1).trans ?_
  refine (if_neg h2).trans ?_
  refine (ev_eq _ _ _ _ _ _).trans ?_
  refine (if_pos h3).trans ?_
  refine (if_neg h4).trans ?_
  refine (if_pos h5).trans ?_
  refine (ev_eq _ _ _ _ _ _).trans ?_
  rfl
theorem E_X6_readTimes_4 {T : List Shp} {c : Nat → Int → Int} {x1 : Int} {r1 : Int} {c2 : Nat → Int → Int} {c3 : Nat → Int → Int} (h1 : cal 59 [vR 49, vR (-105)] (SH T, c) = some (some (vI r1), (SH T, c2))) (h2 : ¬ r1 = 0) (h3 : (c2 48 4) = 1) (h4 : ¬ (c2 48 7) < 1) (h5 : ¬ 20 < (c2 48 7)) (h6 : 0 ≤ (w32 (x1 + 1)) ∧ (w32 (x1 + 1)) < 72) (h7 : cal 62 [vR 49] (SH T, (up c2 12 (w32 (x1 + 1)) (c2 48 7))) = some (none, (SH T, c3))) : cal 47 [vR 49, vI x1] (SH T, c) = some (some (vI 1), (SH T, c3)) := by
  refine (ev_eq _ _ _ _ _ _).trans ?_
  refine (el_call rfl h1).trans ?_
  refine (if_neg h2).trans ?_
  refine (ev_eq _ _ _ _ _ _).trans ?_
  refine (if_pos h3).trans ?_
  refine (if_neg h4).trans ?_
  refine (if_neg h5).trans ?_
  refine (ev_eq _ _ _ _ _ _).trans ?_
  refine (if_pos h6).trans ?_
  refine (el_call rfl h7).trans ?_
  rfl
theorem E_X6_readTimes_5 {T : List Shp} {c : Nat → Int → Int} {x1 : Int} {r1 : Int} {c2 : Nat → Int → Int} (h1 : cal 59 [vR 49, vR (-105)] (SH T, c) = some (some (vI r1), (SH T, c2))) (h2 : ¬ r1 = 0) (h3 : ¬ (c2 48 4) = 1) : cal 47 [vR 49, vI x1] (SH T, c) = some (some (vI 0), (SH T, c2)) := by
  refine (ev_eq _ _ _ _ _ _).trans ?_
  refine (el_call rfl h1).trans ?_
  refine (if_neg h2).trans ?_
  refine (ev_eq _ _ _ _ _ _).trans ?_
  refine (if_neg h3).trans ?_
  refine (ev_eq _ _ _ _ _ _).trans ?_
  rfl
theorem E_X6_readIf_1 {T : List Shp} {c : Nat → Int → Int} {x1 : Int} {r1 : Int} {c2 : Nat → Int → Int} (h1 : cal 59 [vR 49, vR (-106)] (SH T, c) = some (some (vI r1), (SH T, c2))) (h2 : r1 = 0) : cal 48 [vR 49, vI x1] (SH T, c) = some (some (vI 1), (SH T, c2)) := by
  refine (ev_eq _ _ _ _ _ _).trans ?_
  refine (el_call rfl h1).trans ?_
  refine (if_pos h2).trans ?_
  rfl
theorem E_X6_readIf_2 {T : List Shp} {c : Nat → Int → Int} {x1 : Int} {r1 : Int} {c2 : Nat → Int → Int} {r3 : Int} {c4 : Nat → Int → Int} {c5 : Nat → Int → Int} (h1 : cal 59 [vR 49, vR (-106)] (SH T, c) = some (some (vI r1), (SH T, c2))) (h2 : ¬ r1 = 0) (h3 : 0 ≤ (w32 (x1 + 2)) ∧ (w32 (x1 + 2)) < 72) (h4 : cal 50 [vR 49, vI 0] (SH T, (up c2 12 (w32 (x1 + 2)) (c2 11 3))) = some (some (vI r3), (SH T, c4))) (h5 : cal 110 [vR 12, vI 12, vI 0] (SH T, c4) = some (none, (SH T, c5))) (h6 : r3 = 0 ∨ r3 = 1) : cal 48 [vR 49, vI x1] (SH T, c) = some (some (vI r3), (SH T, c5)) := by
  refine (ev_eq _ _ _ _ _ _).trans ?_
  refine (el_call rfl h1).trans ?_
  refine (if_neg h2).trans ?_
  refine (ev_eq _ _ _ _ _ _).trans ?_
  refine (if_pos h3).trans ?_
  refine (el_call rfl h4).trans ?_
  refine (el_call rfl h5).trans ?_
  refine (if_pos h6).trans ?_
  rfl
theorem E_X6_readSumOf {T : List Shp} {c : Nat → Int → Int} {x1 x2 : Int} {r1 : Int} {c2 : Nat → Int → Int} {c3 : Nat → Int → Int} (h1 : 0 ≤ (w32 ((w32 (x1 + 3)) + x2)) ∧ (w32 ((w32 (x1 + 3)) + x2)) < 72) (h2 : cal 53 [vR 49, vI 0] (SH T, (up c 12 (w32 ((w32 (x1 + 3)) + x2)) (c 11 3))) = some (some (vI r1), (SH T, c2))) (h3 : cal 110 [vR 12, vI 12, vI 0] (SH T, c2) = some (none, (SH T, c3))) (h4 : r1 = 0 ∨ r1 = 1) : cal 49 [vR 49, vI x1, vI x2] (SH T, c) = some (some (vI r1), (SH T, c3)) := by
  refine (ev_eq _ _ _ _ _ _).trans ?_
  refine (if_pos h1).trans ?_
  refine (el_call rfl h2).trans ?_
  refine (el_call rfl h3).trans ?_
  refine (if_pos h4).trans ?_
  rfl
theorem E_X6_readTest {T : List Shp} {c : Nat → Int → Int} {x1 : Int} {r1 : Int} {c2 : Nat → Int → Int} (h1 : (11 + 10 * (9 - x1).toNat) + 1 ≤ (12 + 10 * (9 - x1).toNat)) (h2 : cal 51 [vR 49, vI x1] (SH T, c) = some (some (vI r1), (SH T, c2))) : cal 50 [vR 49, vI x1] (SH T, c) = ev 50 (12 + 10 * (9 - x1).toNat) 8 [vR 49, vI x1, vI r1, vI 0, vU] [] (SH T, c2) := by
  refine (ev_eq _ _ _ _ _ _).trans ?_
  refine (el_call (Nat.ble_eq_true_of_le h1) h2).trans ?_
  rfl
theorem B_X6_readTest_8_1 {T : List Shp} {c : Nat → Int → Int} {nd : Nat} {x1 x2 x3 : Int} (h1 : x2 = 0) (h2 : x2 = 0 ∨ x2 = 1) : ev 50 nd 8 [vR 49, vI x1, vI x2, vI x3, vU] [] (SH T, c) = some (some (vI x2), (SH T, c)) := by
  refine (ev_eq _ _ _ _ _ _).trans ?_
  refine (if_pos h1).trans ?_
  refine (ev_eq _ _ _ _ _ _).trans ?_
  refine (if_pos h2).trans ?_
  rfl
theorem B_X6_readTest_8_2 {T : List Shp} {c : Nat → Int → Int} {nd : Nat} {x1 x2 x3 : Int} {r1 : Int} {c2 : Nat → Int → Int} (h1 : ¬ x2 = 0) (h2 : x3 < 400) (h3 : 6 + 1 ≤ nd) (h4 : cal 59 [vR 49, vR (-107)] (SH T, c) = some (some (vI r1), (SH T, c2))) (h5 : r1 = 0) (h6 : x2 = 0 ∨ x2 = 1) : ev 50 nd 8 [vR 49, vI x1, vI x2, vI x3, vU] [] (SH T, c) = some (some (vI x2), (SH T, c2)) := by
  refine (ev_eq _ _ _ _ _ _).trans ?_
  refine (if_neg h1).trans ?_
  refine (if_pos h2).trans ?_
  refine (el_call (Nat.ble_eq_true_of_le h3) h4).trans ?_
  refine (if_pos h5).trans ?_
  refine (ev_eq _ _ _ _ _ _).trans ?_
  refine (if_pos h6).trans ?_
  rfl
theorem B_X6_readTest_8_3 {T : List Shp} {c : Nat → Int → Int} {nd : Nat} {x1 x2 x3 : Int} {r1 : Int} {c2 : Nat → Int → Int} {c3 : Nat → Int → Int} {r4 : Int} {c5 : Nat → Int → Int} {c6 : Nat → Int → Int} (h1 : ¬ x2 = 0) (h2 : x3 < 400) (h3 : 6 + 1 ≤ nd) (h4 : cal 59 [vR 49, vR (-107)] (SH T, c) = some (some (vI r1), (SH T, c2))) (h5 : ¬ r1 = 0) (h6 : 1 + 1 ≤ nd) (h7 : cal 110 [vR 12, vI 10, vI 0] (SH T, c2) = some (none, (SH T, c3))) (h8 : (11 + 10 * (9 - x1).toNat) + 1 ≤ nd) (h9 : cal 51 [vR 49, vI x1] (SH T, c3) = some (some (vI r4), (SH T, c5))) (h10 : 1 + 1 ≤ nd) (h11 : cal 111 [vR 12, vI (c2 11 3)] (SH T, c5) = some (none, (SH T, c6))) : ev 50 nd 8 [vR 49, vI x1, vI x2, vI x3, vU] [] (SH T, c) = ev 50 nd 8 [vR 49, vI x1, vI r4, vI (w32 (x3 + 1)), vU] [] (SH T, c6) := by
  refine (ev_eq _ _ _ _ _ _).trans ?_
  refine (if_neg h1).trans ?_
  refine (if_pos h2).trans ?_
  refine (el_call (Nat.ble_eq_true_of_le h3) h4).trans ?_
  refine (if_neg h5).trans ?_
  refine (el_call (Nat.ble_eq_true_of_le h6) h7).trans ?_
  refine (el_call (Nat.ble_eq_true_of_le h8) h9).trans ?_
  refine (el_call (Nat.ble_eq_true_of_le h10) h11).trans ?_
  rfl
theorem B_X6_readTest_8_4 {T : List Shp} {c : Nat → Int → Int} {nd : Nat} {x1 x2 x3 : Int} (h1 : ¬ x2 = 0) (h2 : ¬ x3 < 400) (h3 : x2 = 0 ∨ x2 = 1) : ev 50 nd 8 [vR 49, vI x1, vI x2, vI x3, vU] [] (SH T, c) = some (some (vI x2), (SH T, c)) := by
  refine (ev_eq _ _ _ _ _ _).trans ?_
  refine (if_neg h1).trans ?_
  refine (if_neg h2).trans ?_
  refine (ev_eq _ _ _ _ _ _).trans ?_
  refine (if_pos h3).trans ?_
  rfl
theorem E_X6_readBoth {T : List Shp} {c : Nat → Int → Int} {x1 : Int} {r1 : Int} {c2 : Nat → Int → Int} (h1 : (10 + 10 * (9 - x1).toNat) + 1 ≤ (11 + 10 * (9 - x1).toNat)) (h2 : cal 52 [vR 49, vI x1] (SH T, c) = some (some (vI r1), (SH T, c2))) : cal 51 [vR 49, vI x1] (SH T, c) = ev 51 (11 + 10 * (9 - x1).toNat) 8 [vR 49, vI x1, vI r1, vI 0, vU] [] (SH T, c2) := by
  refine (ev_eq _ _ _ _ _ _).trans ?_
  refine (el_call (Nat.ble_eq_true_of_le h1) h2).trans ?_
  rfl
theorem B_X6_readBoth_8_1 {T : List Shp} {c : Nat → Int → Int} {nd : Nat} {x1 x2 x3 : Int} (h1 : x2 = 0) (h2 : x2 = 0 ∨ x2 = 1) : ev 51 nd 8 [vR 49, vI x1, vI x2, vI x3, vU] [] (SH T, c) = some (some (vI x2), (SH T, c)) := by
  refine (ev_eq _ _ _ _ _ _).trans ?_
  refine (if_pos h1).trans ?_
  refine (ev_eq _ _ _ _ _ _).trans ?_
  refine (if_pos h2).trans ?_
  rfl
theorem B_X6_readBoth_8_2 {T : List Shp} {c : Nat → Int → Int} {nd : Nat} {x1 x2 x3 : Int} {r1 : Int} {c2 : Nat → Int → Int} (h1 : ¬ x2 = 0) (h2 : x3 < 400) (h3 : 6 + 1 ≤ nd) (h4 : cal 59 [vR 49, vR (-108)] (SH T, c) = some (some (vI r1), (SH T, c2))) (h5 : r1 = 0) (h6 : x2 = 0 ∨ x2 = 1) : ev 51 nd 8 [vR 49, vI x1, vI x2, vI x3, vU] [] (SH T, c) = some (some (vI x2), (SH T, c2)) := by
  refine (ev_eq _ _ _ _ _ _).trans ?_
  refine (if_neg h1).trans ?_
  refine (if_pos h2).trans ?_
  refine (el_call (Nat.ble_eq_true_of_le h3) h4).trans ?_
  refine (if_pos h5).trans ?_
  refine (ev_eq _ _ _ _ _ _).trans ?_
  refine (if_pos h6).trans ?_
  rfl
theorem B_X6_readBoth_8_3 {T : List Shp} {c : Nat → Int → Int} {nd : Nat} {x1 x2 x3 : Int} {r1 : Int} {c2 : Nat → Int → Int} {c3 : Nat → Int → Int} {r4 : Int} {c5 : Nat → Int → Int} {c6 : Nat → Int → Int} (h1 : ¬ x2 = 0) (h2 : x3 < 400) (h3 : 6 + 1 ≤ nd) (h4 : cal 59 [vR 49, vR (-108)] (SH T, c) = some (some (vI r1), (SH T, c2))) (h5 : ¬ r1 = 0) (h6 : 1 + 1 ≤ nd) (h7 : cal 110 [vR 12, vI 11, vI 0] (SH T, c2) = some (none, (SH T, c3))) (h8 : (10 + 10 * (9 - x1).toNat) + 1 ≤ nd) (h9 : cal 52 [vR 49, vI x1] (SH T, c3) = some (some (vI r4), (SH T, c5))) (h10 : 1 + 1 ≤ nd) (h11 : cal 111 [vR 12, vI (c2 11 3)] (SH T, c5) = some (none, (SH T, c6))) : ev 51 nd 8 [vR 49, vI x1, vI x2, vI x3, vU] [] (SH T, c) = ev 51 nd 8 [vR 49, vI x1, vI r4, vI (w32 (x3 + 1)), vU] [] (SH T, c6) := by
  refine (ev_eq _ _ _ _ _ _).trans ?_
  refine (if_neg h1).trans ?_
  refine (if_pos h2).trans ?_
  refine (el_call (Nat.ble_eq_true_of_le h3) h4).trans ?_
  refine (if_neg h5).trans ?_
  refine (el_call (Nat.ble_eq_true_of_le h6) h7).trans ?_
  refine (el_call (Nat.ble_eq_true_of_le h8) h9).trans ?_
  refine (el_call (Nat.ble_eq_true_of_le h10) h11).trans ?_
  rfl
theorem B_X6_readBoth_8_4 {T : List Shp} {c : Nat → Int → Int} {nd : Nat} {x1 x2 x3 : Int} (h1 : ¬ x2 = 0) (h2 : ¬ x3 < 400) (h3 : x2 = 0 ∨ x2 = 1) : ev 51 nd 8 [vR 49, vI x1, vI x2, vI x3, vU] [] (SH T, c) = some (some (vI x2), (SH T, c)) := by
  refine (ev_eq _ _ _ _ _ _).trans ?_
  refine (if_neg h1).trans ?_
  refine (if_neg h2).trans ?_
  refine (ev_eq _ _ _ _ _ _).trans ?_
  refine (if_pos h3).trans ?_
  rfl
theorem E_X6_readPlain {T : List Shp} {c : Nat → Int → Int} {x1 : Int}  : cal 52 [vR 49, vI x1] (SH T, c) = ev 52 (10 + 10 * (9 - x1).toNat) 4 [vR 49, vI x1, vI 0, vI 0, vU] [] (SH T, c) := by
  refine (ev_eq _ _ _ _ _ _).trans ?_
  rfl
theorem B_X6_readPlain_4_1 {T : List Shp} {c : Nat → Int → Int} {nd : Nat} {x1 x2 x3 : Int} {r1 : Int} {c2 : Nat → Int → Int} (h1 : x3 < 400) (h2 : 6 + 1 ≤ nd) (h3 : cal 59 [vR 49, vR (-109)] (SH T, c) = some (some (vI r1), (SH T, c2))) (h4 : r1 = 0) : ev 52 nd 4 [vR 49, vI x1, vI x2, vI x3, vU] [] (SH T, c) = ev 52 nd 36 [vR 49, vI x1, vI x2, vU, vU] [] (SH T, c2) := by
  refine (ev_eq _ _ _ _ _ _).trans ?_
  refine (if_pos h1).trans ?_
  refine (el_call (Nat.ble_eq_true_of_le h2) h3).trans ?_
  refine (if_pos h4).trans ?_
  rfl
theorem B_X6_readPlain_4_2 {T : List Shp} {c : Nat → Int → Int} {nd : Nat} {x1 x2 x3 : Int} {r1 : Int} {c2 : Nat → Int → Int} (h1 : x3 < 400) (h2 : 6 + 1 ≤ nd) (h3 : cal 59 [vR 49, vR (-109)] (SH T, c) = some (some (vI r1), (SH T, c2))) (h4 : ¬ r1 = 0) (h5 : x2 = 0) : ev 52 nd 4 [vR 49, vI x1, vI x2, vI x3, vU] [] (SH T, c) = ev 52 nd 4 [vR 49, vI x1, vI 1, vI (w32 (x3 + 1)), vU] [] (SH T, c2) := by
  refine (ev_eq _ _ _ _ _ _).trans ?_
  refine (if_pos h1).trans ?_
  refine (el_call (Nat.ble_eq_true_of_le h2) h3).trans ?_
  refine (if_neg h4).trans ?_
  refine (if_pos h5).trans ?_
  rfl
theorem B_X6_readPlain_4_3 {T : List Shp} {c : Nat → Int → Int} {nd : Nat} {x1 x2 x3 : Int} {r1 : Int} {c2 : Nat → Int → Int} (h1 : x3 < 400) (h2 : 6 + 1 ≤ nd) (h3 : cal 59 [vR 49, vR (-109)] (SH T, c) = some (some (vI r1), (SH T, c2))) (h4 : ¬ r1 = 0) (h5 : ¬ x2 = 0) : ev 52 nd 4 [vR 49, vI x1, vI x2, vI x3, vU] [] (SH T, c) = ev 52 nd 4 [vR 49, vI x1, vI 0, vI (w32 (x3 + 1)), vU] [] (SH T, c2) := by
  refine (ev_eq _ _ _ _ _ _).trans ?_
  refine (if_pos h1).trans ?_
  refine (el_call (Nat.ble_eq_true_of_le h2) h3).trans ?_
  refine (if_neg h4).trans ?_
  refine (if_neg h5).trans ?_
  refine (ev_eq _ _ _ _ _ _).trans ?_
  rfl
theorem B_X6_readPlain_4_4 {T : List Shp} {c : Nat → Int → Int} {nd : Nat} {x1 x2 x3 : Int} (h1 : ¬ x3 < 400) : ev 52 nd 4 [vR 49, vI x1, vI x2, vI x3, vU] [] (SH T, c) = ev 52 nd 36 [vR 49, vI x1, vI x2, vU, vU] [] (SH T, c) := by
  refine (ev_eq _ _ _ _ _ _).trans ?_
  refine (if_neg h1).trans ?_
  rfl
theorem B_X6_readPlain_36_1 {T : List Shp} {c : Nat → Int → Int} {nd : Nat} {x1 x2 : Int} {r1 : Int} {c2 : Nat → Int → Int} {r3 : Int} {c4 : Nat → Int → Int} {r5 : Int} {c6 : Nat → Int → Int} {r7 : Int} {c8 : Nat → Int → Int} (h1 : 1 + 1 ≤ nd) (h2 : cal 57 [vR 49, vI 40] (SH T, c) = some (some (vI r1), (SH T, c2))) (h3 : r1 = 0) (h4 : (9 + 10 * (9 - x1).toNat) + 1 ≤ nd) (h5 : cal 53 [vR 49, vI x1] (SH T, c2) = some (some (vI r3), (SH T, c4))) (h6 : 1 + 1 ≤ nd) (h7 : cal 57 [vR 49, vI 60] (SH T, c4) = some (some (vI r5), (SH T, c6))) (h8 : r5 = 0) (h9 : 1 + 1 ≤ nd) (h10 : cal 57 [vR 49, vI 62] (SH T, c6) = some (some (vI r7), (SH T, c8))) (h11 : r7 = 0) : ev 52 nd 36 [vR 49, vI x1, vI x2, vU, vU] [] (SH T, c) = ev 52 nd 117 [vR 49, vI x1, vI x2, vI r3, vU] [vI 8] (SH T, c8) := by
  refine (ev_eq _ _ _ _ _ _).trans ?_
  refine (el_call (Nat.ble_eq_true_of_le h1) h2).trans ?_
  refine (if_pos h3).trans ?_
  refine (ev_eq _ _ _ _ _ _).trans ?_
  refine (el_call (Nat.ble_eq_true_of_le h4) h5).trans ?_
  refine (el_call (Nat.ble_eq_true_of_le h6) h7).trans ?_
  refine (if_pos h8).trans ?_
  refine (ev_eq _ _ _ _ _ _).trans ?_
  refine (el_call (Nat.ble_eq_true_of_le h9) h10).trans ?_
  refine (if_pos h11).trans ?_
  refine (ev_eq _ _ _ _ _ _).trans ?_
  rfl
theorem B_X6_readPlain_36_2 {T : List Shp} {c : Nat → Int → Int} {nd : Nat} {x1 x2 : Int} {r1 : Int} {c2 : Nat → Int → Int} {r3 : Int} {c4 : Nat → Int → Int} {r5 : Int} {c6 : Nat → Int → Int} {r7 : Int} {c8 : Nat → Int → Int} (h1 : 1 + 1 ≤ nd) (h2 : cal 57 [vR 49, vI 40] (SH T, c) = some (some (vI r1), (SH T, c2))) (h3 : r1 = 0) (h4 : (9 + 10 * (9 - x1).toNat) + 1 ≤ nd) (h5 : cal 53 [vR 49, vI x1] (SH T, c2) = some (some (vI r3), (SH T, c4))) (h6 : 1 + 1 ≤ nd) (h7 : cal 57 [vR 49, vI 60] (SH T, c4) = some (some (vI r5), (SH T, c6))) (h8 : r5 = 0) (h9 : 1 + 1 ≤ nd) (h10 : cal 57 [vR 49, vI 62] (SH T, c6) = some (some (vI r7), (SH T, c8))) (h11 : ¬ r7 = 0) : ev 52 nd 36 [vR 49, vI x1, vI x2, vU, vU] [] (SH T, c) = ev 52 nd 117 [vR 49, vI x1, vI x2, vI r3, vU] [vI 7] (SH T, c8) := by
  refine (ev_eq _ _ _ _ _ _).trans ?_
  refine (el_call (Nat.ble_eq_true_of_le h1) h2).trans ?_
  refine (if_pos h3).trans ?_
  refine (ev_eq _ _ _ _ _ _).trans ?_
  refine (el_call (Nat.ble_eq_true_of_le h4) h5).trans ?_
  refine (el_call (Nat.ble_eq_true_of_le h6) h7).trans ?_
  refine (if_pos h8).trans ?_
  refine (ev_eq _ _ _ _ _ _).trans ?_
  refine (el_call (Nat.ble_eq_true_of_le h9) h10).trans ?_
  refine (if_neg h11).trans ?_
  rfl
theorem B_X6_readPlain_36_3 {T : List Shp} {c : Nat → Int → Int} {nd : Nat} {x1 x2 : Int} {r1 : Int} {c2 : Nat → Int → Int} {r3 : Int} {c4 : Nat → Int → Int} {r5 : Int} {c6 : Nat → Int → Int} (h1 : 1 + 1 ≤ nd) (h2 : cal 57 [vR 49, vI 40] (SH T, c) = some (some (vI r1), (SH T, c2))) (h3 : r1 = 0) (h4 : (9 + 10 * (9 - x1).toNat) + 1 ≤ nd) (h5 : cal 53 [vR 49, vI x1] (SH T, c2) = some (some (vI r3), (SH T, c4))) (h6 : 1 + 1 ≤ nd) (h7 : cal 57 [vR 49, vI 60] (SH T, c4) = some (some (vI r5), (SH T, c6))) (h8 : ¬ r5 = 0) : ev 52 nd 36 [vR 49, vI x1, vI x2, vU, vU] [] (SH T, c) = ev 52 nd 117 [vR 49, vI x1, vI x2, vI r3, vU] [vI 6] (SH T, c6) := by
  refine (ev_eq _ _ _ _ _ _).trans ?_
  refine (el_call (Nat.ble_eq_true_of_le h1) h2).trans ?_
  refine (if_pos h3).trans ?_
  refine (ev_eq _ _ _ _ _ _).trans ?_
  refine (el_call (Nat.ble_eq_true_of_le h4) h5).trans ?_
  refine (el_call (Nat.ble_eq_true_of_le h6) h7).trans ?_
  refine (if_neg h8).trans ?_
  rfl
theorem B_X6_readPlain_36_4 {T : List Shp} {c : Nat → Int → Int} {nd : Nat} {x1 x2 : Int} {r1 : Int} {c2 : Nat → Int → Int} {r3 : Int} {c4 : Nat → Int → Int} (h1 : 1 + 1 ≤ nd) (h2 : cal 57 [vR 49, vI 40] (SH T, c) = some (some (vI r1), (SH T, c2))) (h3 : ¬ r1 = 0) (h4 : 3 + 1 ≤ nd) (h5 : cal 56 [vR 49, vI x1] (SH T, c2) = some (some (vI r3), (SH T, c4))) (h6 : r3 = 0) : ev 52 nd 36 [vR 49, vI x1, vI x2, vU, vU] [] (SH T, c) = ev 52 nd 76 [vR 49, vU, vI x2, vU, vU] [] (SH T, c4) := by
  refine (ev_eq _ _ _ _ _ _).trans ?_
  refine (el_call (Nat.ble_eq_true_of_le h1) h2).trans ?_
  refine (if_neg h3).trans ?_
  refine (el_call (Nat.ble_eq_true_of_le h4) h5).trans ?_
  refine (if_pos h6).trans ?_
  rfl
theorem B_X6_readPlain_36_5 {T : List Shp} {c : Nat → Int → Int} {nd : Nat} {x1 x2 : Int} {r1 : Int} {c2 : Nat → Int → Int} {r3 : Int} {c4 : Nat → Int → Int} {r5 : Int} {c6 : Nat → Int → Int} (h1 : 1 + 1 ≤ nd) (h2 : cal 57 [vR 49, vI 40] (SH T, c) = some (some (vI r1), (SH T, c2))) (h3 : ¬ r1 = 0) (h4 : 3 + 1 ≤ nd) (h5 : cal 56 [vR 49, vI x1] (SH T, c2) = some (some (vI r3), (SH T, c4))) (h6 : ¬ r3 = 0) (h7 : (12 + 10 * (9 - (w32 (x1 + 1))).toNat) + 1 ≤ nd) (h8 : cal 50 [vR 49, vI (w32 (x1 + 1))] (SH T, c4) = some (some (vI r5), (SH T, c6))) (h9 : r5 = 0) : ev 52 nd 36 [vR 49, vI x1, vI x2, vU, vU] [] (SH T, c) = ev 52 nd 76 [vR 49, vU, vI x2, vU, vU] [] (SH T, c6) := by
  refine (ev_eq _ _ _ _ _ _).trans ?_
  refine (el_call (Nat.ble_eq_true_of_le h1) h2).trans ?_
  refine (if_neg h3).trans ?_
  refine (el_call (Nat.ble_eq_true_of_le h4) h5).trans ?_
  refine (if_neg h6).trans ?_
  refine (el_call (Nat.ble_eq_true_of_le h7) h8).trans ?_
  refine (if_pos h9).trans ?_
  rfl
theorem B_X6_readPlain_36_6 {T : List Shp} {c : Nat → Int → Int} {nd : Nat} {x1 x2 : Int} {r1 : Int} {c2 : Nat → Int → Int} {r3 : Int} {c4 : Nat → Int → Int} {r5 : Int} {c6 : Nat → Int → Int} {r7 : Int} {c8 : Nat → Int → Int} (h1 : 1 + 1 ≤ nd) (h2 : cal 57 [vR 49, vI 40] (SH T, c) = some (some (vI r1), (SH T, c2))) (h3 : ¬ r1 = 0) (h4 : 3 + 1 ≤ nd) (h5 : cal 56 [vR 49, vI x1] (SH T, c2) = some (some (vI r3), (SH T, c4))) (h6 : ¬ r3 = 0) (h7 : (12 + 10 * (9 - (w32 (x1 + 1))).toNat) + 1 ≤ nd) (h8 : cal 50 [vR 49, vI (w32 (x1 + 1))] (SH T, c4) = some (some (vI r5), (SH T, c6))) (h9 : ¬ r5 = 0) (h10 : 3 + 1 ≤ nd) (h11 : cal 58 [vR 49, vI 41] (SH T, c6) = some (some (vI r7), (SH T, c8))) (h12 : r7 = 0) : ev 52 nd 36 [vR 49, vI x1, vI x2, vU, vU] [] (SH T, c) = ev 52 nd 76 [vR 49, vU, vI x2, vU, vU] [] (SH T, c8) := by
  refine (ev_eq _ _ _ _ _ _).trans ?_
  refine (el_call (Nat.ble_eq_true_of_le h1) h2).trans ?_
  refine (if_neg h3).trans ?_
  refine (el_call (Nat.ble_eq_true_of_le h4) h5).trans ?_
  refine (if_neg h6).trans ?_
  refine (el_call (Nat.ble_eq_true_of_le h7) h8).trans ?_
  refine (if_neg h9).trans ?_
  refine (el_call (Nat.ble_eq_true_of_le h10) h11).trans ?_
  refine (if_pos h12).trans ?_
  rfl
theorem B_X6_readPlain_36_7 {T : List Shp} {c : Nat → Int → Int} {nd : Nat} {x1 x2 : Int} {r1 : Int} {c2 : Nat → Int → Int} {r3 : Int} {c4 : Nat → Int → Int} {r5 : Int} {c6 : Nat → Int → Int} {r7 : Int} {c8 : Nat → Int → Int} (h1 : 1 + 1 ≤ nd) (h2 : cal 57 [vR 49, vI 40] (SH T, c) = some (some (vI r1), (SH T, c2))) (h3 : ¬ r1 = 0) (h4 : 3 + 1 ≤ nd) (h5 : cal 56 [vR 49, vI x1] (SH T, c2) = some (some (vI r3), (SH T, c4))) (h6 : ¬ r3 = 0) (h7 : (12 + 10 * (9 - (w32 (x1 + 1))).toNat) + 1 ≤ nd) (h8 : cal 50 [vR 49, vI (w32 (x1 + 1))] (SH T, c4) = some (some (vI r5), (SH T, c6))) (h9 : ¬ r5 = 0) (h10 : 3 + 1 ≤ nd) (h11 : cal 58 [vR 49, vI 41] (SH T, c6) = some (some (vI r7), (SH T, c8))) (h12 : ¬ r7 = 0) : ev 52 nd 36 [vR 49, vI x1, vI x2, vU, vU] [] (SH T, c) = ev 52 nd 77 [vR 49, vU, vI x2, vU, vU] [vI 1] (SH T, c8) := by
  refine (ev_eq _ _ _ _ _ _).trans ?_
  refine (el_call (Nat.ble_eq_true_of_le h1) h2).trans ?_
  refine (if_neg h3).trans ?_
  refine (el_call (Nat.ble_eq_true_of_le h4) h5).trans ?_
  refine (if_neg h6).trans ?_
  refine (el_call (Nat.ble_eq_true_of_le h7) h8).trans ?_
  refine (if_neg h9).trans ?_
  refine (el_call (Nat.ble_eq_true_of_le h10) h11).trans ?_
  refine (if_neg h12).trans ?_
  rfl
theorem B_X6_readPlain_76 {T : List Shp} {c : Nat → Int → Int} {nd : Nat} {x2 : Int}  : ev 52 nd 76 [vR 49, vU, vI x2, vU, vU] [] (SH T, c) = ev 52 nd 77 [vR 49, vU, vI x2, vU, vU] [vI 0] (SH T, c) := by
  refine (ev_eq _ _ _ _ _ _).trans ?_
  rfl
theorem B_X6_readPlain_77 {T : List Shp} {c : Nat → Int → Int} {nd : Nat} {x2 y0 : Int}  : ev 52 nd 77 [vR 49, vU, vI x2, vU, vU] [vI y0] (SH T, c) = ev 52 nd 174 [vR 49, vU, vI x2, vI y0, vU] [] (SH T, c) := by
  refine (ev_eq _ _ _ _ _ _).trans ?_
  rfl
theorem B_X6_readPlain_117_1 {T : List Shp} {c : Nat → Int → Int} {nd : Nat} {x1 x2 x3 y0 : Int} (h1 : x3 = 0) : ev 52 nd 117 [vR 49, vI x1, vI x2, vI x3, vU] [vI y0] (SH T, c) = ev 52 nd 162 [vR 49, vU, vI x2, vU, vI y0] [] (SH T, c) := by
  refine (ev_eq _ _ _ _ _ _).trans ?_
  refine (if_pos h1).trans ?_
  rfl
theorem B_X6_readPlain_117_2 {T : List Shp} {c : Nat → Int → Int} {nd : Nat} {x1 x2 x3 y0 : Int} {r1 : Int} {c2 : Nat → Int → Int} {r3 : Int} {c4 : Nat → Int → Int} {r5 : Int} {c6 : Nat → Int → Int} (h1 : ¬ x3 = 0) (h2 : 3 + 1 ≤ nd) (h3 : cal 58 [vR 49, vI 60] (SH T, c) = some (some (vI r1), (SH T, c2))) (h4 : r1 = 0) (h5 : 3 + 1 ≤ nd) (h6 : cal 58 [vR 49, vI 62] (SH T, c2) = some (some (vI r3), (SH T, c4))) (h7 : r3 = 0) (h8 : 3 + 1 ≤ nd) (h9 : cal 58 [vR 49, vI 61] (SH T, c4) = some (some (vI r5), (SH T, c6))) (h10 : r5 = 0) : ev 52 nd 117 [vR 49, vI x1, vI x2, vI x3, vU] [vI y0] (SH T, c) = ev 52 nd 162 [vR 49, vU, vI x2, vU, vI y0] [] (SH T, c6) := by
  refine (ev_eq _ _ _ _ _ _).trans ?_
  refine (if_neg h1).trans ?_
  refine (el_call (Nat.ble_eq_true_of_le h2) h3).trans ?_
  refine (if_pos h4).trans ?_
  refine (el_call (Nat.ble_eq_true_of_le h5) h6).trans ?_
  refine (if_pos h7).trans ?_
  refine (el_call (Nat.ble_eq_true_of_le h8) h9).trans ?_
  refine (if_pos h10).trans ?_
  rfl
theorem B_X6_readPlain_117_3 {T : List Shp} {c : Nat → Int → Int} {nd : Nat} {x1 x2 x3 y0 : Int} {r1 : Int} {c2 : Nat → Int → Int} {r3 : Int} {c4 : Nat → Int → Int} {r5 : Int} {c6 : Nat → Int → Int} (h1 : ¬ x3 = 0) (h2 : 3 + 1 ≤ nd) (h3 : cal 58 [vR 49, vI 60] (SH T, c) = some (some (vI r1), (SH T, c2))) (h4 : r1 = 0) (h5 : 3 + 1 ≤ nd) (h6 : cal 58 [vR 49, vI 62] (SH T, c2) = some (some (vI r3), (SH T, c4))) (h7 : r3 = 0) (h8 : 3 + 1 ≤ nd) (h9 : cal 58 [vR 49, vI 61] (SH T, c4) = some (some (vI r5), (SH T, c6))) (h10 : ¬ r5 = 0) : ev 52 nd 117 [vR 49, vI x1, vI x2, vI x3, vU] [vI y0] (SH T, c) = ev 52 nd 150 [vR 49, vI x1, vI x2, vU, vI y0] [] (SH T, c6) := by
  refine (ev_eq _ _ _ _ _ _).trans ?_
  refine (if_neg h1).trans ?_
  refine (el_call (Nat.ble_eq_true_of_le h2) h3).trans ?_
  refine (if_pos h4).trans ?_
  refine (el_call (Nat.ble_eq_true_of_le h5) h6).trans ?_
  refine (if_pos h7).trans ?_
  refine (el_call (Nat.ble_eq_true_of_le h8) h9).trans ?_
  refine (if_neg h10).trans ?_
  rfl
theorem B_X6_readPlain_117_4 {T : List Shp} {c : Nat → Int → Int} {nd : Nat} {x1 x2 x3 y0 : Int} {r1 : Int} {c2 : Nat → Int → Int} {r3 : Int} {c4 : Nat → Int → Int} (h1 : ¬ x3 = 0) (h2 : 3 + 1 ≤ nd) (h3 : cal 58 [vR 49, vI 60] (SH T, c) = some (some (vI r1), (SH T, c2))) (h4 : r1 = 0) (h5 : 3 + 1 ≤ nd) (h6 : cal 58 [vR 49, vI 62] (SH T, c2) = some (some (vI r3), (SH T, c4))) (h7 : ¬ r3 = 0) : ev 52 nd 117 [vR 49, vI x1, vI x2, vI x3, vU] [vI y0] (SH T, c) = ev 52 nd 150 [vR 49, vI x1, vI x2, vU, vI y0] [] (SH T, c4) := by
  refine (ev_eq _ _ _ _ _ _).trans ?_
  refine (if_neg h1).trans ?_
  refine (el_call (Nat.ble_eq_true_of_le h2) h3).trans ?_
  refine (if_pos h4).trans ?_
  refine (el_call (Nat.ble_eq_true_of_le h5) h6).trans ?_
  refine (if_neg h7).trans ?_
  rfl
theorem B_X6_readPlain_117_5 {T : List Shp} {c : Nat → Int → Int} {nd : Nat} {x1 x2 x3 y0 : Int} {r1 : Int} {c2 : Nat → Int → Int} (h1 : ¬ x3 = 0) (h2 : 3 + 1 ≤ nd) (h3 : cal 58 [vR 49, vI 60] (SH T, c) = some (some (vI r1), (SH T, c2))) (h4 : ¬ r1 = 0) : ev 52 nd 117 [vR 49, vI x1, vI x2, vI x3, vU] [vI y0] (SH T, c) = ev 52 nd 150 [vR 49, vI x1, vI x2, vU, vI y0] [] (SH T, c2) := by
  refine (ev_eq _ _ _ _ _ _).trans ?_
  refine (if_neg h1).trans ?_
  refine (el_call (Nat.ble_eq_true_of_le h2) h3).trans ?_
  refine (if_neg h4).trans ?_
  rfl
theorem B_X6_readPlain_150_1 {T : List Shp} {c : Nat → Int → Int} {nd : Nat} {x1 x2 x4 : Int} {r1 : Int} {c2 : Nat → Int → Int} (h1 : (9 + 10 * (9 - x1).toNat) + 1 ≤ nd) (h2 : cal 53 [vR 49, vI x1] (SH T, c) = some (some (vI r1), (SH T, c2))) (h3 : r1 = 0) : ev 52 nd 150 [vR 49, vI x1, vI x2, vU, vI x4] [] (SH T, c) = ev 52 nd 162 [vR 49, vU, vI x2, vU, vI x4] [] (SH T, c2) := by
  refine (ev_eq _ _ _ _ _ _).trans ?_
  refine (el_call (Nat.ble_eq_true_of_le h1) h2).trans ?_
  refine (if_pos h3).trans ?_
  rfl
theorem B_X6_readPlain_150_2 {T : List Shp} {c : Nat → Int → Int} {nd : Nat} {x1 x2 x4 : Int} {r1 : Int} {c2 : Nat → Int → Int} (h1 : (9 + 10 * (9 - x1).toNat) + 1 ≤ nd) (h2 : cal 53 [vR 49, vI x1] (SH T, c) = some (some (vI r1), (SH T, c2))) (h3 : ¬ r1 = 0) : ev 52 nd 150 [vR 49, vI x1, vI x2, vU, vI x4] [] (SH T, c) = ev 52 nd 163 [vR 49, vU, vI x2, vU, vI x4] [vI 1] (SH T, c2) := by
  refine (ev_eq _ _ _ _ _ _).trans ?_
  refine (el_call (Nat.ble_eq_true_of_le h1) h2).trans ?_
  refine (if_neg h3).trans ?_
  rfl
theorem B_X6_readPlain_162 {T : List Shp} {c : Nat → Int → Int} {nd : Nat} {x2 x4 : Int}  : ev 52 nd 162 [vR 49, vU, vI x2, vU, vI x4] [] (SH T, c) = ev 52 nd 163 [vR 49, vU, vI x2, vU, vI x4] [vI 0] (SH T, c) := by
  refine (ev_eq _ _ _ _ _ _).trans ?_
  rfl
theorem B_X6_readPlain_163 {T : List Shp} {c : Nat → Int → Int} {nd : Nat} {x2 x4 y0 : Int} {c1 : Nat → Int → Int} (h1 : 1 + 1 ≤ nd) (h2 : cal 110 [vR 12, vI x4, vI 0] (SH T, c) = some (none, (SH T, c1))) : ev 52 nd 163 [vR 49, vU, vI x2, vU, vI x4] [vI y0] (SH T, c) = ev 52 nd 174 [vR 49, vU, vI x2, vI y0, vU] [] (SH T, c1) := by
  refine (ev_eq _ _ _ _ _ _).trans ?_
  refine (el_call (Nat.ble_eq_true_of_le h1) h2).trans ?_
  rfl
theorem B_X6_readPlain_174_1 {T : List Shp} {c : Nat → Int → Int} {nd : Nat} {x2 x3 : Int} (h1 : x2 = 0) (h2 : x3 = 0 ∨ x3 = 1) : ev 52 nd 174 [vR 49, vU, vI x2, vI x3, vU] [] (SH T, c) = some (some (vI x3), (SH T, c)) := by
  refine (ev_eq _ _ _ _ _ _).trans ?_
  refine (if_pos h1).trans ?_
  refine (ev_eq _ _ _ _ _ _).trans ?_
  refine (if_pos h2).trans ?_
  rfl
theorem B_X6_readPlain_174_2 {T : List Shp} {c : Nat → Int → Int} {nd : Nat} {x2 x3 : Int} {c1 : Nat → Int → Int} (h1 : ¬ x2 = 0) (h2 : 1 + 1 ≤ nd) (h3 : cal 110 [vR 12, vI 9, vI 0] (SH T, c) = some (none, (SH T, c1))) (h4 : x3 = 0 ∨ x3 = 1) : ev 52 nd 174 [vR 49, vU, vI x2, vI x3, vU] [] (SH T, c) = some (some (vI x3), (SH T, c1)) := by
  refine (ev_eq _ _ _ _ _ _).trans ?_
  refine (if_neg h1).trans ?_
  refine (el_call (Nat.ble_eq_true_of_le h2) h3).trans ?_
  refine (ev_eq _ _ _ _ _ _).trans ?_
  refine (if_pos h4).trans ?_
  rfl
theorem E_X6_readSum {T : List Shp} {c : Nat → Int → Int} {x1 : Int} {r1 : Int} {c2 : Nat → Int → Int} (h1 : (8 + 10 * (9 - x1).toNat) + 1 ≤ (9 + 10 * (9 - x1).toNat)) (h2 : cal 54 [vR 49, vI x1] (SH T, c) = some (some (vI r1), (SH T, c2))) : cal 53 [vR 49, vI x1] (SH T, c) = ev 53 (9 + 10 * (9 - x1).toNat) 8 [vR 49, vI x1, vI r1, vI 0, vU] [] (SH T, c2) := by
  refine (ev_eq _ _ _ _ _ _).trans ?_
  refine (el_call (Nat.ble_eq_true_of_le h1) h2).trans ?_
  rfl
theorem B_X6_readSum_8_1 {T : List Shp} {c : Nat → Int → Int} {nd : Nat} {x1 x2 x3 : Int} (h1 : x2 = 0) (h2 : x2 = 0 ∨ x2 = 1) : ev 53 nd 8 [vR 49, vI x1, vI x2, vI x3, vU] [] (SH T, c) = some (some (vI x2), (SH T, c)) := by
  refine (ev_eq _ _ _ _ _ _).trans ?_
  refine (if_pos h1).trans ?_
  refine (ev_eq _ _ _ _ _ _).trans ?_
  refine (if_pos h2).trans ?_
  rfl
theorem B_X6_readSum_8_2 {T : List Shp} {c : Nat → Int → Int} {nd : Nat} {x1 x2 x3 : Int} {r1 : Int} {c2 : Nat → Int → Int} {r3 : Int} {c4 : Nat → Int → Int} (h1 : ¬ x2 = 0) (h2 : x3 < 400) (h3 : 1 + 1 ≤ nd) (h4 : cal 57 [vR 49, vI 43] (SH T, c) = some (some (vI r1), (SH T, c2))) (h5 : r1 = 0) (h6 : 1 + 1 ≤ nd) (h7 : cal 57 [vR 49, vI 45] (SH T, c2) = some (some (vI r3), (SH T, c4))) (h8 : r3 = 0) (h9 : x2 = 0 ∨ x2 = 1) : ev 53 nd 8 [vR 49, vI x1, vI x2, vI x3, vU] [] (SH T, c) = some (some (vI x2), (SH T, c4)) := by
  refine (ev_eq _ _ _ _ _ _).trans ?_
  refine (if_neg h1).trans ?_
  refine (if_pos h2).trans ?_
  refine (el_call (Nat.ble_eq_true_of_le h3) h4).trans ?_
  refine (if_pos h5).trans ?_
  refine (el_call (Nat.ble_eq_true_of_le h6) h7).trans ?_
  refine (if_pos h8).trans ?_
  refine (ev_eq _ _ _ _ _ _).trans ?_
  refine (if_pos h9).trans ?_
  rfl
theorem B_X6_readSum_8_3 {T : List Shp} {c : Nat → Int → Int} {nd : Nat} {x1 x2 x3 : Int} {r1 : Int} {c2 : Nat → Int → Int} {r3 : Int} {c4 : Nat → Int → Int} (h1 : ¬ x2 = 0) (h2 : x3 < 400) (h3 : 1 + 1 ≤ nd) (h4 : cal 57 [vR 49, vI 43] (SH T, c) = some (some (vI r1), (SH T, c2))) (h5 : r1 = 0) (h6 : 1 + 1 ≤ nd) (h7 : cal 57 [vR 49, vI 45] (SH T, c2) = some (some (vI r3), (SH T, c4))) (h8 : ¬ r3 = 0) : ev 53 nd 8 [vR 49, vI x1, vI x2, vI x3, vU] [] (SH T, c) = ev 53 nd 37 [vR 49, vI x1, vU, vI x3, vU] [] (SH T, c4) := by
  refine (ev_eq _ _ _ _ _ _).trans ?_
  refine (if_neg h1).trans ?_
  refine (if_pos h2).trans ?_
  refine (el_call (Nat.ble_eq_true_of_le h3) h4).trans ?_
  refine (if_pos h5).trans ?_
  refine (el_call (Nat.ble_eq_true_of_le h6) h7).trans ?_
  refine (if_neg h8).trans ?_
  rfl
theorem B_X6_readSum_8_4 {T : List Shp} {c : Nat → Int → Int} {nd : Nat} {x1 x2 x3 : Int} {r1 : Int} {c2 : Nat → Int → Int} (h1 : ¬ x2 = 0) (h2 : x3 < 400) (h3 : 1 + 1 ≤ nd) (h4 : cal 57 [vR 49, vI 43] (SH T, c) = some (some (vI r1), (SH T, c2))) (h5 : ¬ r1 = 0) : ev 53 nd 8 [vR 49, vI x1, vI x2, vI x3, vU] [] (SH T, c) = ev 53 nd 37 [vR 49, vI x1, vU, vI x3, vU] [] (SH T, c2) := by
  refine (ev_eq _ _ _ _ _ _).trans ?_
  refine (if_neg h1).trans ?_
  refine (if_pos h2).trans ?_
  refine (el_call (Nat.ble_eq_true_of_le h3) h4).trans ?_
  refine (if_neg h5).trans ?_
  rfl
theorem B_X6_readSum_8_5 {T : List Shp} {c : Nat → Int → Int} {nd : Nat} {x1 x2 x3 : Int} (h1 : ¬ x2 = 0) (h2 : ¬ x3 < 400) (h3 : x2 = 0 ∨ x2 = 1) : ev 53 nd 8 [vR 49, vI x1, vI x2, vI x3, vU] [] (SH T, c) = some (some (vI x2), (SH T, c)) := by
  refine (ev_eq _ _ _ _ _ _).trans ?_
  refine (if_neg h1).trans ?_
  refine (if_neg h2).trans ?_
  refine (ev_eq _ _ _ _ _ _).trans ?_
  refine (if_pos h3).trans ?_
  rfl
theorem B_X6_readSum_37_1 {T : List Shp} {c : Nat → Int → Int} {nd : Nat} {x1 x3 : Int} {r1 : Int} {c2 : Nat → Int → Int} (h1 : 1 + 1 ≤ nd) (h2 : cal 57 [vR 49, vI 43] (SH T, c) = some (some (vI r1), (SH T, c2))) (h3 : r1 = 0) : ev 53 nd 37 [vR 49, vI x1, vU, vI x3, vU] [] (SH T, c) = ev 53 nd 51 [vR 49, vI x1, vU, vI x3, vU] [vI 3] (SH T, c2) := by
  refine (ev_eq _ _ _ _ _ _).trans ?_
  refine (el_call (Nat.ble_eq_true_of_le h1) h2).trans ?_
  refine (if_pos h3).trans ?_
  refine (ev_eq _ _ _ _ _ _).trans ?_
  rfl
theorem B_X6_readSum_37_2 {T : List Shp} {c : Nat → Int → Int} {nd : Nat} {x1 x3 : Int} {r1 : Int} {c2 : Nat → Int → Int} (h1 : 1 + 1 ≤ nd) (h2 : cal 57 [vR 49, vI 43] (SH T, c) = some (some (vI r1), (SH T, c2))) (h3 : ¬ r1 = 0) : ev 53 nd 37 [vR 49, vI x1, vU, vI x3, vU] [] (SH T, c) = ev 53 nd 51 [vR 49, vI x1, vU, vI x3, vU] [vI 2] (SH T, c2) := by
  refine (ev_eq _ _ _ _ _ _).trans ?_
  refine (el_call (Nat.ble_eq_true_of_le h1) h2).trans ?_
  refine (if_neg h3).trans ?_
  rfl
theorem B_X6_readSum_51 {T : List Shp} {c : Nat → Int → Int} {nd : Nat} {x1 x3 y0 : Int} {c1 : Nat → Int → Int} {r2 : Int} {c3 : Nat → Int → Int} {c4 : Nat → Int → Int} (h1 : 2 + 1 ≤ nd) (h2 : cal 62 [vR 49] (SH T, c) = some (none, (SH T, c1))) (h3 : (8 + 10 * (9 - x1).toNat) + 1 ≤ nd) (h4 : cal 54 [vR 49, vI x1] (SH T, c1) = some (some (vI r2), (SH T, c3))) (h5 : 1 + 1 ≤ nd) (h6 : cal 110 [vR 12, vI y0, vI 0] (SH T, c3) = some (none, (SH T, c4))) : ev 53 nd 51 [vR 49, vI x1, vU, vI x3, vU] [vI y0] (SH T, c) = ev 53 nd 8 [vR 49, vI x1, vI r2, vI (w32 (x3 + 1)), vU] [] (SH T, c4) := by
  refine (ev_eq _ _ _ _ _ _).trans ?_
  refine (el_call (Nat.ble_eq_true_of_le h1) h2).trans ?_
  refine (el_call (Nat.ble_eq_true_of_le h3) h4).trans ?_
  refine (el_call (Nat.ble_eq_true_of_le h5) h6).trans ?_
  rfl
theorem E_X6_readTerm {T : List Shp} {c : Nat → Int → Int} {x1 : Int} {r1 : Int} {c2 : Nat → Int → Int} (h1 : (7 + 10 * (9 - x1).toNat) + 1 ≤ (8 + 10 * (9 - x1).toNat)) (h2 : cal 55 [vR 49, vI x1] (SH T, c) = some (some (vI r1), (SH T, c2))) : cal 54 [vR 49, vI x1] (SH T, c) = ev 54 (8 + 10 * (9 - x1).toNat) 8 [vR 49, vI x1, vI r1, vI 0, vU] [] (SH T, c2) := by
  refine (ev_eq _ _ _ _ _ _).trans ?_
  refine (el_call (Nat.ble_eq_true_of_le h1) h2).trans ?_
  rfl
theorem B_X6_readTerm_8_1 {T : List Shp} {c : Nat → Int → Int} {nd : Nat} {x1 x2 x3 : Int} (h1 : x2 = 0) (h2 : x2 = 0 ∨ x2 = 1) : ev 54 nd 8 [vR 49, vI x1, vI x2, vI x3, vU] [] (SH T, c) = some (some (vI x2), (SH T, c)) := by
  refine (ev_eq _ _ _ _ _ _).trans ?_
  refine (if_pos h1).trans ?_
  refine (ev_eq _ _ _ _ _ _).trans ?_
  refine (if_pos h2).trans ?_
  rfl
theorem B_X6_readTerm_8_2 {T : List Shp} {c : Nat → Int → Int} {nd : Nat} {x1 x2 x3 : Int} {r1 : Int} {c2 : Nat → Int → Int} {r3 : Int} {c4 : Nat → Int → Int} (h1 : ¬ x2 = 0) (h2 : x3 < 400) (h3 : 1 + 1 ≤ nd) (h4 : cal 57 [vR 49, vI 42] (SH T, c) = some (some (vI r1), (SH T, c2))) (h5 : r1 = 0) (h6 : 1 + 1 ≤ nd) (h7 : cal 57 [vR 49, vI 47] (SH T, c2) = some (some (vI r3), (SH T, c4))) (h8 : r3 = 0) (h9 : x2 = 0 ∨ x2 = 1) : ev 54 nd 8 [vR 49, vI x1, vI x2, vI x3, vU] [] (SH T, c) = some (some (vI x2), (SH T, c4)) := by
  refine (ev_eq _ _ _ _ _ _).trans ?_
  refine (if_neg h1).trans ?_
  refine (if_pos h2).trans ?_
  refine (el_call (Nat.ble_eq_true_of_le h3) h4).trans ?_
  refine (if_pos h5).trans ?_
  refine (el_call (Nat.ble_eq_true_of_le h6) h7).trans ?_
  refine (if_pos h8).trans ?_
  refine (ev_eq _ _ _ _ _ _).trans ?_
  refine (if_pos h9).trans ?_
  rfl
theorem B_X6_readTerm_8_3 {T : List Shp} {c : Nat → Int → Int} {nd : Nat} {x1 x2 x3 : Int} {r1 : Int} {c2 : Nat → Int → Int} {r3 : Int} {c4 : Nat → Int → Int} (h1 : ¬ x2 = 0) (h2 : x3 < 400) (h3 : 1 + 1 ≤ nd) (h4 : cal 57 [vR 49, vI 42] (SH T, c) = some (some (vI r1), (SH T, c2))) (h5 : r1 = 0) (h6 : 1 + 1 ≤ nd) (h7 : cal 57 [vR 49, vI 47] (SH T, c2) = some (some (vI r3), (SH T, c4))) (h8 : ¬ r3 = 0) : ev 54 nd 8 [vR 49, vI x1, vI x2, vI x3, vU] [] (SH T, c) = ev 54 nd 37 [vR 49, vI x1, vU, vI x3, vU] [] (SH T, c4) := by
  refine (ev_eq _ _ _ _ _ _).trans ?_
  refine (if_neg h1).trans ?_
  refine (if_pos h2).trans ?_
  refine (el_call (Nat.ble_eq_true_of_le h3) h4).trans ?_
  refine (if_pos h5).trans ?_
  refine (el_call (Nat.ble_eq_true_of_le h6) h7).trans ?_
  refine (if_neg h8).trans ?_
  rfl
theorem B_X6_readTerm_8_4 {T : List Shp} {c : Nat → Int → Int} {nd : Nat} {x1 x2 x3 : Int} {r1 : Int} {c2 : Nat → Int → Int} (h1 : ¬ x2 = 0) (h2 : x3 < 400) (h3 : 1 + 1 ≤ nd) (h4 : cal 57 [vR 49, vI 42] (SH T, c) = some (some (vI r1), (SH T, c2))) (h5 : ¬ r1 = 0) : ev 54 nd 8 [vR 49, vI x1, vI x2, vI x3, vU] [] (SH T, c) = ev 54 nd 37 [vR 49, vI x1, vU, vI x3, vU] [] (SH T, c2) := by
  refine (ev_eq _ _ _ _ _ _).trans ?_
  refine (if_neg h1).trans ?_
  refine (if_pos h2).trans ?_
  refine (el_call (Nat.ble_eq_true_of_le h3) h4).trans ?_
  refine (if_neg h5).trans ?_
  rfl
theorem B_X6_readTerm_8_5 {T : List Shp} {c : Nat → Int → Int} {nd : Nat} {x1 x2 x3 : Int} (h1 : ¬ x2 = 0) (h2 : ¬ x3 < 400) (h3 : x2 = 0 ∨ x2 = 1) : ev 54 nd 8 [vR 49, vI x1, vI x2, vI x3, vU] [] (SH T, c) = some (some (vI x2), (SH T, c)) := by
  refine (ev_eq _ _ _ _ _ _).trans ?_
  refine (if_neg h1).trans ?_
  refine (if_neg h2).trans ?_
  refine (ev_eq _ _ _ _ _ _).trans ?_
  refine (if_pos h3).trans ?_
  rfl
theorem B_X6_readTerm_37_1 {T : List Shp} {c : Nat → Int → Int} {nd : Nat} {x1 x3 : Int} {r1 : Int} {c2 : Nat → Int → Int} (h1 : 1 + 1 ≤ nd) (h2 : cal 57 [vR 49, vI 42] (SH T, c) = some (some (vI r1), (SH T, c2))) (h3 : r1 = 0) : ev 54 nd 37 [vR 49, vI x1, vU, vI x3, vU] [] (SH T, c) = ev 54 nd 51 [vR 49, vI x1, vU, vI x3, vU] [vI 5] (SH T, c2) := by
  refine (ev_eq _ _ _ _ _ _).trans ?_
  refine (el_call (Nat.ble_eq_true_of_le h1) h2).trans ?_
  refine (if_pos h3).trans ?_
  refine (ev_eq _ _ _ _ _ _).trans ?_
  rfl
theorem B_X6_readTerm_37_2 {T : List Shp} {c : Nat → Int → Int} {nd : Nat} {x1 x3 : Int} {r1 : Int} {c2 : Nat → Int → Int} (h1 : 1 + 1 ≤ nd) (h2 : cal 57 [vR 49, vI 42] (SH T, c) = some (some (vI r1), (SH T, c2))) (h3 : ¬ r1 = 0) : ev 54 nd 37 [vR 49, vI x1, vU, vI x3, vU] [] (SH T, c) = ev 54 nd 51 [vR 49, vI x1, vU, vI x3, vU] [vI 4] (SH T, c2) := by
  refine (ev_eq _ _ _ _ _ _).trans ?_
  refine (el_call (Nat.ble_eq_true_of_le h1) h2).trans ?_
  refine (if_neg h3).trans ?_
  rfl
theorem B_X6_readTerm_51 {T : List Shp} {c : Nat → Int → Int} {nd : Nat} {x1 x3 y0 : Int} {c1 : Nat → Int → Int} {r2 : Int} {c3 : Nat → Int → Int} {c4 : Nat → Int → Int} (h1 : 2 + 1 ≤ nd) (h2 : cal 62 [vR 49] (SH T, c) = some (none, (SH T, c1))) (h3 : (7 + 10 * (9 - x1).toNat) + 1 ≤ nd) (h4 : cal 55 [vR 49, vI x1] (SH T, c1) = some (some (vI r2), (SH T, c3))) (h5 : 1 + 1 ≤ nd) (h6 : cal 110 [vR 12, vI y0, vI 0] (SH T, c3) = some (none, (SH T, c4))) : ev 54 nd 51 [vR 49, vI x1, vU, vI x3, vU] [vI y0] (SH T, c) = ev 54 nd 8 [vR 49, vI x1, vI r2, vI (w32 (x3 + 1)), vU] [] (SH T, c4) := by
  refine (ev_eq _ _ _ _ _ _).trans ?_
  refine (el_call (Nat.ble_eq_true_of_le h1) h2).trans ?_
  refine (el_call (Nat.ble_eq_true_of_le h3) h4).trans ?_
  refine (el_call (Nat.ble_eq_true_of_le h5) h6).trans ?_
  rfl
theorem E_X6_readPart_1 {T : List Shp} {c : Nat → Int → Int} {x1 : Int} {r1 : Int} {c2 : Nat → Int → Int} (h1 : 1 + 1 ≤ (7 + 10 * (9 - x1).toNat)) (h2 : cal 57 [vR 49, vI 91] (SH T, c) = some (some (vI r1), (SH T, c2))) (h3 : r1 = 0) (h4 : (c2 48 4) = 1) (h5 : 1000 < (c2 48 7)) : cal 55 [vR 49, vI x1] (SH T, c) = some (some (vI 0), (SH T, c2)) := by
  refine (ev_eq _ _ _ _ _ _).trans ?_
  refine (el_call (Nat.ble_eq_true_of_le h1) h2).trans ?_
  refine (if_pos h3).trans ?_
  refine (ev_eq _ _ _ _ _ _).trans ?_
  refine (if_pos h4).trans ?_
  refine (if_pos h5).trans ?_
  refine (ev_eq _ _ _ _ _ _).trans ?_
  rfl
theorem E_X6_readPart_2 {T : List Shp} {c : Nat → Int → Int} {x1 : Int} {r1 : Int} {c2 : Nat → Int → Int} {c3 : Nat → Int → Int} {c4 : Nat → Int → Int} (h1 : 1 + 1 ≤ (7 + 10 * (9 - x1).toNat)) (h2 : cal 57 [vR 49, vI 91] (SH T, c) = some (some (vI r1), (SH T, c2))) (h3 : r1 = 0) (h4 : (c2 48 4) = 1) (h5 : ¬ 1000 < (c2 48 7)) (h6 : (c2 48 8) < 50) (h7 : 1 + 1 ≤ (7 + 10 * (9 - x1).toNat)) (h8 : cal 110 [vR 12, vI 0, vI (c2 48 7)] (SH T, c2) = some (none, (SH T, c3))) (h9 : 2 + 1 ≤ (7 + 10 * (9 - x1).toNat)) (h10 : cal 62 [vR 49] (SH T, (up c3 48 8 (w32 ((c3 48 8) + 1)))) = some (none, (SH T, c4))) : cal 55 [vR 49, vI x1] (SH T, c) = some (some (vI 1), (SH T, c4)) := by
  refine (ev_eq _ _ _ _ _ _).trans ?_
  refine (el_call (Nat.ble_eq_true_of_le h1) h2).trans ?_
  refine (if_pos h3).trans ?_
  refine (ev_eq _ _ _ _ _ _).trans ?_
  refine (if_pos h4).trans ?_
  refine (if_neg h5).trans ?_
  refine (if_pos h6).trans ?_
  refine (ev_eq _ _ _ _ _ _).trans ?_
  refine (el_call (Nat.ble_eq_true_of_le h7) h8).trans ?_
  refine (el_call (Nat.ble_eq_true_of_le h9) h10).trans ?_
  rfl
theorem E_X6_readPart_3 {T : List Shp} {c : Nat → Int → Int} {x1 : Int} {r1 : Int} {c2 : Nat → Int → Int} (h1 : 1 + 1 ≤ (7 + 10 * (9 - x1).toNat)) (h2 : cal 57 [vR 49, vI 91] (SH T, c) = some (some (vI r1), (SH T, c2))) (h3 : r1 = 0) (h4 : (c2 48 4) = 1) (h5 : ¬ 1000 < (c2 48 7)) (h6 : ¬ (c2 48 8) < 50) : cal 55 [vR 49, vI x1] (SH T, c) = some (some (vI 0), (SH T, c2)) := by
  refine (ev_eq _ _ _ _ _ _).trans ?_
  refine (el_call (Nat.ble_eq_true_of_le h1) h2).trans ?_
  refine (if_pos h3).trans ?_
  refine (ev_eq _ _ _ _ _ _).trans ?_
  refine (if_pos h4).trans ?_
  refine (if_neg h5).trans ?_
  refine (if_neg h6).trans ?_
  refine (ev_eq _ _ _ _ _ _).trans ?_
  rfl
theorem E_X6_readPart_4 {T : List Shp} {c : Nat → Int → Int} {x1 : Int} {r1 : Int} {c2 : Nat → Int → Int} (h1 : 1 + 1 ≤ (7 + 10 * (9 - x1).toNat)) (h2 : cal 57 [vR 49, vI 91] (SH T, c) = some (some (vI r1), (SH T, c2))) (h3 : r1 = 0) (h4 : ¬ (c2 48 4) = 1) (h5 : (c2 48 3) = 0) : cal 55 [vR 49, vI x1] (SH T, c) = ev 55 (7 + 10 * (9 - x1).toNat) 114 [vR 49, vU, vU] [vR (-111), vR 49] (SH T, c2) := by
  refine (ev_eq _ _ _ _ _ _).trans ?_
  refine (el_call (Nat.ble_eq_true_of_le h1) h2).trans ?_
  refine (if_pos h3).trans ?_
  refine (ev_eq _ _ _ _ _ _).trans ?_
  refine (if_neg h4).trans ?_
  refine (ev_eq _ _ _ _ _ _).trans ?_
  refine (if_pos h5).trans ?_
  refine (ev_eq _ _ _ _ _ _).trans ?_
  rfl
theorem E_X6_readPart_5 {T : List Shp} {c : Nat → Int → Int} {x1 : Int} {r1 : Int} {c2 : Nat → Int → Int} (h1 : 1 + 1 ≤ (7 + 10 * (9 - x1).toNat)) (h2 : cal 57 [vR 49, vI 91] (SH T, c) = some (some (vI r1), (SH T, c2))) (h3 : r1 = 0) (h4 : ¬ (c2 48 4) = 1) (h5 : ¬ (c2 48 3) = 0) : cal 55 [vR 49, vI x1] (SH T, c) = ev 55 (7 + 10 * (9 - x1).toNat) 114 [vR 49, vU, vU] [vR (-110), vR 49] (SH T, c2) := by
  refine (ev_eq _ _ _ _ _ _).trans ?_
  refine (el_call (Nat.ble_eq_true_of_le h1) h2).trans ?_
  refine (if_pos h3).trans ?_
  refine (ev_eq _ _ _ _ _ _).trans ?_
  refine (if_neg h4).trans ?_
  refine (ev_eq _ _ _ _ _ _).trans ?_
  refine (if_neg h5).trans ?_
  rfl
theorem E_X6_readPart_6 {T : List Shp} {c : Nat → Int → Int} {x1 : Int} {r1 : Int} {c2 : Nat → Int → Int} {r3 : Int} {c4 : Nat → Int → Int} (h1 : 1 + 1 ≤ (7 + 10 * (9 - x1).toNat)) (h2 : cal 57 [vR 49, vI 91] (SH T, c) = some (some (vI r1), (SH T, c2))) (h3 : ¬ r1 = 0) (h4 : 3 + 1 ≤ (7 + 10 * (9 - x1).toNat)) (h5 : cal 56 [vR 49, vI x1] (SH T, c2) = some (some (vI r3), (SH T, c4))) (h6 : r3 = 0) : cal 55 [vR 49, vI x1] (SH T, c) = some (some (vI 0), (SH T, c4)) := by
  refine (ev_eq _ _ _ _ _ _).trans ?_
  refine (el_call (Nat.ble_eq_true_of_le h1) h2).trans ?_
  refine (if_neg h3).trans ?_
  refine (el_call (Nat.ble_eq_true_of_le h4) h5).trans ?_
  refine (if_pos h6).trans ?_
  refine (ev_eq _ _ _ _ _ _).trans ?_
  rfl
theorem E_X6_readPart_7 {T : List Shp} {c : Nat → Int → Int} {x1 : Int} {r1 : Int} {c2 : Nat → Int → Int} {r3 : Int} {c4 : Nat → Int → Int} {r5 : Int} {c6 : Nat → Int → Int} (h1 : 1 + 1 ≤ (7 + 10 * (9 - x1).toNat)) (h2 : cal 57 [vR 49, vI 91] (SH T, c) = some (some (vI r1), (SH T, c2))) (h3 : ¬ r1 = 0) (h4 : 3 + 1 ≤ (7 + 10 * (9 - x1).toNat)) (h5 : cal 56 [vR 49, vI x1] (SH T, c2) = some (some (vI r3), (SH T, c4))) (h6 : ¬ r3 = 0) (h7 : (9 + 10 * (9 - (w32 (x1 + 1))).toNat) + 1 ≤ (7 + 10 * (9 - x1).toNat)) (h8 : cal 53 [vR 49, vI (w32 (x1 + 1))] (SH T, c4) = some (some (vI r5), (SH T, c6))) (h9 : r5 = 0) : cal 55 [vR 49, vI x1] (SH T, c) = some (some (vI 0), (SH T, c6)) := by
  refine (ev_eq _ _ _ _ _ _).trans ?_
  refine (el_call (Nat.ble_eq_true_of_le h1) h2).trans ?_
  refine (if_neg h3).trans ?_
  refine (el_call (Nat.ble_eq_true_of_le h4) h5).trans ?_
  refine (if_neg h6).trans ?_
  refine (el_call (Nat.ble_eq_true_of_le h7) h8).trans ?_
  refine (if_pos h9).trans ?_
  refine (ev_eq _ _ _ _ _ _).trans ?_
  rfl
theorem E_X6_readPart_8 {T : List Shp} {c : Nat → Int → Int} {x1 : Int} {r1 : Int} {c2 : Nat → Int → Int} {r3 : Int} {c4 : Nat → Int → Int} {r5 : Int} {c6 : Nat → Int → Int} {r7 : Int} {c8 : Nat → Int → Int} (h1 : 1 + 1 ≤ (7 + 10 * (9 - x1).toNat)) (h2 : cal 57 [vR 49, vI 91] (SH T, c) = some (some (vI r1), (SH T, c2))) (h3 : ¬ r1 = 0) (h4 : 3 + 1 ≤ (7 + 10 * (9 - x1).toNat)) (h5 : cal 56 [vR 49, vI x1] (SH T, c2) = some (some (vI r3), (SH T, c4))) (h6 : ¬ r3 = 0) (h7 : (9 + 10 * (9 - (w32 (x1 + 1))).toNat) + 1 ≤ (7 + 10 * (9 - x1).toNat)) (h8 : cal 53 [vR 49, vI (w32 (x1 + 1))] (SH T, c4) = some (some (vI r5), (SH T, c6))) (h9 : ¬ r5 = 0) (h10 : 3 + 1 ≤ (7 + 10 * (9 - x1).toNat)) (h11 : cal 58 [vR 49, vI 93] (SH T, c6) = some (some (vI r7), (SH T, c8))) (h12 : r7 = 0) : cal 55 [vR 49, vI x1] (SH T, c) = some (some (vI 0), (SH T, c8)) := by
  refine (ev_eq _ _ _ _ _ _).trans ?_
  refine (el_call (Nat.ble_eq_true_of_le h1) h2).trans ?_
  refine (if_neg h3).trans ?_
  refine (el_call (Nat.ble_eq_true_of_le h4) h5).trans ?_
  refine (if_neg h6).trans ?_
  refine (el_call (Nat.ble_eq_true_of_le h7) h8).trans ?_
  refine (if_neg h9).trans ?_
  refine (el_call (Nat.ble_eq_true_of_le h10) h11).trans ?_
  refine (if_pos h12).trans ?_
  refine (ev_eq _ _ _ _ _ _).trans ?_
  rfl
theorem E_X6_readPart_9 {T : List Shp} {c : Nat → Int → Int} {x1 : Int} {r1 : Int} {c2 : Nat → Int → Int} {r3 : Int} {c4 : Nat → Int → Int} {r5 : Int} {c6 : Nat → Int → Int} {r7 : Int} {c8 : Nat → Int → Int} (h1 : 1 + 1 ≤ (7 + 10 * (9 - x1).toNat)) (h2 : cal 57 [vR 49, vI 91] (SH T, c) = some (some (vI r1), (SH T, c2))) (h3 : ¬ r1 = 0) (h4 : 3 + 1 ≤ (7 + 10 * (9 - x1).toNat)) (h5 : cal 56 [vR 49, vI x1] (SH T, c2) = some (some (vI r3), (SH T, c4))) (h6 : ¬ r3 = 0) (h7 : (9 + 10 * (9 - (w32 (x1 + 1))).toNat) + 1 ≤ (7 + 10 * (9 - x1).toNat)) (h8 : cal 53 [vR 49, vI (w32 (x1 + 1))] (SH T, c4) = some (some (vI r5), (SH T, c6))) (h9 : ¬ r5 = 0) (h10 : 3 + 1 ≤ (7 + 10 * (9 - x1).toNat)) (h11 : cal 58 [vR 49, vI 93] (SH T, c6) = some (some (vI r7), (SH T, c8))) (h12 : ¬ r7 = 0) : cal 55 [vR 49, vI x1] (SH T, c) = some (some (vI 1), (SH T, c8)) := by
  refine (ev_eq _ _ _ _ _ _).trans ?_
  refine (el_call (Nat.ble_eq_true_of_le h1) h2).trans ?_
  refine (if_neg h3).trans ?_
  refine (el_call (Nat.ble_eq_true_of_le h4) h5).trans ?_
  refine (if_neg h6).trans ?_
  refine (el_call (Nat.ble_eq_true_of_le h7) h8).trans ?_
  refine (if_neg h9).trans ?_
  refine (el_call (Nat.ble_eq_true_of_le h10) h11).trans ?_
  refine (if_neg h12).trans ?_
  rfl
theorem B_X6_readPart_114_1 {T : List Shp} {c : Nat → Int → Int} {nd : Nat} {y0 : Int} {r1 : Int} {c2 : Nat → Int → Int} (h1 : 6 + 1 ≤ nd) (h2 : cal 60 [vR 49, vR y0] (SH T, c) = some (some (vI r1), (SH T, c2))) (h3 : r1 = (-1)) : ev 55 nd 114 [vR 49, vU, vU] [vR y0, vR 49] (SH T, c) = some (some (vI 0), (SH T, c2)) := by
  refine (ev_eq _ _ _ _ _ _).trans ?_
  refine (el_call (Nat.ble_eq_true_of_le h1) h2).trans ?_
  refine (if_pos h3).trans ?_
  refine (ev_eq _ _ _ _ _ _).trans ?_
  rfl

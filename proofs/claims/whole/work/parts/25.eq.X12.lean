theorem E_X12_terms_1 {T : List Shp} {c : Nat → Int → Int} {x1 x2 : Int} {r1 : Int} {c2 : Nat → Int → Int} {r3 : Int} {c4 : Nat → Int → Int} (h1 : cal 208 [vI x1, vI x2] (SH T, (up c 77 0 0)) = some (some (vI r1), (SH T, c2))) (h2 : r1 = 0) (h3 : cal 190 [vR 78, vI (-1)] (SH T, c2) = some (some (vI r3), (SH T, c4))) : cal 209 [vR 78, vI x1, vI x2] (SH T, c) = some (some (vI r3), (SH T, c4)) := by
  refine (ev_eq _ _ _ _ _ _).trans ?_
  refine (el_call rfl h1).trans ?_
  refine (if_pos h2).trans ?_
  refine (ev_eq _ _ _ _ _ _).trans ?_
  refine (el_call rfl h3).trans ?_
  rfl
theorem E_X12_terms_2 {T : List Shp} {c : Nat → Int → Int} {x1 x2 : Int} {r1 : Int} {c2 : Nat → Int → Int} {r3 : Int} {c4 : Nat → Int → Int} (h1 : cal 208 [vI x1, vI x2] (SH T, (up c 77 0 0)) = some (some (vI r1), (SH T, c2))) (h2 : ¬ r1 = 0) (h3 : cal 191 [vR 78, vI (w32 (7 + x1)), vI x2] (SH T, c2) = some (some (vI r3), (SH T, c4))) : cal 209 [vR 78, vI x1, vI x2] (SH T, c) = some (some (vI r3), (SH T, c4)) := by
  refine (ev_eq _ _ _ _ _ _).trans ?_
  refine (el_call rfl h1).trans ?_
  refine (if_neg h2).trans ?_
  refine (el_call rfl h3).trans ?_
  rfl
theorem E_X12_scar_1 {T : List Shp} {c : Nat → Int → Int} {x1 x2 x3 : Int} {r1 : Int} {c2 : Nat → Int → Int} (h1 : cal 194 [vI x1] (SH T, (up c 77 0 0)) = some (some (vI r1), (SH T, c2))) (h2 : r1 = 0) : cal 210 [vR 78, vI x1, vI x2, vI x3] (SH T, c) = ev 210 3 26 [vR 78, vU, vU, vU, vU] [] (SH T, c2) := by
  refine (ev_eq _ _ _ _ _ _).trans ?_
  refine (el_call rfl h1).trans ?_
  refine (if_pos h2).trans ?_
  rfl
theorem E_X12_scar_2 {T : List Shp} {c : Nat → Int → Int} {x1 x2 x3 : Int} {r1 : Int} {c2 : Nat → Int → Int} {r3 : Int} {c4 : Nat → Int → Int} (h1 : cal 194 [vI x1] (SH T, (up c 77 0 0)) = some (some (vI r1), (SH T, c2))) (h2 : ¬ r1 = 0) (h3 : cal 196 [vI x2] (SH T, c2) = some (some (vI r3), (SH T, c4))) (h4 : r3 = 0) : cal 210 [vR 78, vI x1, vI x2, vI x3] (SH T, c) = ev 210 3 26 [vR 78, vU, vU, vU, vU] [] (SH T, c4) := by
  refine (ev_eq _ _ _ _ _ _).trans ?_
  refine (el_call rfl h1).trans ?_
  refine (if_neg h2).trans ?_
  refine (el_call rfl h3).trans ?_
  refine (if_pos h4).trans ?_
  rfl
theorem E_X12_scar_3 {T : List Shp} {c : Nat → Int → Int} {x1 x2 x3 : Int} {r1 : Int} {c2 : Nat → Int → Int} {r3 : Int} {c4 : Nat → Int → Int} {r5 : Int} {c6 : Nat → Int → Int} (h1 : cal 194 [vI x1] (SH T, (up c 77 0 0)) = some (some (vI r1), (SH T, c2))) (h2 : ¬ r1 = 0) (h3 : cal 196 [vI x2] (SH T, c2) = some (some (vI r3), (SH T, c4))) (h4 : ¬ r3 = 0) (h5 : cal 195 [vI x3] (SH T, c4) = some (some (vI r5), (SH T, c6))) (h6 : r5 = 0) : cal 210 [vR 78, vI x1, vI x2, vI x3] (SH T, c) = ev 210 3 26 [vR 78, vU, vU, vU, vU] [] (SH T, c6) := by
  refine (ev_eq _ _ _ _ _ _).trans ?_
  refine (el_call rfl h1).trans ?_
  refine (if_neg h2).trans ?_
  refine (el_call rfl h3).trans ?_
  refine (if_neg h4).trans ?_
  refine (el_call rfl h5).trans ?_
  refine (if_pos h6).trans ?_
  rfl
theorem E_X12_scar_4 {T : List Shp} {c : Nat → Int → Int} {x1 x2 x3 : Int} {r1 : Int} {c2 : Nat → Int → Int} {r3 : Int} {c4 : Nat → Int → Int} {r5 : Int} {c6 : Nat → Int → Int} {r7 : Int} {c8 : Nat → Int → Int} (h1 : cal 194 [vI x1] (SH T, (up c 77 0 0)) = some (some (vI r1), (SH T, c2))) (h2 : ¬ r1 = 0) (h3 : cal 196 [vI x2] (SH T, c2) = some (some (vI r3), (SH T, c4))) (h4 : ¬ r3 = 0) (h5 : cal 195 [vI x3] (SH T, c4) = some (some (vI r5), (SH T, c6))) (h6 : ¬ r5 = 0) (h7 : (c6 79 3) = 6) (h8 : cal 190 [vR 78, vI (-5)] (SH T, c6) = some (some (vI r7), (SH T, c8))) : cal 210 [vR 78, vI x1, vI x2, vI x3] (SH T, c) = some (some (vI r7), (SH T, c8)) := by
  refine (ev_eq _ _ _ _ _ _).trans ?_
  refine (el_call rfl h1).trans ?_
  refine (if_neg h2).trans ?_
  refine (el_call rfl h3).trans ?_
  refine (if_neg h4).trans ?_
  refine (el_call rfl h5).trans ?_
  refine (if_neg h6).trans ?_
  refine (ev_eq _ _ _ _ _ _).trans ?_
  refine (if_pos h7).trans ?_
  refine (el_call rfl h8).trans ?_
  rfl
theorem E_X12_scar_5 {T : List Shp} {c : Nat → Int → Int} {x1 x2 x3 : Int} {r1 : Int} {c2 : Nat → Int → Int} {r3 : Int} {c4 : Nat → Int → Int} {r5 : Int} {c6 : Nat → Int → Int} {r7 : Int} {c8 : Nat → Int → Int} (h1 : cal 194 [vI x1] (SH T, (up c 77 0 0)) = some (some (vI r1), (SH T, c2))) (h2 : ¬ r1 = 0) (h3 : cal 196 [vI x2] (SH T, c2) = some (some (vI r3), (SH T, c4))) (h4 : ¬ r3 = 0) (h5 : cal 195 [vI x3] (SH T, c4) = some (some (vI r5), (SH T, c6))) (h6 : ¬ r5 = 0) (h7 : ¬ (c6 79 3) = 6) (h8 : 0 ≤ (w32 (258 + (w32 (3 * (c6 79 3))))) ∧ (w32 (258 + (w32 (3 * (c6 79 3))))) < 5780) (h9 : 0 ≤ (w32 ((w32 (258 + (w32 (3 * (c6 79 3))))) + 1)) ∧ (w32 ((w32 (258 + (w32 (3 * (c6 79 3))))) + 1)) < 5780) (h10 : 0 ≤ (w32 ((w32 (258 + (w32 (3 * (c6 79 3))))) + 2)) ∧ (w32 ((w32 (258 + (w32 (3 * (c6 79 3))))) + 2)) < 5780) (h11 : cal 190 [vR 78, vI (c6 79 3)] (SH T, (up (up (up (up c6 79 (w32 (258 + (w32 (3 * (c6 79 3))))) x1) 79 (w32 ((w32 (258 + (w32 (3 * (c6 79 3))))) + 1)) x2) 79 (w32 ((w32 (258 + (w32 (3 * (c6 79 3))))) + 2)) x3) 79 3 (w32 (((up (up (up c6 79 (w32 (258 + (w32 (3 * (c6 79 3))))) x1) 79 (w32 ((w32 (258 + (w32 (3 * (c6 79 3))))) + 1)) x2) 79 (w32 ((w32 (258 + (w32 (3 * (c6 79 3))))) + 2)) x3) 79 3) + 1)))) = some (some (vI r7), (SH T, c8))) : cal 210 [vR 78, vI x1, vI x2, vI x3] (SH T, c) = some (some (vI r7), (SH T, c8)) := by
  refine (ev_eq _ _ _ _ _ _).trans ?_
  refine (el_call rfl h1).trans ?_
  refine (if_neg h2).trans ?_
  refine (el_call rfl h3).trans ?_
  refine (if_neg h4).trans ?_
  refine (el_call rfl h5).trans ?_
  refine (if_neg h6).trans ?_
  refine (ev_eq _ _ _ _ _ _).trans ?_
  refine (if_neg h7).trans ?_
  refine (ev_eq _ _ _ _ _ _).trans ?_
  refine (if_pos h8).trans ?_
  refine (if_pos h9).trans ?_
  refine (if_pos h10).trans ?_
  refine (el_call rfl h11).trans ?_
  rfl
theorem B_X12_scar_26 {T : List Shp} {c : Nat → Int → Int} {r1 : Int} {c2 : Nat → Int → Int} (h1 : cal 190 [vR 78, vI (-1)] (SH T, c) = some (some (vI r1), (SH T, c2))) : ev 210 3 26 [vR 78, vU, vU, vU, vU] [] (SH T, c) = some (some (vI r1), (SH T, c2)) := by
  refine (ev_eq _ _ _ _ _ _).trans ?_
  refine (el_call rfl h1).trans ?_
  rfl
theorem E_X12_heal_1 {T : List Shp} {c : Nat → Int → Int} {x1 : Int} {r1 : Int} {c2 : Nat → Int → Int} {r3 : Int} {c4 : Nat → Int → Int} (h1 : cal 186 [vL x1, vL 0, vL (w64 ((c 79 3) - 1))] (SH T, (up c 77 0 0)) = some (some (vI r1), (SH T, c2))) (h2 : r1 = 0) (h3 : cal 190 [vR 78, vI (-2)] (SH T, c2) = some (some (vI r3), (SH T, c4))) : cal 211 [vR 78, vI x1] (SH T, c) = some (some (vI r3), (SH T, c4)) := by
  refine (ev_eq _ _ _ _ _ _).trans ?_
  refine (el_call rfl h1).trans ?_
  refine (if_pos h2).trans ?_
  refine (el_call rfl h3).trans ?_
  rfl
theorem E_X12_heal_2 {T : List Shp} {c : Nat → Int → Int} {x1 : Int} {r1 : Int} {c2 : Nat → Int → Int} (h1 : cal 186 [vL x1, vL 0, vL (w64 ((c 79 3) - 1))] (SH T, (up c 77 0 0)) = some (some (vI r1), (SH T, c2))) (h2 : ¬ r1 = 0) : cal 211 [vR 78, vI x1] (SH T, c) = ev 211 2 38 [vR 78, vU, vI (w32 (258 + (w32 (3 * x1))))] [] (SH T, c2) := by
  refine (ev_eq _ _ _ _ _ _).trans ?_
  refine (el_call rfl h1).trans ?_
  refine (if_neg h2).trans ?_
  refine (ev_eq _ _ _ _ _ _).trans ?_
  rfl
theorem B_X12_heal_38_1 {T : List Shp} {c : Nat → Int → Int} {x2 : Int} (h1 : x2 < 273) (h2 : 0 ≤ (w32 (x2 + 3)) ∧ (w32 (x2 + 3)) < 5780) (h3 : 0 ≤ x2 ∧ x2 < 5780) : ev 211 2 38 [vR 78, vU, vI x2] [] (SH T, c) = ev 211 2 38 [vR 78, vU, vI (w32 (x2 + 1))] [] (SH T, (up c 79 x2 (c 79 (w32 (x2 + 3))))) := by
  refine (ev_eq _ _ _ _ _ _).trans ?_
  refine (if_pos h1).trans ?_
  refine (if_pos h2).trans ?_
  refine (if_pos h3).trans ?_
  rfl
theorem B_X12_heal_38_2 {T : List Shp} {c : Nat → Int → Int} {x2 : Int} {r1 : Int} {c2 : Nat → Int → Int} (h1 : ¬ x2 < 273) (h2 : cal 190 [vR 78, vI (w32 ((c 79 3) - 1))] (SH T, (up c 79 3 (w32 ((c 79 3) - 1)))) = some (some (vI r1), (SH T, c2))) : ev 211 2 38 [vR 78, vU, vI x2] [] (SH T, c) = some (some (vI r1), (SH T, c2)) := by
  refine (ev_eq _ _ _ _ _ _).trans ?_
  refine (if_neg h1).trans ?_
  refine (ev_eq _ _ _ _ _ _).trans ?_
  refine (el_call rfl h2).trans ?_
  rfl
theorem E_X12_row_1 {T : List Shp} {c : Nat → Int → Int} {r1 : Int} {c2 : Nat → Int → Int} (h1 : (c 77 9) = 0) (h2 : cal 190 [vR 78, vI (-6)] (SH T, (up (up c 77 0 0) 77 9 0)) = some (some (vI r1), (SH T, c2))) : cal 212 [vR 78] (SH T, c) = some (some (vI r1), (SH T, c2)) := by
  refine (ev_eq _ _ _ _ _ _).trans ?_
  refine (if_pos h1).trans ?_
  refine (el_call rfl h2).trans ?_
  rfl
theorem E_X12_row_2 {T : List Shp} {c : Nat → Int → Int} (h1 : ¬ (c 77 9) = 0) : cal 212 [vR 78] (SH T, c) = ev 212 3 42 [vR 78, vI (c 77 9), vI 0, vI 0] [] (SH T, (up (up (up (up c 77 0 0) 77 9 0) 77 7 0) 79 4 0)) := by
  refine (ev_eq _ _ _ _ _ _).trans ?_
  refine (if_neg h1).trans ?_
  refine (ev_eq _ _ _ _ _ _).trans ?_
  rfl
theorem B_X12_row_42_1 {T : List Shp} {c : Nat → Int → Int} {x1 x2 x3 : Int} {r1 : Int} {c2 : Nat → Int → Int} (h1 : x3 < x1) (h2 : x3 < 12) (h3 : 0 ≤ x3 ∧ x3 < 400) (h4 : cal 195 [vI (c 83 x3)] (SH T, c) = some (some (vI r1), (SH T, c2))) (h5 : r1 = 0) : ev 212 3 42 [vR 78, vI x1, vI x2, vI x3] [] (SH T, c) = ev 212 3 86 [vR 78, vI x1, vI x2, vI x3] [] (SH T, c2) := by
  refine (ev_eq _ _ _ _ _ _).trans ?_
  refine (if_pos h1).trans ?_
  refine (if_pos h2).trans ?_
  refine (if_pos h3).trans ?_
  refine (el_call rfl h4).trans ?_
  refine (if_pos h5).trans ?_
  rfl
theorem B_X12_row_42_2 {T : List Shp} {c : Nat → Int → Int} {x1 x2 x3 : Int} {r1 : Int} {c2 : Nat → Int → Int} (h1 : x3 < x1) (h2 : x3 < 12) (h3 : 0 ≤ x3 ∧ x3 < 400) (h4 : cal 195 [vI (c 83 x3)] (SH T, c) = some (some (vI r1), (SH T, c2))) (h5 : ¬ r1 = 0) (h6 : 0 ≤ x3 ∧ x3 < 400) (h7 : 0 ≤ (w32 (12 + x3)) ∧ (w32 (12 + x3)) < 5780) : ev 212 3 42 [vR 78, vI x1, vI x2, vI x3] [] (SH T, c) = ev 212 3 42 [vR 78, vI x1, vI (w32 (x2 + 1)), vI (w32 (x3 + 1))] [] (SH T, (up c2 79 (w32 (12 + x3)) (c2 83 x3))) := by
  refine (ev_eq _ _ _ _ _ _).trans ?_
  refine (if_pos h1).trans ?_
  refine (if_pos h2).trans ?_
  refine (if_pos h3).trans ?_
  refine (el_call rfl h4).trans ?_
  refine (if_neg h5).trans ?_
  refine (if_pos h6).trans ?_
  refine (if_pos h7).trans ?_
  rfl
theorem B_X12_row_42_3 {T : List Shp} {c : Nat → Int → Int} {x1 x2 x3 : Int} (h1 : x3 < x1) (h2 : ¬ x3 < 12) : ev 212 3 42 [vR 78, vI x1, vI x2, vI x3] [] (SH T, c) = ev 212 3 86 [vR 78, vI x1, vI x2, vI x3] [] (SH T, c) := by
  refine (ev_eq _ _ _ _ _ _).trans ?_
  refine (if_pos h1).trans ?_
  refine (if_neg h2).trans ?_
  rfl
theorem B_X12_row_42_4 {T : List Shp} {c : Nat → Int → Int} {x1 x2 x3 : Int} {r1 : Int} {c2 : Nat → Int → Int} (h1 : ¬ x3 < x1) (h2 : cal 190 [vR 78, vI x2] (SH T, c) = some (some (vI r1), (SH T, c2))) : ev 212 3 42 [vR 78, vI x1, vI x2, vI x3] [] (SH T, c) = some (some (vI r1), (SH T, c2)) := by
  refine (ev_eq _ _ _ _ _ _).trans ?_
  refine (if_neg h1).trans ?_
  refine (ev_eq _ _ _ _ _ _).trans ?_
  refine (el_call rfl h2).trans ?_
  rfl
theorem B_X12_row_86 {T : List Shp} {c : Nat → Int → Int} {x1 x2 x3 : Int}  : ev 212 3 86 [vR 78, vI x1, vI x2, vI x3] [] (SH T, c) = ev 212 3 42 [vR 78, vI x1, vI x2, vI (w32 (x3 + 1))] [] (SH T, (up c 77 7 (w32 ((c 77 7) + 1)))) := by
  refine (ev_eq _ _ _ _ _ _).trans ?_
  rfl
theorem E_X12_flakes {T : List Shp} {c : Nat → Int → Int}  : cal 213 [vR 78] (SH T, c) = some (some (vI (c 77 7)), (SH T, (up c 77 0 0))) := by
  refine (ev_eq _ _ _ _ _ _).trans ?_
  rfl
theorem E_X12_four {T : List Shp} {c : Nat → Int → Int} {x1 : Int}  : cal 214 [vR 78, vI x1] (SH T, c) = ev 214 1 3 [vR 78, vI x1, vI 24] [] (SH T, c) := by
  refine (ev_eq _ _ _ _ _ _).trans ?_
  rfl
theorem B_X12_four_3_1 {T : List Shp} {c : Nat → Int → Int} {x1 x2 : Int} (h1 : x2 < 0) : ev 214 1 3 [vR 78, vI x1, vI x2] [] (SH T, c) = some (none, (SH T, c)) := by
  refine (ev_eq _ _ _ _ _ _).trans ?_
  refine (if_pos h1).trans ?_
  refine (ev_eq _ _ _ _ _ _).trans ?_
  rfl
theorem B_X12_four_3_2 {T : List Shp} {c : Nat → Int → Int} {x1 x2 : Int} (h1 : ¬ x2 < 0) (h2 : 0 ≤ (c 77 9) ∧ (c 77 9) < 400) : ev 214 1 3 [vR 78, vI x1, vI x2] [] (SH T, c) = ev 214 1 3 [vR 78, vI x1, vI (w32 (x2 + (-8)))] [] (SH T, (up (up c 83 (c 77 9) (iand (ishr x1 x2) 255)) 77 9 (w32 ((c 77 9) + 1)))) := by
  refine (ev_eq _ _ _ _ _ _).trans ?_
  refine (if_neg h1).trans ?_
  refine (if_pos h2).trans ?_
  rfl
theorem E_X12_feed_1 {T : List Shp} {c : Nat → Int → Int} {x1 x2 x3 x4 x5 : Int} (h1 : 400 < (w32 ((c 77 9) + 20))) : cal 215 [vR 78, vI x1, vI x2, vI x3, vI x4, vI x5] (SH T, c) = some (some (vI (-1)), (SH T, (up c 77 0 0))) := by
  refine (ev_eq _ _ _ _ _ _).trans ?_
  refine (if_pos h1).trans ?_
  rfl
theorem E_X12_feed_2 {T : List Shp} {c : Nat → Int → Int} {x1 x2 x3 x4 x5 : Int} {c1 : Nat → Int → Int} {c2 : Nat → Int → Int} {c3 : Nat → Int → Int} {c4 : Nat → Int → Int} {c5 : Nat → Int → Int} (h1 : ¬ 400 < (w32 ((c 77 9) + 20))) (h2 : cal 214 [vR 78, vI x1] (SH T, (up c 77 0 0)) = some (none, (SH T, c1))) (h3 : cal 214 [vR 78, vI x2] (SH T, c1) = some (none, (SH T, c2))) (h4 : cal 214 [vR 78, vI x3] (SH T, c2) = some (none, (SH T, c3))) (h5 : cal 214 [vR 78, vI x4] (SH T, c3) = some (none, (SH T, c4))) (h6 : cal 214 [vR 78, vI x5] (SH T, c4) = some (none, (SH T, c5))) : cal 215 [vR 78, vI x1, vI x2, vI x3, vI x4, vI x5] (SH T, c) = some (some (vI (c5 77 9)), (SH T, c5)) := by
  refine (ev_eq _ _ _ _ _ _).trans ?_
  refine (if_neg h1).trans ?_
  refine (ev_eq _ _ _ _ _ _).trans ?_
  refine (el_call rfl h2).trans ?_
  refine (el_call rfl h3).trans ?_
  refine (el_call rfl h4).trans ?_
  refine (el_call rfl h5).trans ?_
  refine (el_call rfl h6).trans ?_
  rfl
theorem E_X12_end_1 {T : List Shp} {c : Nat → Int → Int} {x1 : Int} (h1 : x1 < 0) : cal 216 [vR 78, vI x1] (SH T, c) = some (some (vI (-1)), (SH T, (up c 77 0 0))) := by
  refine (ev_eq _ _ _ _ _ _).trans ?_
  refine (if_pos h1).trans ?_
  refine (ev_eq _ _ _ _ _ _).trans ?_
  rfl
theorem E_X12_end_2 {T : List Shp} {c : Nat → Int → Int} {x1 : Int} (h1 : ¬ x1 < 0) (h2 : (c 77 9) < x1) : cal 216 [vR 78, vI x1] (SH T, c) = some (some (vI (-1)), (SH T, (up c 77 0 0))) := by
  refine (ev_eq _ _ _ _ _ _).trans ?_
  refine (if_neg h1).trans ?_
  refine (if_pos h2).trans ?_
  refine (ev_eq _ _ _ _ _ _).trans ?_
  rfl
theorem E_X12_end_3 {T : List Shp} {c : Nat → Int → Int} {x1 : Int} (h1 : ¬ x1 < 0) (h2 : ¬ (c 77 9) < x1) : cal 216 [vR 78, vI x1] (SH T, c) = some (some (vI x1), (SH T, (up (up c 77 0 0) 77 9 x1))) := by
  refine (ev_eq _ _ _ _ _ _).trans ?_
  refine (if_neg h1).trans ?_
  refine (if_neg h2).trans ?_
  refine (ev_eq _ _ _ _ _ _).trans ?_
  rfl
theorem E_X12_isSmall_1 {T : List Shp} {c : Nat → Int → Int} {x0 : Int} (h1 : x0 < 97) : cal 217 [vI x0] (SH T, c) = some (some (vI 0), (SH T, c)) := by
  refine (ev_eq _ _ _ _ _ _).trans ?_
  refine (if_pos h1).trans ?_
  refine (ev_eq _ _ _ _ _ _).trans ?_
  rfl
theorem E_X12_isSmall_2 {T : List Shp} {c : Nat → Int → Int} {x0 : Int} (h1 : ¬ x0 < 97) (h2 : 122 < x0) : cal 217 [vI x0] (SH T, c) = some (some (vI 0), (SH T, c)) := by
  refine (ev_eq _ _ _ _ _ _).trans ?_
  refine (if_neg h1).trans ?_
  refine (if_pos h2).trans ?_
  refine (ev_eq _ _ _ _ _ _).trans ?_
  rfl
theorem E_X12_isSmall_3 {T : List Shp} {c : Nat → Int → Int} {x0 : Int} (h1 : ¬ x0 < 97) (h2 : ¬ 122 < x0) : cal 217 [vI x0] (SH T, c) = some (some (vI 1), (SH T, c)) := by
  refine (ev_eq _ _ _ _ _ _).trans ?_
  refine (if_neg h1).trans ?_
  refine (if_neg h2).trans ?_
  rfl
theorem E_X12_isDigit_1 {T : List Shp} {c : Nat → Int → Int} {x0 : Int} (h1 : x0 < 48) : cal 218 [vI x0] (SH T, c) = some (some (vI 0), (SH T, c)) := by
  refine (ev_eq _ _ _ _ _ _).trans ?_
  refine (if_pos h1).trans ?_
  refine (ev_eq _ _ _ _ _ _).trans ?_
  rfl
theorem E_X12_isDigit_2 {T : List Shp} {c : Nat → Int → Int} {x0 : Int} (h1 : ¬ x0 < 48) (h2 : 57 < x0) : cal 218 [vI x0] (SH T, c) = some (some (vI 0), (SH T, c)) := by
  refine (ev_eq _ _ _ _ _ _).trans ?_
  refine (if_neg h1).trans ?_
  refine (if_pos h2).trans ?_
  refine (ev_eq _ _ _ _ _ _).trans ?_
  rfl
theorem E_X12_isDigit_3 {T : List Shp} {c : Nat → Int → Int} {x0 : Int} (h1 : ¬ x0 < 48) (h2 : ¬ 57 < x0) : cal 218 [vI x0] (SH T, c) = some (some (vI 1), (SH T, c)) := by
  refine (ev_eq _ _ _ _ _ _).trans ?_
  refine (if_neg h1).trans ?_
  refine (if_neg h2).trans ?_
  rfl
theorem E_X12_begin {T : List Shp} {c : Nat → Int → Int} {c1 : Nat → Int → Int} (h1 : cal 220 [vR 78] (SH T, (up (up (up c 77 11 0) 77 15 0) 77 14 (-1))) = some (none, (SH T, c1))) : cal 219 [vR 78] (SH T, c) = some (none, (SH T, c1)) := by
  refine (ev_eq _ _ _ _ _ _).trans ?_
  refine (el_call rfl h1).trans ?_
  rfl
theorem E_X12_next {T : List Shp} {c : Nat → Int → Int}  : cal 220 [vR 78] (SH T, c) = ev 220 2 8 [vR 78] [] (SH T, (up c 77 10 (c 77 11))) := by
  refine (ev_eq _ _ _ _ _ _).trans ?_
  rfl
theorem B_X12_next_8_1 {T : List Shp} {c : Nat → Int → Int} (h1 : (c 77 10) < (c 77 9)) (h2 : 0 ≤ (c 77 10) ∧ (c 77 10) < 400) (h3 : (c 83 (c 77 10)) = 32) : ev 220 2 8 [vR 78] [] (SH T, c) = ev 220 2 8 [vR 78] [] (SH T, (up c 77 10 (w32 ((c 77 10) + 1)))) := by
  refine (ev_eq _ _ _ _ _ _).trans ?_
  refine (if_pos h1).trans ?_
  refine (if_pos h2).trans ?_
  refine (if_pos h3).trans ?_
  rfl
theorem B_X12_next_8_2 {T : List Shp} {c : Nat → Int → Int} (h1 : (c 77 10) < (c 77 9)) (h2 : 0 ≤ (c 77 10) ∧ (c 77 10) < 400) (h3 : ¬ (c 83 (c 77 10)) = 32) : ev 220 2 8 [vR 78] [] (SH T, c) = ev 220 2 46 [vR 78] [] (SH T, c) := by
  refine (ev_eq _ _ _ _ _ _).trans ?_
  refine (if_pos h1).trans ?_
  refine (if_pos h2).trans ?_
  refine (if_neg h3).trans ?_
  rfl
theorem B_X12_next_8_3 {T : List Shp} {c : Nat → Int → Int} (h1 : ¬ (c 77 10) < (c 77 9)) : ev 220 2 8 [vR 78] [] (SH T, c) = ev 220 2 46 [vR 78] [] (SH T, c) := by
  refine (ev_eq _ _ _ _ _ _).trans ?_
  refine (if_neg h1).trans ?_
  rfl
theorem B_X12_next_46_1 {T : List Shp} {c : Nat → Int → Int} (h1 : (c 77 10) = (c 77 9)) : ev 220 2 46 [vR 78] [] (SH T, c) = ev 220 2 114 [vR 78] [vI 0, vR 78] (SH T, (up (up c 77 11 (c 77 10)) 77 13 0)) := by
  refine (ev_eq _ _ _ _ _ _).trans ?_
  refine (if_pos h1).trans ?_
  rfl
theorem B_X12_next_46_2 {T : List Shp} {c : Nat → Int → Int} {r1 : Int} {c2 : Nat → Int → Int} {r3 : Int} {c4 : Nat → Int → Int} (h1 : ¬ (c 77 10) = (c 77 9)) (h2 : 0 ≤ (c 77 10) ∧ (c 77 10) < 400) (h3 : cal 217 [vI (c 83 (c 77 10))] (SH T, (up (up c 77 11 (c 77 10)) 77 13 0)) = some (some (vI r1), (SH T, c2))) (h4 : r1 = 0) (h5 : 0 ≤ (c2 77 10) ∧ (c2 77 10) < 400) (h6 : cal 218 [vI (c2 83 (c2 77 10))] (SH T, c2) = some (some (vI r3), (SH T, c4))) (h7 : r3 = 0) : ev 220 2 46 [vR 78] [] (SH T, c) = ev 220 2 114 [vR 78] [vI 3, vR 78] (SH T, c4) := by
  refine (ev_eq _ _ _ _ _ _).trans ?_
  refine (if_neg h1).trans ?_
  refine (ev_eq _ _ _ _ _ _).trans ?_
  refine (if_pos h2).trans ?_
  refine (el_call rfl h3).trans ?_
  refine (if_pos h4).trans ?_
  refine (ev_eq _ _ _ _ _ _).trans ?_
  refine (if_pos h5).trans ?_
  refine (el_call rfl h6).trans ?_
  refine (if_pos h7).trans ?_
  refine (ev_eq _ _ _ _ _ _).trans ?_
  rfl
theorem B_X12_next_46_3 {T : List Shp} {c : Nat → Int → Int} {r1 : Int} {c2 : Nat → Int → Int} {r3 : Int} {c4 : Nat → Int → Int} (h1 : ¬ (c 77 10) = (c 77 9)) (h2 : 0 ≤ (c 77 10) ∧ (c 77 10) < 400) (h3 : cal 217 [vI (c 83 (c 77 10))] (SH T, (up (up c 77 11 (c 77 10)) 77 13 0)) = some (some (vI r1), (SH T, c2))) (h4 : r1 = 0) (h5 : 0 ≤ (c2 77 10) ∧ (c2 77 10) < 400) (h6 : cal 218 [vI (c2 83 (c2 77 10))] (SH T, c2) = some (some (vI r3), (SH T, c4))) (h7 : ¬ r3 = 0) : ev 220 2 46 [vR 78] [] (SH T, c) = ev 220 2 114 [vR 78] [vI 2, vR 78] (SH T, c4) := by
  refine (ev_eq _ _ _ _ _ _).trans ?_
  refine (if_neg h1).trans ?_
  refine (ev_eq _ _ _ _ _ _).trans ?_
  refine (if_pos h2).trans ?_
  refine (el_call rfl h3).trans ?_
  refine (if_pos h4).trans ?_
  refine (ev_eq _ _ _ _ _ _).trans ?_
  refine (if_pos h5).trans ?_
  refine (el_call rfl h6).trans ?_
  refine (if_neg h7).trans ?_
  rfl
theorem B_X12_next_46_4 {T : List Shp} {c : Nat → Int → Int} {r1 : Int} {c2 : Nat → Int → Int} (h1 : ¬ (c 77 10) = (c 77 9)) (h2 : 0 ≤ (c 77 10) ∧ (c 77 10) < 400) (h3 : cal 217 [vI (c 83 (c 77 10))] (SH T, (up (up c 77 11 (c 77 10)) 77 13 0)) = some (some (vI r1), (SH T, c2))) (h4 : ¬ r1 = 0) : ev 220 2 46 [vR 78] [] (SH T, c) = ev 220 2 114 [vR 78] [vI 1, vR 78] (SH T, c2) := by
  refine (ev_eq _ _ _ _ _ _).trans ?_
  refine (if_neg h1).trans ?_
  refine (ev_eq _ _ _ _ _ _).trans ?_
  refine (if_pos h2).trans ?_
  refine (el_call rfl h3).trans ?_
  refine (if_neg h4).trans ?_
  rfl
theorem B_X12_next_114_1 {T : List Shp} {c : Nat → Int → Int} {y0 : Int} (h1 : y0 = 3) (h2 : 0 ≤ (c 77 10) ∧ (c 77 10) < 400) : ev 220 2 114 [vR 78] [vI y0, vR 78] (SH T, c) = ev 220 2 149 [vR 78] [] (SH T, (up (up (up c 77 12 y0) 77 13 (c 83 (c 77 10))) 77 11 (w32 ((c 77 11) + 1)))) := by
  refine (ev_eq _ _ _ _ _ _).trans ?_
  refine (if_pos h1).trans ?_
  refine (if_pos h2).trans ?_
  rfl
theorem B_X12_next_114_2 {T : List Shp} {c : Nat → Int → Int} {y0 : Int} (h1 : ¬ y0 = 3) : ev 220 2 114 [vR 78] [vI y0, vR 78] (SH T, c) = ev 220 2 149 [vR 78] [] (SH T, (up c 77 12 y0)) := by
  refine (ev_eq _ _ _ _ _ _).trans ?_
  refine (if_neg h1).trans ?_
  rfl
theorem B_X12_next_149_1 {T : List Shp} {c : Nat → Int → Int} {r1 : Int} {c2 : Nat → Int → Int} (h1 : (c 77 12) = 1) (h2 : (c 77 11) < (c 77 9)) (h3 : 0 ≤ (c 77 11) ∧ (c 77 11) < 400) (h4 : cal 217 [vI (c 83 (c 77 11))] (SH T, c) = some (some (vI r1), (SH T, c2))) (h5 : r1 = 0) : ev 220 2 149 [vR 78] [] (SH T, c) = ev 220 2 243 [vR 78] [] (SH T, c2) := by
  refine (ev_eq _ _ _ _ _ _).trans ?_
  refine (if_pos h1).trans ?_
  refine (if_pos h2).trans ?_
  refine (if_pos h3).trans ?_
  refine (el_call rfl h4).trans ?_
  refine (if_pos h5).trans ?_
  rfl
theorem B_X12_next_149_2 {T : List Shp} {c : Nat → Int → Int} {r1 : Int} {c2 : Nat → Int → Int} (h1 : (c 77 12) = 1) (h2 : (c 77 11) < (c 77 9)) (h3 : 0 ≤ (c 77 11) ∧ (c 77 11) < 400) (h4 : cal 217 [vI (c 83 (c 77 11))] (SH T, c) = some (some (vI r1), (SH T, c2))) (h5 : ¬ r1 = 0) (h6 : (w32 ((c2 77 11) - (c2 77 10))) < 10) (h7 : 0 ≤ (c2 77 11) ∧ (c2 77 11) < 400) : ev 220 2 149 [vR 78] [] (SH T, c) = ev 220 2 227 [vR 78] [vL (w64 ((w64 ((w64 ((c2 77 13) * 32)) + (c2 83 (c2 77 11)))) - 96)), vR 78] (SH T, c2) := by
  refine (ev_eq _ _ _ _ _ _).trans ?_
  refine (if_pos h1).trans ?_
  refine (if_pos h2).trans ?_
  refine (if_pos h3).trans ?_
  refine (el_call rfl h4).trans ?_
  refine (if_neg h5).trans ?_
  refine (if_pos h6).trans ?_
  refine (if_pos h7).trans ?_
  rfl
theorem B_X12_next_149_3 {T : List Shp} {c : Nat → Int → Int} {r1 : Int} {c2 : Nat → Int → Int} (h1 : (c 77 12) = 1) (h2 : (c 77 11) < (c 77 9)) (h3 : 0 ≤ (c 77 11) ∧ (c 77 11) < 400) (h4 : cal 217 [vI (c 83 (c 77 11))] (SH T, c) = some (some (vI r1), (SH T, c2))) (h5 : ¬ r1 = 0) (h6 : ¬ (w32 ((c2 77 11) - (c2 77 10))) < 10) : ev 220 2 149 [vR 78] [] (SH T, c) = ev 220 2 227 [vR 78] [vL (-1), vR 78] (SH T, c2) := by
  refine (ev_eq _ _ _ _ _ _).trans ?_
  refine (if_pos h1).trans ?_
  refine (if_pos h2).trans ?_
  refine (if_pos h3).trans ?_
  refine (el_call rfl h4).trans ?_
  refine (if_neg h5).trans ?_
  refine (if_neg h6).trans ?_
  refine (ev_eq _ _ _ _ _ _).trans ?_
  rfl
theorem B_X12_next_149_4 {T : List Shp} {c : Nat → Int → Int} (h1 : (c 77 12) = 1) (h2 : ¬ (c 77 11) < (c 77 9)) : ev 220 2 149 [vR 78] [] (SH T, c) = ev 220 2 243 [vR 78] [] (SH T, c) := by
  refine (ev_eq _ _ _ _ _ _).trans ?_
  refine (if_pos h1).trans ?_
  refine (if_neg h2).trans ?_
  rfl
theorem B_X12_next_149_5 {T : List Shp} {c : Nat → Int → Int} (h1 : ¬ (c 77 12) = 1) : ev 220 2 149 [vR 78] [] (SH T, c) = ev 220 2 243 [vR 78] [] (SH T, c) := by
  refine (ev_eq _ _ _ _ _ _).trans ?_
  refine (if_neg h1).trans ?_
  rfl
theorem B_X12_next_227 {T : List Shp} {c : Nat → Int → Int} {y0 : Int}  : ev 220 2 227 [vR 78] [vL y0, vR 78] (SH T, c) = ev 220 2 149 [vR 78] [] (SH T, (up (up c 77 13 y0) 77 11 (w32 ((c 77 11) + 1)))) := by
  refine (ev_eq _ _ _ _ _ _).trans ?_
  rfl
theorem B_X12_next_243_1 {T : List Shp} {c : Nat → Int → Int} {r1 : Int} {c2 : Nat → Int → Int} (h1 : (c 77 12) = 2) (h2 : (c 77 11) < (c 77 9)) (h3 : 0 ≤ (c 77 11) ∧ (c 77 11) < 400) (h4 : cal 218 [vI (c 83 (c 77 11))] (SH T, c) = some (some (vI r1), (SH T, c2))) (h5 : r1 = 0) : ev 220 2 243 [vR 78] [] (SH T, c) = some (none, (SH T, c2)) := by
  refine (ev_eq _ _ _ _ _ _).trans ?_
  refine (if_pos h1).trans ?_
  refine (if_pos h2).trans ?_
  refine (if_pos h3).trans ?_
  refine (el_call rfl h4).trans ?_
  refine (if_pos h5).trans ?_
  refine (ev_eq _ _ _ _ _ _).trans ?_
  rfl
theorem B_X12_next_243_2 {T : List Shp} {c : Nat → Int → Int} {r1 : Int} {c2 : Nat → Int → Int} (h1 : (c 77 12) = 2) (h2 : (c 77 11) < (c 77 9)) (h3 : 0 ≤ (c 77 11) ∧ (c 77 11) < 400) (h4 : cal 218 [vI (c 83 (c 77 11))] (SH T, c) = some (some (vI r1), (SH T, c2))) (h5 : ¬ r1 = 0) (h6 : (c2 77 13) < 1000000) (h7 : 0 ≤ (c2 77 11) ∧ (c2 77 11) < 400) : ev 220 2 243 [vR 78] [] (SH T, c) = ev 220 2 319 [vR 78] [vL (w64 ((w64 ((w64 ((c2 77 13) * 10)) + (c2 83 (c2 77 11)))) - 48)), vR 78] (SH T, c2) := by
  refine (ev_eq _ _ _ _ _ _).trans ?_
  refine (if_pos h1).trans ?_
  refine (if_pos h2).trans ?_
  refine (if_pos h3).trans ?_
  refine (el_call rfl h4).trans ?_
  refine (if_neg h5).trans ?_
  refine (if_pos h6).trans ?_
  refine (ev_eq _ _ _ _ _ _).trans ?_
  refine (if_pos h7).trans ?_
  rfl
theorem B_X12_next_243_3 {T : List Shp} {c : Nat → Int → Int} {r1 : Int} {c2 : Nat → Int → Int} (h1 : (c 77 12) = 2) (h2 : (c 77 11) < (c 77 9)) (h3 : 0 ≤ (c 77 11) ∧ (c 77 11) < 400) (h4 : cal 218 [vI (c 83 (c 77 11))] (SH T, c) = some (some (vI r1), (SH T, c2))) (h5 : ¬ r1 = 0) (h6 : (c2 77 13) = 1000000) (h7 : 0 ≤ (c2 77 11) ∧ (c2 77 11) < 400) : ev 220 2 243 [vR 78] [] (SH T, c) = ev 220 2 319 [vR 78] [vL (w64 ((w64 ((w64 ((c2 77 13) * 10)) + (c2 83 (c2 77 11)))) - 48)), vR 78] (SH T, c2) := by
  refine (ev_eq _ _ _ _ _ _).trans ?_
  refine (if_pos h1).trans ?_
  refine (if_pos h2).trans ?_
  refine (if_pos h3).trans ?_
  refine (el_call rfl h4).trans ?_
  refine (if_neg h5).trans ?_
  refine (if_neg (by omega)).trans ?_
  refine (if_pos h6).trans ?_
  refine (ev_eq _ _ _ _ _ _).trans ?_
  refine (if_pos h7).trans ?_
  rfl
theorem B_X12_next_243_4 {T : List Shp} {c : Nat → Int → Int} {r1 : Int} {c2 : Nat → Int → Int} (h1 : (c 77 12) = 2) (h2 : (c 77 11) < (c 77 9)) (h3 : 0 ≤ (c 77 11) ∧ (c 77 11) < 400) (h4 : cal 218 [vI (c 83 (c 77 11))] (SH T, c) = some (some (vI r1), (SH T, c2))) (h5 : ¬ r1 = 0) (h6 : ¬ (c2 77 13) < 1000000 ∧ ¬ (c2 77 13) = 1000000) : ev 220 2 243 [vR 78] [] (SH T, c) = ev 220 2 319 [vR 78] [vL (c2 77 13), vR 78] (SH T, c2) := by
  refine (ev_eq _ _ _ _ _ _).trans ?_
  refine (if_pos h1).trans ?_
  refine (if_pos h2).trans ?_
  refine (if_pos h3).trans ?_
  refine (el_call rfl h4).trans ?_
  refine (if_neg h5).trans ?_
  refine (if_neg h6.1).trans ?_
  refine (if_neg h6.2).trans ?_
  rfl
theorem B_X12_next_243_5 {T : List Shp} {c : Nat → Int → Int} (h1 : (c 77 12) = 2) (h2 : ¬ (c 77 11) < (c 77 9)) : ev 220 2 243 [vR 78] [] (SH T, c) = some (none, (SH T, c)) := by
  refine (ev_eq _ _ _ _ _ _).trans ?_
  refine (if_pos h1).trans ?_
  refine (if_neg h2).trans ?_
  refine (ev_eq _ _ _ _ _ _).trans ?_
  rfl
theorem B_X12_next_243_6 {T : List Shp} {c : Nat → Int → Int} (h1 : ¬ (c 77 12) = 2) : ev 220 2 243 [vR 78] [] (SH T, c) = some (none, (SH T, c)) := by
  refine (ev_eq _ _ _ _ _ _).trans ?_
  refine (if_neg h1).trans ?_
  refine (ev_eq _ _ _ _ _ _).trans ?_
  rfl
theorem B_X12_next_319 {T : List Shp} {c : Nat → Int → Int} {y0 : Int}  : ev 220 2 319 [vR 78] [vL y0, vR 78] (SH T, c) = ev 220 2 243 [vR 78] [] (SH T, (up (up c 77 13 y0) 77 11 (w32 ((c 77 11) + 1)))) := by
  refine (ev_eq _ _ _ _ _ _).trans ?_
  rfl
theorem E_X12_isWord_1 {T : List Shp} {c : Nat → Int → Int} {x1 : Int} (h1 : (c 77 12) = 1) (h2 : (c 77 13) < x1) : cal 221 [vR 78, vL x1] (SH T, c) = some (some (vI 0), (SH T, c)) := by
  refine (ev_eq _ _ _ _ _ _).trans ?_
  refine (if_pos h1).trans ?_
  refine (if_pos h2).trans ?_
  refine (ev_eq _ _ _ _ _ _).trans ?_
  rfl
theorem E_X12_isWord_2 {T : List Shp} {c : Nat → Int → Int} {x1 : Int} (h1 : (c 77 12) = 1) (h2 : (c 77 13) = x1) : cal 221 [vR 78, vL x1] (SH T, c) = some (some (vI 1), (SH T, c)) := by
  refine (ev_eq _ _ _ _ _ _).trans ?_
  refine (if_pos h1).trans ?_
  refine (if_neg (by omega)).trans ?_
  refine (if_pos h2).trans ?_
  rfl
theorem E_X12_isWord_3 {T : List Shp} {c : Nat → Int → Int} {x1 : Int} (h1 : (c 77 12) = 1) (h2 : ¬ (c 77 13) < x1 ∧ ¬ (c 77 13) = x1) : cal 221 [vR 78, vL x1] (SH T, c) = some (some (vI 0), (SH T, c)) := by
  refine (ev_eq _ _ _ _ _ _).trans ?_
  refine (if_pos h1).trans ?_
  refine (if_neg h2.1).trans ?_
  refine (if_neg h2.2).trans ?_
  refine (ev_eq _ _ _ _ _ _).trans ?_
  rfl
theorem E_X12_isWord_4 {T : List Shp} {c : Nat → Int → Int} {x1 : Int} (h1 : ¬ (c 77 12) = 1) : cal 221 [vR 78, vL x1] (SH T, c) = some (some (vI 0), (SH T, c)) := by
  refine (ev_eq _ _ _ _ _ _).trans ?_
  refine (if_neg h1).trans ?_
  refine (ev_eq _ _ _ _ _ _).trans ?_
  rfl
theorem E_X12_isSign_1 {T : List Shp} {c : Nat → Int → Int} {x1 : Int} (h1 : (c 77 12) = 3) (h2 : (c 77 13) < x1) : cal 222 [vR 78, vI x1] (SH T, c) = some (some (vI 0), (SH T, c)) := by
  refine (ev_eq _ _ _ _ _ _).trans ?_
  refine (if_pos h1).trans ?_
  refine (if_pos h2).trans ?_
  refine (ev_eq _ _ _ _ _ _).trans ?_
  rfl
theorem E_X12_isSign_2 {T : List Shp} {c : Nat → Int → Int} {x1 : Int} (h1 : (c 77 12) = 3) (h2 : (c 77 13) = x1) : cal 222 [vR 78, vI x1] (SH T, c) = some (some (vI 1), (SH T, c)) := by
  refine (ev_eq _ _ _ _ _ _).trans ?_
  refine (if_pos h1).trans ?_
  refine (if_neg (by omega)).trans ?_
  refine (if_pos h2).trans ?_
  rfl
theorem E_X12_isSign_3 {T : List Shp} {c : Nat → Int → Int} {x1 : Int} (h1 : (c 77 12) = 3) (h2 : ¬ (c 77 13) < x1 ∧ ¬ (c 77 13) = x1) : cal 222 [vR 78, vI x1] (SH T, c) = some (some (vI 0), (SH T, c)) := by
  refine (ev_eq _ _ _ _ _ _).trans ?_
  refine (if_pos h1).trans ?_
  refine (if_neg h2.1).trans ?_
  refine (if_neg h2.2).trans ?_
  refine (ev_eq _ _ _ _ _ _).trans ?_
  rfl
theorem E_X12_isSign_4 {T : List Shp} {c : Nat → Int → Int} {x1 : Int} (h1 : ¬ (c 77 12) = 3) : cal 222 [vR 78, vI x1] (SH T, c) = some (some (vI 0), (SH T, c)) := by
  refine (ev_eq _ _ _ _ _ _).trans ?_
  refine (if_neg h1).trans ?_
  refine (ev_eq _ _ _ _ _ _).trans ?_
  rfl
theorem E_X12_must_1 {T : List Shp} {c : Nat → Int → Int} {x1 : Int} (h1 : (c 77 15) = 0) (h2 : x1 = 0) : cal 223 [vR 78, vI x1] (SH T, c) = ev 223 3 24 [vR 78, vU] [] (SH T, (up (up c 77 15 1) 77 14 (c 77 10))) := by
  refine (ev_eq _ _ _ _ _ _).trans ?_
  refine (if_pos h1).trans ?_
  refine (if_pos h2).trans ?_
  rfl
theorem E_X12_must_2 {T : List Shp} {c : Nat → Int → Int} {x1 : Int} (h1 : (c 77 15) = 0) (h2 : ¬ x1 = 0) : cal 223 [vR 78, vI x1] (SH T, c) = ev 223 3 24 [vR 78, vU] [] (SH T, c) := by
  refine (ev_eq _ _ _ _ _ _).trans ?_
  refine (if_pos h1).trans ?_
  refine (if_neg h2).trans ?_
  rfl
theorem E_X12_must_3 {T : List Shp} {c : Nat → Int → Int} {x1 : Int} (h1 : ¬ (c 77 15) = 0) : cal 223 [vR 78, vI x1] (SH T, c) = ev 223 3 24 [vR 78, vU] [] (SH T, c) := by
  refine (ev_eq _ _ _ _ _ _).trans ?_
  refine (if_neg h1).trans ?_
  rfl
theorem B_X12_must_24_1 {T : List Shp} {c : Nat → Int → Int} {c1 : Nat → Int → Int} (h1 : (c 77 15) = 0) (h2 : cal 220 [vR 78] (SH T, c) = some (none, (SH T, c1))) : ev 223 3 24 [vR 78, vU] [] (SH T, c) = some (none, (SH T, c1)) := by
  refine (ev_eq _ _ _ _ _ _).trans ?_
  refine (if_pos h1).trans ?_
  refine (el_call rfl h2).trans ?_
  refine (ev_eq _ _ _ _ _ _).trans ?_
  rfl
theorem B_X12_must_24_2 {T : List Shp} {c : Nat → Int → Int} (h1 : ¬ (c 77 15) = 0) : ev 223 3 24 [vR 78, vU] [] (SH T, c) = some (none, (SH T, c)) := by
  refine (ev_eq _ _ _ _ _ _).trans ?_
  refine (if_neg h1).trans ?_
  refine (ev_eq _ _ _ _ _ _).trans ?_
  rfl
theorem E_X12_number_1 {T : List Shp} {c : Nat → Int → Int} {x1 x3 : Int} {r1 : Int} {c2 : Nat → Int → Int} (h1 : (c 77 12) = 2) (h2 : cal 186 [vL (c 77 13), vL x1, vL x3] (SH T, c) = some (some (vI r1), (SH T, c2))) (h3 : r1 = 0) : cal 224 [vR 78, vL x1, vL x3] (SH T, c) = ev 224 4 32 [vU, vU, vU, vU, vU, vI (w32 (c 77 13))] [vR 78] (SH T, c2) := by
  refine (ev_eq _ _ _ _ _ _).trans ?_
  refine (if_pos h1).trans ?_
  refine (el_call rfl h2).trans ?_
  refine (if_pos h3).trans ?_
  rfl
theorem E_X12_number_2 {T : List Shp} {c : Nat → Int → Int} {x1 x3 : Int} {r1 : Int} {c2 : Nat → Int → Int} {c3 : Nat → Int → Int} (h1 : (c 77 12) = 2) (h2 : cal 186 [vL (c 77 13), vL x1, vL x3] (SH T, c) = some (some (vI r1), (SH T, c2))) (h3 : ¬ r1 = 0) (h4 : cal 223 [vR 78, vI 1] (SH T, c2) = some (none, (SH T, c3))) : cal 224 [vR 78, vL x1, vL x3] (SH T, c) = some (some (vI (w32 (c 77 13))), (SH T, c3)) := by
  refine (ev_eq _ _ _ _ _ _).trans ?_
  refine (if_pos h1).trans ?_
  refine (el_call rfl h2).trans ?_
  refine (if_neg h3).trans ?_
  refine (el_call rfl h4).trans ?_
  rfl
theorem E_X12_number_3 {T : List Shp} {c : Nat → Int → Int} {x1 x3 : Int} (h1 : ¬ (c 77 12) = 2) : cal 224 [vR 78, vL x1, vL x3] (SH T, c) = ev 224 4 32 [vU, vU, vU, vU, vU, vI (w32 (c 77 13))] [vR 78] (SH T, c) := by
  refine (ev_eq _ _ _ _ _ _).trans ?_
  refine (if_neg h1).trans ?_
  rfl
theorem B_X12_number_32 {T : List Shp} {c : Nat → Int → Int} {x5 : Int} {c1 : Nat → Int → Int} (h1 : cal 223 [vR 78, vI 0] (SH T, c) = some (none, (SH T, c1))) : ev 224 4 32 [vU, vU, vU, vU, vU, vI x5] [vR 78] (SH T, c) = some (some (vI x5), (SH T, c1)) := by
  refine (ev_eq _ _ _ _ _ _).trans ?_
  refine (el_call rfl h1).trans ?_
  rfl
theorem E_X12_fault {T : List Shp} {c : Nat → Int → Int}  : cal 225 [vR 78] (SH T, c) = some (some (vI (c 77 14)), (SH T, (up c 77 0 0))) := by
  refine (ev_eq _ _ _ _ _ _).trans ?_
  rfl
theorem E_X12_emit {T : List Shp} {c : Nat → Int → Int} {x1 x2 : Int} (h1 : 0 ≤ (c 77 19) ∧ (c 77 19) < 400) (h2 : 0 ≤ (c 77 19) ∧ (c 77 19) < 400) : cal 226 [vR 78, vI x1, vI x2] (SH T, c) = some (none, (SH T, (up (up (up c 85 (c 77 19) x1) 86 (c 77 19) x2) 77 19 (w32 ((c 77 19) + 1))))) := by
  refine (ev_eq _ _ _ _ _ _).trans ?_
  refine (if_pos h1).trans ?_
  refine (if_pos h2).trans ?_
  rfl
theorem E_X12_push {T : List Shp} {c : Nat → Int → Int} {x1 x2 : Int} (h1 : 0 ≤ (c 77 25) ∧ (c 77 25) < 400) (h2 : 0 ≤ (c 77 25) ∧ (c 77 25) < 400) : cal 227 [vR 78, vI x1, vI x2] (SH T, c) = some (none, (SH T, (up (up (up c 87 (c 77 25) x1) 88 (c 77 25) x2) 77 25 (w32 ((c 77 25) + 1))))) := by
  refine (ev_eq _ _ _ _ _ _).trans ?_
  refine (if_pos h1).trans ?_
  refine (if_pos h2).trans ?_
  rfl
theorem E_X12_binds_1 {T : List Shp} {c : Nat → Int → Int} {x0 : Int} (h1 : x0 < 30) (h2 : x0 = 29) : cal 228 [vI x0] (SH T, c) = some (some (vI 1), (SH T, c)) := by
  refine (ev_eq _ _ _ _ _ _).trans ?_
  refine (if_pos h1).trans ?_
  refine (ev_eq _ _ _ _ _ _).trans ?_
  refine (if_pos h2).trans ?_
  rfl
theorem E_X12_binds_2 {T : List Shp} {c : Nat → Int → Int} {x0 : Int} (h1 : x0 < 30) (h2 : ¬ x0 = 29) (h3 : x0 = 28) : cal 228 [vI x0] (SH T, c) = some (some (vI 2), (SH T, c)) := by
  refine (ev_eq _ _ _ _ _ _).trans ?_
  refine (if_pos h1).trans ?_
  refine (ev_eq _ _ _ _ _ _).trans ?_
  refine (if_neg h2).trans ?_
  refine (ev_eq _ _ _ _ _ _).trans ?_
  refine (if_pos h3).trans ?_
  rfl
theorem E_X12_binds_3 {T : List Shp} {c : Nat → Int → Int} {x0 : Int} (h1 : x0 < 30) (h2 : ¬ x0 = 29) (h3 : ¬ x0 = 28) (h4 : x0 = 27) : cal 228 [vI x0] (SH T, c) = some (some (vI 3), (SH T, c)) := by
  refine (ev_eq _ _ _ _ _ _).trans ?_
  refine (if_pos h1).trans ?_
  refine (ev_eq _ _ _ _ _ _).trans ?_
  refine (if_neg h2).trans ?_
  refine (ev_eq _ _ _ _ _ _).trans ?_
  refine (if_neg h3).trans ?_
  refine (ev_eq _ _ _ _ _ _).trans ?_
  refine (if_pos h4).trans ?_
  rfl
theorem E_X12_binds_4 {T : List Shp} {c : Nat → Int → Int} {x0 : Int} (h1 : x0 < 30) (h2 : ¬ x0 = 29) (h3 : ¬ x0 = 28) (h4 : ¬ x0 = 27) (h5 : x0 < 24) (h6 : x0 < 22) : cal 228 [vI x0] (SH T, c) = some (some (vI 5), (SH T, c)) := by
  refine (ev_eq _ _ _ _ _ _).trans ?_
  refine (if_pos h1).trans ?_
  refine (ev_eq _ _ _ _ _ _).trans ?_
  refine (if_neg h2).trans ?_
  refine (ev_eq _ _ _ _ _ _).trans ?_
  refine (if_neg h3).trans ?_
  refine (ev_eq _ _ _ _ _ _).trans ?_
  refine (if_neg h4).trans ?_
  refine (ev_eq _ _ _ _ _ _).trans ?_
  refine (if_pos h5).trans ?_
  refine (ev_eq _ _ _ _ _ _).trans ?_
  refine (if_pos h6).trans ?_
  refine (ev_eq _ _ _ _ _ _).trans ?_
  rfl
theorem E_X12_binds_5 {T : List Shp} {c : Nat → Int → Int} {x0 : Int} (h1 : x0 < 30) (h2 : ¬ x0 = 29) (h3 : ¬ x0 = 28) (h4 : ¬ x0 = 27) (h5 : x0 < 24) (h6 : ¬ x0 < 22) : cal 228 [vI x0] (SH T, c) = some (some (vI 6), (SH T, c)) := by
  refine (ev_eq _ _ _ _ _ _).trans ?_
  refine (if_pos h1).trans ?_
  refine (ev_eq _ _ _ _ _ _).trans ?_
  refine (if_neg h2).trans ?_
  refine (ev_eq _ _ _ _ _ _).trans ?_
  refine (if_neg h3).trans ?_
  refine (ev_eq _ _ _ _ _ _).trans ?_
  refine (if_neg h4).trans ?_
  refine (ev_eq _ _ _ _ _ _).trans ?_
  refine (if_pos h5).trans ?_
  refine (ev_eq _ _ _ _ _ _).trans ?_
  refine (if_neg h6).trans ?_
  rfl
theorem E_X12_binds_6 {T : List Shp} {c : Nat → Int → Int} {x0 : Int} (h1 : x0 < 30) (h2 : ¬ x0 = 29) (h3 : ¬ x0 = 28) (h4 : ¬ x0 = 27) (h5 : ¬ x0 < 24) : cal 228 [vI x0] (SH T, c) = some (some (vI 4), (SH T, c)) := by
  refine (ev_eq _ _ _ _ _ _).trans ?_
  refine (if_pos h1).trans ?_
  refine (ev_eq _ _ _ _ _ _).trans ?_
  refine (if_neg h2).trans ?_
  refine (ev_eq _ _ _ _ _ _).trans ?_
  refine (if_neg h3).trans ?_
  refine (ev_eq _ _ _ _ _ _).trans ?_
  refine (if_neg h4).trans ?_
  refine (ev_eq _ _ _ _ _ _).trans ?_
  refine (if_neg h5).trans ?_
  rfl
theorem E_X12_binds_7 {T : List Shp} {c : Nat → Int → Int} {x0 : Int} (h1 : ¬ x0 < 30) : cal 228 [vI x0] (SH T, c) = some (some (vI 0), (SH T, c)) := by
  refine (ev_eq _ _ _ _ _ _).trans ?_
  refine (if_neg h1).trans ?_
  rfl
theorem E_X12_settle_1 {T : List Shp} {c : Nat → Int → Int} {x1 : Int} {r1 : Int} {c2 : Nat → Int → Int} (h1 : 0 < (c 77 25)) (h2 : 0 ≤ (w32 ((c 77 25) - 1)) ∧ (w32 ((c 77 25) - 1)) < 400) (h3 : cal 228 [vI (c 87 (w32 ((c 77 25) - 1)))] (SH T, c) = some (some (vI r1), (SH T, c2))) (h4 : r1 < x1) : cal 229 [vR 78, vI x1] (SH T, c) = some (none, (SH T, c2)) := by
  refine (ev_eq _ _ _ _ _ _).trans ?_
  refine (if_pos h1).trans ?_
  refine (if_pos h2).trans ?_
  refine (el_call rfl h3).trans ?_
  refine (if_pos h4).trans ?_
  refine (ev_eq _ _ _ _ _ _).trans ?_
  rfl
theorem E_X12_settle_2 {T : List Shp} {c : Nat → Int → Int} {x1 : Int} {r1 : Int} {c2 : Nat → Int → Int} (h1 : 0 < (c 77 25)) (h2 : 0 ≤ (w32 ((c 77 25) - 1)) ∧ (w32 ((c 77 25) - 1)) < 400) (h3 : cal 228 [vI (c 87 (w32 ((c 77 25) - 1)))] (SH T, c) = some (some (vI r1), (SH T, c2))) (h4 : ¬ r1 < x1) (h5 : 0 ≤ (w32 ((c2 77 25) - 1)) ∧ (w32 ((c2 77 25) - 1)) < 400) (h6 : (c2 87 (w32 ((c2 77 25) - 1))) = 28) : cal 229 [vR 78, vI x1] (SH T, c) = ev 229 2 63 [vR 78, vI x1] [] (SH T, (up c2 77 25 (w32 ((c2 77 25) - 1)))) := by
  refine (ev_eq _ _ _ _ _ _).trans ?_
  refine (if_pos h1).trans ?_
  refine (if_pos h2).trans ?_
  refine (el_call rfl h3).trans ?_
  refine (if_neg h4).trans ?_
  refine (if_pos h5).trans ?_
  refine (if_pos h6).trans ?_
  rfl
theorem E_X12_settle_3 {T : List Shp} {c : Nat → Int → Int} {x1 : Int} {r1 : Int} {c2 : Nat → Int → Int} (h1 : 0 < (c 77 25)) (h2 : 0 ≤ (w32 ((c 77 25) - 1)) ∧ (w32 ((c 77 25) - 1)) < 400) (h3 : cal 228 [vI (c 87 (w32 ((c 77 25) - 1)))] (SH T, c) = some (some (vI r1), (SH T, c2))) (h4 : ¬ r1 < x1) (h5 : 0 ≤ (w32 ((c2 77 25) - 1)) ∧ (w32 ((c2 77 25) - 1)) < 400) (h6 : ¬ (c2 87 (w32 ((c2 77 25) - 1))) = 28) (h7 : 0 ≤ (w32 ((c2 77 25) - 1)) ∧ (w32 ((c2 77 25) - 1)) < 400) (h8 : (c2 87 (w32 ((c2 77 25) - 1))) = 29) : cal 229 [vR 78, vI x1] (SH T, c) = ev 229 2 63 [vR 78, vI x1] [] (SH T, (up c2 77 25 (w32 ((c2 77 25) - 1)))) := by
  refine (ev_eq _ _ _ _ _ _).trans ?_
  refine (if_pos h1).trans ?_
  refine (if_pos h2).trans ?_
  refine (el_call rfl h3).trans ?_
  refine (if_neg h4).trans ?_
  refine (if_pos h5).trans ?_
  refine (if_neg h6).trans ?_
  refine (if_pos h7).trans ?_
  refine (if_pos h8).trans ?_
  rfl
theorem E_X12_settle_4 {T : List Shp} {c : Nat → Int → Int} {x1 : Int} {r1 : Int} {c2 : Nat → Int → Int} {c3 : Nat → Int → Int} (h1 : 0 < (c 77 25)) (h2 : 0 ≤ (w32 ((c 77 25) - 1)) ∧ (w32 ((c 77 25) - 1)) < 400) (h3 : cal 228 [vI (c 87 (w32 ((c 77 25) - 1)))] (SH T, c) = some (some (vI r1), (SH T, c2))) (h4 : ¬ r1 < x1) (h5 : 0 ≤ (w32 ((c2 77 25) - 1)) ∧ (w32 ((c2 77 25) - 1)) < 400) (h6 : ¬ (c2 87 (w32 ((c2 77 25) - 1))) = 28) (h7 : 0 ≤ (w32 ((c2 77 25) - 1)) ∧ (w32 ((c2 77 25) - 1)) < 400) (h8 : ¬ (c2 87 (w32 ((c2 77 25) - 1))) = 29) (h9 : 0 ≤ (w32 ((c2 77 25) - 1)) ∧ (w32 ((c2 77 25) - 1)) < 400) (h10 : cal 226 [vR 78, vI (c2 87 (w32 ((c2 77 25) - 1))), vI 0] (SH T, (up c2 77 25 (w32 ((c2 77 25) - 1)))) = some (none, (SH T, c3))) : cal 229 [vR 78, vI x1] (SH T, c) = ev 229 2 0 [vR 78, vI x1] [] (SH T, c3) := by
  refine (ev_eq _ _ _ _ _ _).trans ?_
  refine (if_pos h1).trans ?_
  refine (if_pos h2).trans ?_
  refine (el_call rfl h3).trans ?_
  refine (if_neg h4).trans ?_
  refine (if_pos h5).trans ?_
  refine (if_neg h6).trans ?_
  refine (if_pos h7).trans ?_
  refine (if_neg h8).trans ?_
  refine (ev_eq _ _ _ _ _ _).trans ?_
  refine (if_pos h9).trans ?_
  refine (el_call rfl h10).trans ?_
  rfl
theorem E_X12_settle_5 {T : List Shp} {c : Nat → Int → Int} {x1 : Int} (h1 : ¬ 0 < (c 77 25)) : cal 229 [vR 78, vI x1] (SH T, c) = some (none, (SH T, c)) := by
  refine (ev_eq _ _ _ _ _ _).trans ?_
  refine (if_neg h1).trans ?_
  refine (ev_eq _ _ _ _ _ _).trans ?_
  rfl
theorem B_X12_settle_63 {T : List Shp} {c : Nat → Int → Int} {x1 : Int} (h1 : 0 ≤ (c 77 25) ∧ (c 77 25) < 400) (h2 : 0 ≤ (c 88 (c 77 25)) ∧ (c 88 (c 77 25)) < 400) : ev 229 2 63 [vR 78, vI x1] [] (SH T, c) = ev 229 2 0 [vR 78, vI x1] [] (SH T, (up c 86 (c 88 (c 77 25)) (c 77 19))) := by
  refine (ev_eq _ _ _ _ _ _).trans ?_
  refine (if_pos h1).trans ?_
  refine (if_pos h2).trans ?_
  rfl
theorem E_X12_inner {T : List Shp} {c : Nat → Int → Int}  : cal 230 [vR 78] (SH T, c) = ev 230 1 4 [vR 78, vI (-1), vI 0] [] (SH T, c) := by
  refine (ev_eq _ _ _ _ _ _).trans ?_
  rfl
theorem B_X12_inner_4_1 {T : List Shp} {c : Nat → Int → Int} {x1 x2 : Int} (h1 : x2 < (c 77 25)) (h2 : 0 ≤ x2 ∧ x2 < 400) (h3 : (c 87 x2) < 30) : ev 230 1 4 [vR 78, vI x1, vI x2] [] (SH T, c) = ev 230 1 4 [vR 78, vI x1, vI (w32 (x2 + 1))] [] (SH T, c) := by
  refine (ev_eq _ _ _ _ _ _).trans ?_
  refine (if_pos h1).trans ?_
  refine (if_pos h2).trans ?_
  refine (if_pos h3).trans ?_
  refine (ev_eq _ _ _ _ _ _).trans ?_
  rfl
theorem B_X12_inner_4_2 {T : List Shp} {c : Nat → Int → Int} {x1 x2 : Int} (h1 : x2 < (c 77 25)) (h2 : 0 ≤ x2 ∧ x2 < 400) (h3 : ¬ (c 87 x2) < 30) (h4 : 0 ≤ x2 ∧ x2 < 400) : ev 230 1 4 [vR 78, vI x1, vI x2] [] (SH T, c) = ev 230 1 4 [vR 78, vI (c 87 x2), vI (w32 (x2 + 1))] [] (SH T, c) := by
  refine (ev_eq _ _ _ _ _ _).trans ?_
  refine (if_pos h1).trans ?_
  refine (if_pos h2).trans ?_
  refine (if_neg h3).trans ?_
  refine (if_pos h4).trans ?_
  rfl
theorem B_X12_inner_4_3 {T : List Shp} {c : Nat → Int → Int} {x1 x2 : Int} (h1 : ¬ x2 < (c 77 25)) : ev 230 1 4 [vR 78, vI x1, vI x2] [] (SH T, c) = some (some (vI x1), (SH T, c)) := by
  refine (ev_eq _ _ _ _ _ _).trans ?_
  refine (if_neg h1).trans ?_
  refine (ev_eq _ _ _ _ _ _).trans ?_
  rfl
theorem E_X12_isCompared {T : List Shp} {c : Nat → Int → Int}  : cal 231 [vR 78] (SH T, c) = ev 231 2 7 [vR 78, vI (w32 ((c 77 25) - 1))] [] (SH T, c) := by
  refine (ev_eq _ _ _ _ _ _).trans ?_
  rfl
theorem B_X12_isCompared_7_1 {T : List Shp} {c : Nat → Int → Int} {x1 : Int} (h1 : x1 < 0) : ev 231 2 7 [vR 78, vI x1] [] (SH T, c) = ev 231 2 36 [vR 78, vI x1] [] (SH T, c) := by
  refine (ev_eq _ _ _ _ _ _).trans ?_
  refine (if_pos h1).trans ?_
  rfl
theorem B_X12_isCompared_7_2 {T : List Shp} {c : Nat → Int → Int} {x1 : Int} {r1 : Int} {c2 : Nat → Int → Int} (h1 : ¬ x1 < 0) (h2 : 0 ≤ x1 ∧ x1 < 400) (h3 : cal 186 [vL (c 87 x1), vL 20, vL 23] (SH T, c) = some (some (vI r1), (SH T, c2))) (h4 : r1 = 0) : ev 231 2 7 [vR 78, vI x1] [] (SH T, c) = ev 231 2 36 [vR 78, vI x1] [] (SH T, c2) := by
  refine (ev_eq _ _ _ _ _ _).trans ?_
  refine (if_neg h1).trans ?_
  refine (if_pos h2).trans ?_
  refine (el_call rfl h3).trans ?_
  refine (if_pos h4).trans ?_
  rfl
theorem B_X12_isCompared_7_3 {T : List Shp} {c : Nat → Int → Int} {x1 : Int} {r1 : Int} {c2 : Nat → Int → Int} (h1 : ¬ x1 < 0) (h2 : 0 ≤ x1 ∧ x1 < 400) (h3 : cal 186 [vL (c 87 x1), vL 20, vL 23] (SH T, c) = some (some (vI r1), (SH T, c2))) (h4 : ¬ r1 = 0) : ev 231 2 7 [vR 78, vI x1] [] (SH T, c) = ev 231 2 7 [vR 78, vI (w32 (x1 + (-1)))] [] (SH T, c2) := by
  refine (ev_eq _ _ _ _ _ _).trans ?_
  refine (if_neg h1).trans ?_
  refine (if_pos h2).trans ?_
  refine (el_call rfl h3).trans ?_
  refine (if_neg h4).trans ?_
  rfl
theorem B_X12_isCompared_36_1 {T : List Shp} {c : Nat → Int → Int} {x1 : Int} (h1 : x1 < 0) : ev 231 2 36 [vR 78, vI x1] [] (SH T, c) = some (some (vI 0), (SH T, c)) := by
  refine (ev_eq _ _ _ _ _ _).trans ?_
  refine (if_pos h1).trans ?_
  refine (ev_eq _ _ _ _ _ _).trans ?_
  rfl
theorem B_X12_isCompared_36_2 {T : List Shp} {c : Nat → Int → Int} {x1 : Int} {r1 : Int} {c2 : Nat → Int → Int} (h1 : ¬ x1 < 0) (h2 : 0 ≤ x1 ∧ x1 < 400) (h3 : cal 186 [vL (c 87 x1), vL 24, vL 26] (SH T, c) = some (some (vI r1), (SH T, c2))) (h4 : r1 = 0) : ev 231 2 36 [vR 78, vI x1] [] (SH T, c) = some (some (vI 0), (SH T, c2)) := by
  refine (ev_eq _ _ _ _ _ _).trans ?_
  refine (if_neg h1).trans ?_
  refine (if_pos h2).trans ?_
  refine (el_call rfl h3).trans ?_
  refine (if_pos h4).trans ?_
  refine (ev_eq _ _ _ _ _ _).trans ?_
  rfl
theorem B_X12_isCompared_36_3 {T : List Shp} {c : Nat → Int → Int} {x1 : Int} {r1 : Int} {c2 : Nat → Int → Int} (h1 : ¬ x1 < 0) (h2 : 0 ≤ x1 ∧ x1 < 400) (h3 : cal 186 [vL (c 87 x1), vL 24, vL 26] (SH T, c) = some (some (vI r1), (SH T, c2))) (h4 : ¬ r1 = 0) : ev 231 2 36 [vR 78, vI x1] [] (SH T, c) = some (some (vI 1), (SH T, c2)) := by
  refine (ev_eq _ _ _ _ _ _).trans ?_
  refine (if_neg h1).trans ?_
  refine (if_pos h2).trans ?_
  refine (el_call rfl h3).trans ?_
  refine (if_neg h4).trans ?_
  rfl
theorem E_X12_partAt {T : List Shp} {c : Nat → Int → Int}  : cal 232 [vR 78] (SH T, c) = ev 232 2 4 [vR 78, vI (-1), vI 0] [] (SH T, c) := by
  refine (ev_eq _ _ _ _ _ _).trans ?_
  rfl
theorem B_X12_partAt_4_1 {T : List Shp} {c : Nat → Int → Int} {x1 x2 : Int} {r1 : Int} {c2 : Nat → Int → Int} (h1 : x2 < 10) (h2 : 0 ≤ x2 ∧ x2 < 10) (h3 : cal 221 [vR 78, vL (c 89 x2)] (SH T, c) = some (some (vI r1), (SH T, c2))) (h4 : r1 = 0) : ev 232 2 4 [vR 78, vI x1, vI x2] [] (SH T, c) = ev 232 2 4 [vR 78, vI x1, vI (w32 (x2 + 1))] [] (SH T, c2) := by
  refine (ev_eq _ _ _ _ _ _).trans ?_
  refine (if_pos h1).trans ?_
  refine (if_pos h2).trans ?_
  refine (el_call rfl h3).trans ?_
  refine (if_pos h4).trans ?_
  refine (ev_eq _ _ _ _ _ _).trans ?_
  rfl
theorem B_X12_partAt_4_2 {T : List Shp} {c : Nat → Int → Int} {x1 x2 : Int} {r1 : Int} {c2 : Nat → Int → Int} (h1 : x2 < 10) (h2 : 0 ≤ x2 ∧ x2 < 10) (h3 : cal 221 [vR 78, vL (c 89 x2)] (SH T, c) = some (some (vI r1), (SH T, c2))) (h4 : ¬ r1 = 0) : ev 232 2 4 [vR 78, vI x1, vI x2] [] (SH T, c) = ev 232 2 4 [vR 78, vI (w32 (x2 + 1)), vI (w32 (x2 + 1))] [] (SH T, c2) := by
  refine (ev_eq _ _ _ _ _ _).trans ?_
  refine (if_pos h1).trans ?_
  refine (if_pos h2).trans ?_
  refine (el_call rfl h3).trans ?_
  refine (if_neg h4).trans ?_
  rfl
theorem B_X12_partAt_4_3 {T : List Shp} {c : Nat → Int → Int} {x1 x2 : Int} (h1 : ¬ x2 < 10) : ev 232 2 4 [vR 78, vI x1, vI x2] [] (SH T, c) = some (some (vI x1), (SH T, c)) := by
  refine (ev_eq _ _ _ _ _ _).trans ?_
  refine (if_neg h1).trans ?_
  refine (ev_eq _ _ _ _ _ _).trans ?_
  rfl
theorem E_X12_orderPartAt {T : List Shp} {c : Nat → Int → Int}  : cal 233 [vR 78] (SH T, c) = ev 233 2 4 [vR 78, vI (-1), vI 0] [] (SH T, c) := by
  refine (ev_eq _ _ _ _ _ _).trans ?_
  rfl
theorem B_X12_orderPartAt_4_1 {T : List Shp} {c : Nat → Int → Int} {x1 x2 : Int} {r1 : Int} {c2 : Nat → Int → Int} (h1 : x2 < 7) (h2 : 0 ≤ x2 ∧ x2 < 7) (h3 : cal 221 [vR 78, vL (c 90 x2)] (SH T, c) = some (some (vI r1), (SH T, c2))) (h4 : r1 = 0) : ev 233 2 4 [vR 78, vI x1, vI x2] [] (SH T, c) = ev 233 2 4 [vR 78, vI x1, vI (w32 (x2 + 1))] [] (SH T, c2) := by
  refine (ev_eq _ _ _ _ _ _).trans ?_
  refine (if_pos h1).trans ?_
  refine (if_pos h2).trans ?_
  refine (el_call rfl h3).trans ?_
  refine (if_pos h4).trans ?_
  refine (ev_eq _ _ _ _ _ _).trans ?_
  rfl
theorem B_X12_orderPartAt_4_2 {T : List Shp} {c : Nat → Int → Int} {x1 x2 : Int} {r1 : Int} {c2 : Nat → Int → Int} (h1 : x2 < 7) (h2 : 0 ≤ x2 ∧ x2 < 7) (h3 : cal 221 [vR 78, vL (c 90 x2)] (SH T, c) = some (some (vI r1), (SH T, c2))) (h4 : ¬ r1 = 0) : ev 233 2 4 [vR 78, vI x1, vI x2] [] (SH T, c) = ev 233 2 4 [vR 78, vI (w32 (x2 + 1)), vI (w32 (x2 + 1))] [] (SH T, c2) := by
  refine (ev_eq _ _ _ _ _ _).trans ?_
  refine (if_pos h1).trans ?_
  refine (if_pos h2).trans ?_
  refine (el_call rfl h3).trans ?_
  refine (if_neg h4).trans ?_
  rfl
theorem B_X12_orderPartAt_4_3 {T : List Shp} {c : Nat → Int → Int} {x1 x2 : Int} (h1 : ¬ x2 < 7) : ev 233 2 4 [vR 78, vI x1, vI x2] [] (SH T, c) = some (some (vI x1), (SH T, c)) := by
  refine (ev_eq _ _ _ _ _ _).trans ?_
  refine (if_neg h1).trans ?_
  refine (ev_eq _ _ _ _ _ _).trans ?_
  rfl
theorem E_X12_openBracket_1 {T : List Shp} {c : Nat → Int → Int} {x1 : Int} (h1 : (c 77 26) < 8) : cal 234 [vR 78, vI x1] (SH T, c) = ev 234 4 15 [vR 78, vI x1] [vI 1, vR 78] (SH T, c) := by
  refine (ev_eq _ _ _ _ _ _).trans ?_
  refine (if_pos h1).trans ?_
  rfl
theorem E_X12_openBracket_2 {T : List Shp} {c : Nat → Int → Int} {x1 : Int} (h1 : ¬ (c 77 26) < 8) : cal 234 [vR 78, vI x1] (SH T, c) = ev 234 4 15 [vR 78, vI x1] [vI 0, vR 78] (SH T, c) := by
  refine (ev_eq _ _ _ _ _ _).trans ?_
  refine (if_neg h1).trans ?_
  refine (ev_eq _ _ _ _ _ _).trans ?_
  rfl
theorem B_X12_openBracket_15_1 {T : List Shp} {c : Nat → Int → Int} {x1 y0 : Int} {c1 : Nat → Int → Int} {c2 : Nat → Int → Int} (h1 : cal 223 [vR 78, vI y0] (SH T, c) = some (none, (SH T, c1))) (h2 : (c1 77 15) = 0) (h3 : cal 227 [vR 78, vI x1, vI 0] (SH T, (up c1 77 26 (w32 ((c1 77 26) + 1)))) = some (none, (SH T, c2))) : ev 234 4 15 [vR 78, vI x1] [vI y0, vR 78] (SH T, c) = some (none, (SH T, c2)) := by
  refine (ev_eq _ _ _ _ _ _).trans ?_
  refine (el_call rfl h1).trans ?_
  refine (if_pos h2).trans ?_
  refine (el_call rfl h3).trans ?_
  refine (ev_eq _ _ _ _ _ _).trans ?_
  rfl
theorem B_X12_openBracket_15_2 {T : List Shp} {c : Nat → Int → Int} {x1 y0 : Int} {c1 : Nat → Int → Int} (h1 : cal 223 [vR 78, vI y0] (SH T, c) = some (none, (SH T, c1))) (h2 : ¬ (c1 77 15) = 0) : ev 234 4 15 [vR 78, vI x1] [vI y0, vR 78] (SH T, c) = some (none, (SH T, c1)) := by
  refine (ev_eq _ _ _ _ _ _).trans ?_
  refine (el_call rfl h1).trans ?_
  refine (if_neg h2).trans ?_
  refine (ev_eq _ _ _ _ _ _).trans ?_
  rfl
theorem E_X12_leaf_1 {T : List Shp} {c : Nat → Int → Int} {x1 x2 x3 : Int} (h1 : x1 = 0) : cal 235 [vR 78, vI x1, vI x2, vI x3] (SH T, c) = ev 235 4 18 [vR 78, vU, vI x2, vI x3] [vR 78] (SH T, c) := by
  refine (ev_eq _ _ _ _ _ _).trans ?_
  refine (if_pos h1).trans ?_
  rfl
theorem E_X12_leaf_2 {T : List Shp} {c : Nat → Int → Int} {x1 x2 x3 : Int} (h1 : ¬ x1 = 0) (h2 : (c 77 22) < 50) : cal 235 [vR 78, vI x1, vI x2, vI x3] (SH T, c) = ev 235 4 19 [vR 78, vU, vI x2, vI x3] [vI 1, vR 78] (SH T, c) := by
  refine (ev_eq _ _ _ _ _ _).trans ?_
  refine (if_neg h1).trans ?_
  refine (if_pos h2).trans ?_
  rfl
theorem E_X12_leaf_3 {T : List Shp} {c : Nat → Int → Int} {x1 x2 x3 : Int} (h1 : ¬ x1 = 0) (h2 : ¬ (c 77 22) < 50) : cal 235 [vR 78, vI x1, vI x2, vI x3] (SH T, c) = ev 235 4 18 [vR 78, vU, vI x2, vI x3] [vR 78] (SH T, c) := by
  refine (ev_eq _ _ _ _ _ _).trans ?_
  refine (if_neg h1).trans ?_
  refine (if_neg h2).trans ?_
  rfl
theorem B_X12_leaf_18 {T : List Shp} {c : Nat → Int → Int} {x2 x3 : Int}  : ev 235 4 18 [vR 78, vU, vI x2, vI x3] [vR 78] (SH T, c) = ev 235 4 19 [vR 78, vU, vI x2, vI x3] [vI 0, vR 78] (SH T, c) := by
  refine (ev_eq _ _ _ _ _ _).trans ?_
  rfl
theorem B_X12_leaf_19_1 {T : List Shp} {c : Nat → Int → Int} {x2 x3 y0 : Int} {c1 : Nat → Int → Int} {c2 : Nat → Int → Int} (h1 : cal 223 [vR 78, vI y0] (SH T, c) = some (none, (SH T, c1))) (h2 : (c1 77 15) = 0) (h3 : cal 226 [vR 78, vI x2, vI x3] (SH T, c1) = some (none, (SH T, c2))) : ev 235 4 19 [vR 78, vU, vI x2, vI x3] [vI y0, vR 78] (SH T, c) = some (none, (SH T, (up c2 77 22 (w32 ((c2 77 22) + 1))))) := by
  refine (ev_eq _ _ _ _ _ _).trans ?_
  refine (el_call rfl h1).trans ?_
  refine (if_pos h2).trans ?_
  refine (el_call rfl h3).trans ?_
  refine (ev_eq _ _ _ _ _ _).trans ?_
  rfl
theorem B_X12_leaf_19_2 {T : List Shp} {c : Nat → Int → Int} {x2 x3 y0 : Int} {c1 : Nat → Int → Int} (h1 : cal 223 [vR 78, vI y0] (SH T, c) = some (none, (SH T, c1))) (h2 : ¬ (c1 77 15) = 0) : ev 235 4 19 [vR 78, vU, vI x2, vI x3] [vI y0, vR 78] (SH T, c) = some (none, (SH T, c1)) := by
  refine (ev_eq _ _ _ _ _ _).trans ?_
  refine (el_call rfl h1).trans ?_
  refine (if_neg h2).trans ?_
  refine (ev_eq _ _ _ _ _ _).trans ?_
  rfl
theorem E_X12_readPart_1 {T : List Shp} {c : Nat → Int → Int} {r1 : Int} {c2 : Nat → Int → Int} {r3 : Int} {c4 : Nat → Int → Int} (h1 : cal 222 [vR 78, vI 91] (SH T, c) = some (some (vI r1), (SH T, c2))) (h2 : r1 = 0) (h3 : (c2 77 16) = 0) (h4 : cal 232 [vR 78] (SH T, c2) = some (some (vI r3), (SH T, c4))) : cal 236 [vR 78] (SH T, c) = ev 236 5 35 [vR 78, vU, vU, vU] [vI r3] (SH T, c4) := by
  refine (ev_eq _ _ _ _ _ _).trans ?_
  refine (el_call rfl h1).trans ?_
  refine (if_pos h2).trans ?_
  refine (ev_eq _ _ _ _ _ _).trans ?_
  refine (if_pos h3).trans ?_
  refine (ev_eq _ _ _ _ _ _).trans ?_
  refine (el_call rfl h4).trans ?_
  rfl
theorem E_X12_readPart_2 {T : List Shp} {c : Nat → Int → Int} {r1 : Int} {c2 : Nat → Int → Int} {r3 : Int} {c4 : Nat → Int → Int} (h1 : cal 222 [vR 78, vI 91] (SH T, c) = some (some (vI r1), (SH T, c2))) (h2 : r1 = 0) (h3 : ¬ (c2 77 16) = 0) (h4 : cal 233 [vR 78] (SH T, c2) = some (some (vI r3), (SH T, c4))) : cal 236 [vR 78] (SH T, c) = ev 236 5 35 [vR 78, vU, vU, vU] [vI r3] (SH T, c4) := by
  refine (ev_eq _ _ _ _ _ _).trans ?_
  refine (el_call rfl h1).trans ?_
  refine (if_pos h2).trans ?_
  refine (ev_eq _ _ _ _ _ _).trans ?_
  refine (if_neg h3).trans ?_
  refine (el_call rfl h4).trans ?_
  rfl
theorem E_X12_readPart_3 {T : List Shp} {c : Nat → Int → Int} {r1 : Int} {c2 : Nat → Int → Int} {c3 : Nat → Int → Int} (h1 : cal 222 [vR 78, vI 91] (SH T, c) = some (some (vI r1), (SH T, c2))) (h2 : ¬ r1 = 0) (h3 : cal 234 [vR 78, vI 31] (SH T, c2) = some (none, (SH T, c3))) : cal 236 [vR 78] (SH T, c) = some (some (vI 1), (SH T, c3)) := by
  refine (ev_eq _ _ _ _ _ _).trans ?_
  refine (el_call rfl h1).trans ?_
  refine (if_neg h2).trans ?_
  refine (el_call rfl h3).trans ?_
  rfl
theorem B_X12_readPart_35_1 {T : List Shp} {c : Nat → Int → Int} {y0 : Int} (h1 : (c 77 12) = 2) (h2 : (c 77 13) < 1000) : ev 236 5 35 [vR 78, vU, vU, vU] [vI y0] (SH T, c) = ev 236 5 60 [vR 78, vI y0, vU, vU] [vI 1] (SH T, c) := by
  refine (ev_eq _ _ _ _ _ _).trans ?_
  refine (if_pos h1).trans ?_
  refine (if_pos h2).trans ?_
  rfl
theorem B_X12_readPart_35_2 {T : List Shp} {c : Nat → Int → Int} {y0 : Int} (h1 : (c 77 12) = 2) (h2 : (c 77 13) = 1000) : ev 236 5 35 [vR 78, vU, vU, vU] [vI y0] (SH T, c) = ev 236 5 60 [vR 78, vI y0, vU, vU] [vI 1] (SH T, c) := by
  refine (ev_eq _ _ _ _ _ _).trans ?_
  refine (if_pos h1).trans ?_
  refine (if_neg (by omega)).trans ?_
  refine (if_pos h2).trans ?_
  rfl
theorem B_X12_readPart_35_3 {T : List Shp} {c : Nat → Int → Int} {y0 : Int} (h1 : (c 77 12) = 2) (h2 : ¬ (c 77 13) < 1000 ∧ ¬ (c 77 13) = 1000) : ev 236 5 35 [vR 78, vU, vU, vU] [vI y0] (SH T, c) = ev 236 5 59 [vR 78, vI y0, vU, vU] [] (SH T, c) := by
  refine (ev_eq _ _ _ _ _ _).trans ?_
  refine (if_pos h1).trans ?_
  refine (if_neg h2.1).trans ?_
  refine (if_neg h2.2).trans ?_
  rfl
theorem B_X12_readPart_35_4 {T : List Shp} {c : Nat → Int → Int} {y0 : Int} (h1 : ¬ (c 77 12) = 2) : ev 236 5 35 [vR 78, vU, vU, vU] [vI y0] (SH T, c) = ev 236 5 59 [vR 78, vI y0, vU, vU] [] (SH T, c) := by
  refine (ev_eq _ _ _ _ _ _).trans ?_
  refine (if_neg h1).trans ?_
  rfl
theorem B_X12_readPart_59 {T : List Shp} {c : Nat → Int → Int} {x1 : Int}  : ev 236 5 59 [vR 78, vI x1, vU, vU] [] (SH T, c) = ev 236 5 60 [vR 78, vI x1, vU, vU] [vI 0] (SH T, c) := by
  refine (ev_eq _ _ _ _ _ _).trans ?_
  rfl
theorem B_X12_readPart_60_1 {T : List Shp} {c : Nat → Int → Int} {x1 y0 : Int} (h1 : x1 = (-1)) (h2 : y0 = 0) : ev 236 5 60 [vR 78, vI x1, vU, vU] [vI y0] (SH T, c) = ev 236 5 76 [vR 78, vI x1, vI y0, vU] [vI 0, vR 78] (SH T, c) := by
  refine (ev_eq _ _ _ _ _ _).trans ?_
  refine (if_pos h1).trans ?_
  refine (if_pos h2).trans ?_
  refine (ev_eq _ _ _ _ _ _).trans ?_
  rfl
theorem B_X12_readPart_60_2 {T : List Shp} {c : Nat → Int → Int} {x1 y0 : Int} (h1 : x1 = (-1)) (h2 : ¬ y0 = 0) : ev 236 5 60 [vR 78, vI x1, vU, vU] [vI y0] (SH T, c) = ev 236 5 71 [vR 78, vI x1, vI y0, vU] [vR 78] (SH T, c) := by
  refine (ev_eq _ _ _ _ _ _).trans ?_
  refine (if_pos h1).trans ?_
  refine (if_neg h2).trans ?_
  rfl
theorem B_X12_readPart_60_3 {T : List Shp} {c : Nat → Int → Int} {x1 y0 : Int} (h1 : ¬ x1 = (-1)) : ev 236 5 60 [vR 78, vI x1, vU, vU] [vI y0] (SH T, c) = ev 236 5 71 [vR 78, vI x1, vI y0, vU] [vR 78] (SH T, c) := by
  refine (ev_eq _ _ _ _ _ _).trans ?_
  refine (if_neg h1).trans ?_
  rfl
theorem B_X12_readPart_71 {T : List Shp} {c : Nat → Int → Int} {x1 x2 : Int}  : ev 236 5 71 [vR 78, vI x1, vI x2, vU] [vR 78] (SH T, c) = ev 236 5 76 [vR 78, vI x1, vI x2, vU] [vI 1, vR 78] (SH T, c) := by
  refine (ev_eq _ _ _ _ _ _).trans ?_
  rfl
theorem B_X12_readPart_76_1 {T : List Shp} {c : Nat → Int → Int} {x1 x2 y0 : Int} (h1 : x1 = (-1)) : ev 236 5 76 [vR 78, vI x1, vI x2, vU] [vI y0, vR 78] (SH T, c) = ev 236 5 86 [vR 78, vI x1, vI x2, vU] [vI 0, vI y0, vR 78] (SH T, c) := by
  refine (ev_eq _ _ _ _ _ _).trans ?_
  refine (if_pos h1).trans ?_
  rfl
theorem B_X12_readPart_76_2 {T : List Shp} {c : Nat → Int → Int} {x1 x2 y0 : Int} (h1 : ¬ x1 = (-1)) : ev 236 5 76 [vR 78, vI x1, vI x2, vU] [vI y0, vR 78] (SH T, c) = ev 236 5 86 [vR 78, vI x1, vI x2, vU] [vI x1, vI y0, vR 78] (SH T, c) := by
  refine (ev_eq _ _ _ _ _ _).trans ?_
  refine (if_neg h1).trans ?_
  refine (ev_eq _ _ _ _ _ _).trans ?_
  rfl
theorem B_X12_readPart_86_1 {T : List Shp} {c : Nat → Int → Int} {x1 x2 y0 y1 : Int} (h1 : x2 = 0) : ev 236 5 86 [vR 78, vI x1, vI x2, vU] [vI y0, vI y1, vR 78] (SH T, c) = ev 236 5 99 [vR 78, vI x1, vU, vU] [vI 0, vI y0, vI y1, vR 78] (SH T, c) := by
  refine (ev_eq _ _ _ _ _ _).trans ?_
  refine (if_pos h1).trans ?_
  refine (ev_eq _ _ _ _ _ _).trans ?_
  rfl
theorem B_X12_readPart_86_2 {T : List Shp} {c : Nat → Int → Int} {x1 x2 y0 y1 : Int} (h1 : ¬ x2 = 0) : ev 236 5 86 [vR 78, vI x1, vI x2, vU] [vI y0, vI y1, vR 78] (SH T, c) = ev 236 5 99 [vR 78, vI x1, vU, vU] [vI (w32 (c 77 13)), vI y0, vI y1, vR 78] (SH T, c) := by
  refine (ev_eq _ _ _ _ _ _).trans ?_
  refine (if_neg h1).trans ?_
  rfl
theorem B_X12_readPart_99_1 {T : List Shp} {c : Nat → Int → Int} {x1 y0 y1 y2 : Int} {c1 : Nat → Int → Int} (h1 : cal 235 [vR 78, vI y2, vI y1, vI y0] (SH T, c) = some (none, (SH T, c1))) (h2 : (c1 77 16) = 0) : ev 236 5 99 [vR 78, vI x1, vU, vU] [vI y0, vI y1, vI y2, vR 78] (SH T, c) = some (some (vI 3), (SH T, c1)) := by
  refine (ev_eq _ _ _ _ _ _).trans ?_
  refine (el_call rfl h1).trans ?_
  refine (if_pos h2).trans ?_
  refine (ev_eq _ _ _ _ _ _).trans ?_
  rfl
theorem B_X12_readPart_99_2 {T : List Shp} {c : Nat → Int → Int} {x1 y0 y1 y2 : Int} {c1 : Nat → Int → Int} {r2 : Int} {c3 : Nat → Int → Int} (h1 : cal 235 [vR 78, vI y2, vI y1, vI y0] (SH T, c) = some (none, (SH T, c1))) (h2 : ¬ (c1 77 16) = 0) (h3 : x1 = 7) (h4 : (c1 77 15) = 0) (h5 : cal 224 [vR 78, vL 0, vL 11] (SH T, c1) = some (some (vI r2), (SH T, c3))) (h6 : 0 ≤ (w32 ((c1 77 19) - 1)) ∧ (w32 ((c1 77 19) - 1)) < 400) : ev 236 5 99 [vR 78, vI x1, vU, vU] [vI y0, vI y1, vI y2, vR 78] (SH T, c) = some (some (vI 3), (SH T, (up c3 86 (w32 ((c1 77 19) - 1)) r2))) := by
  refine (ev_eq _ _ _ _ _ _).trans ?_
  refine (el_call rfl h1).trans ?_
  refine (if_neg h2).trans ?_
  refine (if_pos h3).trans ?_
  refine (if_pos h4).trans ?_
  refine (el_call rfl h5).trans ?_
  refine (if_pos h6).trans ?_
  refine (ev_eq _ _ _ _ _ _).trans ?_
  rfl
theorem B_X12_readPart_99_3 {T : List Shp} {c : Nat → Int → Int} {x1 y0 y1 y2 : Int} {c1 : Nat → Int → Int} (h1 : cal 235 [vR 78, vI y2, vI y1, vI y0] (SH T, c) = some (none, (SH T, c1))) (h2 : ¬ (c1 77 16) = 0) (h3 : x1 = 7) (h4 : ¬ (c1 77 15) = 0) : ev 236 5 99 [vR 78, vI x1, vU, vU] [vI y0, vI y1, vI y2, vR 78] (SH T, c) = some (some (vI 3), (SH T, c1)) := by
  refine (ev_eq _ _ _ _ _ _).trans ?_
  refine (el_call rfl h1).trans ?_
  refine (if_neg h2).trans ?_
  refine (if_pos h3).trans ?_
  refine (if_neg h4).trans ?_
  refine (ev_eq _ _ _ _ _ _).trans ?_
  rfl
theorem B_X12_readPart_99_4 {T : List Shp} {c : Nat → Int → Int} {x1 y0 y1 y2 : Int} {c1 : Nat → Int → Int} (h1 : cal 235 [vR 78, vI y2, vI y1, vI y0] (SH T, c) = some (none, (SH T, c1))) (h2 : ¬ (c1 77 16) = 0) (h3 : ¬ x1 = 7) : ev 236 5 99 [vR 78, vI x1, vU, vU] [vI y0, vI y1, vI y2, vR 78] (SH T, c) = some (some (vI 3), (SH T, c1)) := by
  refine (ev_eq _ _ _ _ _ _).trans ?_
  refine (el_call rfl h1).trans ?_
  refine (if_neg h2).trans ?_
  refine (if_neg h3).trans ?_
  refine (ev_eq _ _ _ _ _ _).trans ?_
  rfl
theorem E_X12_readPlain_1 {T : List Shp} {c : Nat → Int → Int} {r1 : Int} {c2 : Nat → Int → Int} {r3 : Int} {c4 : Nat → Int → Int} {r5 : Int} {c6 : Nat → Int → Int} (h1 : cal 221 [vR 78, vL 14836] (SH T, c) = some (some (vI r1), (SH T, c2))) (h2 : r1 = 0) (h3 : cal 222 [vR 78, vI 40] (SH T, c2) = some (some (vI r3), (SH T, c4))) (h4 : r3 = 0) (h5 : cal 236 [vR 78] (SH T, c4) = some (some (vI r5), (SH T, c6))) : cal 237 [vR 78] (SH T, c) = some (some (vI r5), (SH T, c6)) := by
  refine (ev_eq _ _ _ _ _ _).trans ?_
  refine (el_call rfl h1).trans ?_
  refine (if_pos h2).trans ?_
  refine (ev_eq _ _ _ _ _ _).trans ?_
  refine (el_call rfl h3).trans ?_
  refine (if_pos h4).trans ?_
  refine (ev_eq _ _ _ _ _ _).trans ?_
  refine (el_call rfl h5).trans ?_
  rfl
theorem E_X12_readPlain_2 {T : List Shp} {c : Nat → Int → Int} {r1 : Int} {c2 : Nat → Int → Int} {r3 : Int} {c4 : Nat → Int → Int} {c5 : Nat → Int → Int} (h1 : cal 221 [vR 78, vL 14836] (SH T, c) = some (some (vI r1), (SH T, c2))) (h2 : r1 = 0) (h3 : cal 222 [vR 78, vI 40] (SH T, c2) = some (some (vI r3), (SH T, c4))) (h4 : ¬ r3 = 0) (h5 : cal 234 [vR 78, vI 30] (SH T, c4) = some (none, (SH T, c5))) : cal 237 [vR 78] (SH T, c) = some (some (vI 0), (SH T, c5)) := by
  refine (ev_eq _ _ _ _ _ _).trans ?_
  refine (el_call rfl h1).trans ?_
  refine (if_pos h2).trans ?_
  refine (ev_eq _ _ _ _ _ _).trans ?_
  refine (el_call rfl h3).trans ?_
  refine (if_neg h4).trans ?_
  refine (el_call rfl h5).trans ?_
  rfl
theorem E_X12_readPlain_3 {T : List Shp} {c : Nat → Int → Int} {r1 : Int} {c2 : Nat → Int → Int} {c3 : Nat → Int → Int} {c4 : Nat → Int → Int} (h1 : cal 221 [vR 78, vL 14836] (SH T, c) = some (some (vI r1), (SH T, c2))) (h2 : ¬ r1 = 0) (h3 : cal 227 [vR 78, vI 27, vI 0] (SH T, c2) = some (none, (SH T, c3))) (h4 : cal 220 [vR 78] (SH T, c3) = some (none, (SH T, c4))) : cal 237 [vR 78] (SH T, c) = some (some (vI 0), (SH T, c4)) := by
  refine (ev_eq _ _ _ _ _ _).trans ?_
  refine (el_call rfl h1).trans ?_
  refine (if_neg h2).trans ?_
  refine (el_call rfl h3).trans ?_
  refine (el_call rfl h4).trans ?_
  rfl
theorem E_X12_behindSum_1 {T : List Shp} {c : Nat → Int → Int} {x1 : Int} {r1 : Int} {c2 : Nat → Int → Int} {r3 : Int} {c4 : Nat → Int → Int} {r5 : Int} {c6 : Nat → Int → Int} {r7 : Int} {c8 : Nat → Int → Int} (h1 : cal 222 [vR 78, vI 43] (SH T, c) = some (some (vI r1), (SH T, c2))) (h2 : r1 = 0) (h3 : cal 222 [vR 78, vI 45] (SH T, c2) = some (some (vI r3), (SH T, c4))) (h4 : r3 = 0) (h5 : cal 222 [vR 78, vI 42] (SH T, c4) = some (some (vI r5), (SH T, c6))) (h6 : r5 = 0) (h7 : cal 222 [vR 78, vI 47] (SH T, c6) = some (some (vI r7), (SH T, c8))) (h8 : r7 = 0) : cal 238 [vR 78, vI x1] (SH T, c) = ev 238 4 57 [vR 78, vI x1, vU, vU] [vI (-1)] (SH T, c8) := by
  refine (ev_eq _ _ _ _ _ _).trans ?_
  refine (el_call rfl h1).trans ?_
  refine (if_pos h2).trans ?_
  refine (ev_eq _ _ _ _ _ _).trans ?_
  refine (el_call rfl h3).trans ?_
  refine (if_pos h4).trans ?_
  refine (ev_eq _ _ _ _ _ _).trans ?_
  refine (el_call rfl h5).trans ?_
  refine (if_pos h6).trans ?_
  refine (ev_eq _ _ _ _ _ _).trans ?_
  refine (el_call rfl h7).trans ?_
  refine (if_pos h8).trans ?_
  refine (ev_eq _ _ _ _ _ _).trans ?_
  rfl
theorem E_X12_behindSum_2 {T : List Shp} {c : Nat → Int → Int} {x1 : Int} {r1 : Int} {c2 : Nat → Int → Int} {r3 : Int} {c4 : Nat → Int → Int} {r5 : Int} {c6 : Nat → Int → Int} {r7 : Int} {c8 : Nat → Int → Int} (h1 : cal 222 [vR 78, vI 43] (SH T, c) = some (some (vI r1), (SH T, c2))) (h2 : r1 = 0) (h3 : cal 222 [vR 78, vI 45] (SH T, c2) = some (some (vI r3), (SH T, c4))) (h4 : r3 = 0) (h5 : cal 222 [vR 78, vI 42] (SH T, c4) = some (some (vI r5), (SH T, c6))) (h6 : r5 = 0) (h7 : cal 222 [vR 78, vI 47] (SH T, c6) = some (some (vI r7), (SH T, c8))) (h8 : ¬ r7 = 0) : cal 238 [vR 78, vI x1] (SH T, c) = ev 238 4 57 [vR 78, vI x1, vU, vU] [vI 23] (SH T, c8) := by
  refine (ev_eq _ _ _ _ _ _).trans ?_
  refine (el_call rfl h1).trans ?_
  refine (if_pos h2).trans ?_
  refine (ev_eq _ _ _ _ _ _).trans ?_
  refine (el_call rfl h3).trans ?_
  refine (if_pos h4).trans ?_
  refine (ev_eq _ _ _ _ _ _).trans ?_
  refine (el_call rfl h5).trans ?_
  refine (if_pos h6).trans ?_
  refine (ev_eq _ _ _ _ _ _).trans ?_
  refine (el_call rfl h7).trans ?_
  refine (if_neg h8).trans ?_
  rfl
theorem E_X12_behindSum_3 {T : List Shp} {c : Nat → Int → Int} {x1 : Int} {r1 : Int} {c2 : Nat → Int → Int} {r3 : Int} {c4 : Nat → Int → Int} {r5 : Int} {c6 : Nat → Int → Int} (h1 : cal 222 [vR 78, vI 43] (SH T, c) = some (some (vI r1), (SH T, c2))) (h2 : r1 = 0) (h3 : cal 222 [vR 78, vI 45] (SH T, c2) = some (some (vI r3), (SH T, c4))) (h4 : r3 = 0) (h5 : cal 222 [vR 78, vI 42] (SH T, c4) = some (some (vI r5), (SH T, c6))) (h6 : ¬ r5 = 0) : cal 238 [vR 78, vI x1] (SH T, c) = ev 238 4 57 [vR 78, vI x1, vU, vU] [vI 22] (SH T, c6) := by
  refine (ev_eq _ _ _ _ _ _).trans ?_
  refine (el_call rfl h1).trans ?_
  refine (if_pos h2).trans ?_
  refine (ev_eq _ _ _ _ _ _).trans ?_
  refine (el_call rfl h3).trans ?_
  refine (if_pos h4).trans ?_
  refine (ev_eq _ _ _ _ _ _).trans ?_
  refine (el_call rfl h5).trans ?_
  refine (if_neg h6).trans ?_
  rfl
theorem E_X12_behindSum_4 {T : List Shp} {c : Nat → Int → Int} {x1 : Int} {r1 : Int} {c2 : Nat → Int → Int} {r3 : Int} {c4 : Nat → Int → Int} (h1 : cal 222 [vR 78, vI 43] (SH T, c) = some (some (vI r1), (SH T, c2))) (h2 : r1 = 0) (h3 : cal 222 [vR 78, vI 45] (SH T, c2) = some (some (vI r3), (SH T, c4))) (h4 : ¬ r3 = 0) : cal 238 [vR 78, vI x1] (SH T, c) = ev 238 4 57 [vR 78, vI x1, vU, vU] [vI 21] (SH T, c4) := by
  refine (ev_eq _ _ _ _ _ _).trans ?_
  refine (el_call rfl h1).trans ?_
  refine (if_pos h2).trans ?_
  refine (ev_eq _ _ _ _ _ _).trans ?_
  refine (el_call rfl h3).trans ?_
  refine (if_neg h4).trans ?_
  rfl
theorem E_X12_behindSum_5 {T : List Shp} {c : Nat → Int → Int} {x1 : Int} {r1 : Int} {c2 : Nat → Int → Int} (h1 : cal 222 [vR 78, vI 43] (SH T, c) = some (some (vI r1), (SH T, c2))) (h2 : ¬ r1 = 0) : cal 238 [vR 78, vI x1] (SH T, c) = ev 238 4 57 [vR 78, vI x1, vU, vU] [vI 20] (SH T, c2) := by
  refine (ev_eq _ _ _ _ _ _).trans ?_
  refine (el_call rfl h1).trans ?_
  refine (if_neg h2).trans ?_
  rfl
theorem B_X12_behindSum_57_1 {T : List Shp} {c : Nat → Int → Int} {x1 y0 : Int} {r1 : Int} {c2 : Nat → Int → Int} {r3 : Int} {c4 : Nat → Int → Int} {c5 : Nat → Int → Int} {c6 : Nat → Int → Int} (h1 : y0 = (-1)) (h2 : cal 230 [vR 78] (SH T, c) = some (some (vI r1), (SH T, c2))) (h3 : r1 = 31) (h4 : cal 222 [vR 78, vI 93] (SH T, c2) = some (some (vI r3), (SH T, c4))) (h5 : cal 223 [vR 78, vI r3] (SH T, c4) = some (none, (SH T, c5))) (h6 : (c5 77 15) = 0) (h7 : cal 229 [vR 78, vI 5] (SH T, c5) = some (none, (SH T, c6))) : ev 238 4 57 [vR 78, vI x1, vU, vU] [vI y0] (SH T, c) = some (some (vI 3), (SH T, (up (up c6 77 25 (w32 ((c6 77 25) - 1))) 77 26 (w32 ((c6 77 26) - 1))))) := by
  refine (ev_eq _ _ _ _ _ _).trans ?_
  refine (if_pos h1).trans ?_
  refine (ev_eq _ _ _ _ _ _).trans ?_
  refine (el_call rfl h2).trans ?_
  refine (if_pos h3).trans ?_
  refine (el_call rfl h4).trans ?_
  refine (el_call rfl h5).trans ?_
  refine (if_pos h6).trans ?_
  refine (el_call rfl h7).trans ?_
  refine (ev_eq _ _ _ _ _ _).trans ?_
  rfl
theorem B_X12_behindSum_57_2 {T : List Shp} {c : Nat → Int → Int} {x1 y0 : Int} {r1 : Int} {c2 : Nat → Int → Int} {r3 : Int} {c4 : Nat → Int → Int} {c5 : Nat → Int → Int} (h1 : y0 = (-1)) (h2 : cal 230 [vR 78] (SH T, c) = some (some (vI r1), (SH T, c2))) (h3 : r1 = 31) (h4 : cal 222 [vR 78, vI 93] (SH T, c2) = some (some (vI r3), (SH T, c4))) (h5 : cal 223 [vR 78, vI r3] (SH T, c4) = some (none, (SH T, c5))) (h6 : ¬ (c5 77 15) = 0) : ev 238 4 57 [vR 78, vI x1, vU, vU] [vI y0] (SH T, c) = some (some (vI 3), (SH T, c5)) := by
  refine (ev_eq _ _ _ _ _ _).trans ?_
  refine (if_pos h1).trans ?_
  refine (ev_eq _ _ _ _ _ _).trans ?_
  refine (el_call rfl h2).trans ?_
  refine (if_pos h3).trans ?_
  refine (el_call rfl h4).trans ?_
  refine (el_call rfl h5).trans ?_
  refine (if_neg h6).trans ?_
  refine (ev_eq _ _ _ _ _ _).trans ?_
  rfl
theorem B_X12_behindSum_57_3 {T : List Shp} {c : Nat → Int → Int} {x1 y0 : Int} {r1 : Int} {c2 : Nat → Int → Int} (h1 : y0 = (-1)) (h2 : cal 230 [vR 78] (SH T, c) = some (some (vI r1), (SH T, c2))) (h3 : ¬ r1 = 31) (h4 : r1 = (-1)) (h5 : x1 = 0) : ev 238 4 57 [vR 78, vI x1, vU, vU] [vI y0] (SH T, c) = some (some (vI 4), (SH T, c2)) := by
  refine (ev_eq _ _ _ _ _ _).trans ?_
  refine (if_pos h1).trans ?_
  refine (ev_eq _ _ _ _ _ _).trans ?_
  refine (el_call rfl h2).trans ?_
  refine (if_neg h3).trans ?_
  refine (ev_eq _ _ _ _ _ _).trans ?_
  refine (if_pos h4).trans ?_
  refine (if_pos h5).trans ?_
  rfl
theorem B_X12_behindSum_57_4 {T : List Shp} {c : Nat → Int → Int} {x1 y0 : Int} {r1 : Int} {c2 : Nat → Int → Int} (h1 : y0 = (-1)) (h2 : cal 230 [vR 78] (SH T, c) = some (some (vI r1), (SH T, c2))) (h3 : ¬ r1 = 31) (h4 : r1 = (-1)) (h5 : ¬ x1 = 0) : ev 238 4 57 [vR 78, vI x1, vU, vU] [vI y0] (SH T, c) = ev 238 4 149 [vR 78, vU, vU, vU] [] (SH T, c2) := by
  refine (ev_eq _ _ _ _ _ _).trans ?_
  refine (if_pos h1).trans ?_
  refine (ev_eq _ _ _ _ _ _).trans ?_
  refine (el_call rfl h2).trans ?_
  refine (if_neg h3).trans ?_
  refine (ev_eq _ _ _ _ _ _).trans ?_
  refine (if_pos h4).trans ?_
  refine (if_neg h5).trans ?_
  rfl
theorem B_X12_behindSum_57_5 {T : List Shp} {c : Nat → Int → Int} {x1 y0 : Int} {r1 : Int} {c2 : Nat → Int → Int} (h1 : y0 = (-1)) (h2 : cal 230 [vR 78] (SH T, c) = some (some (vI r1), (SH T, c2))) (h3 : ¬ r1 = 31) (h4 : ¬ r1 = (-1)) : ev 238 4 57 [vR 78, vI x1, vU, vU] [vI y0] (SH T, c) = ev 238 4 149 [vR 78, vU, vU, vU] [] (SH T, c2) := by
  refine (ev_eq _ _ _ _ _ _).trans ?_
  refine (if_pos h1).trans ?_
  refine (ev_eq _ _ _ _ _ _).trans ?_
  refine (el_call rfl h2).trans ?_
  refine (if_neg h3).trans ?_
  refine (ev_eq _ _ _ _ _ _).trans ?_
  refine (if_neg h4).trans ?_
  rfl
theorem B_X12_behindSum_57_6 {T : List Shp} {c : Nat → Int → Int} {x1 y0 : Int} {r1 : Int} {c2 : Nat → Int → Int} {c3 : Nat → Int → Int} {c4 : Nat → Int → Int} {c5 : Nat → Int → Int} (h1 : ¬ y0 = (-1)) (h2 : cal 228 [vI y0] (SH T, c) = some (some (vI r1), (SH T, c2))) (h3 : cal 229 [vR 78, vI r1] (SH T, c2) = some (none, (SH T, c3))) (h4 : cal 227 [vR 78, vI y0, vI 0] (SH T, c3) = some (none, (SH T, c4))) (h5 : cal 220 [vR 78] (SH T, c4) = some (none, (SH T, c5))) : ev 238 4 57 [vR 78, vI x1, vU, vU] [vI y0] (SH T, c) = some (some (vI 1), (SH T, c5)) := by
  refine (ev_eq _ _ _ _ _ _).trans ?_
  refine (if_neg h1).trans ?_
  refine (el_call rfl h2).trans ?_
  refine (el_call rfl h3).trans ?_
  refine (el_call rfl h4).trans ?_
  refine (el_call rfl h5).trans ?_
  rfl
theorem B_X12_behindSum_149_1 {T : List Shp} {c : Nat → Int → Int} {r1 : Int} {c2 : Nat → Int → Int} {r3 : Int} {c4 : Nat → Int → Int} {r5 : Int} {c6 : Nat → Int → Int} (h1 : cal 231 [vR 78] (SH T, c) = some (some (vI r1), (SH T, c2))) (h2 : r1 = 0) (h3 : cal 222 [vR 78, vI 60] (SH T, c2) = some (some (vI r3), (SH T, c4))) (h4 : r3 = 0) (h5 : cal 222 [vR 78, vI 62] (SH T, c4) = some (some (vI r5), (SH T, c6))) (h6 : r5 = 0) : ev 238 4 149 [vR 78, vU, vU, vU] [] (SH T, c) = ev 238 4 188 [vR 78, vU, vU, vU] [vI 26] (SH T, c6) := by
  refine (ev_eq _ _ _ _ _ _).trans ?_
  refine (el_call rfl h1).trans ?_
  refine (if_pos h2).trans ?_
  refine (ev_eq _ _ _ _ _ _).trans ?_
  refine (el_call rfl h3).trans ?_
  refine (if_pos h4).trans ?_
  refine (ev_eq _ _ _ _ _ _).trans ?_
  refine (el_call rfl h5).trans ?_
  refine (if_pos h6).trans ?_
  refine (ev_eq _ _ _ _ _ _).trans ?_
  rfl
theorem B_X12_behindSum_149_2 {T : List Shp} {c : Nat → Int → Int} {r1 : Int} {c2 : Nat → Int → Int} {r3 : Int} {c4 : Nat → Int → Int} {r5 : Int} {c6 : Nat → Int → Int} (h1 : cal 231 [vR 78] (SH T, c) = some (some (vI r1), (SH T, c2))) (h2 : r1 = 0) (h3 : cal 222 [vR 78, vI 60] (SH T, c2) = some (some (vI r3), (SH T, c4))) (h4 : r3 = 0) (h5 : cal 222 [vR 78, vI 62] (SH T, c4) = some (some (vI r5), (SH T, c6))) (h6 : ¬ r5 = 0) : ev 238 4 149 [vR 78, vU, vU, vU] [] (SH T, c) = ev 238 4 188 [vR 78, vU, vU, vU] [vI 25] (SH T, c6) := by
  refine (ev_eq _ _ _ _ _ _).trans ?_
  refine (el_call rfl h1).trans ?_
  refine (if_pos h2).trans ?_
  refine (ev_eq _ _ _ _ _ _).trans ?_
  refine (el_call rfl h3).trans ?_
  refine (if_pos h4).trans ?_
  refine (ev_eq _ _ _ _ _ _).trans ?_
  refine (el_call rfl h5).trans ?_
  refine (if_neg h6).trans ?_
  rfl
theorem B_X12_behindSum_149_3 {T : List Shp} {c : Nat → Int → Int} {r1 : Int} {c2 : Nat → Int → Int} {r3 : Int} {c4 : Nat → Int → Int} (h1 : cal 231 [vR 78] (SH T, c) = some (some (vI r1), (SH T, c2))) (h2 : r1 = 0) (h3 : cal 222 [vR 78, vI 60] (SH T, c2) = some (some (vI r3), (SH T, c4))) (h4 : ¬ r3 = 0) : ev 238 4 149 [vR 78, vU, vU, vU] [] (SH T, c) = ev 238 4 188 [vR 78, vU, vU, vU] [vI 24] (SH T, c4) := by
  refine (ev_eq _ _ _ _ _ _).trans ?_
  refine (el_call rfl h1).trans ?_
  refine (if_pos h2).trans ?_
  refine (ev_eq _ _ _ _ _ _).trans ?_
  refine (el_call rfl h3).trans ?_
  refine (if_neg h4).trans ?_
  rfl
theorem B_X12_behindSum_149_4 {T : List Shp} {c : Nat → Int → Int} {r1 : Int} {c2 : Nat → Int → Int} (h1 : cal 231 [vR 78] (SH T, c) = some (some (vI r1), (SH T, c2))) (h2 : ¬ r1 = 0) : ev 238 4 149 [vR 78, vU, vU, vU] [] (SH T, c) = some (some (vI 2), (SH T, c2)) := by
  refine (ev_eq _ _ _ _ _ _).trans ?_
  refine (el_call rfl h1).trans ?_
  refine (if_neg h2).trans ?_
  rfl
theorem B_X12_behindSum_188_1 {T : List Shp} {c : Nat → Int → Int} {y0 : Int} {r1 : Int} {c2 : Nat → Int → Int} (h1 : y0 = 26) (h2 : cal 222 [vR 78, vI 61] (SH T, c) = some (some (vI r1), (SH T, c2))) (h3 : r1 = 0) : ev 238 4 188 [vR 78, vU, vU, vU] [vI y0] (SH T, c) = ev 238 4 210 [vR 78, vU, vI y0, vU] [vI 0, vR 78] (SH T, c2) := by
  refine (ev_eq _ _ _ _ _ _).trans ?_
  refine (if_pos h1).trans ?_
  refine (el_call rfl h2).trans ?_
  refine (if_pos h3).trans ?_
  refine (ev_eq _ _ _ _ _ _).trans ?_
  rfl
theorem B_X12_behindSum_188_2 {T : List Shp} {c : Nat → Int → Int} {y0 : Int} {r1 : Int} {c2 : Nat → Int → Int} (h1 : y0 = 26) (h2 : cal 222 [vR 78, vI 61] (SH T, c) = some (some (vI r1), (SH T, c2))) (h3 : ¬ r1 = 0) : ev 238 4 188 [vR 78, vU, vU, vU] [vI y0] (SH T, c) = ev 238 4 205 [vR 78, vU, vI y0, vU] [vR 78] (SH T, c2) := by
  refine (ev_eq _ _ _ _ _ _).trans ?_
  refine (if_pos h1).trans ?_
  refine (el_call rfl h2).trans ?_
  refine (if_neg h3).trans ?_
  rfl
theorem B_X12_behindSum_188_3 {T : List Shp} {c : Nat → Int → Int} {y0 : Int} (h1 : ¬ y0 = 26) : ev 238 4 188 [vR 78, vU, vU, vU] [vI y0] (SH T, c) = ev 238 4 205 [vR 78, vU, vI y0, vU] [vR 78] (SH T, c) := by
  refine (ev_eq _ _ _ _ _ _).trans ?_
  refine (if_neg h1).trans ?_
  rfl
theorem B_X12_behindSum_205 {T : List Shp} {c : Nat → Int → Int} {x2 : Int}  : ev 238 4 205 [vR 78, vU, vI x2, vU] [vR 78] (SH T, c) = ev 238 4 210 [vR 78, vU, vI x2, vU] [vI 1, vR 78] (SH T, c) := by
  refine (ev_eq _ _ _ _ _ _).trans ?_
  rfl
theorem B_X12_behindSum_210_1 {T : List Shp} {c : Nat → Int → Int} {x2 y0 : Int} {c1 : Nat → Int → Int} {c2 : Nat → Int → Int} {c3 : Nat → Int → Int} (h1 : cal 223 [vR 78, vI y0] (SH T, c) = some (none, (SH T, c1))) (h2 : (c1 77 15) = 0) (h3 : cal 229 [vR 78, vI 5] (SH T, c1) = some (none, (SH T, c2))) (h4 : cal 227 [vR 78, vI x2, vI 0] (SH T, c2) = some (none, (SH T, c3))) : ev 238 4 210 [vR 78, vU, vI x2, vU] [vI y0, vR 78] (SH T, c) = some (some (vI 1), (SH T, c3)) := by
  refine (ev_eq _ _ _ _ _ _).trans ?_
  refine (el_call rfl h1).trans ?_
  refine (if_pos h2).trans ?_
  refine (el_call rfl h3).trans ?_
  refine (el_call rfl h4).trans ?_
  refine (ev_eq _ _ _ _ _ _).trans ?_
  rfl
theorem B_X12_behindSum_210_2 {T : List Shp} {c : Nat → Int → Int} {x2 y0 : Int} {c1 : Nat → Int → Int} (h1 : cal 223 [vR 78, vI y0] (SH T, c) = some (none, (SH T, c1))) (h2 : ¬ (c1 77 15) = 0) : ev 238 4 210 [vR 78, vU, vI x2, vU] [vI y0, vR 78] (SH T, c) = some (some (vI 1), (SH T, c1)) := by
  refine (ev_eq _ _ _ _ _ _).trans ?_
  refine (el_call rfl h1).trans ?_
  refine (if_neg h2).trans ?_
  refine (ev_eq _ _ _ _ _ _).trans ?_
  rfl
theorem E_X12_behindTest_1 {T : List Shp} {c : Nat → Int → Int} {r1 : Int} {c2 : Nat → Int → Int} {r3 : Int} {c4 : Nat → Int → Int} {r5 : Int} {c6 : Nat → Int → Int} (h1 : cal 221 [vR 78, vL 1476] (SH T, c) = some (some (vI r1), (SH T, c2))) (h2 : r1 = 0) (h3 : cal 221 [vR 78, vL 498] (SH T, c2) = some (some (vI r3), (SH T, c4))) (h4 : r3 = 0) (h5 : cal 230 [vR 78] (SH T, c4) = some (some (vI r5), (SH T, c6))) (h6 : r5 = (-1)) : cal 239 [vR 78] (SH T, c) = some (some (vI 4), (SH T, c6)) := by
  refine (ev_eq _ _ _ _ _ _).trans ?_
  refine (el_call rfl h1).trans ?_
  refine (if_pos h2).trans ?_
  refine (el_call rfl h3).trans ?_
  refine (if_pos h4).trans ?_
  refine (ev_eq _ _ _ _ _ _).trans ?_
  refine (el_call rfl h5).trans ?_
  refine (if_pos h6).trans ?_
  rfl
theorem E_X12_behindTest_2 {T : List Shp} {c : Nat → Int → Int} {r1 : Int} {c2 : Nat → Int → Int} {r3 : Int} {c4 : Nat → Int → Int} {r5 : Int} {c6 : Nat → Int → Int} {r7 : Int} {c8 : Nat → Int → Int} {c9 : Nat → Int → Int} {c10 : Nat → Int → Int} (h1 : cal 221 [vR 78, vL 1476] (SH T, c) = some (some (vI r1), (SH T, c2))) (h2 : r1 = 0) (h3 : cal 221 [vR 78, vL 498] (SH T, c2) = some (some (vI r3), (SH T, c4))) (h4 : r3 = 0) (h5 : cal 230 [vR 78] (SH T, c4) = some (some (vI r5), (SH T, c6))) (h6 : ¬ r5 = (-1)) (h7 : cal 222 [vR 78, vI 41] (SH T, c6) = some (some (vI r7), (SH T, c8))) (h8 : cal 223 [vR 78, vI r7] (SH T, c8) = some (none, (SH T, c9))) (h9 : (c9 77 15) = 0) (h10 : cal 229 [vR 78, vI 1] (SH T, c9) = some (none, (SH T, c10))) : cal 239 [vR 78] (SH T, c) = some (some (vI 2), (SH T, (up (up c10 77 25 (w32 ((c10 77 25) - 1))) 77 26 (w32 ((c10 77 26) - 1))))) := by
  refine (ev_eq _ _ _ _ _ _).trans ?_
  refine (el_call rfl h1).trans ?_
  refine (if_pos h2).trans ?_
  refine (el_call rfl h3).trans ?_
  refine (if_pos h4).trans ?_
  refine (ev_eq _ _ _ _ _ _).trans ?_
  refine (el_call rfl h5).trans ?_
  refine (if_neg h6).trans ?_
  refine (ev_eq _ _ _ _ _ _).trans ?_
  refine (el_call rfl h7).trans ?_
  refine (el_call rfl h8).trans ?_
  refine (if_pos h9).trans ?_
  refine (el_call rfl h10).trans ?_
  refine (ev_eq _ _ _ _ _ _).trans ?_
  rfl
theorem E_X12_behindTest_3 {T : List Shp} {c : Nat → Int → Int} {r1 : Int} {c2 : Nat → Int → Int} {r3 : Int} {c4 : Nat → Int → Int} {r5 : Int} {c6 : Nat → Int → Int} {r7 : Int} {c8 : Nat → Int → Int} {c9 : Nat → Int → Int} (h1 : cal 221 [vR 78, vL 1476] (SH T, c) = some (some (vI r1), (SH T, c2))) (h2 : r1 = 0) (h3 : cal 221 [vR 78, vL 498] (SH T, c2) = some (some (vI r3), (SH T, c4))) (h4 : r3 = 0) (h5 : cal 230 [vR 78] (SH T, c4) = some (some (vI r5), (SH T, c6))) (h6 : ¬ r5 = (-1)) (h7 : cal 222 [vR 78, vI 41] (SH T, c6) = some (some (vI r7), (SH T, c8))) (h8 : cal 223 [vR 78, vI r7] (SH T, c8) = some (none, (SH T, c9))) (h9 : ¬ (c9 77 15) = 0) : cal 239 [vR 78] (SH T, c) = some (some (vI 2), (SH T, c9)) := by
  refine (ev_eq _ _ _ _ _ _).trans ?_
  refine (el_call rfl h1).trans ?_
  refine (if_pos h2).trans ?_
  refine (el_call rfl h3).trans ?_
  refine (if_pos h4).trans ?_
  refine (ev_eq _ _ _ _ _ _).trans ?_
  refine (el_call rfl h5).trans ?_
  refine (if_neg h6).trans ?_
  refine (ev_eq _ _ _ _ _ _).trans ?_
  refine (el_call rfl h7).trans ?_
  refine (el_call rfl h8).trans ?_
  refine (if_neg h9).trans ?_
  refine (ev_eq _ _ _ _ _ _).trans ?_
  rfl
theorem E_X12_behindTest_4 {T : List Shp} {c : Nat → Int → Int} {r1 : Int} {c2 : Nat → Int → Int} {r3 : Int} {c4 : Nat → Int → Int} (h1 : cal 221 [vR 78, vL 1476] (SH T, c) = some (some (vI r1), (SH T, c2))) (h2 : r1 = 0) (h3 : cal 221 [vR 78, vL 498] (SH T, c2) = some (some (vI r3), (SH T, c4))) (h4 : ¬ r3 = 0) : cal 239 [vR 78] (SH T, c) = ev 239 4 22 [vR 78, vI r1] [] (SH T, c4) := by
  refine (ev_eq _ _ _ _ _ _).trans ?_
  refine (el_call rfl h1).trans ?_
  refine (if_pos h2).trans ?_
  refine (el_call rfl h3).trans ?_
  refine (if_neg h4).trans ?_
  rfl
theorem E_X12_behindTest_5 {T : List Shp} {c : Nat → Int → Int} {r1 : Int} {c2 : Nat → Int → Int} (h1 : cal 221 [vR 78, vL 1476] (SH T, c) = some (some (vI r1), (SH T, c2))) (h2 : ¬ r1 = 0) : cal 239 [vR 78] (SH T, c) = ev 239 4 22 [vR 78, vI r1] [] (SH T, c2) := by
  refine (ev_eq _ _ _ _ _ _).trans ?_
  refine (el_call rfl h1).trans ?_
  refine (if_neg h2).trans ?_
  rfl
theorem B_X12_behindTest_22_1 {T : List Shp} {c : Nat → Int → Int} {x1 : Int} (h1 : x1 = 0) : ev 239 4 22 [vR 78, vI x1] [] (SH T, c) = ev 239 4 32 [vR 78, vI x1] [vI 1, vR 78] (SH T, c) := by
  refine (ev_eq _ _ _ _ _ _).trans ?_
  refine (if_pos h1).trans ?_
  refine (ev_eq _ _ _ _ _ _).trans ?_
  rfl
theorem B_X12_behindTest_22_2 {T : List Shp} {c : Nat → Int → Int} {x1 : Int} (h1 : ¬ x1 = 0) : ev 239 4 22 [vR 78, vI x1] [] (SH T, c) = ev 239 4 32 [vR 78, vI x1] [vI 2, vR 78] (SH T, c) := by
  refine (ev_eq _ _ _ _ _ _).trans ?_
  refine (if_neg h1).trans ?_
  rfl
theorem B_X12_behindTest_32_1 {T : List Shp} {c : Nat → Int → Int} {x1 y0 : Int} {c1 : Nat → Int → Int} (h1 : cal 229 [vR 78, vI y0] (SH T, c) = some (none, (SH T, c1))) (h2 : x1 = 0) : ev 239 4 32 [vR 78, vI x1] [vI y0, vR 78] (SH T, c) = ev 239 4 47 [vR 78, vI x1] [vI 29, vR 78] (SH T, c1) := by
  refine (ev_eq _ _ _ _ _ _).trans ?_
  refine (el_call rfl h1).trans ?_
  refine (if_pos h2).trans ?_
  refine (ev_eq _ _ _ _ _ _).trans ?_
  rfl
theorem B_X12_behindTest_32_2 {T : List Shp} {c : Nat → Int → Int} {x1 y0 : Int} {c1 : Nat → Int → Int} (h1 : cal 229 [vR 78, vI y0] (SH T, c) = some (none, (SH T, c1))) (h2 : ¬ x1 = 0) : ev 239 4 32 [vR 78, vI x1] [vI y0, vR 78] (SH T, c) = ev 239 4 47 [vR 78, vI x1] [vI 28, vR 78] (SH T, c1) := by
  refine (ev_eq _ _ _ _ _ _).trans ?_
  refine (el_call rfl h1).trans ?_
  refine (if_neg h2).trans ?_
  rfl
theorem B_X12_behindTest_47_1 {T : List Shp} {c : Nat → Int → Int} {x1 y0 : Int} {c1 : Nat → Int → Int} {c2 : Nat → Int → Int} {c3 : Nat → Int → Int} (h1 : cal 227 [vR 78, vI y0, vI (c 77 19)] (SH T, c) = some (none, (SH T, c1))) (h2 : x1 = 0) (h3 : cal 226 [vR 78, vI 29, vI 0] (SH T, c1) = some (none, (SH T, c2))) (h4 : cal 220 [vR 78] (SH T, c2) = some (none, (SH T, c3))) : ev 239 4 47 [vR 78, vI x1] [vI y0, vR 78] (SH T, c) = some (some (vI 0), (SH T, c3)) := by
  refine (ev_eq _ _ _ _ _ _).trans ?_
  refine (el_call rfl h1).trans ?_
  refine (if_pos h2).trans ?_
  refine (ev_eq _ _ _ _ _ _).trans ?_
  refine (el_call rfl h3).trans ?_
  refine (el_call rfl h4).trans ?_
  rfl
theorem B_X12_behindTest_47_2 {T : List Shp} {c : Nat → Int → Int} {x1 y0 : Int} {c1 : Nat → Int → Int} {c2 : Nat → Int → Int} {c3 : Nat → Int → Int} (h1 : cal 227 [vR 78, vI y0, vI (c 77 19)] (SH T, c) = some (none, (SH T, c1))) (h2 : ¬ x1 = 0) (h3 : cal 226 [vR 78, vI 28, vI 0] (SH T, c1) = some (none, (SH T, c2))) (h4 : cal 220 [vR 78] (SH T, c2) = some (none, (SH T, c3))) : ev 239 4 47 [vR 78, vI x1] [vI y0, vR 78] (SH T, c) = some (some (vI 0), (SH T, c3)) := by
  refine (ev_eq _ _ _ _ _ _).trans ?_
  refine (el_call rfl h1).trans ?_
  refine (if_neg h2).trans ?_
  refine (el_call rfl h3).trans ?_
  refine (el_call rfl h4).trans ?_
  rfl
theorem E_X12_readExpression_1 {T : List Shp} {c : Nat → Int → Int} {x1 : Int} (h1 : x1 = 0) : cal 240 [vR 78, vI x1] (SH T, c) = ev 240 7 20 [vR 78, vI x1, vI 1] [] (SH T, (up (up c 77 25 0) 77 26 0)) := by
  refine (ev_eq _ _ _ _ _ _).trans ?_
  refine (if_pos h1).trans ?_
  refine (ev_eq _ _ _ _ _ _).trans ?_
  rfl
theorem E_X12_readExpression_2 {T : List Shp} {c : Nat → Int → Int} {x1 : Int} (h1 : ¬ x1 = 0) : cal 240 [vR 78, vI x1] (SH T, c) = ev 240 7 20 [vR 78, vI x1, vI 0] [] (SH T, (up (up c 77 25 0) 77 26 0)) := by
  refine (ev_eq _ _ _ _ _ _).trans ?_
  refine (if_neg h1).trans ?_
  rfl
theorem B_X12_readExpression_20_1 {T : List Shp} {c : Nat → Int → Int} {x1 x2 : Int} (h1 : (c 77 15) = 0) (h2 : x2 = 4) : ev 240 7 20 [vR 78, vI x1, vI x2] [] (SH T, c) = ev 240 7 76 [vR 78, vU, vU] [] (SH T, c) := by
  refine (ev_eq _ _ _ _ _ _).trans ?_
  refine (if_pos h1).trans ?_
  refine (if_pos h2).trans ?_
  rfl
theorem B_X12_readExpression_20_2 {T : List Shp} {c : Nat → Int → Int} {x1 x2 : Int} {r1 : Int} {c2 : Nat → Int → Int} (h1 : (c 77 15) = 0) (h2 : ¬ x2 = 4) (h3 : x2 = 0) (h4 : cal 237 [vR 78] (SH T, c) = some (some (vI r1), (SH T, c2))) : ev 240 7 20 [vR 78, vI x1, vI x2] [] (SH T, c) = ev 240 7 20 [vR 78, vI x1, vI r1] [] (SH T, c2) := by
  refine (ev_eq _ _ _ _ _ _).trans ?_
  refine (if_pos h1).trans ?_
  refine (if_neg h2).trans ?_
  refine (if_pos h3).trans ?_
  refine (el_call rfl h4).trans ?_
  rfl
theorem B_X12_readExpression_20_3 {T : List Shp} {c : Nat → Int → Int} {x1 x2 : Int} {r1 : Int} {c2 : Nat → Int → Int} (h1 : (c 77 15) = 0) (h2 : ¬ x2 = 4) (h3 : ¬ x2 = 0) (h4 : x2 = 1) (h5 : cal 236 [vR 78] (SH T, c) = some (some (vI r1), (SH T, c2))) : ev 240 7 20 [vR 78, vI x1, vI x2] [] (SH T, c) = ev 240 7 20 [vR 78, vI x1, vI r1] [] (SH T, c2) := by
  refine (ev_eq _ _ _ _ _ _).trans ?_
  refine (if_pos h1).trans ?_
  refine (if_neg h2).trans ?_
  refine (if_neg h3).trans ?_
  refine (ev_eq _ _ _ _ _ _).trans ?_
  refine (if_pos h4).trans ?_
  refine (el_call rfl h5).trans ?_
  rfl
theorem B_X12_readExpression_20_4 {T : List Shp} {c : Nat → Int → Int} {x1 x2 : Int} {r1 : Int} {c2 : Nat → Int → Int} (h1 : (c 77 15) = 0) (h2 : ¬ x2 = 4) (h3 : ¬ x2 = 0) (h4 : ¬ x2 = 1) (h5 : x2 = 3) (h6 : cal 238 [vR 78, vI x1] (SH T, c) = some (some (vI r1), (SH T, c2))) : ev 240 7 20 [vR 78, vI x1, vI x2] [] (SH T, c) = ev 240 7 20 [vR 78, vI x1, vI r1] [] (SH T, c2) := by
  refine (ev_eq _ _ _ _ _ _).trans ?_
  refine (if_pos h1).trans ?_
  refine (if_neg h2).trans ?_
  refine (if_neg h3).trans ?_
  refine (ev_eq _ _ _ _ _ _).trans ?_
  refine (if_neg h4).trans ?_
  refine (ev_eq _ _ _ _ _ _).trans ?_
  refine (if_pos h5).trans ?_
  refine (el_call rfl h6).trans ?_
  rfl
theorem B_X12_readExpression_20_5 {T : List Shp} {c : Nat → Int → Int} {x1 x2 : Int} {r1 : Int} {c2 : Nat → Int → Int} (h1 : (c 77 15) = 0) (h2 : ¬ x2 = 4) (h3 : ¬ x2 = 0) (h4 : ¬ x2 = 1) (h5 : ¬ x2 = 3) (h6 : cal 239 [vR 78] (SH T, c) = some (some (vI r1), (SH T, c2))) : ev 240 7 20 [vR 78, vI x1, vI x2] [] (SH T, c) = ev 240 7 20 [vR 78, vI x1, vI r1] [] (SH T, c2) := by
  refine (ev_eq _ _ _ _ _ _).trans ?_
  refine (if_pos h1).trans ?_
  refine (if_neg h2).trans ?_
  refine (if_neg h3).trans ?_
  refine (ev_eq _ _ _ _ _ _).trans ?_
  refine (if_neg h4).trans ?_
  refine (ev_eq _ _ _ _ _ _).trans ?_
  refine (if_neg h5).trans ?_
  refine (ev_eq _ _ _ _ _ _).trans ?_
  refine (el_call rfl h6).trans ?_
  rfl
theorem B_X12_readExpression_20_6 {T : List Shp} {c : Nat → Int → Int} {x1 x2 : Int} (h1 : ¬ (c 77 15) = 0) : ev 240 7 20 [vR 78, vI x1, vI x2] [] (SH T, c) = ev 240 7 76 [vR 78, vU, vU] [] (SH T, c) := by
  refine (ev_eq _ _ _ _ _ _).trans ?_
  refine (if_neg h1).trans ?_
  rfl
theorem B_X12_readExpression_76 {T : List Shp} {c : Nat → Int → Int} {c1 : Nat → Int → Int} (h1 : cal 229 [vR 78, vI 1] (SH T, c) = some (none, (SH T, c1))) : ev 240 7 76 [vR 78, vU, vU] [] (SH T, c) = some (none, (SH T, c1)) := by
  refine (ev_eq _ _ _ _ _ _).trans ?_
  refine (el_call rfl h1).trans ?_
  rfl
theorem E_X12_readClause {T : List Shp} {c : Nat → Int → Int}  : cal 241 [vR 78] (SH T, c) = ev 241 8 4 [vR 78, vI (-1), vI 0, vU] [] (SH T, c) := by
  refine (ev_eq _ _ _ _ _ _).trans ?_
  rfl
theorem B_X12_readClause_4_1 {T : List Shp} {c : Nat → Int → Int} {x1 x2 : Int} {r1 : Int} {c2 : Nat → Int → Int} (h1 : x2 < 5) (h2 : 0 ≤ x2 ∧ x2 < 5) (h3 : cal 221 [vR 78, vL (c 91 x2)] (SH T, c) = some (some (vI r1), (SH T, c2))) (h4 : r1 = 0) : ev 241 8 4 [vR 78, vI x1, vI x2, vU] [] (SH T, c) = ev 241 8 4 [vR 78, vI x1, vI (w32 (x2 + 1)), vU] [] (SH T, c2) := by
  refine (ev_eq _ _ _ _ _ _).trans ?_
  refine (if_pos h1).trans ?_
  refine (if_pos h2).trans ?_
  refine (el_call rfl h3).trans ?_
  refine (if_pos h4).trans ?_
  refine (ev_eq _ _ _ _ _ _).trans ?_
  rfl
theorem B_X12_readClause_4_2 {T : List Shp} {c : Nat → Int → Int} {x1 x2 : Int} {r1 : Int} {c2 : Nat → Int → Int} (h1 : x2 < 5) (h2 : 0 ≤ x2 ∧ x2 < 5) (h3 : cal 221 [vR 78, vL (c 91 x2)] (SH T, c) = some (some (vI r1), (SH T, c2))) (h4 : ¬ r1 = 0) : ev 241 8 4 [vR 78, vI x1, vI x2, vU] [] (SH T, c) = ev 241 8 4 [vR 78, vI x2, vI (w32 (x2 + 1)), vU] [] (SH T, c2) := by
  refine (ev_eq _ _ _ _ _ _).trans ?_
  refine (if_pos h1).trans ?_
  refine (if_pos h2).trans ?_
  refine (el_call rfl h3).trans ?_
  refine (if_neg h4).trans ?_
  rfl
theorem B_X12_readClause_4_3 {T : List Shp} {c : Nat → Int → Int} {x1 x2 : Int} (h1 : ¬ x2 < 5) (h2 : x1 = (-1)) : ev 241 8 4 [vR 78, vI x1, vI x2, vU] [] (SH T, c) = ev 241 8 53 [vR 78, vI x1, vU, vU] [vR 78] (SH T, c) := by
  refine (ev_eq _ _ _ _ _ _).trans ?_
  refine (if_neg h1).trans ?_
  refine (ev_eq _ _ _ _ _ _).trans ?_
  refine (if_pos h2).trans ?_
  rfl
theorem B_X12_readClause_4_4 {T : List Shp} {c : Nat → Int → Int} {x1 x2 : Int} (h1 : ¬ x2 < 5) (h2 : ¬ x1 = (-1)) (h3 : (c 77 17) < 12) : ev 241 8 4 [vR 78, vI x1, vI x2, vU] [] (SH T, c) = ev 241 8 54 [vR 78, vI x1, vU, vU] [vI 1, vR 78] (SH T, c) := by
  refine (ev_eq _ _ _ _ _ _).trans ?_
  refine (if_neg h1).trans ?_
  refine (ev_eq _ _ _ _ _ _).trans ?_
  refine (if_neg h2).trans ?_
  refine (if_pos h3).trans ?_
  rfl
theorem B_X12_readClause_4_5 {T : List Shp} {c : Nat → Int → Int} {x1 x2 : Int} (h1 : ¬ x2 < 5) (h2 : ¬ x1 = (-1)) (h3 : ¬ (c 77 17) < 12) : ev 241 8 4 [vR 78, vI x1, vI x2, vU] [] (SH T, c) = ev 241 8 53 [vR 78, vI x1, vU, vU] [vR 78] (SH T, c) := by
  refine (ev_eq _ _ _ _ _ _).trans ?_
  refine (if_neg h1).trans ?_
  refine (ev_eq _ _ _ _ _ _).trans ?_
  refine (if_neg h2).trans ?_
  refine (if_neg h3).trans ?_
  rfl
theorem B_X12_readClause_53 {T : List Shp} {c : Nat → Int → Int} {x1 : Int}  : ev 241 8 53 [vR 78, vI x1, vU, vU] [vR 78] (SH T, c) = ev 241 8 54 [vR 78, vI x1, vU, vU] [vI 0, vR 78] (SH T, c) := by
  refine (ev_eq _ _ _ _ _ _).trans ?_
  rfl
theorem B_X12_readClause_54_1 {T : List Shp} {c : Nat → Int → Int} {x1 y0 : Int} {c1 : Nat → Int → Int} (h1 : cal 223 [vR 78, vI y0] (SH T, c) = some (none, (SH T, c1))) (h2 : (c1 77 15) = 0) : ev 241 8 54 [vR 78, vI x1, vU, vU] [vI y0, vR 78] (SH T, c) = ev 241 8 75 [vR 78, vI x1, vI (w32 (8 * (c1 77 17))), vI 0] [] (SH T, c1) := by
  refine (ev_eq _ _ _ _ _ _).trans ?_
  refine (el_call rfl h1).trans ?_
  refine (if_pos h2).trans ?_
  refine (ev_eq _ _ _ _ _ _).trans ?_
  rfl
theorem B_X12_readClause_54_2 {T : List Shp} {c : Nat → Int → Int} {x1 y0 : Int} {c1 : Nat → Int → Int} (h1 : cal 223 [vR 78, vI y0] (SH T, c) = some (none, (SH T, c1))) (h2 : ¬ (c1 77 15) = 0) : ev 241 8 54 [vR 78, vI x1, vU, vU] [vI y0, vR 78] (SH T, c) = some (none, (SH T, c1)) := by
  refine (ev_eq _ _ _ _ _ _).trans ?_
  refine (el_call rfl h1).trans ?_
  refine (if_neg h2).trans ?_
  rfl
theorem B_X12_readClause_75_1 {T : List Shp} {c : Nat → Int → Int} {x1 x2 x3 : Int} (h1 : x3 < 8) (h2 : 0 ≤ (w32 (x2 + x3)) ∧ (w32 (x2 + x3)) < 96) : ev 241 8 75 [vR 78, vI x1, vI x2, vI x3] [] (SH T, c) = ev 241 8 75 [vR 78, vI x1, vI x2, vI (w32 (x3 + 1))] [] (SH T, (up c 84 (w32 (x2 + x3)) 0)) := by
  refine (ev_eq _ _ _ _ _ _).trans ?_
  refine (if_pos h1).trans ?_
  refine (if_pos h2).trans ?_
  rfl
theorem B_X12_readClause_75_2 {T : List Shp} {c : Nat → Int → Int} {x1 x2 x3 : Int} (h1 : ¬ x3 < 8) (h2 : 0 ≤ x2 ∧ x2 < 96) (h3 : 0 ≤ (w32 (x2 + 3)) ∧ (w32 (x2 + 3)) < 96) (h4 : x1 = 4) : ev 241 8 75 [vR 78, vI x1, vI x2, vI x3] [] (SH T, c) = ev 241 8 135 [vR 78, vU, vI x2, vU] [] (SH T, (up (up (up c 84 x2 x1) 77 17 (w32 ((c 77 17) + 1))) 84 (w32 (x2 + 3)) (c 77 19))) := by
  refine (ev_eq _ _ _ _ _ _).trans ?_
  refine (if_neg h1).trans ?_
  refine (ev_eq _ _ _ _ _ _).trans ?_
  refine (if_pos h2).trans ?_
  refine (if_pos h3).trans ?_
  refine (if_pos h4).trans ?_
  rfl
theorem B_X12_readClause_75_3 {T : List Shp} {c : Nat → Int → Int} {x1 x2 x3 : Int} {c1 : Nat → Int → Int} (h1 : ¬ x3 < 8) (h2 : 0 ≤ x2 ∧ x2 < 96) (h3 : 0 ≤ (w32 (x2 + 3)) ∧ (w32 (x2 + 3)) < 96) (h4 : ¬ x1 = 4) (h5 : cal 240 [vR 78, vI 0] (SH T, (up (up (up c 84 x2 x1) 77 17 (w32 ((c 77 17) + 1))) 84 (w32 (x2 + 3)) (c 77 19))) = some (none, (SH T, c1))) : ev 241 8 75 [vR 78, vI x1, vI x2, vI x3] [] (SH T, c) = ev 241 8 135 [vR 78, vU, vI x2, vU] [] (SH T, c1) := by
  refine (ev_eq _ _ _ _ _ _).trans ?_
  refine (if_neg h1).trans ?_
  refine (ev_eq _ _ _ _ _ _).trans ?_
  refine (if_pos h2).trans ?_
  refine (if_pos h3).trans ?_
  refine (if_neg h4).trans ?_
  refine (el_call rfl h5).trans ?_
  rfl
theorem B_X12_readClause_135_1 {T : List Shp} {c : Nat → Int → Int} {x2 : Int} {r1 : Int} {c2 : Nat → Int → Int} (h1 : 0 ≤ (w32 (x2 + 4)) ∧ (w32 (x2 + 4)) < 96) (h2 : 0 ≤ (w32 (x2 + 5)) ∧ (w32 (x2 + 5)) < 96) (h3 : (c 77 15) = 0) (h4 : cal 221 [vR 78, vL 294] (SH T, (up (up c 84 (w32 (x2 + 4)) (c 77 19)) 84 (w32 (x2 + 5)) (c 77 19))) = some (some (vI r1), (SH T, c2))) (h5 : r1 = 0) : ev 241 8 135 [vR 78, vU, vI x2, vU] [] (SH T, c) = ev 241 8 185 [vR 78, vU, vI x2, vU] [] (SH T, c2) := by
  refine (ev_eq _ _ _ _ _ _).trans ?_
  refine (if_pos h1).trans ?_
  refine (if_pos h2).trans ?_
  refine (if_pos h3).trans ?_
  refine (el_call rfl h4).trans ?_
  refine (if_pos h5).trans ?_
  rfl
theorem B_X12_readClause_135_2 {T : List Shp} {c : Nat → Int → Int} {x2 : Int} {r1 : Int} {c2 : Nat → Int → Int} {c3 : Nat → Int → Int} {c4 : Nat → Int → Int} (h1 : 0 ≤ (w32 (x2 + 4)) ∧ (w32 (x2 + 4)) < 96) (h2 : 0 ≤ (w32 (x2 + 5)) ∧ (w32 (x2 + 5)) < 96) (h3 : (c 77 15) = 0) (h4 : cal 221 [vR 78, vL 294] (SH T, (up (up c 84 (w32 (x2 + 4)) (c 77 19)) 84 (w32 (x2 + 5)) (c 77 19))) = some (some (vI r1), (SH T, c2))) (h5 : ¬ r1 = 0) (h6 : cal 220 [vR 78] (SH T, c2) = some (none, (SH T, c3))) (h7 : cal 240 [vR 78, vI 1] (SH T, c3) = some (none, (SH T, c4))) : ev 241 8 135 [vR 78, vU, vI x2, vU] [] (SH T, c) = ev 241 8 185 [vR 78, vU, vI x2, vU] [] (SH T, c4) := by
  refine (ev_eq _ _ _ _ _ _).trans ?_
  refine (if_pos h1).trans ?_
  refine (if_pos h2).trans ?_
  refine (if_pos h3).trans ?_
  refine (el_call rfl h4).trans ?_
  refine (if_neg h5).trans ?_
  refine (el_call rfl h6).trans ?_
  refine (el_call rfl h7).trans ?_
  rfl
theorem B_X12_readClause_135_3 {T : List Shp} {c : Nat → Int → Int} {x2 : Int} (h1 : 0 ≤ (w32 (x2 + 4)) ∧ (w32 (x2 + 4)) < 96) (h2 : 0 ≤ (w32 (x2 + 5)) ∧ (w32 (x2 + 5)) < 96) (h3 : ¬ (c 77 15) = 0) : ev 241 8 135 [vR 78, vU, vI x2, vU] [] (SH T, c) = ev 241 8 185 [vR 78, vU, vI x2, vU] [] (SH T, (up (up c 84 (w32 (x2 + 4)) (c 77 19)) 84 (w32 (x2 + 5)) (c 77 19))) := by
  refine (ev_eq _ _ _ _ _ _).trans ?_
  refine (if_pos h1).trans ?_
  refine (if_pos h2).trans ?_
  refine (if_neg h3).trans ?_
  rfl
theorem B_X12_readClause_185 {T : List Shp} {c : Nat → Int → Int} {x2 : Int} (h1 : 0 ≤ (w32 (x2 + 6)) ∧ (w32 (x2 + 6)) < 96) : ev 241 8 185 [vR 78, vU, vI x2, vU] [] (SH T, c) = some (none, (SH T, (up c 84 (w32 (x2 + 6)) (c 77 19)))) := by
  refine (ev_eq _ _ _ _ _ _).trans ?_
  refine (if_pos h1).trans ?_
  rfl
theorem E_X12_beginText {T : List Shp} {c : Nat → Int → Int} {x1 : Int} {c1 : Nat → Int → Int} (h1 : x1 = 0 ∨ x1 = 1) (h2 : cal 219 [vR 78] (SH T, (up c 77 16 x1)) = some (none, (SH T, c1))) : cal 242 [vR 78, vI x1] (SH T, c) = some (none, (SH T, (up (up (up c1 77 17 0) 77 19 0) 77 22 0))) := by
  refine (ev_eq _ _ _ _ _ _).trans ?_
  refine (if_pos h1).trans ?_
  refine (el_call rfl h2).trans ?_
  rfl
theorem E_X12_endText_1 {T : List Shp} {c : Nat → Int → Int} (h1 : (c 77 15) = 0) (h2 : (c 77 12) = 0) : cal 243 [vR 78] (SH T, c) = some (none, (SH T, (up (up c 77 16 0) 77 9 0))) := by
  refine (ev_eq _ _ _ _ _ _).trans ?_
  refine (if_pos h1).trans ?_
  refine (if_pos h2).trans ?_
  refine (ev_eq _ _ _ _ _ _).trans ?_
  rfl
theorem E_X12_endText_2 {T : List Shp} {c : Nat → Int → Int} {c1 : Nat → Int → Int} (h1 : (c 77 15) = 0) (h2 : ¬ (c 77 12) = 0) (h3 : cal 223 [vR 78, vI 0] (SH T, c) = some (none, (SH T, c1))) : cal 243 [vR 78] (SH T, c) = some (none, (SH T, (up (up c1 77 16 0) 77 9 0))) := by
  refine (ev_eq _ _ _ _ _ _).trans ?_
  refine (if_pos h1).trans ?_
  refine (if_neg h2).trans ?_
  refine (el_call rfl h3).trans ?_
  refine (ev_eq _ _ _ _ _ _).trans ?_
  rfl
theorem E_X12_endText_3 {T : List Shp} {c : Nat → Int → Int} (h1 : ¬ (c 77 15) = 0) : cal 243 [vR 78] (SH T, c) = some (none, (SH T, (up (up c 77 16 0) 77 9 0))) := by
  refine (ev_eq _ _ _ _ _ _).trans ?_
  refine (if_neg h1).trans ?_
  refine (ev_eq _ _ _ _ _ _).trans ?_
  rfl
theorem E_X12_law_1 {T : List Shp} {c : Nat → Int → Int} {r1 : Int} {c2 : Nat → Int → Int} (h1 : (c 79 1) = 6) (h2 : cal 190 [vR 78, vI (-5)] (SH T, (up (up c 77 0 0) 77 9 0)) = some (some (vI r1), (SH T, c2))) : cal 244 [vR 78] (SH T, c) = some (some (vI r1), (SH T, c2)) := by
  refine (ev_eq _ _ _ _ _ _).trans ?_
  refine (if_pos h1).trans ?_
  refine (el_call rfl h2).trans ?_
  rfl
theorem E_X12_law_2 {T : List Shp} {c : Nat → Int → Int} {c1 : Nat → Int → Int} {c2 : Nat → Int → Int} (h1 : ¬ (c 79 1) = 6) (h2 : cal 242 [vR 78, vI 0] (SH T, (up c 77 0 0)) = some (none, (SH T, c1))) (h3 : cal 241 [vR 78] (SH T, c1) = some (none, (SH T, c2))) : cal 244 [vR 78] (SH T, c) = ev 244 9 37 [vR 78, vU, vU] [] (SH T, c2) := by
  refine (ev_eq _ _ _ _ _ _).trans ?_
  refine (if_neg h1).trans ?_
  refine (ev_eq _ _ _ _ _ _).trans ?_
  refine (el_call rfl h2).trans ?_
  refine (el_call rfl h3).trans ?_
  rfl
theorem B_X12_law_37_1 {T : List Shp} {c : Nat → Int → Int} {r1 : Int} {c2 : Nat → Int → Int} (h1 : (c 77 15) = 0) (h2 : cal 222 [vR 78, vI 59] (SH T, c) = some (some (vI r1), (SH T, c2))) (h3 : r1 = 0) : ev 244 9 37 [vR 78, vU, vU] [] (SH T, c) = ev 244 9 64 [vR 78, vU, vU] [] (SH T, c2) := by
  refine (ev_eq _ _ _ _ _ _).trans ?_
  refine (if_pos h1).trans ?_
  refine (el_call rfl h2).trans ?_
  refine (if_pos h3).trans ?_
  rfl
theorem B_X12_law_37_2 {T : List Shp} {c : Nat → Int → Int} {r1 : Int} {c2 : Nat → Int → Int} {c3 : Nat → Int → Int} {c4 : Nat → Int → Int} (h1 : (c 77 15) = 0) (h2 : cal 222 [vR 78, vI 59] (SH T, c) = some (some (vI r1), (SH T, c2))) (h3 : ¬ r1 = 0) (h4 : cal 220 [vR 78] (SH T, c2) = some (none, (SH T, c3))) (h5 : cal 241 [vR 78] (SH T, c3) = some (none, (SH T, c4))) : ev 244 9 37 [vR 78, vU, vU] [] (SH T, c) = ev 244 9 37 [vR 78, vU, vU] [] (SH T, c4) := by
  refine (ev_eq _ _ _ _ _ _).trans ?_
  refine (if_pos h1).trans ?_
  refine (el_call rfl h2).trans ?_
  refine (if_neg h3).trans ?_
  refine (el_call rfl h4).trans ?_
  refine (el_call rfl h5).trans ?_
  rfl
theorem B_X12_law_37_3 {T : List Shp} {c : Nat → Int → Int} (h1 : ¬ (c 77 15) = 0) : ev 244 9 37 [vR 78, vU, vU] [] (SH T, c) = ev 244 9 64 [vR 78, vU, vU] [] (SH T, c) := by
  refine (ev_eq _ _ _ _ _ _).trans ?_
  refine (if_neg h1).trans ?_
  rfl
theorem B_X12_law_64_1 {T : List Shp} {c : Nat → Int → Int} {c1 : Nat → Int → Int} (h1 : cal 243 [vR 78] (SH T, c) = some (none, (SH T, c1))) (h2 : (c1 77 15) = 0) (h3 : 0 ≤ (w32 ((w32 (380 + (w32 (900 * (c1 79 1))))) + 1)) ∧ (w32 ((w32 (380 + (w32 (900 * (c1 79 1))))) + 1)) < 5780) : ev 244 9 64 [vR 78, vU, vU] [] (SH T, c) = ev 244 9 111 [vR 78, vI (w32 (380 + (w32 (900 * (c1 79 1))))), vI 0] [] (SH T, (up c1 79 (w32 ((w32 (380 + (w32 (900 * (c1 79 1))))) + 1)) (c1 77 17))) := by
  refine (ev_eq _ _ _ _ _ _).trans ?_
  refine (el_call rfl h1).trans ?_
  refine (if_pos h2).trans ?_
  refine (ev_eq _ _ _ _ _ _).trans ?_
  refine (if_pos h3).trans ?_
  rfl

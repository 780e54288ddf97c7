theorem B_X12_century_70_1 {T : List Shp} {c : Nat → Int → Int} {x2 x3 : Int} {r1 : Int} {c2 : Nat → Int → Int} (h1 : x3 < 17) (h2 : x3 < 12) (h3 : cal 203 [vR 78, vI x3] (SH T, c) = some (some (vI r1), (SH T, c2))) (h4 : 0 ≤ x3 ∧ x3 < 17) : ev 337 8 70 [vR 78, vU, vI x2, vI x3, vU, vU, vU, vU] [] (SH T, c) = ev 337 8 70 [vR 78, vU, vI x2, vI (w32 (x3 + 1)), vU, vU, vU, vU] [] (SH T, (up c2 108 x3 r1)) := by
  refine (ev_eq _ _ _ _ _ _).trans ?_
  refine (if_pos h1).trans ?_
  refine (if_pos h2).trans ?_
  refine (el_call rfl h3).trans ?_
  refine (if_pos h4).trans ?_
  rfl
theorem B_X12_century_70_2 {T : List Shp} {c : Nat → Int → Int} {x2 x3 : Int} (h1 : x3 < 17) (h2 : ¬ x3 < 12) (h3 : 0 ≤ x3 ∧ x3 < 17) : ev 337 8 70 [vR 78, vU, vI x2, vI x3, vU, vU, vU, vU] [] (SH T, c) = ev 337 8 70 [vR 78, vU, vI x2, vI (w32 (x3 + 1)), vU, vU, vU, vU] [] (SH T, (up c 108 x3 0)) := by
  refine (ev_eq _ _ _ _ _ _).trans ?_
  refine (if_pos h1).trans ?_
  refine (if_neg h2).trans ?_
  refine (ev_eq _ _ _ _ _ _).trans ?_
  refine (if_pos h3).trans ?_
  rfl
theorem B_X12_century_70_3 {T : List Shp} {c : Nat → Int → Int} {x2 x3 : Int} {r1 : Int} {c2 : Nat → Int → Int} (h1 : ¬ x3 < 17) (h2 : cal 197 [vR 78] (SH T, c) = some (some (vI r1), (SH T, c2))) : ev 337 8 70 [vR 78, vU, vI x2, vI x3, vU, vU, vU, vU] [] (SH T, c) = ev 337 8 110 [vR 78, vU, vI x2, vI (w32 (r1 + 1)), vU, vU, vU, vU] [] (SH T, c2) := by
  refine (ev_eq _ _ _ _ _ _).trans ?_
  refine (if_neg h1).trans ?_
  refine (ev_eq _ _ _ _ _ _).trans ?_
  refine (el_call rfl h2).trans ?_
  rfl
theorem B_X12_century_110_1 {T : List Shp} {c : Nat → Int → Int} {x2 x3 : Int} {r1 : Int} {c2 : Nat → Int → Int} (h1 : cal 197 [vR 78] (SH T, c) = some (some (vI r1), (SH T, c2))) (h2 : (w32 (r1 + x2)) < x3) : ev 337 8 110 [vR 78, vU, vI x2, vI x3, vU, vU, vU, vU] [] (SH T, c) = ev 337 8 251 [vR 78, vU, vI x2, vU, vU, vU, vU, vU] [] (SH T, c2) := by
  refine (ev_eq _ _ _ _ _ _).trans ?_
  refine (el_call rfl h1).trans ?_
  refine (if_pos h2).trans ?_
  rfl
theorem B_X12_century_110_2 {T : List Shp} {c : Nat → Int → Int} {x2 x3 : Int} {r1 : Int} {c2 : Nat → Int → Int} {c3 : Nat → Int → Int} {r4 : Int} {c5 : Nat → Int → Int} (h1 : cal 197 [vR 78] (SH T, c) = some (some (vI r1), (SH T, c2))) (h2 : ¬ (w32 (r1 + x2)) < x3) (h3 : 0 < (c2 79 0)) (h4 : cal 259 [vR 78, vI x3] (SH T, c2) = some (none, (SH T, c3))) (h5 : cal 336 [vR 78, vI (c3 79 0)] (SH T, c3) = some (some (vI r4), (SH T, c5))) (h6 : 0 ≤ (w32 (12 + r4)) ∧ (w32 (12 + r4)) < 17) (h7 : 0 ≤ (w32 (12 + r4)) ∧ (w32 (12 + r4)) < 17) : ev 337 8 110 [vR 78, vU, vI x2, vI x3, vU, vU, vU, vU] [] (SH T, c) = ev 337 8 163 [vR 78, vU, vI x2, vI x3, vI r4, vI 0, vU, vU] [] (SH T, (up c5 108 (w32 (12 + r4)) (w32 ((c5 108 (w32 (12 + r4))) + 1)))) := by
  refine (ev_eq _ _ _ _ _ _).trans ?_
  refine (el_call rfl h1).trans ?_
  refine (if_neg h2).trans ?_
  refine (if_pos h3).trans ?_
  refine (el_call rfl h4).trans ?_
  refine (el_call rfl h5).trans ?_
  refine (if_pos h6).trans ?_
  refine (if_pos h7).trans ?_
  rfl
theorem B_X12_century_110_3 {T : List Shp} {c : Nat → Int → Int} {x2 x3 : Int} {r1 : Int} {c2 : Nat → Int → Int} (h1 : cal 197 [vR 78] (SH T, c) = some (some (vI r1), (SH T, c2))) (h2 : ¬ (w32 (r1 + x2)) < x3) (h3 : ¬ 0 < (c2 79 0)) : ev 337 8 110 [vR 78, vU, vI x2, vI x3, vU, vU, vU, vU] [] (SH T, c) = ev 337 8 251 [vR 78, vU, vI x2, vU, vU, vU, vU, vU] [] (SH T, c2) := by
  refine (ev_eq _ _ _ _ _ _).trans ?_
  refine (el_call rfl h1).trans ?_
  refine (if_neg h2).trans ?_
  refine (if_neg h3).trans ?_
  rfl
theorem B_X12_century_163_1 {T : List Shp} {c : Nat → Int → Int} {x2 x3 x4 x5 : Int} {r1 : Int} {c2 : Nat → Int → Int} {r3 : Int} {c4 : Nat → Int → Int} {r5 : Int} {c6 : Nat → Int → Int} (h1 : x5 < 12) (h2 : 0 ≤ x5 ∧ x5 < 17) (h3 : cal 260 [vR 78, vI x4, vI x5, vI x3, vI (c 108 x5)] (SH T, c) = some (some (vI r1), (SH T, c2))) (h4 : cal 336 [vR 78, vI 8] (SH T, c2) = some (some (vI r3), (SH T, c4))) (h5 : r3 = 0) (h6 : cal 189 [vL (w32 (r1 - 1)), vI 0, vI 9] (SH T, c4) = some (some (vI r5), (SH T, c6))) (h7 : 0 ≤ x5 ∧ x5 < 17) : ev 337 8 163 [vR 78, vU, vI x2, vI x3, vI x4, vI x5, vU, vU] [] (SH T, c) = ev 337 8 163 [vR 78, vU, vI x2, vI x3, vI x4, vI (w32 (x5 + 1)), vU, vU] [] (SH T, (up c6 108 x5 r5)) := by
  refine (ev_eq _ _ _ _ _ _).trans ?_
  refine (if_pos h1).trans ?_
  refine (if_pos h2).trans ?_
  refine (el_call rfl h3).trans ?_
  refine (el_call rfl h4).trans ?_
  refine (if_pos h5).trans ?_
  refine (el_call rfl h6).trans ?_
  refine (if_pos h7).trans ?_
  rfl
theorem B_X12_century_163_2 {T : List Shp} {c : Nat → Int → Int} {x2 x3 x4 x5 : Int} {r1 : Int} {c2 : Nat → Int → Int} {r3 : Int} {c4 : Nat → Int → Int} {r5 : Int} {c6 : Nat → Int → Int} (h1 : x5 < 12) (h2 : 0 ≤ x5 ∧ x5 < 17) (h3 : cal 260 [vR 78, vI x4, vI x5, vI x3, vI (c 108 x5)] (SH T, c) = some (some (vI r1), (SH T, c2))) (h4 : cal 336 [vR 78, vI 8] (SH T, c2) = some (some (vI r3), (SH T, c4))) (h5 : ¬ r3 = 0) (h6 : r3 = 1) (h7 : cal 189 [vL (w32 (r1 + 1)), vI 0, vI 9] (SH T, c4) = some (some (vI r5), (SH T, c6))) (h8 : 0 ≤ x5 ∧ x5 < 17) : ev 337 8 163 [vR 78, vU, vI x2, vI x3, vI x4, vI x5, vU, vU] [] (SH T, c) = ev 337 8 163 [vR 78, vU, vI x2, vI x3, vI x4, vI (w32 (x5 + 1)), vU, vU] [] (SH T, (up c6 108 x5 r5)) := by
  refine (ev_eq _ _ _ _ _ _).trans ?_
  refine (if_pos h1).trans ?_
  refine (if_pos h2).trans ?_
  refine (el_call rfl h3).trans ?_
  refine (el_call rfl h4).trans ?_
  refine (if_neg h5).trans ?_
  refine (ev_eq _ _ _ _ _ _).trans ?_
  refine (if_pos h6).trans ?_
  refine (el_call rfl h7).trans ?_
  refine (if_pos h8).trans ?_
  rfl
theorem B_X12_century_163_3 {T : List Shp} {c : Nat → Int → Int} {x2 x3 x4 x5 : Int} {r1 : Int} {c2 : Nat → Int → Int} {r3 : Int} {c4 : Nat → Int → Int} {r5 : Int} {c6 : Nat → Int → Int} (h1 : x5 < 12) (h2 : 0 ≤ x5 ∧ x5 < 17) (h3 : cal 260 [vR 78, vI x4, vI x5, vI x3, vI (c 108 x5)] (SH T, c) = some (some (vI r1), (SH T, c2))) (h4 : cal 336 [vR 78, vI 8] (SH T, c2) = some (some (vI r3), (SH T, c4))) (h5 : ¬ r3 = 0) (h6 : ¬ r3 = 1) (h7 : cal 189 [vL r1, vI 0, vI 9] (SH T, c4) = some (some (vI r5), (SH T, c6))) (h8 : 0 ≤ x5 ∧ x5 < 17) : ev 337 8 163 [vR 78, vU, vI x2, vI x3, vI x4, vI x5, vU, vU] [] (SH T, c) = ev 337 8 163 [vR 78, vU, vI x2, vI x3, vI x4, vI (w32 (x5 + 1)), vU, vU] [] (SH T, (up c6 108 x5 r5)) := by
  refine (ev_eq _ _ _ _ _ _).trans ?_
  refine (if_pos h1).trans ?_
  refine (if_pos h2).trans ?_
  refine (el_call rfl h3).trans ?_
  refine (el_call rfl h4).trans ?_
  refine (if_neg h5).trans ?_
  refine (ev_eq _ _ _ _ _ _).trans ?_
  refine (if_neg h6).trans ?_
  refine (ev_eq _ _ _ _ _ _).trans ?_
  refine (el_call rfl h7).trans ?_
  refine (if_pos h8).trans ?_
  rfl
theorem B_X12_century_163_4 {T : List Shp} {c : Nat → Int → Int} {x2 x3 x4 x5 : Int} (h1 : ¬ x5 < 12) : ev 337 8 163 [vR 78, vU, vI x2, vI x3, vI x4, vI x5, vU, vU] [] (SH T, c) = ev 337 8 110 [vR 78, vU, vI x2, vI (w32 (x3 + 1)), vU, vU, vU, vU] [] (SH T, c) := by
  refine (ev_eq _ _ _ _ _ _).trans ?_
  refine (if_neg h1).trans ?_
  refine (ev_eq _ _ _ _ _ _).trans ?_
  rfl
theorem B_X12_century_251 {T : List Shp} {c : Nat → Int → Int} {x2 : Int} {r1 : Int} {c2 : Nat → Int → Int} {c3 : Nat → Int → Int} (h1 : cal 197 [vR 78] (SH T, c) = some (some (vI r1), (SH T, c2))) (h2 : cal 259 [vR 78, vI (w32 (r1 + x2))] (SH T, c2) = some (none, (SH T, c3))) : ev 337 8 251 [vR 78, vU, vI x2, vU, vU, vU, vU, vU] [] (SH T, c) = ev 337 8 266 [vR 78, vU, vI x2, vI 0, vI 0, vU, vU, vU] [] (SH T, c3) := by
  refine (ev_eq _ _ _ _ _ _).trans ?_
  refine (el_call rfl h1).trans ?_
  refine (el_call rfl h2).trans ?_
  rfl
theorem B_X12_century_266_1 {T : List Shp} {c : Nat → Int → Int} {x2 x3 x4 : Int} {r1 : Int} {c2 : Nat → Int → Int} {r3 : Int} {c4 : Nat → Int → Int} (h1 : x4 < 12) (h2 : 0 ≤ x4 ∧ x4 < 17) (h3 : cal 197 [vR 78] (SH T, c) = some (some (vI r1), (SH T, c2))) (h4 : 0 ≤ (w32 ((w32 (12 * (w32 (r1 + x2)))) + x4)) ∧ (w32 ((w32 (12 * (w32 (r1 + x2)))) + x4)) < 1200) (h5 : cal 188 [vI (w32 ((c 108 x4) - (c2 95 (w32 ((w32 (12 * (w32 (r1 + x2)))) + x4)))))] (SH T, c2) = some (some (vI r3), (SH T, c4))) : ev 337 8 266 [vR 78, vU, vI x2, vI x3, vI x4, vU, vU, vU] [] (SH T, c) = ev 337 8 266 [vR 78, vU, vI x2, vI (w32 (x3 + r3)), vI (w32 (x4 + 1)), vU, vU, vU] [] (SH T, c4) := by
  refine (ev_eq _ _ _ _ _ _).trans ?_
  refine (if_pos h1).trans ?_
  refine (if_pos h2).trans ?_
  refine (el_call rfl h3).trans ?_
  refine (if_pos h4).trans ?_
  refine (el_call rfl h5).trans ?_
  rfl
theorem B_X12_century_266_2 {T : List Shp} {c : Nat → Int → Int} {x2 x3 x4 : Int} {r1 : Int} {c2 : Nat → Int → Int} (h1 : ¬ x4 < 12) (h2 : cal 190 [vR 78, vI x3] (SH T, c) = some (some (vI r1), (SH T, c2))) : ev 337 8 266 [vR 78, vU, vI x2, vI x3, vI x4, vU, vU, vU] [] (SH T, c) = some (some (vI r1), (SH T, c2)) := by
  refine (ev_eq _ _ _ _ _ _).trans ?_
  refine (if_neg h1).trans ?_
  refine (ev_eq _ _ _ _ _ _).trans ?_
  refine (el_call rfl h2).trans ?_
  rfl
theorem E_X12_drawn_1 {T : List Shp} {c : Nat → Int → Int} {x1 : Int} (h1 : (c 77 59) = 0) : cal 338 [vR 78, vI x1] (SH T, c) = some (some (vI (-1)), (SH T, (up c 77 0 0))) := by
  refine (ev_eq _ _ _ _ _ _).trans ?_
  refine (if_pos h1).trans ?_
  rfl
theorem E_X12_drawn_2 {T : List Shp} {c : Nat → Int → Int} {x1 : Int} {r1 : Int} {c2 : Nat → Int → Int} {r3 : Int} {c4 : Nat → Int → Int} (h1 : ¬ (c 77 59) = 0) (h2 : cal 194 [vI x1] (SH T, (up c 77 0 0)) = some (some (vI r1), (SH T, c2))) (h3 : r1 = 0) (h4 : cal 186 [vL x1, vL 100, vL (w64 (99 + (c2 77 60)))] (SH T, c2) = some (some (vI r3), (SH T, c4))) (h5 : r3 = 0) : cal 338 [vR 78, vI x1] (SH T, c) = some (some (vI (-1)), (SH T, c4)) := by
  refine (ev_eq _ _ _ _ _ _).trans ?_
  refine (if_neg h1).trans ?_
  refine (ev_eq _ _ _ _ _ _).trans ?_
  refine (el_call rfl h2).trans ?_
  refine (if_pos h3).trans ?_
  refine (ev_eq _ _ _ _ _ _).trans ?_
  refine (el_call rfl h4).trans ?_
  refine (if_pos h5).trans ?_
  refine (ev_eq _ _ _ _ _ _).trans ?_
  rfl
theorem E_X12_drawn_3 {T : List Shp} {c : Nat → Int → Int} {x1 : Int} {r1 : Int} {c2 : Nat → Int → Int} {r3 : Int} {c4 : Nat → Int → Int} (h1 : ¬ (c 77 59) = 0) (h2 : cal 194 [vI x1] (SH T, (up c 77 0 0)) = some (some (vI r1), (SH T, c2))) (h3 : r1 = 0) (h4 : cal 186 [vL x1, vL 100, vL (w64 (99 + (c2 77 60)))] (SH T, c2) = some (some (vI r3), (SH T, c4))) (h5 : ¬ r3 = 0) (h6 : 0 ≤ (w32 ((w32 (12 + x1)) - 100)) ∧ (w32 ((w32 (12 + x1)) - 100)) < 17) : cal 338 [vR 78, vI x1] (SH T, c) = some (some (vI (c4 108 (w32 ((w32 (12 + x1)) - 100)))), (SH T, c4)) := by
  refine (ev_eq _ _ _ _ _ _).trans ?_
  refine (if_neg h1).trans ?_
  refine (ev_eq _ _ _ _ _ _).trans ?_
  refine (el_call rfl h2).trans ?_
  refine (if_pos h3).trans ?_
  refine (ev_eq _ _ _ _ _ _).trans ?_
  refine (el_call rfl h4).trans ?_
  refine (if_neg h5).trans ?_
  refine (if_pos h6).trans ?_
  rfl
theorem E_X12_drawn_4 {T : List Shp} {c : Nat → Int → Int} {x1 : Int} {r1 : Int} {c2 : Nat → Int → Int} (h1 : ¬ (c 77 59) = 0) (h2 : cal 194 [vI x1] (SH T, (up c 77 0 0)) = some (some (vI r1), (SH T, c2))) (h3 : ¬ r1 = 0) (h4 : 0 ≤ x1 ∧ x1 < 17) : cal 338 [vR 78, vI x1] (SH T, c) = some (some (vI (c2 108 x1)), (SH T, c2)) := by
  refine (ev_eq _ _ _ _ _ _).trans ?_
  refine (if_neg h1).trans ?_
  refine (ev_eq _ _ _ _ _ _).trans ?_
  refine (el_call rfl h2).trans ?_
  refine (if_neg h3).trans ?_
  refine (if_pos h4).trans ?_
  rfl
theorem E_X12_count_1 {T : List Shp} {c : Nat → Int → Int} {x1 : Int} (h1 : x1 = 0) : cal 339 [vR 78, vI x1] (SH T, c) = some (some (vI (c 79 0)), (SH T, (up c 77 0 0))) := by
  refine (ev_eq _ _ _ _ _ _).trans ?_
  refine (if_pos h1).trans ?_
  refine (ev_eq _ _ _ _ _ _).trans ?_
  rfl
theorem E_X12_count_2 {T : List Shp} {c : Nat → Int → Int} {x1 : Int} (h1 : x1 = 1) : cal 339 [vR 78, vI x1] (SH T, c) = some (some (vI (c 79 1)), (SH T, (up c 77 0 0))) := by
  refine (ev_eq _ _ _ _ _ _).trans ?_
  refine (if_neg (by omega)).trans ?_
  refine (if_pos h1).trans ?_
  refine (ev_eq _ _ _ _ _ _).trans ?_
  rfl
theorem E_X12_count_3 {T : List Shp} {c : Nat → Int → Int} {x1 : Int} (h1 : x1 = 2) : cal 339 [vR 78, vI x1] (SH T, c) = some (some (vI (c 79 3)), (SH T, (up c 77 0 0))) := by
  refine (ev_eq _ _ _ _ _ _).trans ?_
  refine (if_neg (by omega)).trans ?_
  refine (if_neg (by omega)).trans ?_
  refine (if_pos h1).trans ?_
  refine (ev_eq _ _ _ _ _ _).trans ?_
  rfl
theorem E_X12_count_4 {T : List Shp} {c : Nat → Int → Int} {x1 : Int} {r1 : Int} {c2 : Nat → Int → Int} (h1 : x1 = 3) (h2 : cal 197 [vR 78] (SH T, (up c 77 0 0)) = some (some (vI r1), (SH T, c2))) : cal 339 [vR 78, vI x1] (SH T, c) = some (some (vI r1), (SH T, c2)) := by
  refine (ev_eq _ _ _ _ _ _).trans ?_
  refine (if_neg (by omega)).trans ?_
  refine (if_neg (by omega)).trans ?_
  refine (if_neg (by omega)).trans ?_
  refine (if_pos h1).trans ?_
  refine (ev_eq _ _ _ _ _ _).trans ?_
  refine (el_call rfl h2).trans ?_
  rfl
theorem E_X12_count_5 {T : List Shp} {c : Nat → Int → Int} {x1 : Int} (h1 : x1 = 4) : cal 339 [vR 78, vI x1] (SH T, c) = some (some (vI (c 79 5)), (SH T, (up c 77 0 0))) := by
  refine (ev_eq _ _ _ _ _ _).trans ?_
  refine (if_neg (by omega)).trans ?_
  refine (if_neg (by omega)).trans ?_
  refine (if_neg (by omega)).trans ?_
  refine (if_neg (by omega)).trans ?_
  refine (if_pos h1).trans ?_
  refine (ev_eq _ _ _ _ _ _).trans ?_
  rfl
theorem E_X12_count_6 {T : List Shp} {c : Nat → Int → Int} {x1 : Int} (h1 : x1 = 5) : cal 339 [vR 78, vI x1] (SH T, c) = some (some (vI (c 79 6)), (SH T, (up c 77 0 0))) := by
  refine (ev_eq _ _ _ _ _ _).trans ?_
  refine (if_neg (by omega)).trans ?_
  refine (if_neg (by omega)).trans ?_
  refine (if_neg (by omega)).trans ?_
  refine (if_neg (by omega)).trans ?_
  refine (if_neg (by omega)).trans ?_
  refine (if_pos h1).trans ?_
  refine (ev_eq _ _ _ _ _ _).trans ?_
  rfl
theorem E_X12_count_7 {T : List Shp} {c : Nat → Int → Int} {x1 : Int} (h1 : x1 = 6) : cal 339 [vR 78, vI x1] (SH T, c) = some (some (vI (c 77 9)), (SH T, (up c 77 0 0))) := by
  refine (ev_eq _ _ _ _ _ _).trans ?_
  refine (if_neg (by omega)).trans ?_
  refine (if_neg (by omega)).trans ?_
  refine (if_neg (by omega)).trans ?_
  refine (if_neg (by omega)).trans ?_
  refine (if_neg (by omega)).trans ?_
  refine (if_neg (by omega)).trans ?_
  refine (if_pos h1).trans ?_
  refine (ev_eq _ _ _ _ _ _).trans ?_
  rfl
theorem E_X12_count_8 {T : List Shp} {c : Nat → Int → Int} {x1 : Int} (h1 : x1 = 7) : cal 339 [vR 78, vI x1] (SH T, c) = some (some (vI (c 78 1)), (SH T, (up c 77 0 0))) := by
  refine (ev_eq _ _ _ _ _ _).trans ?_
  refine (if_neg (by omega)).trans ?_
  refine (if_neg (by omega)).trans ?_
  refine (if_neg (by omega)).trans ?_
  refine (if_neg (by omega)).trans ?_
  refine (if_neg (by omega)).trans ?_
  refine (if_neg (by omega)).trans ?_
  refine (if_neg (by omega)).trans ?_
  refine (if_pos h1).trans ?_
  refine (ev_eq _ _ _ _ _ _).trans ?_
  rfl
theorem E_X12_count_9 {T : List Shp} {c : Nat → Int → Int} {x1 : Int} (h1 : x1 = 8) : cal 339 [vR 78, vI x1] (SH T, c) = some (some (vI (c 78 2)), (SH T, (up c 77 0 0))) := by
  refine (ev_eq _ _ _ _ _ _).trans ?_
  refine (if_neg (by omega)).trans ?_
  refine (if_neg (by omega)).trans ?_
  refine (if_neg (by omega)).trans ?_
  refine (if_neg (by omega)).trans ?_
  refine (if_neg (by omega)).trans ?_
  refine (if_neg (by omega)).trans ?_
  refine (if_neg (by omega)).trans ?_
  refine (if_neg (by omega)).trans ?_
  refine (if_pos h1).trans ?_
  refine (ev_eq _ _ _ _ _ _).trans ?_
  rfl
theorem E_X12_count_10 {T : List Shp} {c : Nat → Int → Int} {x1 : Int} (h1 : x1 = 9) : cal 339 [vR 78, vI x1] (SH T, c) = some (some (vI (c 78 3)), (SH T, (up c 77 0 0))) := by
  refine (ev_eq _ _ _ _ _ _).trans ?_
  refine (if_neg (by omega)).trans ?_
  refine (if_neg (by omega)).trans ?_
  refine (if_neg (by omega)).trans ?_
  refine (if_neg (by omega)).trans ?_
  refine (if_neg (by omega)).trans ?_
  refine (if_neg (by omega)).trans ?_
  refine (if_neg (by omega)).trans ?_
  refine (if_neg (by omega)).trans ?_
  refine (if_neg (by omega)).trans ?_
  refine (if_pos h1).trans ?_
  refine (ev_eq _ _ _ _ _ _).trans ?_
  rfl
theorem E_X12_count_11 {T : List Shp} {c : Nat → Int → Int} {x1 : Int} (h1 : x1 = 10) : cal 339 [vR 78, vI x1] (SH T, c) = some (some (vI (c 78 5)), (SH T, (up c 77 0 0))) := by
  refine (ev_eq _ _ _ _ _ _).trans ?_
  refine (if_neg (by omega)).trans ?_
  refine (if_neg (by omega)).trans ?_
  refine (if_neg (by omega)).trans ?_
  refine (if_neg (by omega)).trans ?_
  refine (if_neg (by omega)).trans ?_
  refine (if_neg (by omega)).trans ?_
  refine (if_neg (by omega)).trans ?_
  refine (if_neg (by omega)).trans ?_
  refine (if_neg (by omega)).trans ?_
  refine (if_neg (by omega)).trans ?_
  refine (if_pos h1).trans ?_
  refine (ev_eq _ _ _ _ _ _).trans ?_
  rfl
theorem E_X12_count_12 {T : List Shp} {c : Nat → Int → Int} {x1 : Int} (h1 : x1 = 11) : cal 339 [vR 78, vI x1] (SH T, c) = some (some (vI (c 78 6)), (SH T, (up c 77 0 0))) := by
  refine (ev_eq _ _ _ _ _ _).trans ?_
  refine (if_neg (by omega)).trans ?_
  refine (if_neg (by omega)).trans ?_
  refine (if_neg (by omega)).trans ?_
  refine (if_neg (by omega)).trans ?_
  refine (if_neg (by omega)).trans ?_
  refine (if_neg (by omega)).trans ?_
  refine (if_neg (by omega)).trans ?_
  refine (if_neg (by omega)).trans ?_
  refine (if_neg (by omega)).trans ?_
  refine (if_neg (by omega)).trans ?_
  refine (if_neg (by omega)).trans ?_
  refine (if_pos h1).trans ?_
  refine (ev_eq _ _ _ _ _ _).trans ?_
  rfl
theorem E_X12_count_13 {T : List Shp} {c : Nat → Int → Int} {x1 : Int} (h1 : x1 = 12) : cal 339 [vR 78, vI x1] (SH T, c) = some (some (vI (c 79 2)), (SH T, (up c 77 0 0))) := by
  refine (ev_eq _ _ _ _ _ _).trans ?_
  refine (if_neg (by omega)).trans ?_
  refine (if_neg (by omega)).trans ?_
  refine (if_neg (by omega)).trans ?_
  refine (if_neg (by omega)).trans ?_
  refine (if_neg (by omega)).trans ?_
  refine (if_neg (by omega)).trans ?_
  refine (if_neg (by omega)).trans ?_
  refine (if_neg (by omega)).trans ?_
  refine (if_neg (by omega)).trans ?_
  refine (if_neg (by omega)).trans ?_
  refine (if_neg (by omega)).trans ?_
  refine (if_neg (by omega)).trans ?_
  refine (if_pos h1).trans ?_
  refine (ev_eq _ _ _ _ _ _).trans ?_
  rfl
theorem E_X12_count_14 {T : List Shp} {c : Nat → Int → Int} {x1 : Int} {r1 : Int} {c2 : Nat → Int → Int} (h1 : ¬ x1 = 0 ∧ ¬ x1 = 1 ∧ ¬ x1 = 2 ∧ ¬ x1 = 3 ∧ ¬ x1 = 4 ∧ ¬ x1 = 5 ∧ ¬ x1 = 6 ∧ ¬ x1 = 7 ∧ ¬ x1 = 8 ∧ ¬ x1 = 9 ∧ ¬ x1 = 10 ∧ ¬ x1 = 11 ∧ ¬ x1 = 12) (h2 : cal 186 [vL x1, vL 13, vL 17] (SH T, (up c 77 0 0)) = some (some (vI r1), (SH T, c2))) (h3 : r1 = 0) : cal 339 [vR 78, vI x1] (SH T, c) = some (some (vI (-1)), (SH T, c2)) := by
  refine (ev_eq _ _ _ _ _ _).trans ?_
  refine (if_neg (h1.1)).trans ?_
  refine (if_neg (h1.2.1)).trans ?_
  refine (if_neg (h1.2.2.1)).trans ?_
  refine (if_neg (h1.2.2.2.1)).trans ?_
  refine (if_neg (h1.2.2.2.2.1)).trans ?_
  refine (if_neg (h1.2.2.2.2.2.1)).trans ?_
  refine (if_neg (h1.2.2.2.2.2.2.1)).trans ?_
  refine (if_neg (h1.2.2.2.2.2.2.2.1)).trans ?_
  refine (if_neg (h1.2.2.2.2.2.2.2.2.1)).trans ?_
  refine (if_neg (h1.2.2.2.2.2.2.2.2.2.1)).trans ?_
  refine (if_neg (h1.2.2.2.2.2.2.2.2.2.2.1)).trans ?_
  refine (if_neg (h1.2.2.2.2.2.2.2.2.2.2.2.1)).trans ?_
  refine (if_neg (h1.2.2.2.2.2.2.2.2.2.2.2.2)).trans ?_
  refine (ev_eq _ _ _ _ _ _).trans ?_
  refine (el_call rfl h2).trans ?_
  refine (if_pos h3).trans ?_
  refine (ev_eq _ _ _ _ _ _).trans ?_
  rfl
theorem E_X12_count_15 {T : List Shp} {c : Nat → Int → Int} {x1 : Int} {r1 : Int} {c2 : Nat → Int → Int} (h1 : ¬ x1 = 0 ∧ ¬ x1 = 1 ∧ ¬ x1 = 2 ∧ ¬ x1 = 3 ∧ ¬ x1 = 4 ∧ ¬ x1 = 5 ∧ ¬ x1 = 6 ∧ ¬ x1 = 7 ∧ ¬ x1 = 8 ∧ ¬ x1 = 9 ∧ ¬ x1 = 10 ∧ ¬ x1 = 11 ∧ ¬ x1 = 12) (h2 : cal 186 [vL x1, vL 13, vL 17] (SH T, (up c 77 0 0)) = some (some (vI r1), (SH T, c2))) (h3 : ¬ r1 = 0) (h4 : 0 ≤ (w32 ((w32 (7 + x1)) - 13)) ∧ (w32 ((w32 (7 + x1)) - 13)) < 5780) : cal 339 [vR 78, vI x1] (SH T, c) = some (some (vI (c2 79 (w32 ((w32 (7 + x1)) - 13)))), (SH T, c2)) := by
  refine (ev_eq _ _ _ _ _ _).trans ?_
  refine (if_neg (h1.1)).trans ?_
  refine (if_neg (h1.2.1)).trans ?_
  refine (if_neg (h1.2.2.1)).trans ?_
  refine (if_neg (h1.2.2.2.1)).trans ?_
  refine (if_neg (h1.2.2.2.2.1)).trans ?_
  refine (if_neg (h1.2.2.2.2.2.1)).trans ?_
  refine (if_neg (h1.2.2.2.2.2.2.1)).trans ?_
  refine (if_neg (h1.2.2.2.2.2.2.2.1)).trans ?_
  refine (if_neg (h1.2.2.2.2.2.2.2.2.1)).trans ?_
  refine (if_neg (h1.2.2.2.2.2.2.2.2.2.1)).trans ?_
  refine (if_neg (h1.2.2.2.2.2.2.2.2.2.2.1)).trans ?_
  refine (if_neg (h1.2.2.2.2.2.2.2.2.2.2.2.1)).trans ?_
  refine (if_neg (h1.2.2.2.2.2.2.2.2.2.2.2.2)).trans ?_
  refine (ev_eq _ _ _ _ _ _).trans ?_
  refine (el_call rfl h2).trans ?_
  refine (if_neg h3).trans ?_
  refine (if_pos h4).trans ?_
  rfl
theorem E_X12_status {T : List Shp} {c : Nat → Int → Int}  : cal 340 [vR 78] (SH T, c) = some (some (vI (c 77 1)), (SH T, (up c 77 0 0))) := by
  refine (ev_eq _ _ _ _ _ _).trans ?_
  rfl
theorem B_L_law_18_1 {T : List Shp} {c : Nat → Int → Int} {x3 : Int} (h1 : (w32 ((c 1000001 0) - 6)) < x3) : ev 356 106 18 [vR (-1), vR 1, vR 78, vI x3] [] (SH T, c) = some (some (vI 1), (SH T, c)) := by
  refine (ev_eq _ _ _ _ _ _).trans ?_
  refine (if_pos h1).trans ?_
  refine (ev_eq _ _ _ _ _ _).trans ?_
  rfl
theorem B_L_law_18_2 {T : List Shp} {c : Nat → Int → Int} {x3 : Int} {r1 : Int} {c2 : Nat → Int → Int} {r3 : Int} {c4 : Nat → Int → Int} (h1 : ¬ (w32 ((c 1000001 0) - 6)) < x3) (h2 : 0 ≤ x3 ∧ x3 < c 1000001 0) (h3 : (iand (c 1000000 x3) 63) = 0) (h4 : 0 ≤ (w32 (x3 + 1)) ∧ (w32 (x3 + 1)) < c 1000001 0) (h5 : 0 ≤ (w32 (x3 + 2)) ∧ (w32 (x3 + 2)) < c 1000001 0) (h6 : cal 114 [vR 1, vI (c 1000000 (w32 (x3 + 1))), vI (c 1000000 (w32 (x3 + 2)))] (SH T, c) = some (some (vI r1), (SH T, c2))) (h7 : 0 ≤ (w32 (x3 + 1)) ∧ (w32 (x3 + 1)) < c 1000001 0) (h8 : 0 ≤ (w32 (x3 + 2)) ∧ (w32 (x3 + 2)) < c 1000001 0) (h9 : cal 204 [vR 78, vI (c2 1000000 (w32 (x3 + 1))), vI (c2 1000000 (w32 (x3 + 2)))] (SH T, c2) = some (some (vI r3), (SH T, c4))) (h10 : r1 = r3) : ev 356 106 18 [vR (-1), vR 1, vR 78, vI x3] [] (SH T, c) = ev 356 106 1828 [vR (-1), vR 1, vR 78, vI x3] [] (SH T, c4) := by
  refine (ev_eq _ _ _ _ _ _).trans ?_
  refine (if_neg h1).trans ?_
  refine (if_pos h2).trans ?_
  refine (if_pos h3).trans ?_
  refine (ev_eq _ _ _ _ _ _).trans ?_
  refine (if_pos h4).trans ?_
  refine (if_pos h5).trans ?_
  refine (el_call rfl h6).trans ?_
  refine (if_pos h7).trans ?_
  refine (if_pos h8).trans ?_
  refine (el_call rfl h9).trans ?_
  refine (if_pos h10).trans ?_
  rfl
theorem B_L_law_18_3 {T : List Shp} {c : Nat → Int → Int} {x3 : Int} {r1 : Int} {c2 : Nat → Int → Int} {r3 : Int} {c4 : Nat → Int → Int} (h1 : ¬ (w32 ((c 1000001 0) - 6)) < x3) (h2 : 0 ≤ x3 ∧ x3 < c 1000001 0) (h3 : (iand (c 1000000 x3) 63) = 0) (h4 : 0 ≤ (w32 (x3 + 1)) ∧ (w32 (x3 + 1)) < c 1000001 0) (h5 : 0 ≤ (w32 (x3 + 2)) ∧ (w32 (x3 + 2)) < c 1000001 0) (h6 : cal 114 [vR 1, vI (c 1000000 (w32 (x3 + 1))), vI (c 1000000 (w32 (x3 + 2)))] (SH T, c) = some (some (vI r1), (SH T, c2))) (h7 : 0 ≤ (w32 (x3 + 1)) ∧ (w32 (x3 + 1)) < c 1000001 0) (h8 : 0 ≤ (w32 (x3 + 2)) ∧ (w32 (x3 + 2)) < c 1000001 0) (h9 : cal 204 [vR 78, vI (c2 1000000 (w32 (x3 + 1))), vI (c2 1000000 (w32 (x3 + 2)))] (SH T, c2) = some (some (vI r3), (SH T, c4))) (h10 : ¬ r1 = r3) : ev 356 106 18 [vR (-1), vR 1, vR 78, vI x3] [] (SH T, c) = some (some (vI 0), (SH T, c4)) := by
  refine (ev_eq _ _ _ _ _ _).trans ?_
  refine (if_neg h1).trans ?_
  refine (if_pos h2).trans ?_
  refine (if_pos h3).trans ?_
  refine (ev_eq _ _ _ _ _ _).trans ?_
  refine (if_pos h4).trans ?_
  refine (if_pos h5).trans ?_
  refine (el_call rfl h6).trans ?_
  refine (if_pos h7).trans ?_
  refine (if_pos h8).trans ?_
  refine (el_call rfl h9).trans ?_
  refine (if_neg h10).trans ?_
  rfl
theorem B_L_law_18_4 {T : List Shp} {c : Nat → Int → Int} {x3 : Int} {r1 : Int} {c2 : Nat → Int → Int} {r3 : Int} {c4 : Nat → Int → Int} (h1 : ¬ (w32 ((c 1000001 0) - 6)) < x3) (h2 : 0 ≤ x3 ∧ x3 < c 1000001 0) (h3 : (iand (c 1000000 x3) 63) = 1) (h4 : 0 ≤ (w32 (x3 + 1)) ∧ (w32 (x3 + 1)) < c 1000001 0) (h5 : 0 ≤ (w32 (x3 + 2)) ∧ (w32 (x3 + 2)) < c 1000001 0) (h6 : cal 115 [vR 1, vI (c 1000000 (w32 (x3 + 1))), vI (c 1000000 (w32 (x3 + 2)))] (SH T, c) = some (some (vI r1), (SH T, c2))) (h7 : 0 ≤ (w32 (x3 + 1)) ∧ (w32 (x3 + 1)) < c 1000001 0) (h8 : 0 ≤ (w32 (x3 + 2)) ∧ (w32 (x3 + 2)) < c 1000001 0) (h9 : cal 205 [vR 78, vI (c2 1000000 (w32 (x3 + 1))), vI (c2 1000000 (w32 (x3 + 2)))] (SH T, c2) = some (some (vI r3), (SH T, c4))) (h10 : r1 = r3) : ev 356 106 18 [vR (-1), vR 1, vR 78, vI x3] [] (SH T, c) = ev 356 106 1828 [vR (-1), vR 1, vR 78, vI x3] [] (SH T, c4) := by
  refine (ev_eq _ _ _ _ _ _).trans ?_
  refine (if_neg h1).trans ?_
  refine (if_pos h2).trans ?_
  refine (if_neg (by omega)).trans ?_
  refine (if_pos h3).trans ?_
  refine (ev_eq _ _ _ _ _ _).trans ?_
  refine (if_pos h4).trans ?_
  refine (if_pos h5).trans ?_
  refine (el_call rfl h6).trans ?_
  refine (if_pos h7).trans ?_
  refine (if_pos h8).trans ?_
  refine (el_call rfl h9).trans ?_
  refine (if_pos h10).trans ?_
  rfl
theorem B_L_law_18_5 {T : List Shp} {c : Nat → Int → Int} {x3 : Int} {r1 : Int} {c2 : Nat → Int → Int} {r3 : Int} {c4 : Nat → Int → Int} (h1 : ¬ (w32 ((c 1000001 0) - 6)) < x3) (h2 : 0 ≤ x3 ∧ x3 < c 1000001 0) (h3 : (iand (c 1000000 x3) 63) = 1) (h4 : 0 ≤ (w32 (x3 + 1)) ∧ (w32 (x3 + 1)) < c 1000001 0) (h5 : 0 ≤ (w32 (x3 + 2)) ∧ (w32 (x3 + 2)) < c 1000001 0) (h6 : cal 115 [vR 1, vI (c 1000000 (w32 (x3 + 1))), vI (c 1000000 (w32 (x3 + 2)))] (SH T, c) = some (some (vI r1), (SH T, c2))) (h7 : 0 ≤ (w32 (x3 + 1)) ∧ (w32 (x3 + 1)) < c 1000001 0) (h8 : 0 ≤ (w32 (x3 + 2)) ∧ (w32 (x3 + 2)) < c 1000001 0) (h9 : cal 205 [vR 78, vI (c2 1000000 (w32 (x3 + 1))), vI (c2 1000000 (w32 (x3 + 2)))] (SH T, c2) = some (some (vI r3), (SH T, c4))) (h10 : ¬ r1 = r3) : ev 356 106 18 [vR (-1), vR 1, vR 78, vI x3] [] (SH T, c) = some (some (vI 0), (SH T, c4)) := by
  refine (ev_eq _ _ _ _ _ _).trans ?_
  refine (if_neg h1).trans ?_
  refine (if_pos h2).trans ?_
  refine (if_neg (by omega)).trans ?_
  refine (if_pos h3).trans ?_
  refine (ev_eq _ _ _ _ _ _).trans ?_
  refine (if_pos h4).trans ?_
  refine (if_pos h5).trans ?_
  refine (el_call rfl h6).trans ?_
  refine (if_pos h7).trans ?_
  refine (if_pos h8).trans ?_
  refine (el_call rfl h9).trans ?_
  refine (if_neg h10).trans ?_
  rfl
theorem B_L_law_18_6 {T : List Shp} {c : Nat → Int → Int} {x3 : Int} {r1 : Int} {c2 : Nat → Int → Int} {r3 : Int} {c4 : Nat → Int → Int} (h1 : ¬ (w32 ((c 1000001 0) - 6)) < x3) (h2 : 0 ≤ x3 ∧ x3 < c 1000001 0) (h3 : (iand (c 1000000 x3) 63) = 2) (h4 : 0 ≤ (w32 (x3 + 1)) ∧ (w32 (x3 + 1)) < c 1000001 0) (h5 : 0 ≤ (w32 (x3 + 2)) ∧ (w32 (x3 + 2)) < c 1000001 0) (h6 : 0 ≤ (w32 (x3 + 3)) ∧ (w32 (x3 + 3)) < c 1000001 0) (h7 : cal 116 [vR 1, vI (c 1000000 (w32 (x3 + 1))), vI (c 1000000 (w32 (x3 + 2))), vI (c 1000000 (w32 (x3 + 3)))] (SH T, c) = some (some (vI r1), (SH T, c2))) (h8 : 0 ≤ (w32 (x3 + 1)) ∧ (w32 (x3 + 1)) < c 1000001 0) (h9 : 0 ≤ (w32 (x3 + 2)) ∧ (w32 (x3 + 2)) < c 1000001 0) (h10 : 0 ≤ (w32 (x3 + 3)) ∧ (w32 (x3 + 3)) < c 1000001 0) (h11 : cal 206 [vR 78, vI (c2 1000000 (w32 (x3 + 1))), vI (c2 1000000 (w32 (x3 + 2))), vI (c2 1000000 (w32 (x3 + 3)))] (SH T, c2) = some (some (vI r3), (SH T, c4))) (h12 : r1 = r3) : ev 356 106 18 [vR (-1), vR 1, vR 78, vI x3] [] (SH T, c) = ev 356 106 1828 [vR (-1), vR 1, vR 78, vI x3] [] (SH T, c4) := by
  refine (ev_eq _ _ _ _ _ _).trans ?_
  refine (if_neg h1).trans ?_
  refine (if_pos h2).trans ?_
  refine (if_neg (by omega)).trans ?_
  refine (if_neg (by omega)).trans ?_
  refine (if_pos h3).trans ?_
  refine (ev_eq _ _ _ _ _ _).trans ?_
  refine (if_pos h4).trans ?_
  refine (if_pos h5).trans ?_
  refine (if_pos h6).trans ?_
  refine (el_call rfl h7).trans ?_
  refine (if_pos h8).trans ?_
  refine (if_pos h9).trans ?_
  refine (if_pos h10).trans ?_
  refine (el_call rfl h11).trans ?_
  refine (if_pos h12).trans ?_
  rfl
theorem B_L_law_18_7 {T : List Shp} {c : Nat → Int → Int} {x3 : Int} {r1 : Int} {c2 : Nat → Int → Int} {r3 : Int} {c4 : Nat → Int → Int} (h1 : ¬ (w32 ((c 1000001 0) - 6)) < x3) (h2 : 0 ≤ x3 ∧ x3 < c 1000001 0) (h3 : (iand (c 1000000 x3) 63) = 2) (h4 : 0 ≤ (w32 (x3 + 1)) ∧ (w32 (x3 + 1)) < c 1000001 0) (h5 : 0 ≤ (w32 (x3 + 2)) ∧ (w32 (x3 + 2)) < c 1000001 0) (h6 : 0 ≤ (w32 (x3 + 3)) ∧ (w32 (x3 + 3)) < c 1000001 0) (h7 : cal 116 [vR 1, vI (c 1000000 (w32 (x3 + 1))), vI (c 1000000 (w32 (x3 + 2))), vI (c 1000000 (w32 (x3 + 3)))] (SH T, c) = some (some (vI r1), (SH T, c2))) (h8 : 0 ≤ (w32 (x3 + 1)) ∧ (w32 (x3 + 1)) < c 1000001 0) (h9 : 0 ≤ (w32 (x3 + 2)) ∧ (w32 (x3 + 2)) < c 1000001 0) (h10 : 0 ≤ (w32 (x3 + 3)) ∧ (w32 (x3 + 3)) < c 1000001 0) (h11 : cal 206 [vR 78, vI (c2 1000000 (w32 (x3 + 1))), vI (c2 1000000 (w32 (x3 + 2))), vI (c2 1000000 (w32 (x3 + 3)))] (SH T, c2) = some (some (vI r3), (SH T, c4))) (h12 : ¬ r1 = r3) : ev 356 106 18 [vR (-1), vR 1, vR 78, vI x3] [] (SH T, c) = some (some (vI 0), (SH T, c4)) := by
  refine (ev_eq _ _ _ _ _ _).trans ?_
  refine (if_neg h1).trans ?_
  refine (if_pos h2).trans ?_
  refine (if_neg (by omega)).trans ?_
  refine (if_neg (by omega)).trans ?_
  refine (if_pos h3).trans ?_
  refine (ev_eq _ _ _ _ _ _).trans ?_
  refine (if_pos h4).trans ?_
  refine (if_pos h5).trans ?_
  refine (if_pos h6).trans ?_
  refine (el_call rfl h7).trans ?_
  refine (if_pos h8).trans ?_
  refine (if_pos h9).trans ?_
  refine (if_pos h10).trans ?_
  refine (el_call rfl h11).trans ?_
  refine (if_neg h12).trans ?_
  rfl
theorem B_L_law_18_8 {T : List Shp} {c : Nat → Int → Int} {x3 : Int} {r1 : Int} {c2 : Nat → Int → Int} {r3 : Int} {c4 : Nat → Int → Int} (h1 : ¬ (w32 ((c 1000001 0) - 6)) < x3) (h2 : 0 ≤ x3 ∧ x3 < c 1000001 0) (h3 : (iand (c 1000000 x3) 63) = 3) (h4 : 0 ≤ (w32 (x3 + 1)) ∧ (w32 (x3 + 1)) < c 1000001 0) (h5 : 0 ≤ (w32 (x3 + 2)) ∧ (w32 (x3 + 2)) < c 1000001 0) (h6 : cal 117 [vR 1, vI (c 1000000 (w32 (x3 + 1))), vI (c 1000000 (w32 (x3 + 2)))] (SH T, c) = some (some (vI r1), (SH T, c2))) (h7 : 0 ≤ (w32 (x3 + 1)) ∧ (w32 (x3 + 1)) < c 1000001 0) (h8 : 0 ≤ (w32 (x3 + 2)) ∧ (w32 (x3 + 2)) < c 1000001 0) (h9 : cal 207 [vR 78, vI (c2 1000000 (w32 (x3 + 1))), vI (c2 1000000 (w32 (x3 + 2)))] (SH T, c2) = some (some (vI r3), (SH T, c4))) (h10 : r1 = r3) : ev 356 106 18 [vR (-1), vR 1, vR 78, vI x3] [] (SH T, c) = ev 356 106 1828 [vR (-1), vR 1, vR 78, vI x3] [] (SH T, c4) := by
  refine (ev_eq _ _ _ _ _ _).trans ?_
  refine (if_neg h1).trans ?_
  refine (if_pos h2).trans ?_
  refine (if_neg (by omega)).trans ?_
  refine (if_neg (by omega)).trans ?_
  refine (if_neg (by omega)).trans ?_
  refine (if_pos h3).trans ?_
  refine (ev_eq _ _ _ _ _ _).trans ?_
  refine (if_pos h4).trans ?_
  refine (if_pos h5).trans ?_
  refine (el_call rfl h6).trans ?_
  refine (if_pos h7).trans ?_
  refine (if_pos h8).trans ?_
  refine (el_call rfl h9).trans ?_
  refine (if_pos h10).trans ?_
  rfl
theorem B_L_law_18_9 {T : List Shp} {c : Nat → Int → Int} {x3 : Int} {r1 : Int} {c2 : Nat → Int → Int} {r3 : Int} {c4 : Nat → Int → Int} (h1 : ¬ (w32 ((c 1000001 0) - 6)) < x3) (h2 : 0 ≤ x3 ∧ x3 < c 1000001 0) (h3 : (iand (c 1000000 x3) 63) = 3) (h4 : 0 ≤ (w32 (x3 + 1)) ∧ (w32 (x3 + 1)) < c 1000001 0) (h5 : 0 ≤ (w32 (x3 + 2)) ∧ (w32 (x3 + 2)) < c 1000001 0) (h6 : cal 117 [vR 1, vI (c 1000000 (w32 (x3 + 1))), vI (c 1000000 (w32 (x3 + 2)))] (SH T, c) = some (some (vI r1), (SH T, c2))) (h7 : 0 ≤ (w32 (x3 + 1)) ∧ (w32 (x3 + 1)) < c 1000001 0) (h8 : 0 ≤ (w32 (x3 + 2)) ∧ (w32 (x3 + 2)) < c 1000001 0) (h9 : cal 207 [vR 78, vI (c2 1000000 (w32 (x3 + 1))), vI (c2 1000000 (w32 (x3 + 2)))] (SH T, c2) = some (some (vI r3), (SH T, c4))) (h10 : ¬ r1 = r3) : ev 356 106 18 [vR (-1), vR 1, vR 78, vI x3] [] (SH T, c) = some (some (vI 0), (SH T, c4)) := by
  refine (ev_eq _ _ _ _ _ _).trans ?_
  refine (if_neg h1).trans ?_
  refine (if_pos h2).trans ?_
  refine (if_neg (by omega)).trans ?_
  refine (if_neg (by omega)).trans ?_
  refine (if_neg (by omega)).trans ?_
  refine (if_pos h3).trans ?_
  refine (ev_eq _ _ _ _ _ _).trans ?_
  refine (if_pos h4).trans ?_
  refine (if_pos h5).trans ?_
  refine (el_call rfl h6).trans ?_
  refine (if_pos h7).trans ?_
  refine (if_pos h8).trans ?_
  refine (el_call rfl h9).trans ?_
  refine (if_neg h10).trans ?_
  rfl
theorem B_L_law_18_10 {T : List Shp} {c : Nat → Int → Int} {x3 : Int} {r1 : Int} {c2 : Nat → Int → Int} {r3 : Int} {c4 : Nat → Int → Int} (h1 : ¬ (w32 ((c 1000001 0) - 6)) < x3) (h2 : 0 ≤ x3 ∧ x3 < c 1000001 0) (h3 : (iand (c 1000000 x3) 63) = 4) (h4 : 0 ≤ (w32 (x3 + 1)) ∧ (w32 (x3 + 1)) < c 1000001 0) (h5 : 0 ≤ (w32 (x3 + 2)) ∧ (w32 (x3 + 2)) < c 1000001 0) (h6 : cal 118 [vR 1, vI (c 1000000 (w32 (x3 + 1))), vI (c 1000000 (w32 (x3 + 2)))] (SH T, c) = some (some (vI r1), (SH T, c2))) (h7 : 0 ≤ (w32 (x3 + 1)) ∧ (w32 (x3 + 1)) < c 1000001 0) (h8 : 0 ≤ (w32 (x3 + 2)) ∧ (w32 (x3 + 2)) < c 1000001 0) (h9 : cal 209 [vR 78, vI (c2 1000000 (w32 (x3 + 1))), vI (c2 1000000 (w32 (x3 + 2)))] (SH T, c2) = some (some (vI r3), (SH T, c4))) (h10 : r1 = r3) : ev 356 106 18 [vR (-1), vR 1, vR 78, vI x3] [] (SH T, c) = ev 356 106 1828 [vR (-1), vR 1, vR 78, vI x3] [] (SH T, c4) := by
  refine (ev_eq _ _ _ _ _ _).trans ?_
  refine (if_neg h1).trans ?_
  refine (if_pos h2).trans ?_
  refine (if_neg (by omega)).trans ?_
  refine (if_neg (by omega)).trans ?_
  refine (if_neg (by omega)).trans ?_
  refine (if_neg (by omega)).trans ?_
  refine (if_pos h3).trans ?_
  refine (ev_eq _ _ _ _ _ _).trans ?_
  refine (if_pos h4).trans ?_
  refine (if_pos h5).trans ?_
  refine (el_call rfl h6).trans ?_
  refine (if_pos h7).trans ?_
  refine (if_pos h8).trans ?_
  refine (el_call rfl h9).trans ?_
  refine (if_pos h10).trans ?_
  rfl
theorem B_L_law_18_11 {T : List Shp} {c : Nat → Int → Int} {x3 : Int} {r1 : Int} {c2 : Nat → Int → Int} {r3 : Int} {c4 : Nat → Int → Int} (h1 : ¬ (w32 ((c 1000001 0) - 6)) < x3) (h2 : 0 ≤ x3 ∧ x3 < c 1000001 0) (h3 : (iand (c 1000000 x3) 63) = 4) (h4 : 0 ≤ (w32 (x3 + 1)) ∧ (w32 (x3 + 1)) < c 1000001 0) (h5 : 0 ≤ (w32 (x3 + 2)) ∧ (w32 (x3 + 2)) < c 1000001 0) (h6 : cal 118 [vR 1, vI (c 1000000 (w32 (x3 + 1))), vI (c 1000000 (w32 (x3 + 2)))] (SH T, c) = some (some (vI r1), (SH T, c2))) (h7 : 0 ≤ (w32 (x3 + 1)) ∧ (w32 (x3 + 1)) < c 1000001 0) (h8 : 0 ≤ (w32 (x3 + 2)) ∧ (w32 (x3 + 2)) < c 1000001 0) (h9 : cal 209 [vR 78, vI (c2 1000000 (w32 (x3 + 1))), vI (c2 1000000 (w32 (x3 + 2)))] (SH T, c2) = some (some (vI r3), (SH T, c4))) (h10 : ¬ r1 = r3) : ev 356 106 18 [vR (-1), vR 1, vR 78, vI x3] [] (SH T, c) = some (some (vI 0), (SH T, c4)) := by
  refine (ev_eq _ _ _ _ _ _).trans ?_
  refine (if_neg h1).trans ?_
  refine (if_pos h2).trans ?_
  refine (if_neg (by omega)).trans ?_
  refine (if_neg (by omega)).trans ?_
  refine (if_neg (by omega)).trans ?_
  refine (if_neg (by omega)).trans ?_
  refine (if_pos h3).trans ?_
  refine (ev_eq _ _ _ _ _ _).trans ?_
  refine (if_pos h4).trans ?_
  refine (if_pos h5).trans ?_
  refine (el_call rfl h6).trans ?_
  refine (if_pos h7).trans ?_
  refine (if_pos h8).trans ?_
  refine (el_call rfl h9).trans ?_
  refine (if_neg h10).trans ?_
  rfl
theorem B_L_law_18_12 {T : List Shp} {c : Nat → Int → Int} {x3 : Int} {r1 : Int} {c2 : Nat → Int → Int} {r3 : Int} {c4 : Nat → Int → Int} (h1 : ¬ (w32 ((c 1000001 0) - 6)) < x3) (h2 : 0 ≤ x3 ∧ x3 < c 1000001 0) (h3 : (iand (c 1000000 x3) 63) = 5) (h4 : 0 ≤ (w32 (x3 + 1)) ∧ (w32 (x3 + 1)) < c 1000001 0) (h5 : 0 ≤ (w32 (x3 + 2)) ∧ (w32 (x3 + 2)) < c 1000001 0) (h6 : 0 ≤ (w32 (x3 + 3)) ∧ (w32 (x3 + 3)) < c 1000001 0) (h7 : cal 119 [vR 1, vI (c 1000000 (w32 (x3 + 1))), vI (c 1000000 (w32 (x3 + 2))), vI (c 1000000 (w32 (x3 + 3)))] (SH T, c) = some (some (vI r1), (SH T, c2))) (h8 : 0 ≤ (w32 (x3 + 1)) ∧ (w32 (x3 + 1)) < c 1000001 0) (h9 : 0 ≤ (w32 (x3 + 2)) ∧ (w32 (x3 + 2)) < c 1000001 0) (h10 : 0 ≤ (w32 (x3 + 3)) ∧ (w32 (x3 + 3)) < c 1000001 0) (h11 : cal 210 [vR 78, vI (c2 1000000 (w32 (x3 + 1))), vI (c2 1000000 (w32 (x3 + 2))), vI (c2 1000000 (w32 (x3 + 3)))] (SH T, c2) = some (some (vI r3), (SH T, c4))) (h12 : r1 = r3) : ev 356 106 18 [vR (-1), vR 1, vR 78, vI x3] [] (SH T, c) = ev 356 106 1828 [vR (-1), vR 1, vR 78, vI x3] [] (SH T, c4) := by
  refine (ev_eq _ _ _ _ _ _).trans ?_
  refine (if_neg h1).trans ?_
  refine (if_pos h2).trans ?_
  refine (if_neg (by omega)).trans ?_
  refine (if_neg (by omega)).trans ?_
  refine (if_neg (by omega)).trans ?_
  refine (if_neg (by omega)).trans ?_
  refine (if_neg (by omega)).trans ?_
  refine (if_pos h3).trans ?_
  refine (ev_eq _ _ _ _ _ _).trans ?_
  refine (if_pos h4).trans ?_
  refine (if_pos h5).trans ?_
  refine (if_pos h6).trans ?_
  refine (el_call rfl h7).trans ?_
  refine (if_pos h8).trans ?_
  refine (if_pos h9).trans ?_
  refine (if_pos h10).trans ?_
  refine (el_call rfl h11).trans ?_
  refine (if_pos h12).trans ?_
  rfl
theorem B_L_law_18_13 {T : List Shp} {c : Nat → Int → Int} {x3 : Int} {r1 : Int} {c2 : Nat → Int → Int} {r3 : Int} {c4 : Nat → Int → Int} (h1 : ¬ (w32 ((c 1000001 0) - 6)) < x3) (h2 : 0 ≤ x3 ∧ x3 < c 1000001 0) (h3 : (iand (c 1000000 x3) 63) = 5) (h4 : 0 ≤ (w32 (x3 + 1)) ∧ (w32 (x3 + 1)) < c 1000001 0) (h5 : 0 ≤ (w32 (x3 + 2)) ∧ (w32 (x3 + 2)) < c 1000001 0) (h6 : 0 ≤ (w32 (x3 + 3)) ∧ (w32 (x3 + 3)) < c 1000001 0) (h7 : cal 119 [vR 1, vI (c 1000000 (w32 (x3 + 1))), vI (c 1000000 (w32 (x3 + 2))), vI (c 1000000 (w32 (x3 + 3)))] (SH T, c) = some (some (vI r1), (SH T, c2))) (h8 : 0 ≤ (w32 (x3 + 1)) ∧ (w32 (x3 + 1)) < c 1000001 0) (h9 : 0 ≤ (w32 (x3 + 2)) ∧ (w32 (x3 + 2)) < c 1000001 0) (h10 : 0 ≤ (w32 (x3 + 3)) ∧ (w32 (x3 + 3)) < c 1000001 0) (h11 : cal 210 [vR 78, vI (c2 1000000 (w32 (x3 + 1))), vI (c2 1000000 (w32 (x3 + 2))), vI (c2 1000000 (w32 (x3 + 3)))] (SH T, c2) = some (some (vI r3), (SH T, c4))) (h12 : ¬ r1 = r3) : ev 356 106 18 [vR (-1), vR 1, vR 78, vI x3] [] (SH T, c) = some (some (vI 0), (SH T, c4)) := by
  refine (ev_eq _ _ _ _ _ _).trans ?_
  refine (if_neg h1).trans ?_
  refine (if_pos h2).trans ?_
  refine (if_neg (by omega)).trans ?_
  refine (if_neg (by omega)).trans ?_
  refine (if_neg (by omega)).trans ?_
  refine (if_neg (by omega)).trans ?_
  refine (if_neg (by omega)).trans ?_
  refine (if_pos h3).trans ?_
  refine (ev_eq _ _ _ _ _ _).trans ?_
  refine (if_pos h4).trans ?_
  refine (if_pos h5).trans ?_
  refine (if_pos h6).trans ?_
  refine (el_call rfl h7).trans ?_
  refine (if_pos h8).trans ?_
  refine (if_pos h9).trans ?_
  refine (if_pos h10).trans ?_
  refine (el_call rfl h11).trans ?_
  refine (if_neg h12).trans ?_
  rfl
theorem B_L_law_18_14 {T : List Shp} {c : Nat → Int → Int} {x3 : Int} {r1 : Int} {c2 : Nat → Int → Int} {r3 : Int} {c4 : Nat → Int → Int} (h1 : ¬ (w32 ((c 1000001 0) - 6)) < x3) (h2 : 0 ≤ x3 ∧ x3 < c 1000001 0) (h3 : (iand (c 1000000 x3) 63) = 6) (h4 : 0 ≤ (w32 (x3 + 1)) ∧ (w32 (x3 + 1)) < c 1000001 0) (h5 : cal 120 [vR 1, vI (c 1000000 (w32 (x3 + 1)))] (SH T, c) = some (some (vI r1), (SH T, c2))) (h6 : 0 ≤ (w32 (x3 + 1)) ∧ (w32 (x3 + 1)) < c 1000001 0) (h7 : cal 211 [vR 78, vI (c2 1000000 (w32 (x3 + 1)))] (SH T, c2) = some (some (vI r3), (SH T, c4))) (h8 : r1 = r3) : ev 356 106 18 [vR (-1), vR 1, vR 78, vI x3] [] (SH T, c) = ev 356 106 1828 [vR (-1), vR 1, vR 78, vI x3] [] (SH T, c4) := by
  refine (ev_eq _ _ _ _ _ _).trans ?_
  refine (if_neg h1).trans ?_
  refine (if_pos h2).trans ?_
  refine (if_neg (by omega)).trans ?_
  refine (if_neg (by omega)).trans ?_
  refine (if_neg (by omega)).trans ?_
  refine (if_neg (by omega)).trans ?_
  refine (if_neg (by omega)).trans ?_
  refine (if_neg (by omega)).trans ?_
  refine (if_pos h3).trans ?_
  refine (ev_eq _ _ _ _ _ _).trans ?_
  refine (if_pos h4).trans ?_
  refine (el_call rfl h5).trans ?_
  refine (if_pos h6).trans ?_
  refine (el_call rfl h7).trans ?_
  refine (if_pos h8).trans ?_
  rfl
theorem B_L_law_18_15 {T : List Shp} {c : Nat → Int → Int} {x3 : Int} {r1 : Int} {c2 : Nat → Int → Int} {r3 : Int} {c4 : Nat → Int → Int} (h1 : ¬ (w32 ((c 1000001 0) - 6)) < x3) (h2 : 0 ≤ x3 ∧ x3 < c 1000001 0) (h3 : (iand (c 1000000 x3) 63) = 6) (h4 : 0 ≤ (w32 (x3 + 1)) ∧ (w32 (x3 + 1)) < c 1000001 0) (h5 : cal 120 [vR 1, vI (c 1000000 (w32 (x3 + 1)))] (SH T, c) = some (some (vI r1), (SH T, c2))) (h6 : 0 ≤ (w32 (x3 + 1)) ∧ (w32 (x3 + 1)) < c 1000001 0) (h7 : cal 211 [vR 78, vI (c2 1000000 (w32 (x3 + 1)))] (SH T, c2) = some (some (vI r3), (SH T, c4))) (h8 : ¬ r1 = r3) : ev 356 106 18 [vR (-1), vR 1, vR 78, vI x3] [] (SH T, c) = some (some (vI 0), (SH T, c4)) := by
  refine (ev_eq _ _ _ _ _ _).trans ?_
  refine (if_neg h1).trans ?_
  refine (if_pos h2).trans ?_
  refine (if_neg (by omega)).trans ?_
  refine (if_neg (by omega)).trans ?_
  refine (if_neg (by omega)).trans ?_
  refine (if_neg (by omega)).trans ?_
  refine (if_neg (by omega)).trans ?_
  refine (if_neg (by omega)).trans ?_
  refine (if_pos h3).trans ?_
  refine (ev_eq _ _ _ _ _ _).trans ?_
  refine (if_pos h4).trans ?_
  refine (el_call rfl h5).trans ?_
  refine (if_pos h6).trans ?_
  refine (el_call rfl h7).trans ?_
  refine (if_neg h8).trans ?_
  rfl
theorem B_L_law_18_16 {T : List Shp} {c : Nat → Int → Int} {x3 : Int} {r1 : Int} {c2 : Nat → Int → Int} {r3 : Int} {c4 : Nat → Int → Int} (h1 : ¬ (w32 ((c 1000001 0) - 6)) < x3) (h2 : 0 ≤ x3 ∧ x3 < c 1000001 0) (h3 : (iand (c 1000000 x3) 63) = 7) (h4 : 0 ≤ (w32 (x3 + 1)) ∧ (w32 (x3 + 1)) < c 1000001 0) (h5 : 0 ≤ (w32 (x3 + 2)) ∧ (w32 (x3 + 2)) < c 1000001 0) (h6 : 0 ≤ (w32 (x3 + 3)) ∧ (w32 (x3 + 3)) < c 1000001 0) (h7 : 0 ≤ (w32 (x3 + 4)) ∧ (w32 (x3 + 4)) < c 1000001 0) (h8 : 0 ≤ (w32 (x3 + 5)) ∧ (w32 (x3 + 5)) < c 1000001 0) (h9 : cal 121 [vR 1, vI (c 1000000 (w32 (x3 + 1))), vI (c 1000000 (w32 (x3 + 2))), vI (c 1000000 (w32 (x3 + 3))), vI (c 1000000 (w32 (x3 + 4))), vI (c 1000000 (w32 (x3 + 5)))] (SH T, c) = some (some (vI r1), (SH T, c2))) (h10 : 0 ≤ (w32 (x3 + 1)) ∧ (w32 (x3 + 1)) < c 1000001 0) (h11 : 0 ≤ (w32 (x3 + 2)) ∧ (w32 (x3 + 2)) < c 1000001 0) (h12 : 0 ≤ (w32 (x3 + 3)) ∧ (w32 (x3 + 3)) < c 1000001 0) (h13 : 0 ≤ (w32 (x3 + 4)) ∧ (w32 (x3 + 4)) < c 1000001 0) (h14 : 0 ≤ (w32 (x3 + 5)) ∧ (w32 (x3 + 5)) < c 1000001 0) (h15 : cal 215 [vR 78, vI (c2 1000000 (w32 (x3 + 1))), vI (c2 1000000 (w32 (x3 + 2))), vI (c2 1000000 (w32 (x3 + 3))), vI (c2 1000000 (w32 (x3 + 4))), vI (c2 1000000 (w32 (x3 + 5)))] (SH T, c2) = some (some (vI r3), (SH T, c4))) (h16 : r1 = r3) : ev 356 106 18 [vR (-1), vR 1, vR 78, vI x3] [] (SH T, c) = ev 356 106 1828 [vR (-1), vR 1, vR 78, vI x3] [] (SH T, c4) := by
  refine (ev_eq _ _ _ _ _ _).trans ?_
  refine (if_neg h1).trans ?_
  refine (if_pos h2).trans ?_
  refine (if_neg (by omega)).trans ?_
  refine (if_neg (by omega)).trans ?_
  refine (if_neg (by omega)).trans ?_
  refine (if_neg (by omega)).trans ?_
  refine (if_neg (by omega)).trans ?_
  refine (if_neg (by omega)).trans ?_
  refine (if_neg (by omega)).trans ?_
  refine (if_pos h3).trans ?_
  refine (ev_eq _ _ _ _ _ _).trans ?_
  refine (if_pos h4).trans ?_
  refine (if_pos h5).trans ?_
  refine (if_pos h6).trans ?_
  refine (if_pos h7).trans ?_
  refine (if_pos h8).trans ?_
  refine (el_call rfl h9).trans ?_
  refine (if_pos h10).trans ?_
  refine (if_pos h11).trans ?_
  refine (if_pos h12).trans ?_
  refine (if_pos h13).trans ?_
  refine (if_pos h14).trans ?_
  refine (el_call rfl h15).trans ?_
  refine (if_pos h16).trans ?_
  rfl
theorem B_L_law_18_17 {T : List Shp} {c : Nat → Int → Int} {x3 : Int} {r1 : Int} {c2 : Nat → Int → Int} {r3 : Int} {c4 : Nat → Int → Int} (h1 : ¬ (w32 ((c 1000001 0) - 6)) < x3) (h2 : 0 ≤ x3 ∧ x3 < c 1000001 0) (h3 : (iand (c 1000000 x3) 63) = 7) (h4 : 0 ≤ (w32 (x3 + 1)) ∧ (w32 (x3 + 1)) < c 1000001 0) (h5 : 0 ≤ (w32 (x3 + 2)) ∧ (w32 (x3 + 2)) < c 1000001 0) (h6 : 0 ≤ (w32 (x3 + 3)) ∧ (w32 (x3 + 3)) < c 1000001 0) (h7 : 0 ≤ (w32 (x3 + 4)) ∧ (w32 (x3 + 4)) < c 1000001 0) (h8 : 0 ≤ (w32 (x3 + 5)) ∧ (w32 (x3 + 5)) < c 1000001 0) (h9 : cal 121 [vR 1, vI (c 1000000 (w32 (x3 + 1))), vI (c 1000000 (w32 (x3 + 2))), vI (c 1000000 (w32 (x3 + 3))), vI (c 1000000 (w32 (x3 + 4))), vI (c 1000000 (w32 (x3 + 5)))] (SH T, c) = some (some (vI r1), (SH T, c2))) (h10 : 0 ≤ (w32 (x3 + 1)) ∧ (w32 (x3 + 1)) < c 1000001 0) (h11 : 0 ≤ (w32 (x3 + 2)) ∧ (w32 (x3 + 2)) < c 1000001 0) (h12 : 0 ≤ (w32 (x3 + 3)) ∧ (w32 (x3 + 3)) < c 1000001 0) (h13 : 0 ≤ (w32 (x3 + 4)) ∧ (w32 (x3 + 4)) < c 1000001 0) (h14 : 0 ≤ (w32 (x3 + 5)) ∧ (w32 (x3 + 5)) < c 1000001 0) (h15 : cal 215 [vR 78, vI (c2 1000000 (w32 (x3 + 1))), vI (c2 1000000 (w32 (x3 + 2))), vI (c2 1000000 (w32 (x3 + 3))), vI (c2 1000000 (w32 (x3 + 4))), vI (c2 1000000 (w32 (x3 + 5)))] (SH T, c2) = some (some (vI r3), (SH T, c4))) (h16 : ¬ r1 = r3) : ev 356 106 18 [vR (-1), vR 1, vR 78, vI x3] [] (SH T, c) = some (some (vI 0), (SH T, c4)) := by
  refine (ev_eq _ _ _ _ _ _).trans ?_
  refine (if_neg h1).trans ?_
  refine (if_pos h2).trans ?_
  refine (if_neg (by omega)).trans ?_
  refine (if_neg (by omega)).trans ?_
  refine (if_neg (by omega)).trans ?_
  refine (if_neg (by omega)).trans ?_
  refine (if_neg (by omega)).trans ?_
  refine (if_neg (by omega)).trans ?_
  refine (if_neg (by omega)).trans ?_
  refine (if_pos h3).trans ?_
  refine (ev_eq _ _ _ _ _ _).trans ?_
  refine (if_pos h4).trans ?_
  refine (if_pos h5).trans ?_
  refine (if_pos h6).trans ?_
  refine (if_pos h7).trans ?_
  refine (if_pos h8).trans ?_
  refine (el_call rfl h9).trans ?_
  refine (if_pos h10).trans ?_
  refine (if_pos h11).trans ?_
  refine (if_pos h12).trans ?_
  refine (if_pos h13).trans ?_
  refine (if_pos h14).trans ?_
  refine (el_call rfl h15).trans ?_
  refine (if_neg h16).trans ?_
  rfl
theorem B_L_law_18_18 {T : List Shp} {c : Nat → Int → Int} {x3 : Int} {r1 : Int} {c2 : Nat → Int → Int} {r3 : Int} {c4 : Nat → Int → Int} (h1 : ¬ (w32 ((c 1000001 0) - 6)) < x3) (h2 : 0 ≤ x3 ∧ x3 < c 1000001 0) (h3 : (iand (c 1000000 x3) 63) = 8) (h4 : 0 ≤ (w32 (x3 + 1)) ∧ (w32 (x3 + 1)) < c 1000001 0) (h5 : cal 122 [vR 1, vI (c 1000000 (w32 (x3 + 1)))] (SH T, c) = some (some (vI r1), (SH T, c2))) (h6 : 0 ≤ (w32 (x3 + 1)) ∧ (w32 (x3 + 1)) < c 1000001 0) (h7 : cal 216 [vR 78, vI (c2 1000000 (w32 (x3 + 1)))] (SH T, c2) = some (some (vI r3), (SH T, c4))) (h8 : r1 = r3) : ev 356 106 18 [vR (-1), vR 1, vR 78, vI x3] [] (SH T, c) = ev 356 106 1828 [vR (-1), vR 1, vR 78, vI x3] [] (SH T, c4) := by
  refine (ev_eq _ _ _ _ _ _).trans ?_
  refine (if_neg h1).trans ?_
  refine (if_pos h2).trans ?_
  refine (if_neg (by omega)).trans ?_
  refine (if_neg (by omega)).trans ?_
  refine (if_neg (by omega)).trans ?_
  refine (if_neg (by omega)).trans ?_
  refine (if_neg (by omega)).trans ?_
  refine (if_neg (by omega)).trans ?_
  refine (if_neg (by omega)).trans ?_
  refine (if_neg (by omega)).trans ?_
  refine (if_pos h3).trans ?_
  refine (ev_eq _ _ _ _ _ _).trans ?_
  refine (if_pos h4).trans ?_
  refine (el_call rfl h5).trans ?_
  refine (if_pos h6).trans ?_
  refine (el_call rfl h7).trans ?_
  refine (if_pos h8).trans ?_
  rfl
theorem B_L_law_18_19 {T : List Shp} {c : Nat → Int → Int} {x3 : Int} {r1 : Int} {c2 : Nat → Int → Int} {r3 : Int} {c4 : Nat → Int → Int} (h1 : ¬ (w32 ((c 1000001 0) - 6)) < x3) (h2 : 0 ≤ x3 ∧ x3 < c 1000001 0) (h3 : (iand (c 1000000 x3) 63) = 8) (h4 : 0 ≤ (w32 (x3 + 1)) ∧ (w32 (x3 + 1)) < c 1000001 0) (h5 : cal 122 [vR 1, vI (c 1000000 (w32 (x3 + 1)))] (SH T, c) = some (some (vI r1), (SH T, c2))) (h6 : 0 ≤ (w32 (x3 + 1)) ∧ (w32 (x3 + 1)) < c 1000001 0) (h7 : cal 216 [vR 78, vI (c2 1000000 (w32 (x3 + 1)))] (SH T, c2) = some (some (vI r3), (SH T, c4))) (h8 : ¬ r1 = r3) : ev 356 106 18 [vR (-1), vR 1, vR 78, vI x3] [] (SH T, c) = some (some (vI 0), (SH T, c4)) := by
  refine (ev_eq _ _ _ _ _ _).trans ?_
  refine (if_neg h1).trans ?_
  refine (if_pos h2).trans ?_
  refine (if_neg (by omega)).trans ?_
  refine (if_neg (by omega)).trans ?_
  refine (if_neg (by omega)).trans ?_
  refine (if_neg (by omega)).trans ?_
  refine (if_neg (by omega)).trans ?_
  refine (if_neg (by omega)).trans ?_
  refine (if_neg (by omega)).trans ?_
  refine (if_neg (by omega)).trans ?_
  refine (if_pos h3).trans ?_
  refine (ev_eq _ _ _ _ _ _).trans ?_
  refine (if_pos h4).trans ?_
  refine (el_call rfl h5).trans ?_
  refine (if_pos h6).trans ?_
  refine (el_call rfl h7).trans ?_
  refine (if_neg h8).trans ?_
  rfl
theorem B_L_law_18_20 {T : List Shp} {c : Nat → Int → Int} {x3 : Int} {r1 : Int} {c2 : Nat → Int → Int} {r3 : Int} {c4 : Nat → Int → Int} (h1 : ¬ (w32 ((c 1000001 0) - 6)) < x3) (h2 : 0 ≤ x3 ∧ x3 < c 1000001 0) (h3 : (iand (c 1000000 x3) 63) = 9) (h4 : cal 123 [vR 1] (SH T, c) = some (some (vI r1), (SH T, c2))) (h5 : cal 212 [vR 78] (SH T, c2) = some (some (vI r3), (SH T, c4))) (h6 : r1 = r3) : ev 356 106 18 [vR (-1), vR 1, vR 78, vI x3] [] (SH T, c) = ev 356 106 1828 [vR (-1), vR 1, vR 78, vI x3] [] (SH T, c4) := by
  refine (ev_eq _ _ _ _ _ _).trans ?_
  refine (if_neg h1).trans ?_
  refine (if_pos h2).trans ?_
  refine (if_neg (by omega)).trans ?_
  refine (if_neg (by omega)).trans ?_
  refine (if_neg (by omega)).trans ?_
  refine (if_neg (by omega)).trans ?_
  refine (if_neg (by omega)).trans ?_
  refine (if_neg (by omega)).trans ?_
  refine (if_neg (by omega)).trans ?_
  refine (if_neg (by omega)).trans ?_
  refine (if_neg (by omega)).trans ?_
  refine (if_pos h3).trans ?_
  refine (ev_eq _ _ _ _ _ _).trans ?_
  refine (el_call rfl h4).trans ?_
  refine (el_call rfl h5).trans ?_
  refine (if_pos h6).trans ?_
  rfl
theorem B_L_law_18_21 {T : List Shp} {c : Nat → Int → Int} {x3 : Int} {r1 : Int} {c2 : Nat → Int → Int} {r3 : Int} {c4 : Nat → Int → Int} (h1 : ¬ (w32 ((c 1000001 0) - 6)) < x3) (h2 : 0 ≤ x3 ∧ x3 < c 1000001 0) (h3 : (iand (c 1000000 x3) 63) = 9) (h4 : cal 123 [vR 1] (SH T, c) = some (some (vI r1), (SH T, c2))) (h5 : cal 212 [vR 78] (SH T, c2) = some (some (vI r3), (SH T, c4))) (h6 : ¬ r1 = r3) : ev 356 106 18 [vR (-1), vR 1, vR 78, vI x3] [] (SH T, c) = some (some (vI 0), (SH T, c4)) := by
  refine (ev_eq _ _ _ _ _ _).trans ?_
  refine (if_neg h1).trans ?_
  refine (if_pos h2).trans ?_
  refine (if_neg (by omega)).trans ?_
  refine (if_neg (by omega)).trans ?_
  refine (if_neg (by omega)).trans ?_
  refine (if_neg (by omega)).trans ?_
  refine (if_neg (by omega)).trans ?_
  refine (if_neg (by omega)).trans ?_
  refine (if_neg (by omega)).trans ?_
  refine (if_neg (by omega)).trans ?_
  refine (if_neg (by omega)).trans ?_
  refine (if_pos h3).trans ?_
  refine (ev_eq _ _ _ _ _ _).trans ?_
  refine (el_call rfl h4).trans ?_
  refine (el_call rfl h5).trans ?_
  refine (if_neg h6).trans ?_
  rfl
theorem B_L_law_18_22 {T : List Shp} {c : Nat → Int → Int} {x3 : Int} {r1 : Int} {c2 : Nat → Int → Int} {r3 : Int} {c4 : Nat → Int → Int} (h1 : ¬ (w32 ((c 1000001 0) - 6)) < x3) (h2 : 0 ≤ x3 ∧ x3 < c 1000001 0) (h3 : (iand (c 1000000 x3) 63) = 10) (h4 : cal 124 [vR 1] (SH T, c) = some (some (vI r1), (SH T, c2))) (h5 : cal 213 [vR 78] (SH T, c2) = some (some (vI r3), (SH T, c4))) (h6 : r1 = r3) : ev 356 106 18 [vR (-1), vR 1, vR 78, vI x3] [] (SH T, c) = ev 356 106 1828 [vR (-1), vR 1, vR 78, vI x3] [] (SH T, c4) := by
  refine (ev_eq _ _ _ _ _ _).trans ?_
  refine (if_neg h1).trans ?_
  refine (if_pos h2).trans ?_
  refine (if_neg (by omega)).trans ?_
  refine (if_neg (by omega)).trans ?_
  refine (if_neg (by omega)).trans ?_
  refine (if_neg (by omega)).trans ?_
  refine (if_neg (by omega)).trans ?_
  refine (if_neg (by omega)).trans ?_
  refine (if_neg (by omega)).trans ?_
  refine (if_neg (by omega)).trans ?_
  refine (if_neg (by omega)).trans ?_
  refine (if_neg (by omega)).trans ?_
  refine (if_pos h3).trans ?_
  refine (ev_eq _ _ _ _ _ _).trans ?_
  refine (el_call rfl h4).trans ?_
  refine (el_call rfl h5).trans ?_
  refine (if_pos h6).trans ?_
  rfl
theorem B_L_law_18_23 {T : List Shp} {c : Nat → Int → Int} {x3 : Int} {r1 : Int} {c2 : Nat → Int → Int} {r3 : Int} {c4 : Nat → Int → Int} (h1 : ¬ (w32 ((c 1000001 0) - 6)) < x3) (h2 : 0 ≤ x3 ∧ x3 < c 1000001 0) (h3 : (iand (c 1000000 x3) 63) = 10) (h4 : cal 124 [vR 1] (SH T, c) = some (some (vI r1), (SH T, c2))) (h5 : cal 213 [vR 78] (SH T, c2) = some (some (vI r3), (SH T, c4))) (h6 : ¬ r1 = r3) : ev 356 106 18 [vR (-1), vR 1, vR 78, vI x3] [] (SH T, c) = some (some (vI 0), (SH T, c4)) := by
  refine (ev_eq _ _ _ _ _ _).trans ?_
  refine (if_neg h1).trans ?_
  refine (if_pos h2).trans ?_
  refine (if_neg (by omega)).trans ?_
  refine (if_neg (by omega)).trans ?_
  refine (if_neg (by omega)).trans ?_
  refine (if_neg (by omega)).trans ?_
  refine (if_neg (by omega)).trans ?_
  refine (if_neg (by omega)).trans ?_
  refine (if_neg (by omega)).trans ?_
  refine (if_neg (by omega)).trans ?_
  refine (if_neg (by omega)).trans ?_
  refine (if_neg (by omega)).trans ?_
  refine (if_pos h3).trans ?_
  refine (ev_eq _ _ _ _ _ _).trans ?_
  refine (el_call rfl h4).trans ?_
  refine (el_call rfl h5).trans ?_
  refine (if_neg h6).trans ?_
  rfl
theorem B_L_law_18_24 {T : List Shp} {c : Nat → Int → Int} {x3 : Int} {r1 : Int} {c2 : Nat → Int → Int} {r3 : Int} {c4 : Nat → Int → Int} (h1 : ¬ (w32 ((c 1000001 0) - 6)) < x3) (h2 : 0 ≤ x3 ∧ x3 < c 1000001 0) (h3 : (iand (c 1000000 x3) 63) = 11) (h4 : cal 125 [vR 1] (SH T, c) = some (some (vI r1), (SH T, c2))) (h5 : cal 244 [vR 78] (SH T, c2) = some (some (vI r3), (SH T, c4))) (h6 : r1 = r3) : ev 356 106 18 [vR (-1), vR 1, vR 78, vI x3] [] (SH T, c) = ev 356 106 1828 [vR (-1), vR 1, vR 78, vI x3] [] (SH T, c4) := by
  refine (ev_eq _ _ _ _ _ _).trans ?_
  refine (if_neg h1).trans ?_
  refine (if_pos h2).trans ?_
  refine (if_neg (by omega)).trans ?_
  refine (if_neg (by omega)).trans ?_
  refine (if_neg (by omega)).trans ?_
  refine (if_neg (by omega)).trans ?_
  refine (if_neg (by omega)).trans ?_
  refine (if_neg (by omega)).trans ?_
  refine (if_neg (by omega)).trans ?_
  refine (if_neg (by omega)).trans ?_
  refine (if_neg (by omega)).trans ?_
  refine (if_neg (by omega)).trans ?_
  refine (if_neg (by omega)).trans ?_
  refine (if_pos h3).trans ?_
  refine (ev_eq _ _ _ _ _ _).trans ?_
  refine (el_call rfl h4).trans ?_
  refine (el_call rfl h5).trans ?_
  refine (if_pos h6).trans ?_
  rfl
theorem B_L_law_18_25 {T : List Shp} {c : Nat → Int → Int} {x3 : Int} {r1 : Int} {c2 : Nat → Int → Int} {r3 : Int} {c4 : Nat → Int → Int} (h1 : ¬ (w32 ((c 1000001 0) - 6)) < x3) (h2 : 0 ≤ x3 ∧ x3 < c 1000001 0) (h3 : (iand (c 1000000 x3) 63) = 11) (h4 : cal 125 [vR 1] (SH T, c) = some (some (vI r1), (SH T, c2))) (h5 : cal 244 [vR 78] (SH T, c2) = some (some (vI r3), (SH T, c4))) (h6 : ¬ r1 = r3) : ev 356 106 18 [vR (-1), vR 1, vR 78, vI x3] [] (SH T, c) = some (some (vI 0), (SH T, c4)) := by
  refine (ev_eq _ _ _ _ _ _).trans ?_
  refine (if_neg h1).trans ?_
  refine (if_pos h2).trans ?_
  refine (if_neg (by omega)).trans ?_
  refine (if_neg (by omega)).trans ?_
  refine (if_neg (by omega)).trans ?_
  refine (if_neg (by omega)).trans ?_
  refine (if_neg (by omega)).trans ?_
  refine (if_neg (by omega)).trans ?_
  refine (if_neg (by omega)).trans ?_
  refine (if_neg (by omega)).trans ?_
  refine (if_neg (by omega)).trans ?_
  refine (if_neg (by omega)).trans ?_
  refine (if_neg (by omega)).trans ?_
  refine (if_pos h3).trans ?_
  refine (ev_eq _ _ _ _ _ _).trans ?_
  refine (el_call rfl h4).trans ?_
  refine (el_call rfl h5).trans ?_
  refine (if_neg h6).trans ?_
  rfl
theorem B_L_law_18_26 {T : List Shp} {c : Nat → Int → Int} {x3 : Int} {r1 : Int} {c2 : Nat → Int → Int} {r3 : Int} {c4 : Nat → Int → Int} (h1 : ¬ (w32 ((c 1000001 0) - 6)) < x3) (h2 : 0 ≤ x3 ∧ x3 < c 1000001 0) (h3 : (iand (c 1000000 x3) 63) = 12) (h4 : cal 126 [vR 1] (SH T, c) = some (some (vI r1), (SH T, c2))) (h5 : cal 334 [vR 78] (SH T, c2) = some (some (vI r3), (SH T, c4))) (h6 : r1 = r3) : ev 356 106 18 [vR (-1), vR 1, vR 78, vI x3] [] (SH T, c) = ev 356 106 1828 [vR (-1), vR 1, vR 78, vI x3] [] (SH T, c4) := by
  refine (ev_eq _ _ _ _ _ _).trans ?_
  refine (if_neg h1).trans ?_
  refine (if_pos h2).trans ?_
  refine (if_neg (by omega)).trans ?_
  refine (if_neg (by omega)).trans ?_
  refine (if_neg (by omega)).trans ?_
  refine (if_neg (by omega)).trans ?_
  refine (if_neg (by omega)).trans ?_
  refine (if_neg (by omega)).trans ?_
  refine (if_neg (by omega)).trans ?_
  refine (if_neg (by omega)).trans ?_
  refine (if_neg (by omega)).trans ?_
  refine (if_neg (by omega)).trans ?_
  refine (if_neg (by omega)).trans ?_
  refine (if_neg (by omega)).trans ?_
  refine (if_pos h3).trans ?_
  refine (ev_eq _ _ _ _ _ _).trans ?_
  refine (el_call rfl h4).trans ?_
  refine (el_call rfl h5).trans ?_
  refine (if_pos h6).trans ?_
  rfl
theorem B_L_law_18_27 {T : List Shp} {c : Nat → Int → Int} {x3 : Int} {r1 : Int} {c2 : Nat → Int → Int} {r3 : Int} {c4 : Nat → Int → Int} (h1 : ¬ (w32 ((c 1000001 0) - 6)) < x3) (h2 : 0 ≤ x3 ∧ x3 < c 1000001 0) (h3 : (iand (c 1000000 x3) 63) = 12) (h4 : cal 126 [vR 1] (SH T, c) = some (some (vI r1), (SH T, c2))) (h5 : cal 334 [vR 78] (SH T, c2) = some (some (vI r3), (SH T, c4))) (h6 : ¬ r1 = r3) : ev 356 106 18 [vR (-1), vR 1, vR 78, vI x3] [] (SH T, c) = some (some (vI 0), (SH T, c4)) := by
  refine (ev_eq _ _ _ _ _ _).trans ?_
  refine (if_neg h1).trans ?_
  refine (if_pos h2).trans ?_
  refine (if_neg (by omega)).trans ?_
  refine (if_neg (by omega)).trans ?_
  refine (if_neg (by omega)).trans ?_
  refine (if_neg (by omega)).trans ?_
  refine (if_neg (by omega)).trans ?_
  refine (if_neg (by omega)).trans ?_
  refine (if_neg (by omega)).trans ?_
  refine (if_neg (by omega)).trans ?_
  refine (if_neg (by omega)).trans ?_
  refine (if_neg (by omega)).trans ?_
  refine (if_neg (by omega)).trans ?_
  refine (if_neg (by omega)).trans ?_
  refine (if_pos h3).trans ?_
  refine (ev_eq _ _ _ _ _ _).trans ?_
  refine (el_call rfl h4).trans ?_
  refine (el_call rfl h5).trans ?_
  refine (if_neg h6).trans ?_
  rfl
theorem B_L_law_18_28 {T : List Shp} {c : Nat → Int → Int} {x3 : Int} {r1 : Int} {c2 : Nat → Int → Int} {r3 : Int} {c4 : Nat → Int → Int} (h1 : ¬ (w32 ((c 1000001 0) - 6)) < x3) (h2 : 0 ≤ x3 ∧ x3 < c 1000001 0) (h3 : (iand (c 1000000 x3) 63) = 13) (h4 : cal 127 [vR 1] (SH T, c) = some (some (vI r1), (SH T, c2))) (h5 : cal 225 [vR 78] (SH T, c2) = some (some (vI r3), (SH T, c4))) (h6 : r1 = r3) : ev 356 106 18 [vR (-1), vR 1, vR 78, vI x3] [] (SH T, c) = ev 356 106 1828 [vR (-1), vR 1, vR 78, vI x3] [] (SH T, c4) := by
  refine (ev_eq _ _ _ _ _ _).trans ?_
  refine (if_neg h1).trans ?_
  refine (if_pos h2).trans ?_
  refine (if_neg (by omega)).trans ?_
  refine (if_neg (by omega)).trans ?_
  refine (if_neg (by omega)).trans ?_
  refine (if_neg (by omega)).trans ?_
  refine (if_neg (by omega)).trans ?_
  refine (if_neg (by omega)).trans ?_
  refine (if_neg (by omega)).trans ?_
  refine (if_neg (by omega)).trans ?_
  refine (if_neg (by omega)).trans ?_
  refine (if_neg (by omega)).trans ?_
  refine (if_neg (by omega)).trans ?_
  refine (if_neg (by omega)).trans ?_
  refine (if_neg (by omega)).trans ?_
  refine (if_pos h3).trans ?_
  refine (ev_eq _ _ _ _ _ _).trans ?_
  refine (el_call rfl h4).trans ?_
  refine (el_call rfl h5).trans ?_
  refine (if_pos h6).trans ?_
  rfl
theorem B_L_law_18_29 {T : List Shp} {c : Nat → Int → Int} {x3 : Int} {r1 : Int} {c2 : Nat → Int → Int} {r3 : Int} {c4 : Nat → Int → Int} (h1 : ¬ (w32 ((c 1000001 0) - 6)) < x3) (h2 : 0 ≤ x3 ∧ x3 < c 1000001 0) (h3 : (iand (c 1000000 x3) 63) = 13) (h4 : cal 127 [vR 1] (SH T, c) = some (some (vI r1), (SH T, c2))) (h5 : cal 225 [vR 78] (SH T, c2) = some (some (vI r3), (SH T, c4))) (h6 : ¬ r1 = r3) : ev 356 106 18 [vR (-1), vR 1, vR 78, vI x3] [] (SH T, c) = some (some (vI 0), (SH T, c4)) := by
  refine (ev_eq _ _ _ _ _ _).trans ?_
  refine (if_neg h1).trans ?_
  refine (if_pos h2).trans ?_
  refine (if_neg (by omega)).trans ?_
  refine (if_neg (by omega)).trans ?_
  refine (if_neg (by omega)).trans ?_
  refine (if_neg (by omega)).trans ?_
  refine (if_neg (by omega)).trans ?_
  refine (if_neg (by omega)).trans ?_
  refine (if_neg (by omega)).trans ?_
  refine (if_neg (by omega)).trans ?_
  refine (if_neg (by omega)).trans ?_
  refine (if_neg (by omega)).trans ?_
  refine (if_neg (by omega)).trans ?_
  refine (if_neg (by omega)).trans ?_
  refine (if_neg (by omega)).trans ?_
  refine (if_pos h3).trans ?_
  refine (ev_eq _ _ _ _ _ _).trans ?_
  refine (el_call rfl h4).trans ?_
  refine (el_call rfl h5).trans ?_
  refine (if_neg h6).trans ?_
  rfl
theorem B_L_law_18_30 {T : List Shp} {c : Nat → Int → Int} {x3 : Int} {r1 : Int} {c2 : Nat → Int → Int} {r3 : Int} {c4 : Nat → Int → Int} (h1 : ¬ (w32 ((c 1000001 0) - 6)) < x3) (h2 : 0 ≤ x3 ∧ x3 < c 1000001 0) (h3 : (iand (c 1000000 x3) 63) = 14) (h4 : cal 128 [vR 1] (SH T, c) = some (some (vI r1), (SH T, c2))) (h5 : cal 335 [vR 78] (SH T, c2) = some (some (vI r3), (SH T, c4))) (h6 : r1 = r3) : ev 356 106 18 [vR (-1), vR 1, vR 78, vI x3] [] (SH T, c) = ev 356 106 1828 [vR (-1), vR 1, vR 78, vI x3] [] (SH T, c4) := by
  refine (ev_eq _ _ _ _ _ _).trans ?_
  refine (if_neg h1).trans ?_
  refine (if_pos h2).trans ?_
  refine (if_neg (by omega)).trans ?_
  refine (if_neg (by omega)).trans ?_
  refine (if_neg (by omega)).trans ?_
  refine (if_neg (by omega)).trans ?_
  refine (if_neg (by omega)).trans ?_
  refine (if_neg (by omega)).trans ?_
  refine (if_neg (by omega)).trans ?_
  refine (if_neg (by omega)).trans ?_
  refine (if_neg (by omega)).trans ?_
  refine (if_neg (by omega)).trans ?_
  refine (if_neg (by omega)).trans ?_
  refine (if_neg (by omega)).trans ?_
  refine (if_neg (by omega)).trans ?_
  refine (if_neg (by omega)).trans ?_
  refine (if_pos h3).trans ?_
  refine (ev_eq _ _ _ _ _ _).trans ?_
  refine (el_call rfl h4).trans ?_
  refine (el_call rfl h5).trans ?_
  refine (if_pos h6).trans ?_
  rfl
theorem B_L_law_18_31 {T : List Shp} {c : Nat → Int → Int} {x3 : Int} {r1 : Int} {c2 : Nat → Int → Int} {r3 : Int} {c4 : Nat → Int → Int} (h1 : ¬ (w32 ((c 1000001 0) - 6)) < x3) (h2 : 0 ≤ x3 ∧ x3 < c 1000001 0) (h3 : (iand (c 1000000 x3) 63) = 14) (h4 : cal 128 [vR 1] (SH T, c) = some (some (vI r1), (SH T, c2))) (h5 : cal 335 [vR 78] (SH T, c2) = some (some (vI r3), (SH T, c4))) (h6 : ¬ r1 = r3) : ev 356 106 18 [vR (-1), vR 1, vR 78, vI x3] [] (SH T, c) = some (some (vI 0), (SH T, c4)) := by
  refine (ev_eq _ _ _ _ _ _).trans ?_
  refine (if_neg h1).trans ?_
  refine (if_pos h2).trans ?_
  refine (if_neg (by omega)).trans ?_
  refine (if_neg (by omega)).trans ?_
  refine (if_neg (by omega)).trans ?_
  refine (if_neg (by omega)).trans ?_
  refine (if_neg (by omega)).trans ?_
  refine (if_neg (by omega)).trans ?_
  refine (if_neg (by omega)).trans ?_
  refine (if_neg (by omega)).trans ?_
  refine (if_neg (by omega)).trans ?_
  refine (if_neg (by omega)).trans ?_
  refine (if_neg (by omega)).trans ?_
  refine (if_neg (by omega)).trans ?_
  refine (if_neg (by omega)).trans ?_
  refine (if_neg (by omega)).trans ?_
  refine (if_pos h3).trans ?_
  refine (ev_eq _ _ _ _ _ _).trans ?_
  refine (el_call rfl h4).trans ?_
  refine (el_call rfl h5).trans ?_
  refine (if_neg h6).trans ?_
  rfl
theorem B_L_law_18_32 {T : List Shp} {c : Nat → Int → Int} {x3 : Int} {r1 : Int} {c2 : Nat → Int → Int} {r3 : Int} {c4 : Nat → Int → Int} (h1 : ¬ (w32 ((c 1000001 0) - 6)) < x3) (h2 : 0 ≤ x3 ∧ x3 < c 1000001 0) (h3 : (iand (c 1000000 x3) 63) = 15) (h4 : 0 ≤ (w32 (x3 + 1)) ∧ (w32 (x3 + 1)) < c 1000001 0) (h5 : cal 129 [vR 1, vI (c 1000000 (w32 (x3 + 1)))] (SH T, c) = some (some (vI r1), (SH T, c2))) (h6 : 0 ≤ (w32 (x3 + 1)) ∧ (w32 (x3 + 1)) < c 1000001 0) (h7 : cal 245 [vR 78, vI (c2 1000000 (w32 (x3 + 1)))] (SH T, c2) = some (some (vI r3), (SH T, c4))) (h8 : r1 = r3) : ev 356 106 18 [vR (-1), vR 1, vR 78, vI x3] [] (SH T, c) = ev 356 106 1828 [vR (-1), vR 1, vR 78, vI x3] [] (SH T, c4) := by
  refine (ev_eq _ _ _ _ _ _).trans ?_
  refine (if_neg h1).trans ?_
  refine (if_pos h2).trans ?_
  refine (if_neg (by omega)).trans ?_
  refine (if_neg (by omega)).trans ?_
  refine (if_neg (by omega)).trans ?_
  refine (if_neg (by omega)).trans ?_
  refine (if_neg (by omega)).trans ?_
  refine (if_neg (by omega)).trans ?_
  refine (if_neg (by omega)).trans ?_
  refine (if_neg (by omega)).trans ?_
  refine (if_neg (by omega)).trans ?_
  refine (if_neg (by omega)).trans ?_
  refine (if_neg (by omega)).trans ?_
  refine (if_neg (by omega)).trans ?_
  refine (if_neg (by omega)).trans ?_
  refine (if_neg (by omega)).trans ?_
  refine (if_neg (by omega)).trans ?_
  refine (if_pos h3).trans ?_
  refine (ev_eq _ _ _ _ _ _).trans ?_
  refine (if_pos h4).trans ?_
  refine (el_call rfl h5).trans ?_
  refine (if_pos h6).trans ?_
  refine (el_call rfl h7).trans ?_
  refine (if_pos h8).trans ?_
  rfl
theorem B_L_law_18_33 {T : List Shp} {c : Nat → Int → Int} {x3 : Int} {r1 : Int} {c2 : Nat → Int → Int} {r3 : Int} {c4 : Nat → Int → Int} (h1 : ¬ (w32 ((c 1000001 0) - 6)) < x3) (h2 : 0 ≤ x3 ∧ x3 < c 1000001 0) (h3 : (iand (c 1000000 x3) 63) = 15) (h4 : 0 ≤ (w32 (x3 + 1)) ∧ (w32 (x3 + 1)) < c 1000001 0) (h5 : cal 129 [vR 1, vI (c 1000000 (w32 (x3 + 1)))] (SH T, c) = some (some (vI r1), (SH T, c2))) (h6 : 0 ≤ (w32 (x3 + 1)) ∧ (w32 (x3 + 1)) < c 1000001 0) (h7 : cal 245 [vR 78, vI (c2 1000000 (w32 (x3 + 1)))] (SH T, c2) = some (some (vI r3), (SH T, c4))) (h8 : ¬ r1 = r3) : ev 356 106 18 [vR (-1), vR 1, vR 78, vI x3] [] (SH T, c) = some (some (vI 0), (SH T, c4)) := by
  refine (ev_eq _ _ _ _ _ _).trans ?_
  refine (if_neg h1).trans ?_
  refine (if_pos h2).trans ?_
  refine (if_neg (by omega)).trans ?_
  refine (if_neg (by omega)).trans ?_
  refine (if_neg (by omega)).trans ?_
  refine (if_neg (by omega)).trans ?_
  refine (if_neg (by omega)).trans ?_
  refine (if_neg (by omega)).trans ?_
  refine (if_neg (by omega)).trans ?_
  refine (if_neg (by omega)).trans ?_
  refine (if_neg (by omega)).trans ?_
  refine (if_neg (by omega)).trans ?_
  refine (if_neg (by omega)).trans ?_
  refine (if_neg (by omega)).trans ?_
  refine (if_neg (by omega)).trans ?_
  refine (if_neg (by omega)).trans ?_
  refine (if_neg (by omega)).trans ?_
  refine (if_pos h3).trans ?_
  refine (ev_eq _ _ _ _ _ _).trans ?_
  refine (if_pos h4).trans ?_
  refine (el_call rfl h5).trans ?_
  refine (if_pos h6).trans ?_
  refine (el_call rfl h7).trans ?_
  refine (if_neg h8).trans ?_
  rfl
theorem B_L_law_18_34 {T : List Shp} {c : Nat → Int → Int} {x3 : Int} {r1 : Int} {c2 : Nat → Int → Int} {r3 : Int} {c4 : Nat → Int → Int} (h1 : ¬ (w32 ((c 1000001 0) - 6)) < x3) (h2 : 0 ≤ x3 ∧ x3 < c 1000001 0) (h3 : (iand (c 1000000 x3) 63) = 16) (h4 : 0 ≤ (w32 (x3 + 1)) ∧ (w32 (x3 + 1)) < c 1000001 0) (h5 : 0 ≤ (w32 (x3 + 2)) ∧ (w32 (x3 + 2)) < c 1000001 0) (h6 : 0 ≤ (w32 (x3 + 3)) ∧ (w32 (x3 + 3)) < c 1000001 0) (h7 : cal 130 [vR 1, vI (c 1000000 (w32 (x3 + 1))), vI (c 1000000 (w32 (x3 + 2))), vI (c 1000000 (w32 (x3 + 3)))] (SH T, c) = some (some (vI r1), (SH T, c2))) (h8 : 0 ≤ (w32 (x3 + 1)) ∧ (w32 (x3 + 1)) < c 1000001 0) (h9 : 0 ≤ (w32 (x3 + 2)) ∧ (w32 (x3 + 2)) < c 1000001 0) (h10 : 0 ≤ (w32 (x3 + 3)) ∧ (w32 (x3 + 3)) < c 1000001 0) (h11 : cal 257 [vR 78, vI (c2 1000000 (w32 (x3 + 1))), vI (c2 1000000 (w32 (x3 + 2))), vI (c2 1000000 (w32 (x3 + 3)))] (SH T, c2) = some (some (vI r3), (SH T, c4))) (h12 : r1 = r3) : ev 356 106 18 [vR (-1), vR 1, vR 78, vI x3] [] (SH T, c) = ev 356 106 1828 [vR (-1), vR 1, vR 78, vI x3] [] (SH T, c4) := by
  refine (ev_eq _ _ _ _ _ _).trans ?_
  refine (if_neg h1).trans ?_
  refine (if_pos h2).trans ?_
  refine (if_neg (by omega)).trans ?_
  refine (if_neg (by omega)).trans ?_
  refine (if_neg (by omega)).trans ?_
  refine (if_neg (by omega)).trans ?_
  refine (if_neg (by omega)).trans ?_
  refine (if_neg (by omega)).trans ?_
  refine (if_neg (by omega)).trans ?_
  refine (if_neg (by omega)).trans ?_
  refine (if_neg (by omega)).trans ?_
  refine (if_neg (by omega)).trans ?_
  refine (if_neg (by omega)).trans ?_
  refine (if_neg (by omega)).trans ?_
  refine (if_neg (by omega)).trans ?_
  refine (if_neg (by omega)).trans ?_
  refine (if_neg (by omega)).trans ?_
  refine (if_neg (by omega)).trans ?_
  refine (if_pos h3).trans ?_
  refine (ev_eq _ _ _ _ _ _).trans ?_
  refine (if_pos h4).trans ?_
  refine (if_pos h5).trans ?_
  refine (if_pos h6).trans ?_
  refine (el_call rfl h7).trans ?_
  refine (if_pos h8).trans ?_
  refine (if_pos h9).trans ?_
  refine (if_pos h10).trans ?_
  refine (el_call rfl h11).trans ?_
  refine (if_pos h12).trans ?_
  rfl
theorem B_L_law_18_35 {T : List Shp} {c : Nat → Int → Int} {x3 : Int} {r1 : Int} {c2 : Nat → Int → Int} {r3 : Int} {c4 : Nat → Int → Int} (h1 : ¬ (w32 ((c 1000001 0) - 6)) < x3) (h2 : 0 ≤ x3 ∧ x3 < c 1000001 0) (h3 : (iand (c 1000000 x3) 63) = 16) (h4 : 0 ≤ (w32 (x3 + 1)) ∧ (w32 (x3 + 1)) < c 1000001 0) (h5 : 0 ≤ (w32 (x3 + 2)) ∧ (w32 (x3 + 2)) < c 1000001 0) (h6 : 0 ≤ (w32 (x3 + 3)) ∧ (w32 (x3 + 3)) < c 1000001 0) (h7 : cal 130 [vR 1, vI (c 1000000 (w32 (x3 + 1))), vI (c 1000000 (w32 (x3 + 2))), vI (c 1000000 (w32 (x3 + 3)))] (SH T, c) = some (some (vI r1), (SH T, c2))) (h8 : 0 ≤ (w32 (x3 + 1)) ∧ (w32 (x3 + 1)) < c 1000001 0) (h9 : 0 ≤ (w32 (x3 + 2)) ∧ (w32 (x3 + 2)) < c 1000001 0) (h10 : 0 ≤ (w32 (x3 + 3)) ∧ (w32 (x3 + 3)) < c 1000001 0) (h11 : cal 257 [vR 78, vI (c2 1000000 (w32 (x3 + 1))), vI (c2 1000000 (w32 (x3 + 2))), vI (c2 1000000 (w32 (x3 + 3)))] (SH T, c2) = some (some (vI r3), (SH T, c4))) (h12 : ¬ r1 = r3) : ev 356 106 18 [vR (-1), vR 1, vR 78, vI x3] [] (SH T, c) = some (some (vI 0), (SH T, c4)) := by
  refine (ev_eq _ _ _ _ _ _).trans ?_
  refine (if_neg h1).trans ?_
  refine (if_pos h2).trans ?_
  refine (if_neg (by omega)).trans ?_
  refine (if_neg (by omega)).trans ?_
  refine (if_neg (by omega)).trans ?_
  refine (if_neg (by omega)).trans ?_
  refine (if_neg (by omega)).trans ?_
  refine (if_neg (by omega)).trans ?_
  refine (if_neg (by omega)).trans ?_
  refine (if_neg (by omega)).trans ?_
  refine (if_neg (by omega)).trans ?_
  refine (if_neg (by omega)).trans ?_
  refine (if_neg (by omega)).trans ?_
  refine (if_neg (by omega)).trans ?_
  refine (if_neg (by omega)).trans ?_
  refine (if_neg (by omega)).trans ?_
  refine (if_neg (by omega)).trans ?_
  refine (if_neg (by omega)).trans ?_
  refine (if_pos h3).trans ?_
  refine (ev_eq _ _ _ _ _ _).trans ?_
  refine (if_pos h4).trans ?_
  refine (if_pos h5).trans ?_
  refine (if_pos h6).trans ?_
  refine (el_call rfl h7).trans ?_
  refine (if_pos h8).trans ?_
  refine (if_pos h9).trans ?_
  refine (if_pos h10).trans ?_
  refine (el_call rfl h11).trans ?_
  refine (if_neg h12).trans ?_
  rfl
theorem B_L_law_18_36 {T : List Shp} {c : Nat → Int → Int} {x3 : Int} {r1 : Int} {c2 : Nat → Int → Int} {r3 : Int} {c4 : Nat → Int → Int} (h1 : ¬ (w32 ((c 1000001 0) - 6)) < x3) (h2 : 0 ≤ x3 ∧ x3 < c 1000001 0) (h3 : (iand (c 1000000 x3) 63) = 17) (h4 : 0 ≤ (w32 (x3 + 1)) ∧ (w32 (x3 + 1)) < c 1000001 0) (h5 : 0 ≤ (w32 (x3 + 2)) ∧ (w32 (x3 + 2)) < c 1000001 0) (h6 : 0 ≤ (w32 (x3 + 3)) ∧ (w32 (x3 + 3)) < c 1000001 0) (h7 : cal 131 [vR 1, vI (c 1000000 (w32 (x3 + 1))), vI (c 1000000 (w32 (x3 + 2))), vI (c 1000000 (w32 (x3 + 3)))] (SH T, c) = some (some (vI r1), (SH T, c2))) (h8 : 0 ≤ (w32 (x3 + 1)) ∧ (w32 (x3 + 1)) < c 1000001 0) (h9 : 0 ≤ (w32 (x3 + 2)) ∧ (w32 (x3 + 2)) < c 1000001 0) (h10 : 0 ≤ (w32 (x3 + 3)) ∧ (w32 (x3 + 3)) < c 1000001 0) (h11 : cal 258 [vR 78, vI (c2 1000000 (w32 (x3 + 1))), vI (c2 1000000 (w32 (x3 + 2))), vI (c2 1000000 (w32 (x3 + 3)))] (SH T, c2) = some (some (vI r3), (SH T, c4))) (h12 : r1 = r3) : ev 356 106 18 [vR (-1), vR 1, vR 78, vI x3] [] (SH T, c) = ev 356 106 1828 [vR (-1), vR 1, vR 78, vI x3] [] (SH T, c4) := by
  refine (ev_eq _ _ _ _ _ _).trans ?_
  refine (if_neg h1).trans ?_
  refine (if_pos h2).trans ?_
  refine (if_neg (by omega)).trans ?_
  refine (if_neg (by omega)).trans ?_
  refine (if_neg (by omega)).trans ?_
  refine (if_neg (by omega)).trans ?_
  refine (if_neg (by omega)).trans ?_
  refine (if_neg (by omega)).trans ?_
  refine (if_neg (by omega)).trans ?_
  refine (if_neg (by omega)).trans ?_
  refine (if_neg (by omega)).trans ?_
  refine (if_neg (by omega)).trans ?_
  refine (if_neg (by omega)).trans ?_
  refine (if_neg (by omega)).trans ?_
  refine (if_neg (by omega)).trans ?_
  refine (if_neg (by omega)).trans ?_
  refine (if_neg (by omega)).trans ?_
  refine (if_neg (by omega)).trans ?_
  refine (if_neg (by omega)).trans ?_
  refine (if_pos h3).trans ?_
  refine (ev_eq _ _ _ _ _ _).trans ?_
  refine (if_pos h4).trans ?_
  refine (if_pos h5).trans ?_
  refine (if_pos h6).trans ?_
  refine (el_call rfl h7).trans ?_
  refine (if_pos h8).trans ?_
  refine (if_pos h9).trans ?_
  refine (if_pos h10).trans ?_
  refine (el_call rfl h11).trans ?_
  refine (if_pos h12).trans ?_
  rfl
theorem B_L_law_18_37 {T : List Shp} {c : Nat → Int → Int} {x3 : Int} {r1 : Int} {c2 : Nat → Int → Int} {r3 : Int} {c4 : Nat → Int → Int} (h1 : ¬ (w32 ((c 1000001 0) - 6)) < x3) (h2 : 0 ≤ x3 ∧ x3 < c 1000001 0) (h3 : (iand (c 1000000 x3) 63) = 17) (h4 : 0 ≤ (w32 (x3 + 1)) ∧ (w32 (x3 + 1)) < c 1000001 0) (h5 : 0 ≤ (w32 (x3 + 2)) ∧ (w32 (x3 + 2)) < c 1000001 0) (h6 : 0 ≤ (w32 (x3 + 3)) ∧ (w32 (x3 + 3)) < c 1000001 0) (h7 : cal 131 [vR 1, vI (c 1000000 (w32 (x3 + 1))), vI (c 1000000 (w32 (x3 + 2))), vI (c 1000000 (w32 (x3 + 3)))] (SH T, c) = some (some (vI r1), (SH T, c2))) (h8 : 0 ≤ (w32 (x3 + 1)) ∧ (w32 (x3 + 1)) < c 1000001 0) (h9 : 0 ≤ (w32 (x3 + 2)) ∧ (w32 (x3 + 2)) < c 1000001 0) (h10 : 0 ≤ (w32 (x3 + 3)) ∧ (w32 (x3 + 3)) < c 1000001 0) (h11 : cal 258 [vR 78, vI (c2 1000000 (w32 (x3 + 1))), vI (c2 1000000 (w32 (x3 + 2))), vI (c2 1000000 (w32 (x3 + 3)))] (SH T, c2) = some (some (vI r3), (SH T, c4))) (h12 : ¬ r1 = r3) : ev 356 106 18 [vR (-1), vR 1, vR 78, vI x3] [] (SH T, c) = some (some (vI 0), (SH T, c4)) := by
  refine (ev_eq _ _ _ _ _ _).trans ?_
  refine (if_neg h1).trans ?_
  refine (if_pos h2).trans ?_
  refine (if_neg (by omega)).trans ?_
  refine (if_neg (by omega)).trans ?_
  refine (if_neg (by omega)).trans ?_
  refine (if_neg (by omega)).trans ?_
  refine (if_neg (by omega)).trans ?_
  refine (if_neg (by omega)).trans ?_
  refine (if_neg (by omega)).trans ?_
  refine (if_neg (by omega)).trans ?_
  refine (if_neg (by omega)).trans ?_
  refine (if_neg (by omega)).trans ?_
  refine (if_neg (by omega)).trans ?_
  refine (if_neg (by omega)).trans ?_
  refine (if_neg (by omega)).trans ?_
  refine (if_neg (by omega)).trans ?_
  refine (if_neg (by omega)).trans ?_
  refine (if_neg (by omega)).trans ?_
  refine (if_neg (by omega)).trans ?_
  refine (if_pos h3).trans ?_
  refine (ev_eq _ _ _ _ _ _).trans ?_
  refine (if_pos h4).trans ?_
  refine (if_pos h5).trans ?_
  refine (if_pos h6).trans ?_
  refine (el_call rfl h7).trans ?_
  refine (if_pos h8).trans ?_
  refine (if_pos h9).trans ?_
  refine (if_pos h10).trans ?_
  refine (el_call rfl h11).trans ?_
  refine (if_neg h12).trans ?_
  rfl
theorem B_L_law_18_38 {T : List Shp} {c : Nat → Int → Int} {x3 : Int} {r1 : Int} {c2 : Nat → Int → Int} {r3 : Int} {c4 : Nat → Int → Int} (h1 : ¬ (w32 ((c 1000001 0) - 6)) < x3) (h2 : 0 ≤ x3 ∧ x3 < c 1000001 0) (h3 : (iand (c 1000000 x3) 63) = 18) (h4 : 0 ≤ (w32 (x3 + 1)) ∧ (w32 (x3 + 1)) < c 1000001 0) (h5 : cal 132 [vR 1, vI (c 1000000 (w32 (x3 + 1)))] (SH T, c) = some (some (vI r1), (SH T, c2))) (h6 : 0 ≤ (w32 (x3 + 1)) ∧ (w32 (x3 + 1)) < c 1000001 0) (h7 : cal 267 [vR 78, vI (c2 1000000 (w32 (x3 + 1)))] (SH T, c2) = some (some (vI r3), (SH T, c4))) (h8 : r1 = r3) : ev 356 106 18 [vR (-1), vR 1, vR 78, vI x3] [] (SH T, c) = ev 356 106 1828 [vR (-1), vR 1, vR 78, vI x3] [] (SH T, c4) := by
  refine (ev_eq _ _ _ _ _ _).trans ?_
  refine (if_neg h1).trans ?_
  refine (if_pos h2).trans ?_
  refine (if_neg (by omega)).trans ?_
  refine (if_neg (by omega)).trans ?_
  refine (if_neg (by omega)).trans ?_
  refine (if_neg (by omega)).trans ?_
  refine (if_neg (by omega)).trans ?_
  refine (if_neg (by omega)).trans ?_
  refine (if_neg (by omega)).trans ?_
  refine (if_neg (by omega)).trans ?_
  refine (if_neg (by omega)).trans ?_
  refine (if_neg (by omega)).trans ?_
  refine (if_neg (by omega)).trans ?_
  refine (if_neg (by omega)).trans ?_
  refine (if_neg (by omega)).trans ?_
  refine (if_neg (by omega)).trans ?_
  refine (if_neg (by omega)).trans ?_
  refine (if_neg (by omega)).trans ?_
  refine (if_neg (by omega)).trans ?_
  refine (if_neg (by omega)).trans ?_
  refine (if_pos h3).trans ?_
  refine (ev_eq _ _ _ _ _ _).trans ?_
  refine (if_pos h4).trans ?_
  refine (el_call rfl h5).trans ?_
  refine (if_pos h6).trans ?_
  refine (el_call rfl h7).trans ?_
  refine (if_pos h8).trans ?_
  rfl
theorem B_L_law_18_39 {T : List Shp} {c : Nat → Int → Int} {x3 : Int} {r1 : Int} {c2 : Nat → Int → Int} {r3 : Int} {c4 : Nat → Int → Int} (h1 : ¬ (w32 ((c 1000001 0) - 6)) < x3) (h2 : 0 ≤ x3 ∧ x3 < c 1000001 0) (h3 : (iand (c 1000000 x3) 63) = 18) (h4 : 0 ≤ (w32 (x3 + 1)) ∧ (w32 (x3 + 1)) < c 1000001 0) (h5 : cal 132 [vR 1, vI (c 1000000 (w32 (x3 + 1)))] (SH T, c) = some (some (vI r1), (SH T, c2))) (h6 : 0 ≤ (w32 (x3 + 1)) ∧ (w32 (x3 + 1)) < c 1000001 0) (h7 : cal 267 [vR 78, vI (c2 1000000 (w32 (x3 + 1)))] (SH T, c2) = some (some (vI r3), (SH T, c4))) (h8 : ¬ r1 = r3) : ev 356 106 18 [vR (-1), vR 1, vR 78, vI x3] [] (SH T, c) = some (some (vI 0), (SH T, c4)) := by
  refine (ev_eq _ _ _ _ _ _).trans ?_
  refine (if_neg h1).trans ?_
  refine (if_pos h2).trans ?_
  refine (if_neg (by omega)).trans ?_
  refine (if_neg (by omega)).trans ?_
  refine (if_neg (by omega)).trans ?_
  refine (if_neg (by omega)).trans ?_
  refine (if_neg (by omega)).trans ?_
  refine (if_neg (by omega)).trans ?_
  refine (if_neg (by omega)).trans ?_
  refine (if_neg (by omega)).trans ?_
  refine (if_neg (by omega)).trans ?_
  refine (if_neg (by omega)).trans ?_
  refine (if_neg (by omega)).trans ?_
  refine (if_neg (by omega)).trans ?_
  refine (if_neg (by omega)).trans ?_
  refine (if_neg (by omega)).trans ?_
  refine (if_neg (by omega)).trans ?_
  refine (if_neg (by omega)).trans ?_
  refine (if_neg (by omega)).trans ?_
  refine (if_neg (by omega)).trans ?_
  refine (if_pos h3).trans ?_
  refine (ev_eq _ _ _ _ _ _).trans ?_
  refine (if_pos h4).trans ?_
  refine (el_call rfl h5).trans ?_
  refine (if_pos h6).trans ?_
  refine (el_call rfl h7).trans ?_
  refine (if_neg h8).trans ?_
  rfl
theorem B_L_law_18_40 {T : List Shp} {c : Nat → Int → Int} {x3 : Int} {r1 : Int} {c2 : Nat → Int → Int} {r3 : Int} {c4 : Nat → Int → Int} (h1 : ¬ (w32 ((c 1000001 0) - 6)) < x3) (h2 : 0 ≤ x3 ∧ x3 < c 1000001 0) (h3 : (iand (c 1000000 x3) 63) = 19) (h4 : cal 133 [vR 1] (SH T, c) = some (some (vI r1), (SH T, c2))) (h5 : cal 268 [vR 78] (SH T, c2) = some (some (vI r3), (SH T, c4))) (h6 : r1 = r3) : ev 356 106 18 [vR (-1), vR 1, vR 78, vI x3] [] (SH T, c) = ev 356 106 1828 [vR (-1), vR 1, vR 78, vI x3] [] (SH T, c4) := by
  refine (ev_eq _ _ _ _ _ _).trans ?_
  refine (if_neg h1).trans ?_
  refine (if_pos h2).trans ?_
  refine (if_neg (by omega)).trans ?_
  refine (if_neg (by omega)).trans ?_
  refine (if_neg (by omega)).trans ?_
  refine (if_neg (by omega)).trans ?_
  refine (if_neg (by omega)).trans ?_
  refine (if_neg (by omega)).trans ?_
  refine (if_neg (by omega)).trans ?_
  refine (if_neg (by omega)).trans ?_
  refine (if_neg (by omega)).trans ?_
  refine (if_neg (by omega)).trans ?_
  refine (if_neg (by omega)).trans ?_
  refine (if_neg (by omega)).trans ?_
  refine (if_neg (by omega)).trans ?_
  refine (if_neg (by omega)).trans ?_
  refine (if_neg (by omega)).trans ?_
  refine (if_neg (by omega)).trans ?_
  refine (if_neg (by omega)).trans ?_
  refine (if_neg (by omega)).trans ?_
  refine (if_neg (by omega)).trans ?_
  refine (if_pos h3).trans ?_
  refine (ev_eq _ _ _ _ _ _).trans ?_
  refine (el_call rfl h4).trans ?_
  refine (el_call rfl h5).trans ?_
  refine (if_pos h6).trans ?_
  rfl
theorem B_L_law_18_41 {T : List Shp} {c : Nat → Int → Int} {x3 : Int} {r1 : Int} {c2 : Nat → Int → Int} {r3 : Int} {c4 : Nat → Int → Int} (h1 : ¬ (w32 ((c 1000001 0) - 6)) < x3) (h2 : 0 ≤ x3 ∧ x3 < c 1000001 0) (h3 : (iand (c 1000000 x3) 63) = 19) (h4 : cal 133 [vR 1] (SH T, c) = some (some (vI r1), (SH T, c2))) (h5 : cal 268 [vR 78] (SH T, c2) = some (some (vI r3), (SH T, c4))) (h6 : ¬ r1 = r3) : ev 356 106 18 [vR (-1), vR 1, vR 78, vI x3] [] (SH T, c) = some (some (vI 0), (SH T, c4)) := by
  refine (ev_eq _ _ _ _ _ _).trans ?_
  refine (if_neg h1).trans ?_
  refine (if_pos h2).trans ?_
  refine (if_neg (by omega)).trans ?_
  refine (if_neg (by omega)).trans ?_
  refine (if_neg (by omega)).trans ?_
  refine (if_neg (by omega)).trans ?_
  refine (if_neg (by omega)).trans ?_
  refine (if_neg (by omega)).trans ?_
  refine (if_neg (by omega)).trans ?_
  refine (if_neg (by omega)).trans ?_
  refine (if_neg (by omega)).trans ?_
  refine (if_neg (by omega)).trans ?_
  refine (if_neg (by omega)).trans ?_
  refine (if_neg (by omega)).trans ?_
  refine (if_neg (by omega)).trans ?_
  refine (if_neg (by omega)).trans ?_
  refine (if_neg (by omega)).trans ?_
  refine (if_neg (by omega)).trans ?_
  refine (if_neg (by omega)).trans ?_
  refine (if_neg (by omega)).trans ?_
  refine (if_neg (by omega)).trans ?_
  refine (if_pos h3).trans ?_
  refine (ev_eq _ _ _ _ _ _).trans ?_
  refine (el_call rfl h4).trans ?_
  refine (el_call rfl h5).trans ?_
  refine (if_neg h6).trans ?_
  rfl
theorem B_L_law_18_42 {T : List Shp} {c : Nat → Int → Int} {x3 : Int} {r1 : Int} {c2 : Nat → Int → Int} {r3 : Int} {c4 : Nat → Int → Int} (h1 : ¬ (w32 ((c 1000001 0) - 6)) < x3) (h2 : 0 ≤ x3 ∧ x3 < c 1000001 0) (h3 : (iand (c 1000000 x3) 63) = 20) (h4 : 0 ≤ (w32 (x3 + 1)) ∧ (w32 (x3 + 1)) < c 1000001 0) (h5 : 0 ≤ (w32 (x3 + 2)) ∧ (w32 (x3 + 2)) < c 1000001 0) (h6 : cal 134 [vR 1, vI (c 1000000 (w32 (x3 + 1))), vI (c 1000000 (w32 (x3 + 2)))] (SH T, c) = some (some (vI r1), (SH T, c2))) (h7 : 0 ≤ (w32 (x3 + 1)) ∧ (w32 (x3 + 1)) < c 1000001 0) (h8 : 0 ≤ (w32 (x3 + 2)) ∧ (w32 (x3 + 2)) < c 1000001 0) (h9 : cal 269 [vR 78, vI (c2 1000000 (w32 (x3 + 1))), vI (c2 1000000 (w32 (x3 + 2)))] (SH T, c2) = some (some (vI r3), (SH T, c4))) (h10 : r1 = r3) : ev 356 106 18 [vR (-1), vR 1, vR 78, vI x3] [] (SH T, c) = ev 356 106 1828 [vR (-1), vR 1, vR 78, vI x3] [] (SH T, c4) := by
  refine (ev_eq _ _ _ _ _ _).trans ?_
  refine (if_neg h1).trans ?_
  refine (if_pos h2).trans ?_
  refine (if_neg (by omega)).trans ?_
  refine (if_neg (by omega)).trans ?_
  refine (if_neg (by omega)).trans ?_
  refine (if_neg (by omega)).trans ?_
  refine (if_neg (by omega)).trans ?_
  refine (if_neg (by omega)).trans ?_
  refine (if_neg (by omega)).trans ?_
  refine (if_neg (by omega)).trans ?_
  refine (if_neg (by omega)).trans ?_
  refine (if_neg (by omega)).trans ?_
  refine (if_neg (by omega)).trans ?_
  refine (if_neg (by omega)).trans ?_
  refine (if_neg (by omega)).trans ?_
  refine (if_neg (by omega)).trans ?_
  refine (if_neg (by omega)).trans ?_
  refine (if_neg (by omega)).trans ?_
  refine (if_neg (by omega)).trans ?_
  refine (if_neg (by omega)).trans ?_
  refine (if_neg (by omega)).trans ?_
  refine (if_neg (by omega)).trans ?_
  refine (if_pos h3).trans ?_
  refine (ev_eq _ _ _ _ _ _).trans ?_
  refine (if_pos h4).trans ?_
  refine (if_pos h5).trans ?_
  refine (el_call rfl h6).trans ?_
  refine (if_pos h7).trans ?_
  refine (if_pos h8).trans ?_
  refine (el_call rfl h9).trans ?_
  refine (if_pos h10).trans ?_
  rfl
theorem B_L_law_18_43 {T : List Shp} {c : Nat → Int → Int} {x3 : Int} {r1 : Int} {c2 : Nat → Int → Int} {r3 : Int} {c4 : Nat → Int → Int} (h1 : ¬ (w32 ((c 1000001 0) - 6)) < x3) (h2 : 0 ≤ x3 ∧ x3 < c 1000001 0) (h3 : (iand (c 1000000 x3) 63) = 20) (h4 : 0 ≤ (w32 (x3 + 1)) ∧ (w32 (x3 + 1)) < c 1000001 0) (h5 : 0 ≤ (w32 (x3 + 2)) ∧ (w32 (x3 + 2)) < c 1000001 0) (h6 : cal 134 [vR 1, vI (c 1000000 (w32 (x3 + 1))), vI (c 1000000 (w32 (x3 + 2)))] (SH T, c) = some (some (vI r1), (SH T, c2))) (h7 : 0 ≤ (w32 (x3 + 1)) ∧ (w32 (x3 + 1)) < c 1000001 0) (h8 : 0 ≤ (w32 (x3 + 2)) ∧ (w32 (x3 + 2)) < c 1000001 0) (h9 : cal 269 [vR 78, vI (c2 1000000 (w32 (x3 + 1))), vI (c2 1000000 (w32 (x3 + 2)))] (SH T, c2) = some (some (vI r3), (SH T, c4))) (h10 : ¬ r1 = r3) : ev 356 106 18 [vR (-1), vR 1, vR 78, vI x3] [] (SH T, c) = some (some (vI 0), (SH T, c4)) := by
  refine (ev_eq _ _ _ _ _ _).trans ?_
  refine (if_neg h1).trans ?_
  refine (if_pos h2).trans ?_
  refine (if_neg (by omega)).trans ?_
  refine (if_neg (by omega)).trans ?_
  refine (if_neg (by omega)).trans ?_
  refine (if_neg (by omega)).trans ?_
  refine (if_neg (by omega)).trans ?_
  refine (if_neg (by omega)).trans ?_
  refine (if_neg (by omega)).trans ?_
  refine (if_neg (by omega)).trans ?_
  refine (if_neg (by omega)).trans ?_
  refine (if_neg (by omega)).trans ?_
  refine (if_neg (by omega)).trans ?_
  refine (if_neg (by omega)).trans ?_
  refine (if_neg (by omega)).trans ?_
  refine (if_neg (by omega)).trans ?_
  refine (if_neg (by omega)).trans ?_
  refine (if_neg (by omega)).trans ?_
  refine (if_neg (by omega)).trans ?_
  refine (if_neg (by omega)).trans ?_
  refine (if_neg (by omega)).trans ?_
  refine (if_neg (by omega)).trans ?_
  refine (if_pos h3).trans ?_
  refine (ev_eq _ _ _ _ _ _).trans ?_
  refine (if_pos h4).trans ?_
  refine (if_pos h5).trans ?_
  refine (el_call rfl h6).trans ?_
  refine (if_pos h7).trans ?_
  refine (if_pos h8).trans ?_
  refine (el_call rfl h9).trans ?_
  refine (if_neg h10).trans ?_
  rfl
theorem B_L_law_18_44 {T : List Shp} {c : Nat → Int → Int} {x3 : Int} {r1 : Int} {c2 : Nat → Int → Int} {r3 : Int} {c4 : Nat → Int → Int} (h1 : ¬ (w32 ((c 1000001 0) - 6)) < x3) (h2 : 0 ≤ x3 ∧ x3 < c 1000001 0) (h3 : (iand (c 1000000 x3) 63) = 21) (h4 : 0 ≤ (w32 (x3 + 1)) ∧ (w32 (x3 + 1)) < c 1000001 0) (h5 : 0 ≤ (w32 (x3 + 2)) ∧ (w32 (x3 + 2)) < c 1000001 0) (h6 : cal 135 [vR 1, vI (c 1000000 (w32 (x3 + 1))), vI (c 1000000 (w32 (x3 + 2)))] (SH T, c) = some (some (vI r1), (SH T, c2))) (h7 : 0 ≤ (w32 (x3 + 1)) ∧ (w32 (x3 + 1)) < c 1000001 0) (h8 : 0 ≤ (w32 (x3 + 2)) ∧ (w32 (x3 + 2)) < c 1000001 0) (h9 : cal 272 [vR 78, vI (c2 1000000 (w32 (x3 + 1))), vI (c2 1000000 (w32 (x3 + 2)))] (SH T, c2) = some (some (vI r3), (SH T, c4))) (h10 : r1 = r3) : ev 356 106 18 [vR (-1), vR 1, vR 78, vI x3] [] (SH T, c) = ev 356 106 1828 [vR (-1), vR 1, vR 78, vI x3] [] (SH T, c4) := by
  refine (ev_eq _ _ _ _ _ _).trans ?_
  refine (if_neg h1).trans ?_
  refine (if_pos h2).trans ?_
  refine (if_neg (by omega)).trans ?_
  refine (if_neg (by omega)).trans ?_
  refine (if_neg (by omega)).trans ?_
  refine (if_neg (by omega)).trans ?_
  refine (if_neg (by omega)).trans ?_
  refine (if_neg (by omega)).trans ?_
  refine (if_neg (by omega)).trans ?_
  refine (if_neg (by omega)).trans ?_
  refine (if_neg (by omega)).trans ?_
  refine (if_neg (by omega)).trans ?_
  refine (if_neg (by omega)).trans ?_
  refine (if_neg (by omega)).trans ?_
  refine (if_neg (by omega)).trans ?_
  refine (if_neg (by omega)).trans ?_
  refine (if_neg (by omega)).trans ?_
  refine (if_neg (by omega)).trans ?_
  refine (if_neg (by omega)).trans ?_
  refine (if_neg (by omega)).trans ?_
  refine (if_neg (by omega)).trans ?_
  refine (if_neg (by omega)).trans ?_
  refine (if_neg (by omega)).trans ?_
  refine (if_pos h3).trans ?_
  refine (ev_eq _ _ _ _ _ _).trans ?_
  refine (if_pos h4).trans ?_
  refine (if_pos h5).trans ?_
  refine (el_call rfl h6).trans ?_
  refine (if_pos h7).trans ?_
  refine (if_pos h8).trans ?_
  refine (el_call rfl h9).trans ?_
  refine (if_pos h10).trans ?_
  rfl
theorem B_L_law_18_45 {T : List Shp} {c : Nat → Int → Int} {x3 : Int} {r1 : Int} {c2 : Nat → Int → Int} {r3 : Int} {c4 : Nat → Int → Int} (h1 : ¬ (w32 ((c 1000001 0) - 6)) < x3) (h2 : 0 ≤ x3 ∧ x3 < c 1000001 0) (h3 : (iand (c 1000000 x3) 63) = 21) (h4 : 0 ≤ (w32 (x3 + 1)) ∧ (w32 (x3 + 1)) < c 1000001 0) (h5 : 0 ≤ (w32 (x3 + 2)) ∧ (w32 (x3 + 2)) < c 1000001 0) (h6 : cal 135 [vR 1, vI (c 1000000 (w32 (x3 + 1))), vI (c 1000000 (w32 (x3 + 2)))] (SH T, c) = some (some (vI r1), (SH T, c2))) (h7 : 0 ≤ (w32 (x3 + 1)) ∧ (w32 (x3 + 1)) < c 1000001 0) (h8 : 0 ≤ (w32 (x3 + 2)) ∧ (w32 (x3 + 2)) < c 1000001 0) (h9 : cal 272 [vR 78, vI (c2 1000000 (w32 (x3 + 1))), vI (c2 1000000 (w32 (x3 + 2)))] (SH T, c2) = some (some (vI r3), (SH T, c4))) (h10 : ¬ r1 = r3) : ev 356 106 18 [vR (-1), vR 1, vR 78, vI x3] [] (SH T, c) = some (some (vI 0), (SH T, c4)) := by
  refine (ev_eq _ _ _ _ _ _).trans ?_
  refine (if_neg h1).trans ?_
  refine (if_pos h2).trans ?_
  refine (if_neg (by omega)).trans ?_
  refine (if_neg (by omega)).trans ?_
  refine (if_neg (by omega)).trans ?_
  refine (if_neg (by omega)).trans ?_
  refine (if_neg (by omega)).trans ?_
  refine (if_neg (by omega)).trans ?_
  refine (if_neg (by omega)).trans ?_
  refine (if_neg (by omega)).trans ?_
  refine (if_neg (by omega)).trans ?_
  refine (if_neg (by omega)).trans ?_
  refine (if_neg (by omega)).trans ?_
  refine (if_neg (by omega)).trans ?_
  refine (if_neg (by omega)).trans ?_
  refine (if_neg (by omega)).trans ?_
  refine (if_neg (by omega)).trans ?_
  refine (if_neg (by omega)).trans ?_
  refine (if_neg (by omega)).trans ?_
  refine (if_neg (by omega)).trans ?_
  refine (if_neg (by omega)).trans ?_
  refine (if_neg (by omega)).trans ?_
  refine (if_neg (by omega)).trans ?_
  refine (if_pos h3).trans ?_
  refine (ev_eq _ _ _ _ _ _).trans ?_
  refine (if_pos h4).trans ?_
  refine (if_pos h5).trans ?_
  refine (el_call rfl h6).trans ?_
  refine (if_pos h7).trans ?_
  refine (if_pos h8).trans ?_
  refine (el_call rfl h9).trans ?_
  refine (if_neg h10).trans ?_
  rfl
theorem B_L_law_18_46 {T : List Shp} {c : Nat → Int → Int} {x3 : Int} {r1 : Int} {c2 : Nat → Int → Int} {r3 : Int} {c4 : Nat → Int → Int} (h1 : ¬ (w32 ((c 1000001 0) - 6)) < x3) (h2 : 0 ≤ x3 ∧ x3 < c 1000001 0) (h3 : (iand (c 1000000 x3) 63) = 22) (h4 : cal 136 [vR 1] (SH T, c) = some (some (vI r1), (SH T, c2))) (h5 : cal 273 [vR 78] (SH T, c2) = some (some (vI r3), (SH T, c4))) (h6 : r1 = r3) : ev 356 106 18 [vR (-1), vR 1, vR 78, vI x3] [] (SH T, c) = ev 356 106 1828 [vR (-1), vR 1, vR 78, vI x3] [] (SH T, c4) := by
  refine (ev_eq _ _ _ _ _ _).trans ?_
  refine (if_neg h1).trans ?_
  refine (if_pos h2).trans ?_
  refine (if_neg (by omega)).trans ?_
  refine (if_neg (by omega)).trans ?_
  refine (if_neg (by omega)).trans ?_
  refine (if_neg (by omega)).trans ?_
  refine (if_neg (by omega)).trans ?_
  refine (if_neg (by omega)).trans ?_
  refine (if_neg (by omega)).trans ?_
  refine (if_neg (by omega)).trans ?_
  refine (if_neg (by omega)).trans ?_
  refine (if_neg (by omega)).trans ?_
  refine (if_neg (by omega)).trans ?_
  refine (if_neg (by omega)).trans ?_
  refine (if_neg (by omega)).trans ?_
  refine (if_neg (by omega)).trans ?_
  refine (if_neg (by omega)).trans ?_
  refine (if_neg (by omega)).trans ?_
  refine (if_neg (by omega)).trans ?_
  refine (if_neg (by omega)).trans ?_
  refine (if_neg (by omega)).trans ?_
  refine (if_neg (by omega)).trans ?_
  refine (if_neg (by omega)).trans ?_
  refine (if_neg (by omega)).trans ?_
  refine (if_pos h3).trans ?_
  refine (ev_eq _ _ _ _ _ _).trans ?_
  refine (el_call rfl h4).trans ?_
  refine (el_call rfl h5).trans ?_
  refine (if_pos h6).trans ?_
  rfl
theorem B_L_law_18_47 {T : List Shp} {c : Nat → Int → Int} {x3 : Int} {r1 : Int} {c2 : Nat → Int → Int} {r3 : Int} {c4 : Nat → Int → Int} (h1 : ¬ (w32 ((c 1000001 0) - 6)) < x3) (h2 : 0 ≤ x3 ∧ x3 < c 1000001 0) (h3 : (iand (c 1000000 x3) 63) = 22) (h4 : cal 136 [vR 1] (SH T, c) = some (some (vI r1), (SH T, c2))) (h5 : cal 273 [vR 78] (SH T, c2) = some (some (vI r3), (SH T, c4))) (h6 : ¬ r1 = r3) : ev 356 106 18 [vR (-1), vR 1, vR 78, vI x3] [] (SH T, c) = some (some (vI 0), (SH T, c4)) := by
  refine (ev_eq _ _ _ _ _ _).trans ?_
  refine (if_neg h1).trans ?_
  refine (if_pos h2).trans ?_
  refine (if_neg (by omega)).trans ?_
  refine (if_neg (by omega)).trans ?_
  refine (if_neg (by omega)).trans ?_
  refine (if_neg (by omega)).trans ?_
  refine (if_neg (by omega)).trans ?_
  refine (if_neg (by omega)).trans ?_
  refine (if_neg (by omega)).trans ?_
  refine (if_neg (by omega)).trans ?_
  refine (if_neg (by omega)).trans ?_
  refine (if_neg (by omega)).trans ?_
  refine (if_neg (by omega)).trans ?_
  refine (if_neg (by omega)).trans ?_
  refine (if_neg (by omega)).trans ?_
  refine (if_neg (by omega)).trans ?_
  refine (if_neg (by omega)).trans ?_
  refine (if_neg (by omega)).trans ?_
  refine (if_neg (by omega)).trans ?_
  refine (if_neg (by omega)).trans ?_
  refine (if_neg (by omega)).trans ?_
  refine (if_neg (by omega)).trans ?_
  refine (if_neg (by omega)).trans ?_
  refine (if_neg (by omega)).trans ?_
  refine (if_pos h3).trans ?_
  refine (ev_eq _ _ _ _ _ _).trans ?_
  refine (el_call rfl h4).trans ?_
  refine (el_call rfl h5).trans ?_
  refine (if_neg h6).trans ?_
  rfl
theorem B_L_law_18_48 {T : List Shp} {c : Nat → Int → Int} {x3 : Int} {r1 : Int} {c2 : Nat → Int → Int} {r3 : Int} {c4 : Nat → Int → Int} (h1 : ¬ (w32 ((c 1000001 0) - 6)) < x3) (h2 : 0 ≤ x3 ∧ x3 < c 1000001 0) (h3 : (iand (c 1000000 x3) 63) = 23) (h4 : 0 ≤ (w32 (x3 + 1)) ∧ (w32 (x3 + 1)) < c 1000001 0) (h5 : cal 137 [vR 1, vI (c 1000000 (w32 (x3 + 1)))] (SH T, c) = some (some (vI r1), (SH T, c2))) (h6 : 0 ≤ (w32 (x3 + 1)) ∧ (w32 (x3 + 1)) < c 1000001 0) (h7 : cal 275 [vR 78, vI (c2 1000000 (w32 (x3 + 1)))] (SH T, c2) = some (some (vI r3), (SH T, c4))) (h8 : r1 = r3) : ev 356 106 18 [vR (-1), vR 1, vR 78, vI x3] [] (SH T, c) = ev 356 106 1828 [vR (-1), vR 1, vR 78, vI x3] [] (SH T, c4) := by
  refine (ev_eq _ _ _ _ _ _).trans ?_
  refine (if_neg h1).trans ?_
  refine (if_pos h2).trans ?_
  refine (if_neg (by omega)).trans ?_
  refine (if_neg (by omega)).trans ?_
  refine (if_neg (by omega)).trans ?_
  refine (if_neg (by omega)).trans ?_
  refine (if_neg (by omega)).trans ?_
  refine (if_neg (by omega)).trans ?_
  refine (if_neg (by omega)).trans ?_
  refine (if_neg (by omega)).trans ?_
  refine (if_neg (by omega)).trans ?_
  refine (if_neg (by omega)).trans ?_
  refine (if_neg (by omega)).trans ?_
  refine (if_neg (by omega)).trans ?_
  refine (if_neg (by omega)).trans ?_
  refine (if_neg (by omega)).trans ?_
  refine (if_neg (by omega)).trans ?_
  refine (if_neg (by omega)).trans ?_
  refine (if_neg (by omega)).trans ?_
  refine (if_neg (by omega)).trans ?_
  refine (if_neg (by omega)).trans ?_
  refine (if_neg (by omega)).trans ?_
  refine (if_neg (by omega)).trans ?_
  refine (if_neg (by omega)).trans ?_
  refine (if_neg (by omega)).trans ?_
  refine (if_pos h3).trans ?_
  refine (ev_eq _ _ _ _ _ _).trans ?_
  refine (if_pos h4).trans ?_
  refine (el_call rfl h5).trans ?_
  refine (if_pos h6).trans ?_
  refine (el_call rfl h7).trans ?_
  refine (if_pos h8).trans ?_
  rfl
theorem B_L_law_18_49 {T : List Shp} {c : Nat → Int → Int} {x3 : Int} {r1 : Int} {c2 : Nat → Int → Int} {r3 : Int} {c4 : Nat → Int → Int} (h1 : ¬ (w32 ((c 1000001 0) - 6)) < x3) (h2 : 0 ≤ x3 ∧ x3 < c 1000001 0) (h3 : (iand (c 1000000 x3) 63) = 23) (h4 : 0 ≤ (w32 (x3 + 1)) ∧ (w32 (x3 + 1)) < c 1000001 0) (h5 : cal 137 [vR 1, vI (c 1000000 (w32 (x3 + 1)))] (SH T, c) = some (some (vI r1), (SH T, c2))) (h6 : 0 ≤ (w32 (x3 + 1)) ∧ (w32 (x3 + 1)) < c 1000001 0) (h7 : cal 275 [vR 78, vI (c2 1000000 (w32 (x3 + 1)))] (SH T, c2) = some (some (vI r3), (SH T, c4))) (h8 : ¬ r1 = r3) : ev 356 106 18 [vR (-1), vR 1, vR 78, vI x3] [] (SH T, c) = some (some (vI 0), (SH T, c4)) := by
  refine (ev_eq _ _ _ _ _ _).trans ?_
  refine (if_neg h1).trans ?_
  refine (if_pos h2).trans ?_
  refine (if_neg (by omega)).trans ?_
  refine (if_neg (by omega)).trans ?_
  refine (if_neg (by omega)).trans ?_
  refine (if_neg (by omega)).trans ?_
  refine (if_neg (by omega)).trans ?_
  refine (if_neg (by omega)).trans ?_
  refine (if_neg (by omega)).trans ?_
  refine (if_neg (by omega)).trans ?_
  refine (if_neg (by omega)).trans ?_
  refine (if_neg (by omega)).trans ?_
  refine (if_neg (by omega)).trans ?_
  refine (if_neg (by omega)).trans ?_
  refine (if_neg (by omega)).trans ?_
  refine (if_neg (by omega)).trans ?_
  refine (if_neg (by omega)).trans ?_
  refine (if_neg (by omega)).trans ?_
  refine (if_neg (by omega)).trans ?_
  refine (if_neg (by omega)).trans ?_
  refine (if_neg (by omega)).trans ?_
  refine (if_neg (by omega)).trans ?_
  refine (if_neg (by omega)).trans ?_
  refine (if_neg (by omega)).trans ?_
  refine (if_neg (by omega)).trans ?_
  refine (if_pos h3).trans ?_
  refine (ev_eq _ _ _ _ _ _).trans ?_
  refine (if_pos h4).trans ?_
  refine (el_call rfl h5).trans ?_
  refine (if_pos h6).trans ?_
  refine (el_call rfl h7).trans ?_
  refine (if_neg h8).trans ?_
  rfl
theorem B_L_law_18_50 {T : List Shp} {c : Nat → Int → Int} {x3 : Int} {r1 : Int} {c2 : Nat → Int → Int} {r3 : Int} {c4 : Nat → Int → Int} (h1 : ¬ (w32 ((c 1000001 0) - 6)) < x3) (h2 : 0 ≤ x3 ∧ x3 < c 1000001 0) (h3 : (iand (c 1000000 x3) 63) = 24) (h4 : cal 138 [vR 1] (SH T, c) = some (some (vI r1), (SH T, c2))) (h5 : cal 276 [vR 78] (SH T, c2) = some (some (vI r3), (SH T, c4))) (h6 : r1 = r3) : ev 356 106 18 [vR (-1), vR 1, vR 78, vI x3] [] (SH T, c) = ev 356 106 1828 [vR (-1), vR 1, vR 78, vI x3] [] (SH T, c4) := by
  refine (ev_eq _ _ _ _ _ _).trans ?_
  refine (if_neg h1).trans ?_
  refine (if_pos h2).trans ?_
  refine (if_neg (by omega)).trans ?_
  refine (if_neg (by omega)).trans ?_
  refine (if_neg (by omega)).trans ?_
  refine (if_neg (by omega)).trans ?_
  refine (if_neg (by omega)).trans ?_
  refine (if_neg (by omega)).trans ?_
  refine (if_neg (by omega)).trans ?_
  refine (if_neg (by omega)).trans ?_
  refine (if_neg (by omega)).trans ?_
  refine (if_neg (by omega)).trans ?_
  refine (if_neg (by omega)).trans ?_
  refine (if_neg (by omega)).trans ?_
  refine (if_neg (by omega)).trans ?_
  refine (if_neg (by omega)).trans ?_
  refine (if_neg (by omega)).trans ?_
  refine (if_neg (by omega)).trans ?_
  refine (if_neg (by omega)).trans ?_
  refine (if_neg (by omega)).trans ?_
  refine (if_neg (by omega)).trans ?_
  refine (if_neg (by omega)).trans ?_
  refine (if_neg (by omega)).trans ?_
  refine (if_neg (by omega)).trans ?_
  refine (if_neg (by omega)).trans ?_
  refine (if_neg (by omega)).trans ?_
  refine (if_pos h3).trans ?_
  refine (ev_eq _ _ _ _ _ _).trans ?_
  refine (el_call rfl h4).trans ?_
  refine (el_call rfl h5).trans ?_
  refine (if_pos h6).trans ?_
  rfl
theorem B_L_law_18_51 {T : List Shp} {c : Nat → Int → Int} {x3 : Int} {r1 : Int} {c2 : Nat → Int → Int} {r3 : Int} {c4 : Nat → Int → Int} (h1 : ¬ (w32 ((c 1000001 0) - 6)) < x3) (h2 : 0 ≤ x3 ∧ x3 < c 1000001 0) (h3 : (iand (c 1000000 x3) 63) = 24) (h4 : cal 138 [vR 1] (SH T, c) = some (some (vI r1), (SH T, c2))) (h5 : cal 276 [vR 78] (SH T, c2) = some (some (vI r3), (SH T, c4))) (h6 : ¬ r1 = r3) : ev 356 106 18 [vR (-1), vR 1, vR 78, vI x3] [] (SH T, c) = some (some (vI 0), (SH T, c4)) := by
  refine (ev_eq _ _ _ _ _ _).trans ?_
  refine (if_neg h1).trans ?_
  refine (if_pos h2).trans ?_
  refine (if_neg (by omega)).trans ?_
  refine (if_neg (by omega)).trans ?_
  refine (if_neg (by omega)).trans ?_
  refine (if_neg (by omega)).trans ?_
  refine (if_neg (by omega)).trans ?_
  refine (if_neg (by omega)).trans ?_
  refine (if_neg (by omega)).trans ?_
  refine (if_neg (by omega)).trans ?_
  refine (if_neg (by omega)).trans ?_
  refine (if_neg (by omega)).trans ?_
  refine (if_neg (by omega)).trans ?_
  refine (if_neg (by omega)).trans ?_
  refine (if_neg (by omega)).trans ?_
  refine (if_neg (by omega)).trans ?_
  refine (if_neg (by omega)).trans ?_
  refine (if_neg (by omega)).trans ?_
  refine (if_neg (by omega)).trans ?_
  refine (if_neg (by omega)).trans ?_
  refine (if_neg (by omega)).trans ?_
  refine (if_neg (by omega)).trans ?_
  refine (if_neg (by omega)).trans ?_
  refine (if_neg (by omega)).trans ?_
  refine (if_neg (by omega)).trans ?_
  refine (if_neg (by omega)).trans ?_
  refine (if_pos h3).trans ?_
  refine (ev_eq _ _ _ _ _ _).trans ?_
  refine (el_call rfl h4).trans ?_
  refine (el_call rfl h5).trans ?_
  refine (if_neg h6).trans ?_
  rfl
theorem B_L_law_18_52 {T : List Shp} {c : Nat → Int → Int} {x3 : Int} {r1 : Int} {c2 : Nat → Int → Int} {r3 : Int} {c4 : Nat → Int → Int} (h1 : ¬ (w32 ((c 1000001 0) - 6)) < x3) (h2 : 0 ≤ x3 ∧ x3 < c 1000001 0) (h3 : (iand (c 1000000 x3) 63) = 25) (h4 : 0 ≤ (w32 (x3 + 1)) ∧ (w32 (x3 + 1)) < c 1000001 0) (h5 : 0 ≤ (w32 (x3 + 2)) ∧ (w32 (x3 + 2)) < c 1000001 0) (h6 : 0 ≤ (w32 (x3 + 3)) ∧ (w32 (x3 + 3)) < c 1000001 0) (h7 : cal 139 [vR 1, vI (c 1000000 (w32 (x3 + 1))), vI (c 1000000 (w32 (x3 + 2))), vI (c 1000000 (w32 (x3 + 3)))] (SH T, c) = some (some (vI r1), (SH T, c2))) (h8 : 0 ≤ (w32 (x3 + 1)) ∧ (w32 (x3 + 1)) < c 1000001 0) (h9 : 0 ≤ (w32 (x3 + 2)) ∧ (w32 (x3 + 2)) < c 1000001 0) (h10 : 0 ≤ (w32 (x3 + 3)) ∧ (w32 (x3 + 3)) < c 1000001 0) (h11 : cal 280 [vR 78, vI (c2 1000000 (w32 (x3 + 1))), vI (c2 1000000 (w32 (x3 + 2))), vI (c2 1000000 (w32 (x3 + 3)))] (SH T, c2) = some (some (vI r3), (SH T, c4))) (h12 : r1 = r3) : ev 356 106 18 [vR (-1), vR 1, vR 78, vI x3] [] (SH T, c) = ev 356 106 1828 [vR (-1), vR 1, vR 78, vI x3] [] (SH T, c4) := by
  refine (ev_eq _ _ _ _ _ _).trans ?_
  refine (if_neg h1).trans ?_
  refine (if_pos h2).trans ?_
  refine (if_neg (by omega)).trans ?_
  refine (if_neg (by omega)).trans ?_
  refine (if_neg (by omega)).trans ?_
  refine (if_neg (by omega)).trans ?_
  refine (if_neg (by omega)).trans ?_
  refine (if_neg (by omega)).trans ?_
  refine (if_neg (by omega)).trans ?_
  refine (if_neg (by omega)).trans ?_
  refine (if_neg (by omega)).trans ?_
  refine (if_neg (by omega)).trans ?_
  refine (if_neg (by omega)).trans ?_
  refine (if_neg (by omega)).trans ?_
  refine (if_neg (by omega)).trans ?_
  refine (if_neg (by omega)).trans ?_
  refine (if_neg (by omega)).trans ?_
  refine (if_neg (by omega)).trans ?_
  refine (if_neg (by omega)).trans ?_
  refine (if_neg (by omega)).trans ?_
  refine (if_neg (by omega)).trans ?_
  refine (if_neg (by omega)).trans ?_
  refine (if_neg (by omega)).trans ?_
  refine (if_neg (by omega)).trans ?_
  refine (if_neg (by omega)).trans ?_
  refine (if_neg (by omega)).trans ?_
  refine (if_neg (by omega)).trans ?_
  refine (if_pos h3).trans ?_
  refine (ev_eq _ _ _ _ _ _).trans ?_
  refine (if_pos h4).trans ?_
  refine (if_pos h5).trans ?_
  refine (if_pos h6).trans ?_
  refine (el_call rfl h7).trans ?_
  refine (if_pos h8).trans ?_
  refine (if_pos h9).trans ?_
  refine (if_pos h10).trans ?_
  refine (el_call rfl h11).trans ?_
  refine (if_pos h12).trans ?_
  rfl
theorem B_L_law_18_53 {T : List Shp} {c : Nat → Int → Int} {x3 : Int} {r1 : Int} {c2 : Nat → Int → Int} {r3 : Int} {c4 : Nat → Int → Int} (h1 : ¬ (w32 ((c 1000001 0) - 6)) < x3) (h2 : 0 ≤ x3 ∧ x3 < c 1000001 0) (h3 : (iand (c 1000000 x3) 63) = 25) (h4 : 0 ≤ (w32 (x3 + 1)) ∧ (w32 (x3 + 1)) < c 1000001 0) (h5 : 0 ≤ (w32 (x3 + 2)) ∧ (w32 (x3 + 2)) < c 1000001 0) (h6 : 0 ≤ (w32 (x3 + 3)) ∧ (w32 (x3 + 3)) < c 1000001 0) (h7 : cal 139 [vR 1, vI (c 1000000 (w32 (x3 + 1))), vI (c 1000000 (w32 (x3 + 2))), vI (c 1000000 (w32 (x3 + 3)))] (SH T, c) = some (some (vI r1), (SH T, c2))) (h8 : 0 ≤ (w32 (x3 + 1)) ∧ (w32 (x3 + 1)) < c 1000001 0) (h9 : 0 ≤ (w32 (x3 + 2)) ∧ (w32 (x3 + 2)) < c 1000001 0) (h10 : 0 ≤ (w32 (x3 + 3)) ∧ (w32 (x3 + 3)) < c 1000001 0) (h11 : cal 280 [vR 78, vI (c2 1000000 (w32 (x3 + 1))), vI (c2 1000000 (w32 (x3 + 2))), vI (c2 1000000 (w32 (x3 + 3)))] (SH T, c2) = some (some (vI r3), (SH T, c4))) (h12 : ¬ r1 = r3) : ev 356 106 18 [vR (-1), vR 1, vR 78, vI x3] [] (SH T, c) = some (some (vI 0), (SH T, c4)) := by
  refine (ev_eq _ _ _ _ _ _).trans ?_
  refine (if_neg h1).trans ?_
  refine (if_pos h2).trans ?_
  refine (if_neg (by omega)).trans ?_
  refine (if_neg (by omega)).trans ?_
  refine (if_neg (by omega)).trans ?_
  refine (if_neg (by omega)).trans ?_
  refine (if_neg (by omega)).trans ?_
  refine (if_neg (by omega)).trans ?_
  refine (if_neg (by omega)).trans ?_
  refine (if_neg (by omega)).trans ?_
  refine (if_neg (by omega)).trans ?_
  refine (if_neg (by omega)).trans ?_
  refine (if_neg (by omega)).trans ?_
  refine (if_neg (by omega)).trans ?_
  refine (if_neg (by omega)).trans ?_
  refine (if_neg (by omega)).trans ?_
  refine (if_neg (by omega)).trans ?_
  refine (if_neg (by omega)).trans ?_
  refine (if_neg (by omega)).trans ?_
  refine (if_neg (by omega)).trans ?_
  refine (if_neg (by omega)).trans ?_
  refine (if_neg (by omega)).trans ?_
  refine (if_neg (by omega)).trans ?_
  refine (if_neg (by omega)).trans ?_
  refine (if_neg (by omega)).trans ?_
  refine (if_neg (by omega)).trans ?_
  refine (if_neg (by omega)).trans ?_
  refine (if_pos h3).trans ?_
  refine (ev_eq _ _ _ _ _ _).trans ?_
  refine (if_pos h4).trans ?_
  refine (if_pos h5).trans ?_
  refine (if_pos h6).trans ?_
  refine (el_call rfl h7).trans ?_
  refine (if_pos h8).trans ?_
  refine (if_pos h9).trans ?_
  refine (if_pos h10).trans ?_
  refine (el_call rfl h11).trans ?_
  refine (if_neg h12).trans ?_
  rfl
theorem B_L_law_18_54 {T : List Shp} {c : Nat → Int → Int} {x3 : Int} {r1 : Int} {c2 : Nat → Int → Int} {r3 : Int} {c4 : Nat → Int → Int} (h1 : ¬ (w32 ((c 1000001 0) - 6)) < x3) (h2 : 0 ≤ x3 ∧ x3 < c 1000001 0) (h3 : (iand (c 1000000 x3) 63) = 26) (h4 : 0 ≤ (w32 (x3 + 1)) ∧ (w32 (x3 + 1)) < c 1000001 0) (h5 : 0 ≤ (w32 (x3 + 2)) ∧ (w32 (x3 + 2)) < c 1000001 0) (h6 : 0 ≤ (w32 (x3 + 3)) ∧ (w32 (x3 + 3)) < c 1000001 0) (h7 : cal 140 [vR 1, vI (c 1000000 (w32 (x3 + 1))), vI (c 1000000 (w32 (x3 + 2))), vI (c 1000000 (w32 (x3 + 3)))] (SH T, c) = some (some (vI r1), (SH T, c2))) (h8 : 0 ≤ (w32 (x3 + 1)) ∧ (w32 (x3 + 1)) < c 1000001 0) (h9 : 0 ≤ (w32 (x3 + 2)) ∧ (w32 (x3 + 2)) < c 1000001 0) (h10 : 0 ≤ (w32 (x3 + 3)) ∧ (w32 (x3 + 3)) < c 1000001 0) (h11 : cal 282 [vR 78, vI (c2 1000000 (w32 (x3 + 1))), vI (c2 1000000 (w32 (x3 + 2))), vI (c2 1000000 (w32 (x3 + 3)))] (SH T, c2) = some (some (vI r3), (SH T, c4))) (h12 : r1 = r3) : ev 356 106 18 [vR (-1), vR 1, vR 78, vI x3] [] (SH T, c) = ev 356 106 1828 [vR (-1), vR 1, vR 78, vI x3] [] (SH T, c4) := by
  refine (ev_eq _ _ _ _ _ _).trans ?_
  refine (if_neg h1).trans ?_
  refine (if_pos h2).trans ?_
  refine (if_neg (by omega)).trans ?_
  refine (if_neg (by omega)).trans ?_
  refine (if_neg (by omega)).trans ?_
  refine (if_neg (by omega)).trans ?_
  refine (if_neg (by omega)).trans ?_
  refine (if_neg (by omega)).trans ?_
  refine (if_neg (by omega)).trans ?_
  refine (if_neg (by omega)).trans ?_
  refine (if_neg (by omega)).trans ?_
  refine (if_neg (by omega)).trans ?_
  refine (if_neg (by omega)).trans ?_
  refine (if_neg (by omega)).trans ?_
  refine (if_neg (by omega)).trans ?_
  refine (if_neg (by omega)).trans ?_
  refine (if_neg (by omega)).trans ?_
  refine (if_neg (by omega)).trans ?_
  refine (if_neg (by omega)).trans ?_
  refine (if_neg (by omega)).trans ?_
  refine (if_neg (by omega)).trans ?_
  refine (if_neg (by omega)).trans ?_
  refine (if_neg (by omega)).trans ?_
  refine (if_neg (by omega)).trans ?_
  refine (if_neg (by omega)).trans ?_
  refine (if_neg (by omega)).trans ?_
  refine (if_neg (by omega)).trans ?_
  refine (if_neg (by omega)).trans ?_
  refine (if_pos h3).trans ?_
  refine (ev_eq _ _ _ _ _ _).trans ?_
  refine (if_pos h4).trans ?_
  refine (if_pos h5).trans ?_
  refine (if_pos h6).trans ?_
  refine (el_call rfl h7).trans ?_
  refine (if_pos h8).trans ?_
  refine (if_pos h9).trans ?_
  refine (if_pos h10).trans ?_
  refine (el_call rfl h11).trans ?_
  refine (if_pos h12).trans ?_
  rfl
theorem B_L_law_18_55 {T : List Shp} {c : Nat → Int → Int} {x3 : Int} {r1 : Int} {c2 : Nat → Int → Int} {r3 : Int} {c4 : Nat → Int → Int} (h1 : ¬ (w32 ((c 1000001 0) - 6)) < x3) (h2 : 0 ≤ x3 ∧ x3 < c 1000001 0) (h3 : (iand (c 1000000 x3) 63) = 26) (h4 : 0 ≤ (w32 (x3 + 1)) ∧ (w32 (x3 + 1)) < c 1000001 0) (h5 : 0 ≤ (w32 (x3 + 2)) ∧ (w32 (x3 + 2)) < c 1000001 0) (h6 : 0 ≤ (w32 (x3 + 3)) ∧ (w32 (x3 + 3)) < c 1000001 0) (h7 : cal 140 [vR 1, vI (c 1000000 (w32 (x3 + 1))), vI (c 1000000 (w32 (x3 + 2))), vI (c 1000000 (w32 (x3 + 3)))] (SH T, c) = some (some (vI r1), (SH T, c2))) (h8 : 0 ≤ (w32 (x3 + 1)) ∧ (w32 (x3 + 1)) < c 1000001 0) (h9 : 0 ≤ (w32 (x3 + 2)) ∧ (w32 (x3 + 2)) < c 1000001 0) (h10 : 0 ≤ (w32 (x3 + 3)) ∧ (w32 (x3 + 3)) < c 1000001 0) (h11 : cal 282 [vR 78, vI (c2 1000000 (w32 (x3 + 1))), vI (c2 1000000 (w32 (x3 + 2))), vI (c2 1000000 (w32 (x3 + 3)))] (SH T, c2) = some (some (vI r3), (SH T, c4))) (h12 : ¬ r1 = r3) : ev 356 106 18 [vR (-1), vR 1, vR 78, vI x3] [] (SH T, c) = some (some (vI 0), (SH T, c4)) := by
  refine (ev_eq _ _ _ _ _ _).trans ?_
  refine (if_neg h1).trans ?_
  refine (if_pos h2).trans ?_
  refine (if_neg (by omega)).trans ?_
  refine (if_neg (by omega)).trans ?_
  refine (if_neg (by omega)).trans ?_
  refine (if_neg (by omega)).trans ?_
  refine (if_neg (by omega)).trans ?_
  refine (if_neg (by omega)).trans ?_
  refine (if_neg (by omega)).trans ?_
  refine (if_neg (by omega)).trans ?_
  refine (if_neg (by omega)).trans ?_
  refine (if_neg (by omega)).trans ?_
  refine (if_neg (by omega)).trans ?_
  refine (if_neg (by omega)).trans ?_
  refine (if_neg (by omega)).trans ?_
  refine (if_neg (by omega)).trans ?_
  refine (if_neg (by omega)).trans ?_
  refine (if_neg (by omega)).trans ?_
  refine (if_neg (by omega)).trans ?_
  refine (if_neg (by omega)).trans ?_
  refine (if_neg (by omega)).trans ?_
  refine (if_neg (by omega)).trans ?_
  refine (if_neg (by omega)).trans ?_
  refine (if_neg (by omega)).trans ?_
  refine (if_neg (by omega)).trans ?_
  refine (if_neg (by omega)).trans ?_
  refine (if_neg (by omega)).trans ?_
  refine (if_neg (by omega)).trans ?_
  refine (if_pos h3).trans ?_
  refine (ev_eq _ _ _ _ _ _).trans ?_
  refine (if_pos h4).trans ?_
  refine (if_pos h5).trans ?_
  refine (if_pos h6).trans ?_
  refine (el_call rfl h7).trans ?_
  refine (if_pos h8).trans ?_
  refine (if_pos h9).trans ?_
  refine (if_pos h10).trans ?_
  refine (el_call rfl h11).trans ?_
  refine (if_neg h12).trans ?_
  rfl
theorem B_L_law_18_56 {T : List Shp} {c : Nat → Int → Int} {x3 : Int} {r1 : Int} {c2 : Nat → Int → Int} {r3 : Int} {c4 : Nat → Int → Int} (h1 : ¬ (w32 ((c 1000001 0) - 6)) < x3) (h2 : 0 ≤ x3 ∧ x3 < c 1000001 0) (h3 : (iand (c 1000000 x3) 63) = 27) (h4 : 0 ≤ (w32 (x3 + 1)) ∧ (w32 (x3 + 1)) < c 1000001 0) (h5 : cal 141 [vR 1, vI (c 1000000 (w32 (x3 + 1)))] (SH T, c) = some (some (vI r1), (SH T, c2))) (h6 : 0 ≤ (w32 (x3 + 1)) ∧ (w32 (x3 + 1)) < c 1000001 0) (h7 : cal 283 [vR 78, vI (c2 1000000 (w32 (x3 + 1)))] (SH T, c2) = some (some (vI r3), (SH T, c4))) (h8 : r1 = r3) : ev 356 106 18 [vR (-1), vR 1, vR 78, vI x3] [] (SH T, c) = ev 356 106 1828 [vR (-1), vR 1, vR 78, vI x3] [] (SH T, c4) := by
  refine (ev_eq _ _ _ _ _ _).trans ?_
  refine (if_neg h1).trans ?_
  refine (if_pos h2).trans ?_
  refine (if_neg (by omega)).trans ?_
  refine (if_neg (by omega)).trans ?_
  refine (if_neg (by omega)).trans ?_
  refine (if_neg (by omega)).trans ?_
  refine (if_neg (by omega)).trans ?_
  refine (if_neg (by omega)).trans ?_
  refine (if_neg (by omega)).trans ?_
  refine (if_neg (by omega)).trans ?_
  refine (if_neg (by omega)).trans ?_
  refine (if_neg (by omega)).trans ?_
  refine (if_neg (by omega)).trans ?_
  refine (if_neg (by omega)).trans ?_
  refine (if_neg (by omega)).trans ?_
  refine (if_neg (by omega)).trans ?_
  refine (if_neg (by omega)).trans ?_
  refine (if_neg (by omega)).trans ?_
  refine (if_neg (by omega)).trans ?_
  refine (if_neg (by omega)).trans ?_
  refine (if_neg (by omega)).trans ?_
  refine (if_neg (by omega)).trans ?_
  refine (if_neg (by omega)).trans ?_
  refine (if_neg (by omega)).trans ?_
  refine (if_neg (by omega)).trans ?_
  refine (if_neg (by omega)).trans ?_
  refine (if_neg (by omega)).trans ?_
  refine (if_neg (by omega)).trans ?_
  refine (if_neg (by omega)).trans ?_
  refine (if_pos h3).trans ?_
  refine (ev_eq _ _ _ _ _ _).trans ?_
  refine (if_pos h4).trans ?_
  refine (el_call rfl h5).trans ?_
  refine (if_pos h6).trans ?_
  refine (el_call rfl h7).trans ?_
  refine (if_pos h8).trans ?_
  rfl
theorem B_L_law_18_57 {T : List Shp} {c : Nat → Int → Int} {x3 : Int} {r1 : Int} {c2 : Nat → Int → Int} {r3 : Int} {c4 : Nat → Int → Int} (h1 : ¬ (w32 ((c 1000001 0) - 6)) < x3) (h2 : 0 ≤ x3 ∧ x3 < c 1000001 0) (h3 : (iand (c 1000000 x3) 63) = 27) (h4 : 0 ≤ (w32 (x3 + 1)) ∧ (w32 (x3 + 1)) < c 1000001 0) (h5 : cal 141 [vR 1, vI (c 1000000 (w32 (x3 + 1)))] (SH T, c) = some (some (vI r1), (SH T, c2))) (h6 : 0 ≤ (w32 (x3 + 1)) ∧ (w32 (x3 + 1)) < c 1000001 0) (h7 : cal 283 [vR 78, vI (c2 1000000 (w32 (x3 + 1)))] (SH T, c2) = some (some (vI r3), (SH T, c4))) (h8 : ¬ r1 = r3) : ev 356 106 18 [vR (-1), vR 1, vR 78, vI x3] [] (SH T, c) = some (some (vI 0), (SH T, c4)) := by
  refine (ev_eq _ _ _ _ _ _).trans ?_
  refine (if_neg h1).trans ?_
  refine (if_pos h2).trans ?_
  refine (if_neg (by omega)).trans ?_
  refine (if_neg (by omega)).trans ?_
  refine (if_neg (by omega)).trans ?_
  refine (if_neg (by omega)).trans ?_
  refine (if_neg (by omega)).trans ?_
  refine (if_neg (by omega)).trans ?_
  refine (if_neg (by omega)).trans ?_
  refine (if_neg (by omega)).trans ?_
  refine (if_neg (by omega)).trans ?_
  refine (if_neg (by omega)).trans ?_
  refine (if_neg (by omega)).trans ?_
  refine (if_neg (by omega)).trans ?_
  refine (if_neg (by omega)).trans ?_
  refine (if_neg (by omega)).trans ?_
  refine (if_neg (by omega)).trans ?_
  refine (if_neg (by omega)).trans ?_
  refine (if_neg (by omega)).trans ?_
  refine (if_neg (by omega)).trans ?_
  refine (if_neg (by omega)).trans ?_
  refine (if_neg (by omega)).trans ?_
  refine (if_neg (by omega)).trans ?_
  refine (if_neg (by omega)).trans ?_
  refine (if_neg (by omega)).trans ?_
  refine (if_neg (by omega)).trans ?_
  refine (if_neg (by omega)).trans ?_
  refine (if_neg (by omega)).trans ?_
  refine (if_neg (by omega)).trans ?_
  refine (if_pos h3).trans ?_
  refine (ev_eq _ _ _ _ _ _).trans ?_
  refine (if_pos h4).trans ?_
  refine (el_call rfl h5).trans ?_
  refine (if_pos h6).trans ?_
  refine (el_call rfl h7).trans ?_
  refine (if_neg h8).trans ?_
  rfl
theorem B_L_law_18_58 {T : List Shp} {c : Nat → Int → Int} {x3 : Int} {r1 : Int} {c2 : Nat → Int → Int} {r3 : Int} {c4 : Nat → Int → Int} (h1 : ¬ (w32 ((c 1000001 0) - 6)) < x3) (h2 : 0 ≤ x3 ∧ x3 < c 1000001 0) (h3 : (iand (c 1000000 x3) 63) = 28) (h4 : cal 142 [vR 1] (SH T, c) = some (some (vI r1), (SH T, c2))) (h5 : cal 286 [vR 78] (SH T, c2) = some (some (vI r3), (SH T, c4))) (h6 : r1 = r3) : ev 356 106 18 [vR (-1), vR 1, vR 78, vI x3] [] (SH T, c) = ev 356 106 1828 [vR (-1), vR 1, vR 78, vI x3] [] (SH T, c4) := by
  refine (ev_eq _ _ _ _ _ _).trans ?_
  refine (if_neg h1).trans ?_
  refine (if_pos h2).trans ?_
  refine (if_neg (by omega)).trans ?_
  refine (if_neg (by omega)).trans ?_
  refine (if_neg (by omega)).trans ?_
  refine (if_neg (by omega)).trans ?_
  refine (if_neg (by omega)).trans ?_
  refine (if_neg (by omega)).trans ?_
  refine (if_neg (by omega)).trans ?_
  refine (if_neg (by omega)).trans ?_
  refine (if_neg (by omega)).trans ?_
  refine (if_neg (by omega)).trans ?_
  refine (if_neg (by omega)).trans ?_
  refine (if_neg (by omega)).trans ?_
  refine (if_neg (by omega)).trans ?_
  refine (if_neg (by omega)).trans ?_
  refine (if_neg (by omega)).trans ?_
  refine (if_neg (by omega)).trans ?_
  refine (if_neg (by omega)).trans ?_
  refine (if_neg (by omega)).trans ?_
  refine (if_neg (by omega)).trans ?_
  refine (if_neg (by omega)).trans ?_
  refine (if_neg (by omega)).trans ?_
  refine (if_neg (by omega)).trans ?_
  refine (if_neg (by omega)).trans ?_
  refine (if_neg (by omega)).trans ?_
  refine (if_neg (by omega)).trans ?_
  refine (if_neg (by omega)).trans ?_
  refine (if_neg (by omega)).trans ?_
  refine (if_neg (by omega)).trans ?_
  refine (if_pos h3).trans ?_
  refine (ev_eq _ _ _ _ _ _).trans ?_
  refine (el_call rfl h4).trans ?_
  refine (el_call rfl h5).trans ?_
  refine (if_pos h6).trans ?_
  rfl
theorem B_L_law_18_59 {T : List Shp} {c : Nat → Int → Int} {x3 : Int} {r1 : Int} {c2 : Nat → Int → Int} {r3 : Int} {c4 : Nat → Int → Int} (h1 : ¬ (w32 ((c 1000001 0) - 6)) < x3) (h2 : 0 ≤ x3 ∧ x3 < c 1000001 0) (h3 : (iand (c 1000000 x3) 63) = 28) (h4 : cal 142 [vR 1] (SH T, c) = some (some (vI r1), (SH T, c2))) (h5 : cal 286 [vR 78] (SH T, c2) = some (some (vI r3), (SH T, c4))) (h6 : ¬ r1 = r3) : ev 356 106 18 [vR (-1), vR 1, vR 78, vI x3] [] (SH T, c) = some (some (vI 0), (SH T, c4)) := by
  refine (ev_eq _ _ _ _ _ _).trans ?_
  refine (if_neg h1).trans ?_
  refine (if_pos h2).trans ?_
  refine (if_neg (by omega)).trans ?_
  refine (if_neg (by omega)).trans ?_
  refine (if_neg (by omega)).trans ?_
  refine (if_neg (by omega)).trans ?_
  refine (if_neg (by omega)).trans ?_
  refine (if_neg (by omega)).trans ?_
  refine (if_neg (by omega)).trans ?_
  refine (if_neg (by omega)).trans ?_
  refine (if_neg (by omega)).trans ?_
  refine (if_neg (by omega)).trans ?_
  refine (if_neg (by omega)).trans ?_
  refine (if_neg (by omega)).trans ?_
  refine (if_neg (by omega)).trans ?_
  refine (if_neg (by omega)).trans ?_
  refine (if_neg (by omega)).trans ?_
  refine (if_neg (by omega)).trans ?_
  refine (if_neg (by omega)).trans ?_
  refine (if_neg (by omega)).trans ?_
  refine (if_neg (by omega)).trans ?_
  refine (if_neg (by omega)).trans ?_
  refine (if_neg (by omega)).trans ?_
  refine (if_neg (by omega)).trans ?_
  refine (if_neg (by omega)).trans ?_
  refine (if_neg (by omega)).trans ?_
  refine (if_neg (by omega)).trans ?_
  refine (if_neg (by omega)).trans ?_
  refine (if_neg (by omega)).trans ?_
  refine (if_neg (by omega)).trans ?_
  refine (if_pos h3).trans ?_
  refine (ev_eq _ _ _ _ _ _).trans ?_
  refine (el_call rfl h4).trans ?_
  refine (el_call rfl h5).trans ?_
  refine (if_neg h6).trans ?_
  rfl
theorem B_L_law_18_60 {T : List Shp} {c : Nat → Int → Int} {x3 : Int} {r1 : Int} {c2 : Nat → Int → Int} {r3 : Int} {c4 : Nat → Int → Int} (h1 : ¬ (w32 ((c 1000001 0) - 6)) < x3) (h2 : 0 ≤ x3 ∧ x3 < c 1000001 0) (h3 : (iand (c 1000000 x3) 63) = 29) (h4 : 0 ≤ (w32 (x3 + 1)) ∧ (w32 (x3 + 1)) < c 1000001 0) (h5 : 0 ≤ (w32 (x3 + 2)) ∧ (w32 (x3 + 2)) < c 1000001 0) (h6 : 0 ≤ (w32 (x3 + 3)) ∧ (w32 (x3 + 3)) < c 1000001 0) (h7 : cal 143 [vR 1, vI (c 1000000 (w32 (x3 + 1))), vI (c 1000000 (w32 (x3 + 2))), vI (c 1000000 (w32 (x3 + 3)))] (SH T, c) = some (some (vI r1), (SH T, c2))) (h8 : 0 ≤ (w32 (x3 + 1)) ∧ (w32 (x3 + 1)) < c 1000001 0) (h9 : 0 ≤ (w32 (x3 + 2)) ∧ (w32 (x3 + 2)) < c 1000001 0) (h10 : 0 ≤ (w32 (x3 + 3)) ∧ (w32 (x3 + 3)) < c 1000001 0) (h11 : cal 287 [vR 78, vI (c2 1000000 (w32 (x3 + 1))), vI (c2 1000000 (w32 (x3 + 2))), vI (c2 1000000 (w32 (x3 + 3)))] (SH T, c2) = some (some (vI r3), (SH T, c4))) (h12 : r1 = r3) : ev 356 106 18 [vR (-1), vR 1, vR 78, vI x3] [] (SH T, c) = ev 356 106 1828 [vR (-1), vR 1, vR 78, vI x3] [] (SH T, c4) := by
  refine (ev_eq _ _ _ _ _ _).trans ?_
  refine (if_neg h1).trans ?_
  refine (if_pos h2).trans ?_
  refine (if_neg (by omega)).trans ?_
  refine (if_neg (by omega)).trans ?_
  refine (if_neg (by omega)).trans ?_
  refine (if_neg (by omega)).trans ?_
  refine (if_neg (by omega)).trans ?_
  refine (if_neg (by omega)).trans ?_
  refine (if_neg (by omega)).trans ?_
  refine (if_neg (by omega)).trans ?_
  refine (if_neg (by omega)).trans ?_
  refine (if_neg (by omega)).trans ?_
  refine (if_neg (by omega)).trans ?_
  refine (if_neg (by omega)).trans ?_
  refine (if_neg (by omega)).trans ?_
  refine (if_neg (by omega)).trans ?_
  refine (if_neg (by omega)).trans ?_
  refine (if_neg (by omega)).trans ?_
  refine (if_neg (by omega)).trans ?_
  refine (if_neg (by omega)).trans ?_
  refine (if_neg (by omega)).trans ?_
  refine (if_neg (by omega)).trans ?_
  refine (if_neg (by omega)).trans ?_
  refine (if_neg (by omega)).trans ?_
  refine (if_neg (by omega)).trans ?_
  refine (if_neg (by omega)).trans ?_
  refine (if_neg (by omega)).trans ?_
  refine (if_neg (by omega)).trans ?_
  refine (if_neg (by omega)).trans ?_
  refine (if_neg (by omega)).trans ?_
  refine (if_neg (by omega)).trans ?_
  refine (if_pos h3).trans ?_
  refine (ev_eq _ _ _ _ _ _).trans ?_
  refine (if_pos h4).trans ?_
  refine (if_pos h5).trans ?_
  refine (if_pos h6).trans ?_
  refine (el_call rfl h7).trans ?_
  refine (if_pos h8).trans ?_
  refine (if_pos h9).trans ?_
  refine (if_pos h10).trans ?_
  refine (el_call rfl h11).trans ?_
  refine (if_pos h12).trans ?_
  rfl
theorem B_L_law_18_61 {T : List Shp} {c : Nat → Int → Int} {x3 : Int} {r1 : Int} {c2 : Nat → Int → Int} {r3 : Int} {c4 : Nat → Int → Int} (h1 : ¬ (w32 ((c 1000001 0) - 6)) < x3) (h2 : 0 ≤ x3 ∧ x3 < c 1000001 0) (h3 : (iand (c 1000000 x3) 63) = 29) (h4 : 0 ≤ (w32 (x3 + 1)) ∧ (w32 (x3 + 1)) < c 1000001 0) (h5 : 0 ≤ (w32 (x3 + 2)) ∧ (w32 (x3 + 2)) < c 1000001 0) (h6 : 0 ≤ (w32 (x3 + 3)) ∧ (w32 (x3 + 3)) < c 1000001 0) (h7 : cal 143 [vR 1, vI (c 1000000 (w32 (x3 + 1))), vI (c 1000000 (w32 (x3 + 2))), vI (c 1000000 (w32 (x3 + 3)))] (SH T, c) = some (some (vI r1), (SH T, c2))) (h8 : 0 ≤ (w32 (x3 + 1)) ∧ (w32 (x3 + 1)) < c 1000001 0) (h9 : 0 ≤ (w32 (x3 + 2)) ∧ (w32 (x3 + 2)) < c 1000001 0) (h10 : 0 ≤ (w32 (x3 + 3)) ∧ (w32 (x3 + 3)) < c 1000001 0) (h11 : cal 287 [vR 78, vI (c2 1000000 (w32 (x3 + 1))), vI (c2 1000000 (w32 (x3 + 2))), vI (c2 1000000 (w32 (x3 + 3)))] (SH T, c2) = some (some (vI r3), (SH T, c4))) (h12 : ¬ r1 = r3) : ev 356 106 18 [vR (-1), vR 1, vR 78, vI x3] [] (SH T, c) = some (some (vI 0), (SH T, c4)) := by
  refine (ev_eq _ _ _ _ _ _).trans ?_
  refine (if_neg h1).trans ?_
  refine (if_pos h2).trans ?_
  refine (if_neg (by omega)).trans ?_
  refine (if_neg (by omega)).trans ?_
  refine (if_neg (by omega)).trans ?_
  refine (if_neg (by omega)).trans ?_
  refine (if_neg (by omega)).trans ?_
  refine (if_neg (by omega)).trans ?_
  refine (if_neg (by omega)).trans ?_
  refine (if_neg (by omega)).trans ?_
  refine (if_neg (by omega)).trans ?_
  refine (if_neg (by omega)).trans ?_
  refine (if_neg (by omega)).trans ?_
  refine (if_neg (by omega)).trans ?_
  refine (if_neg (by omega)).trans ?_
  refine (if_neg (by omega)).trans ?_
  refine (if_neg (by omega)).trans ?_
  refine (if_neg (by omega)).trans ?_
  refine (if_neg (by omega)).trans ?_
  refine (if_neg (by omega)).trans ?_
  refine (if_neg (by omega)).trans ?_
  refine (if_neg (by omega)).trans ?_
  refine (if_neg (by omega)).trans ?_
  refine (if_neg (by omega)).trans ?_
  refine (if_neg (by omega)).trans ?_
  refine (if_neg (by omega)).trans ?_
  refine (if_neg (by omega)).trans ?_
  refine (if_neg (by omega)).trans ?_
  refine (if_neg (by omega)).trans ?_
  refine (if_neg (by omega)).trans ?_
  refine (if_neg (by omega)).trans ?_
  refine (if_pos h3).trans ?_
  refine (ev_eq _ _ _ _ _ _).trans ?_
  refine (if_pos h4).trans ?_
  refine (if_pos h5).trans ?_
  refine (if_pos h6).trans ?_
  refine (el_call rfl h7).trans ?_
  refine (if_pos h8).trans ?_
  refine (if_pos h9).trans ?_
  refine (if_pos h10).trans ?_
  refine (el_call rfl h11).trans ?_
  refine (if_neg h12).trans ?_
  rfl
theorem B_L_law_18_62 {T : List Shp} {c : Nat → Int → Int} {x3 : Int} {r1 : Int} {c2 : Nat → Int → Int} {r3 : Int} {c4 : Nat → Int → Int} (h1 : ¬ (w32 ((c 1000001 0) - 6)) < x3) (h2 : 0 ≤ x3 ∧ x3 < c 1000001 0) (h3 : (iand (c 1000000 x3) 63) = 30) (h4 : cal 144 [vR 1] (SH T, c) = some (some (vI r1), (SH T, c2))) (h5 : cal 288 [vR 78] (SH T, c2) = some (some (vI r3), (SH T, c4))) (h6 : r1 = r3) : ev 356 106 18 [vR (-1), vR 1, vR 78, vI x3] [] (SH T, c) = ev 356 106 1828 [vR (-1), vR 1, vR 78, vI x3] [] (SH T, c4) := by
  refine (ev_eq _ _ _ _ _ _).trans ?_
  refine (if_neg h1).trans ?_
  refine (if_pos h2).trans ?_
  refine (if_neg (by omega)).trans ?_
  refine (if_neg (by omega)).trans ?_
  refine (if_neg (by omega)).trans ?_
  refine (if_neg (by omega)).trans ?_
  refine (if_neg (by omega)).trans ?_
  refine (if_neg (by omega)).trans ?_
  refine (if_neg (by omega)).trans ?_
  refine (if_neg (by omega)).trans ?_
  refine (if_neg (by omega)).trans ?_
  refine (if_neg (by omega)).trans ?_
  refine (if_neg (by omega)).trans ?_
  refine (if_neg (by omega)).trans ?_
  refine (if_neg (by omega)).trans ?_
  refine (if_neg (by omega)).trans ?_
  refine (if_neg (by omega)).trans ?_
  refine (if_neg (by omega)).trans ?_
  refine (if_neg (by omega)).trans ?_
  refine (if_neg (by omega)).trans ?_
  refine (if_neg (by omega)).trans ?_
  refine (if_neg (by omega)).trans ?_
  refine (if_neg (by omega)).trans ?_
  refine (if_neg (by omega)).trans ?_
  refine (if_neg (by omega)).trans ?_
  refine (if_neg (by omega)).trans ?_
  refine (if_neg (by omega)).trans ?_
  refine (if_neg (by omega)).trans ?_
  refine (if_neg (by omega)).trans ?_
  refine (if_neg (by omega)).trans ?_
  refine (if_neg (by omega)).trans ?_
  refine (if_neg (by omega)).trans ?_
  refine (if_pos h3).trans ?_
  refine (ev_eq _ _ _ _ _ _).trans ?_
  refine (el_call rfl h4).trans ?_
  refine (el_call rfl h5).trans ?_
  refine (if_pos h6).trans ?_
  rfl
theorem B_L_law_18_63 {T : List Shp} {c : Nat → Int → Int} {x3 : Int} {r1 : Int} {c2 : Nat → Int → Int} {r3 : Int} {c4 : Nat → Int → Int} (h1 : ¬ (w32 ((c 1000001 0) - 6)) < x3) (h2 : 0 ≤ x3 ∧ x3 < c 1000001 0) (h3 : (iand (c 1000000 x3) 63) = 30) (h4 : cal 144 [vR 1] (SH T, c) = some (some (vI r1), (SH T, c2))) (h5 : cal 288 [vR 78] (SH T, c2) = some (some (vI r3), (SH T, c4))) (h6 : ¬ r1 = r3) : ev 356 106 18 [vR (-1), vR 1, vR 78, vI x3] [] (SH T, c) = some (some (vI 0), (SH T, c4)) := by
  refine (ev_eq _ _ _ _ _ _).trans ?_
  refine (if_neg h1).trans ?_
  refine (if_pos h2).trans ?_
  refine (if_neg (by omega)).trans ?_
  refine (if_neg (by omega)).trans ?_
  refine (if_neg (by omega)).trans ?_
  refine (if_neg (by omega)).trans ?_
  refine (if_neg (by omega)).trans ?_
  refine (if_neg (by omega)).trans ?_
  refine (if_neg (by omega)).trans ?_
  refine (if_neg (by omega)).trans ?_
  refine (if_neg (by omega)).trans ?_
  refine (if_neg (by omega)).trans ?_
  refine (if_neg (by omega)).trans ?_
  refine (if_neg (by omega)).trans ?_
  refine (if_neg (by omega)).trans ?_
  refine (if_neg (by omega)).trans ?_
  refine (if_neg (by omega)).trans ?_
  refine (if_neg (by omega)).trans ?_
  refine (if_neg (by omega)).trans ?_
  refine (if_neg (by omega)).trans ?_
  refine (if_neg (by omega)).trans ?_
  refine (if_neg (by omega)).trans ?_
  refine (if_neg (by omega)).trans ?_
  refine (if_neg (by omega)).trans ?_
  refine (if_neg (by omega)).trans ?_
  refine (if_neg (by omega)).trans ?_
  refine (if_neg (by omega)).trans ?_
  refine (if_neg (by omega)).trans ?_
  refine (if_neg (by omega)).trans ?_
  refine (if_neg (by omega)).trans ?_
  refine (if_neg (by omega)).trans ?_
  refine (if_neg (by omega)).trans ?_
  refine (if_pos h3).trans ?_
  refine (ev_eq _ _ _ _ _ _).trans ?_
  refine (el_call rfl h4).trans ?_
  refine (el_call rfl h5).trans ?_
  refine (if_neg h6).trans ?_
  rfl
theorem B_L_law_18_64 {T : List Shp} {c : Nat → Int → Int} {x3 : Int} {r1 : Int} {c2 : Nat → Int → Int} {r3 : Int} {c4 : Nat → Int → Int} (h1 : ¬ (w32 ((c 1000001 0) - 6)) < x3) (h2 : 0 ≤ x3 ∧ x3 < c 1000001 0) (h3 : (iand (c 1000000 x3) 63) = 31) (h4 : 0 ≤ (w32 (x3 + 1)) ∧ (w32 (x3 + 1)) < c 1000001 0) (h5 : cal 145 [vR 1, vI (c 1000000 (w32 (x3 + 1)))] (SH T, c) = some (some (vI r1), (SH T, c2))) (h6 : 0 ≤ (w32 (x3 + 1)) ∧ (w32 (x3 + 1)) < c 1000001 0) (h7 : cal 291 [vR 78, vI (c2 1000000 (w32 (x3 + 1)))] (SH T, c2) = some (some (vI r3), (SH T, c4))) (h8 : r1 = r3) : ev 356 106 18 [vR (-1), vR 1, vR 78, vI x3] [] (SH T, c) = ev 356 106 1828 [vR (-1), vR 1, vR 78, vI x3] [] (SH T, c4) := by
  refine (ev_eq _ _ _ _ _ _).trans ?_
  refine (if_neg h1).trans ?_
  refine (if_pos h2).trans ?_
  refine (if_neg (by omega)).trans ?_
  refine (if_neg (by omega)).trans ?_
  refine (if_neg (by omega)).trans ?_
  refine (if_neg (by omega)).trans ?_
  refine (if_neg (by omega)).trans ?_
  refine (if_neg (by omega)).trans ?_
  refine (if_neg (by omega)).trans ?_
  refine (if_neg (by omega)).trans ?_
  refine (if_neg (by omega)).trans ?_
  refine (if_neg (by omega)).trans ?_
  refine (if_neg (by omega)).trans ?_
  refine (if_neg (by omega)).trans ?_
  refine (if_neg (by omega)).trans ?_
  refine (if_neg (by omega)).trans ?_
  refine (if_neg (by omega)).trans ?_
  refine (if_neg (by omega)).trans ?_
  refine (if_neg (by omega)).trans ?_
  refine (if_neg (by omega)).trans ?_
  refine (if_neg (by omega)).trans ?_
  refine (if_neg (by omega)).trans ?_
  refine (if_neg (by omega)).trans ?_
  refine (if_neg (by omega)).trans ?_
  refine (if_neg (by omega)).trans ?_
  refine (if_neg (by omega)).trans ?_
  refine (if_neg (by omega)).trans ?_
  refine (if_neg (by omega)).trans ?_
  refine (if_neg (by omega)).trans ?_
  refine (if_neg (by omega)).trans ?_
  refine (if_neg (by omega)).trans ?_
  refine (if_neg (by omega)).trans ?_
  refine (if_neg (by omega)).trans ?_
  refine (if_pos h3).trans ?_
  refine (ev_eq _ _ _ _ _ _).trans ?_
  refine (if_pos h4).trans ?_
  refine (el_call rfl h5).trans ?_
  refine (if_pos h6).trans ?_
  refine (el_call rfl h7).trans ?_
  refine (if_pos h8).trans ?_
  rfl
theorem B_L_law_18_65 {T : List Shp} {c : Nat → Int → Int} {x3 : Int} {r1 : Int} {c2 : Nat → Int → Int} {r3 : Int} {c4 : Nat → Int → Int} (h1 : ¬ (w32 ((c 1000001 0) - 6)) < x3) (h2 : 0 ≤ x3 ∧ x3 < c 1000001 0) (h3 : (iand (c 1000000 x3) 63) = 31) (h4 : 0 ≤ (w32 (x3 + 1)) ∧ (w32 (x3 + 1)) < c 1000001 0) (h5 : cal 145 [vR 1, vI (c 1000000 (w32 (x3 + 1)))] (SH T, c) = some (some (vI r1), (SH T, c2))) (h6 : 0 ≤ (w32 (x3 + 1)) ∧ (w32 (x3 + 1)) < c 1000001 0) (h7 : cal 291 [vR 78, vI (c2 1000000 (w32 (x3 + 1)))] (SH T, c2) = some (some (vI r3), (SH T, c4))) (h8 : ¬ r1 = r3) : ev 356 106 18 [vR (-1), vR 1, vR 78, vI x3] [] (SH T, c) = some (some (vI 0), (SH T, c4)) := by
  refine (ev_eq _ _ _ _ _ _).trans ?_
  refine (if_neg h1).trans ?_
  refine (if_pos h2).trans ?_
  refine (if_neg (by omega)).trans ?_
  refine (if_neg (by omega)).trans ?_
  refine (if_neg (by omega)).trans ?_
  refine (if_neg (by omega)).trans ?_
  refine (if_neg (by omega)).trans ?_
  refine (if_neg (by omega)).trans ?_
  refine (if_neg (by omega)).trans ?_
  refine (if_neg (by omega)).trans ?_
  refine (if_neg (by omega)).trans ?_
  refine (if_neg (by omega)).trans ?_
  refine (if_neg (by omega)).trans ?_
  refine (if_neg (by omega)).trans ?_
  refine (if_neg (by omega)).trans ?_
  refine (if_neg (by omega)).trans ?_
  refine (if_neg (by omega)).trans ?_
  refine (if_neg (by omega)).trans ?_
  refine (if_neg (by omega)).trans ?_
  refine (if_neg (by omega)).trans ?_
  refine (if_neg (by omega)).trans ?_
  refine (if_neg (by omega)).trans ?_
  refine (if_neg (by omega)).trans ?_
  refine (if_neg (by omega)).trans ?_
  refine (if_neg (by omega)).trans ?_
  refine (if_neg (by omega)).trans ?_
  refine (if_neg (by omega)).trans ?_
  refine (if_neg (by omega)).trans ?_
  refine (if_neg (by omega)).trans ?_
  refine (if_neg (by omega)).trans ?_
  refine (if_neg (by omega)).trans ?_
  refine (if_neg (by omega)).trans ?_
  refine (if_neg (by omega)).trans ?_
  refine (if_pos h3).trans ?_
  refine (ev_eq _ _ _ _ _ _).trans ?_
  refine (if_pos h4).trans ?_
  refine (el_call rfl h5).trans ?_
  refine (if_pos h6).trans ?_
  refine (el_call rfl h7).trans ?_
  refine (if_neg h8).trans ?_
  rfl
theorem B_L_law_18_66 {T : List Shp} {c : Nat → Int → Int} {x3 : Int} {r1 : Int} {c2 : Nat → Int → Int} {r3 : Int} {c4 : Nat → Int → Int} (h1 : ¬ (w32 ((c 1000001 0) - 6)) < x3) (h2 : 0 ≤ x3 ∧ x3 < c 1000001 0) (h3 : (iand (c 1000000 x3) 63) = 32) (h4 : 0 ≤ (w32 (x3 + 1)) ∧ (w32 (x3 + 1)) < c 1000001 0) (h5 : 0 ≤ (w32 (x3 + 2)) ∧ (w32 (x3 + 2)) < c 1000001 0) (h6 : cal 146 [vR 1, vI (c 1000000 (w32 (x3 + 1))), vI (c 1000000 (w32 (x3 + 2)))] (SH T, c) = some (some (vI r1), (SH T, c2))) (h7 : 0 ≤ (w32 (x3 + 1)) ∧ (w32 (x3 + 1)) < c 1000001 0) (h8 : 0 ≤ (w32 (x3 + 2)) ∧ (w32 (x3 + 2)) < c 1000001 0) (h9 : cal 293 [vR 78, vI (c2 1000000 (w32 (x3 + 1))), vI (c2 1000000 (w32 (x3 + 2)))] (SH T, c2) = some (some (vI r3), (SH T, c4))) (h10 : r1 = r3) : ev 356 106 18 [vR (-1), vR 1, vR 78, vI x3] [] (SH T, c) = ev 356 106 1828 [vR (-1), vR 1, vR 78, vI x3] [] (SH T, c4) := by
  refine (ev_eq _ _ _ _ _ _).trans ?_
  refine (if_neg h1).trans ?_
  refine (if_pos h2).trans ?_
  refine (if_neg (by omega)).trans ?_
  refine (if_neg (by omega)).trans ?_
  refine (if_neg (by omega)).trans ?_
  refine (if_neg (by omega)).trans ?_
  refine (if_neg (by omega)).trans ?_
  refine (if_neg (by omega)).trans ?_
  refine (if_neg (by omega)).trans ?_
  refine (if_neg (by omega)).trans ?_
  refine (if_neg (by omega)).trans ?_
  refine (if_neg (by omega)).trans ?_
  refine (if_neg (by omega)).trans ?_
  refine (if_neg (by omega)).trans ?_
  refine (if_neg (by omega)).trans ?_
  refine (if_neg (by omega)).trans ?_
  refine (if_neg (by omega)).trans ?_
  refine (if_neg (by omega)).trans ?_
  refine (if_neg (by omega)).trans ?_
  refine (if_neg (by omega)).trans ?_
  refine (if_neg (by omega)).trans ?_
  refine (if_neg (by omega)).trans ?_
  refine (if_neg (by omega)).trans ?_
  refine (if_neg (by omega)).trans ?_
  refine (if_neg (by omega)).trans ?_
  refine (if_neg (by omega)).trans ?_
  refine (if_neg (by omega)).trans ?_
  refine (if_neg (by omega)).trans ?_
  refine (if_neg (by omega)).trans ?_
  refine (if_neg (by omega)).trans ?_
  refine (if_neg (by omega)).trans ?_
  refine (if_neg (by omega)).trans ?_
  refine (if_neg (by omega)).trans ?_
  refine (if_neg (by omega)).trans ?_
  refine (if_pos h3).trans ?_
  refine (ev_eq _ _ _ _ _ _).trans ?_
  refine (if_pos h4).trans ?_
  refine (if_pos h5).trans ?_
  refine (el_call rfl h6).trans ?_
  refine (if_pos h7).trans ?_
  refine (if_pos h8).trans ?_
  refine (el_call rfl h9).trans ?_
  refine (if_pos h10).trans ?_
  rfl
theorem B_L_law_18_67 {T : List Shp} {c : Nat → Int → Int} {x3 : Int} {r1 : Int} {c2 : Nat → Int → Int} {r3 : Int} {c4 : Nat → Int → Int} (h1 : ¬ (w32 ((c 1000001 0) - 6)) < x3) (h2 : 0 ≤ x3 ∧ x3 < c 1000001 0) (h3 : (iand (c 1000000 x3) 63) = 32) (h4 : 0 ≤ (w32 (x3 + 1)) ∧ (w32 (x3 + 1)) < c 1000001 0) (h5 : 0 ≤ (w32 (x3 + 2)) ∧ (w32 (x3 + 2)) < c 1000001 0) (h6 : cal 146 [vR 1, vI (c 1000000 (w32 (x3 + 1))), vI (c 1000000 (w32 (x3 + 2)))] (SH T, c) = some (some (vI r1), (SH T, c2))) (h7 : 0 ≤ (w32 (x3 + 1)) ∧ (w32 (x3 + 1)) < c 1000001 0) (h8 : 0 ≤ (w32 (x3 + 2)) ∧ (w32 (x3 + 2)) < c 1000001 0) (h9 : cal 293 [vR 78, vI (c2 1000000 (w32 (x3 + 1))), vI (c2 1000000 (w32 (x3 + 2)))] (SH T, c2) = some (some (vI r3), (SH T, c4))) (h10 : ¬ r1 = r3) : ev 356 106 18 [vR (-1), vR 1, vR 78, vI x3] [] (SH T, c) = some (some (vI 0), (SH T, c4)) := by
  refine (ev_eq _ _ _ _ _ _).trans ?_
  refine (if_neg h1).trans ?_
  refine (if_pos h2).trans ?_
  refine (if_neg (by omega)).trans ?_
  refine (if_neg (by omega)).trans ?_
  refine (if_neg (by omega)).trans ?_
  refine (if_neg (by omega)).trans ?_
  refine (if_neg (by omega)).trans ?_
  refine (if_neg (by omega)).trans ?_
  refine (if_neg (by omega)).trans ?_
  refine (if_neg (by omega)).trans ?_
  refine (if_neg (by omega)).trans ?_
  refine (if_neg (by omega)).trans ?_
  refine (if_neg (by omega)).trans ?_
  refine (if_neg (by omega)).trans ?_
  refine (if_neg (by omega)).trans ?_
  refine (if_neg (by omega)).trans ?_
  refine (if_neg (by omega)).trans ?_
  refine (if_neg (by omega)).trans ?_
  refine (if_neg (by omega)).trans ?_
  refine (if_neg (by omega)).trans ?_
  refine (if_neg (by omega)).trans ?_
  refine (if_neg (by omega)).trans ?_
  refine (if_neg (by omega)).trans ?_
  refine (if_neg (by omega)).trans ?_
  refine (if_neg (by omega)).trans ?_
  refine (if_neg (by omega)).trans ?_
  refine (if_neg (by omega)).trans ?_
  refine (if_neg (by omega)).trans ?_
  refine (if_neg (by omega)).trans ?_
  refine (if_neg (by omega)).trans ?_
  refine (if_neg (by omega)).trans ?_
  refine (if_neg (by omega)).trans ?_
  refine (if_neg (by omega)).trans ?_
  refine (if_neg (by omega)).trans ?_
  refine (if_pos h3).trans ?_
  refine (ev_eq _ _ _ _ _ _).trans ?_
  refine (if_pos h4).trans ?_
  refine (if_pos h5).trans ?_
  refine (el_call rfl h6).trans ?_
  refine (if_pos h7).trans ?_
  refine (if_pos h8).trans ?_
  refine (el_call rfl h9).trans ?_
  refine (if_neg h10).trans ?_
  rfl
theorem B_L_law_18_68 {T : List Shp} {c : Nat → Int → Int} {x3 : Int} {r1 : Int} {c2 : Nat → Int → Int} {r3 : Int} {c4 : Nat → Int → Int} (h1 : ¬ (w32 ((c 1000001 0) - 6)) < x3) (h2 : 0 ≤ x3 ∧ x3 < c 1000001 0) (h3 : (iand (c 1000000 x3) 63) = 33) (h4 : 0 ≤ (w32 (x3 + 1)) ∧ (w32 (x3 + 1)) < c 1000001 0) (h5 : cal 147 [vR 1, vI (c 1000000 (w32 (x3 + 1)))] (SH T, c) = some (some (vI r1), (SH T, c2))) (h6 : 0 ≤ (w32 (x3 + 1)) ∧ (w32 (x3 + 1)) < c 1000001 0) (h7 : cal 296 [vR 78, vI (c2 1000000 (w32 (x3 + 1)))] (SH T, c2) = some (some (vI r3), (SH T, c4))) (h8 : r1 = r3) : ev 356 106 18 [vR (-1), vR 1, vR 78, vI x3] [] (SH T, c) = ev 356 106 1828 [vR (-1), vR 1, vR 78, vI x3] [] (SH T, c4) := by
  refine (ev_eq _ _ _ _ _ _).trans ?_
  refine (if_neg h1).trans ?_
  refine (if_pos h2).trans ?_
  refine (if_neg (by omega)).trans ?_
  refine (if_neg (by omega)).trans ?_
  refine (if_neg (by omega)).trans ?_
  refine (if_neg (by omega)).trans ?_
  refine (if_neg (by omega)).trans ?_
  refine (if_neg (by omega)).trans ?_
  refine (if_neg (by omega)).trans ?_
  refine (if_neg (by omega)).trans ?_
  refine (if_neg (by omega)).trans ?_
  refine (if_neg (by omega)).trans ?_
  refine (if_neg (by omega)).trans ?_
  refine (if_neg (by omega)).trans ?_
  refine (if_neg (by omega)).trans ?_
  refine (if_neg (by omega)).trans ?_
  refine (if_neg (by omega)).trans ?_
  refine (if_neg (by omega)).trans ?_
  refine (if_neg (by omega)).trans ?_
  refine (if_neg (by omega)).trans ?_
  refine (if_neg (by omega)).trans ?_
  refine (if_neg (by omega)).trans ?_
  refine (if_neg (by omega)).trans ?_
  refine (if_neg (by omega)).trans ?_
  refine (if_neg (by omega)).trans ?_
  refine (if_neg (by omega)).trans ?_
  refine (if_neg (by omega)).trans ?_
  refine (if_neg (by omega)).trans ?_
  refine (if_neg (by omega)).trans ?_
  refine (if_neg (by omega)).trans ?_
  refine (if_neg (by omega)).trans ?_
  refine (if_neg (by omega)).trans ?_
  refine (if_neg (by omega)).trans ?_
  refine (if_neg (by omega)).trans ?_
  refine (if_neg (by omega)).trans ?_
  refine (if_pos h3).trans ?_
  refine (ev_eq _ _ _ _ _ _).trans ?_
  refine (if_pos h4).trans ?_
  refine (el_call rfl h5).trans ?_
  refine (if_pos h6).trans ?_
  refine (el_call rfl h7).trans ?_
  refine (if_pos h8).trans ?_
  rfl
theorem B_L_law_18_69 {T : List Shp} {c : Nat → Int → Int} {x3 : Int} {r1 : Int} {c2 : Nat → Int → Int} {r3 : Int} {c4 : Nat → Int → Int} (h1 : ¬ (w32 ((c 1000001 0) - 6)) < x3) (h2 : 0 ≤ x3 ∧ x3 < c 1000001 0) (h3 : (iand (c 1000000 x3) 63) = 33) (h4 : 0 ≤ (w32 (x3 + 1)) ∧ (w32 (x3 + 1)) < c 1000001 0) (h5 : cal 147 [vR 1, vI (c 1000000 (w32 (x3 + 1)))] (SH T, c) = some (some (vI r1), (SH T, c2))) (h6 : 0 ≤ (w32 (x3 + 1)) ∧ (w32 (x3 + 1)) < c 1000001 0) (h7 : cal 296 [vR 78, vI (c2 1000000 (w32 (x3 + 1)))] (SH T, c2) = some (some (vI r3), (SH T, c4))) (h8 : ¬ r1 = r3) : ev 356 106 18 [vR (-1), vR 1, vR 78, vI x3] [] (SH T, c) = some (some (vI 0), (SH T, c4)) := by
  refine (ev_eq _ _ _ _ _ _).trans ?_
  refine (if_neg h1).trans ?_
  refine (if_pos h2).trans ?_
  refine (if_neg (by omega)).trans ?_
  refine (if_neg (by omega)).trans ?_
  refine (if_neg (by omega)).trans ?_
  refine (if_neg (by omega)).trans ?_
  refine (if_neg (by omega)).trans ?_
  refine (if_neg (by omega)).trans ?_
  refine (if_neg (by omega)).trans ?_
  refine (if_neg (by omega)).trans ?_
  refine (if_neg (by omega)).trans ?_
  refine (if_neg (by omega)).trans ?_
  refine (if_neg (by omega)).trans ?_
  refine (if_neg (by omega)).trans ?_
  refine (if_neg (by omega)).trans ?_
  refine (if_neg (by omega)).trans ?_
  refine (if_neg (by omega)).trans ?_
  refine (if_neg (by omega)).trans ?_
  refine (if_neg (by omega)).trans ?_
  refine (if_neg (by omega)).trans ?_
  refine (if_neg (by omega)).trans ?_
  refine (if_neg (by omega)).trans ?_
  refine (if_neg (by omega)).trans ?_
  refine (if_neg (by omega)).trans ?_
  refine (if_neg (by omega)).trans ?_
  refine (if_neg (by omega)).trans ?_
  refine (if_neg (by omega)).trans ?_
  refine (if_neg (by omega)).trans ?_
  refine (if_neg (by omega)).trans ?_
  refine (if_neg (by omega)).trans ?_
  refine (if_neg (by omega)).trans ?_
  refine (if_neg (by omega)).trans ?_
  refine (if_neg (by omega)).trans ?_
  refine (if_neg (by omega)).trans ?_
  refine (if_neg (by omega)).trans ?_
  refine (if_pos h3).trans ?_
  refine (ev_eq _ _ _ _ _ _).trans ?_
  refine (if_pos h4).trans ?_
  refine (el_call rfl h5).trans ?_
  refine (if_pos h6).trans ?_
  refine (el_call rfl h7).trans ?_
  refine (if_neg h8).trans ?_
  rfl
theorem B_L_law_18_70 {T : List Shp} {c : Nat → Int → Int} {x3 : Int} {r1 : Int} {c2 : Nat → Int → Int} {r3 : Int} {c4 : Nat → Int → Int} (h1 : ¬ (w32 ((c 1000001 0) - 6)) < x3) (h2 : 0 ≤ x3 ∧ x3 < c 1000001 0) (h3 : (iand (c 1000000 x3) 63) = 34) (h4 : cal 148 [vR 1] (SH T, c) = some (some (vI r1), (SH T, c2))) (h5 : cal 297 [vR 78] (SH T, c2) = some (some (vI r3), (SH T, c4))) (h6 : r1 = r3) : ev 356 106 18 [vR (-1), vR 1, vR 78, vI x3] [] (SH T, c) = ev 356 106 1828 [vR (-1), vR 1, vR 78, vI x3] [] (SH T, c4) := by
  refine (ev_eq _ _ _ _ _ _).trans ?_
  refine (if_neg h1).trans ?_
  refine (if_pos h2).trans ?_
  refine (if_neg (by omega)).trans ?_
  refine (if_neg (by omega)).trans ?_
  refine (if_neg (by omega)).trans ?_
  refine (if_neg (by omega)).trans ?_
  refine (if_neg (by omega)).trans ?_
  refine (if_neg (by omega)).trans ?_
  refine (if_neg (by omega)).trans ?_
  refine (if_neg (by omega)).trans ?_
  refine (if_neg (by omega)).trans ?_
  refine (if_neg (by omega)).trans ?_
  refine (if_neg (by omega)).trans ?_
  refine (if_neg (by omega)).trans ?_
  refine (if_neg (by omega)).trans ?_
  refine (if_neg (by omega)).trans ?_
  refine (if_neg (by omega)).trans ?_
  refine (if_neg (by omega)).trans ?_
  refine (if_neg (by omega)).trans ?_
  refine (if_neg (by omega)).trans ?_
  refine (if_neg (by omega)).trans ?_
  refine (if_neg (by omega)).trans ?_
  refine (if_neg (by omega)).trans ?_
  refine (if_neg (by omega)).trans ?_
  refine (if_neg (by omega)).trans ?_
  refine (if_neg (by omega)).trans ?_
  refine (if_neg (by omega)).trans ?_
  refine (if_neg (by omega)).trans ?_
  refine (if_neg (by omega)).trans ?_
  refine (if_neg (by omega)).trans ?_
  refine (if_neg (by omega)).trans ?_
  refine (if_neg (by omega)).trans ?_
  refine (if_neg (by omega)).trans ?_
  refine (if_neg (by omega)).trans ?_
  refine (if_neg (by omega)).trans ?_
  refine (if_neg (by omega)).trans ?_
  refine (if_pos h3).trans ?_
  refine (ev_eq _ _ _ _ _ _).trans ?_
  refine (el_call rfl h4).trans ?_
  refine (el_call rfl h5).trans ?_
  refine (if_pos h6).trans ?_
  rfl
theorem B_L_law_18_71 {T : List Shp} {c : Nat → Int → Int} {x3 : Int} {r1 : Int} {c2 : Nat → Int → Int} {r3 : Int} {c4 : Nat → Int → Int} (h1 : ¬ (w32 ((c 1000001 0) - 6)) < x3) (h2 : 0 ≤ x3 ∧ x3 < c 1000001 0) (h3 : (iand (c 1000000 x3) 63) = 34) (h4 : cal 148 [vR 1] (SH T, c) = some (some (vI r1), (SH T, c2))) (h5 : cal 297 [vR 78] (SH T, c2) = some (some (vI r3), (SH T, c4))) (h6 : ¬ r1 = r3) : ev 356 106 18 [vR (-1), vR 1, vR 78, vI x3] [] (SH T, c) = some (some (vI 0), (SH T, c4)) := by
  refine (ev_eq _ _ _ _ _ _).trans ?_
  refine (if_neg h1).trans ?_
  refine (if_pos h2).trans ?_
  refine (if_neg (by omega)).trans ?_
  refine (if_neg (by omega)).trans ?_
  refine (if_neg (by omega)).trans ?_
  refine (if_neg (by omega)).trans ?_
  refine (if_neg (by omega)).trans ?_
  refine (if_neg (by omega)).trans ?_
  refine (if_neg (by omega)).trans ?_
  refine (if_neg (by omega)).trans ?_
  refine (if_neg (by omega)).trans ?_
  refine (if_neg (by omega)).trans ?_
  refine (if_neg (by omega)).trans ?_
  refine (if_neg (by omega)).trans ?_
  refine (if_neg (by omega)).trans ?_
  refine (if_neg (by omega)).trans ?_
  refine (if_neg (by omega)).trans ?_
  refine (if_neg (by omega)).trans ?_
  refine (if_neg (by omega)).trans ?_
  refine (if_neg (by omega)).trans ?_
  refine (if_neg (by omega)).trans ?_
  refine (if_neg (by omega)).trans ?_
  refine (if_neg (by omega)).trans ?_
  refine (if_neg (by omega)).trans ?_
  refine (if_neg (by omega)).trans ?_
  refine (if_neg (by omega)).trans ?_
  refine (if_neg (by omega)).trans ?_
  refine (if_neg (by omega)).trans ?_
  refine (if_neg (by omega)).trans ?_
  refine (if_neg (by omega)).trans ?_
  refine (if_neg (by omega)).trans ?_
  refine (if_neg (by omega)).trans ?_
  refine (if_neg (by omega)).trans ?_
  refine (if_neg (by omega)).trans ?_
  refine (if_neg (by omega)).trans ?_
  refine (if_neg (by omega)).trans ?_
  refine (if_pos h3).trans ?_
  refine (ev_eq _ _ _ _ _ _).trans ?_
  refine (el_call rfl h4).trans ?_
  refine (el_call rfl h5).trans ?_
  refine (if_neg h6).trans ?_
  rfl
theorem B_L_law_18_72 {T : List Shp} {c : Nat → Int → Int} {x3 : Int} {r1 : Int} {c2 : Nat → Int → Int} {r3 : Int} {c4 : Nat → Int → Int} (h1 : ¬ (w32 ((c 1000001 0) - 6)) < x3) (h2 : 0 ≤ x3 ∧ x3 < c 1000001 0) (h3 : (iand (c 1000000 x3) 63) = 35) (h4 : 0 ≤ (w32 (x3 + 1)) ∧ (w32 (x3 + 1)) < c 1000001 0) (h5 : 0 ≤ (w32 (x3 + 2)) ∧ (w32 (x3 + 2)) < c 1000001 0) (h6 : cal 149 [vR 1, vI (c 1000000 (w32 (x3 + 1))), vI (c 1000000 (w32 (x3 + 2)))] (SH T, c) = some (some (vI r1), (SH T, c2))) (h7 : 0 ≤ (w32 (x3 + 1)) ∧ (w32 (x3 + 1)) < c 1000001 0) (h8 : 0 ≤ (w32 (x3 + 2)) ∧ (w32 (x3 + 2)) < c 1000001 0) (h9 : cal 298 [vR 78, vI (c2 1000000 (w32 (x3 + 1))), vI (c2 1000000 (w32 (x3 + 2)))] (SH T, c2) = some (some (vI r3), (SH T, c4))) (h10 : r1 = r3) : ev 356 106 18 [vR (-1), vR 1, vR 78, vI x3] [] (SH T, c) = ev 356 106 1828 [vR (-1), vR 1, vR 78, vI x3] [] (SH T, c4) := by
  refine (ev_eq _ _ _ _ _ _).trans ?_
  refine (if_neg h1).trans ?_
  refine (if_pos h2).trans ?_
  refine (if_neg (by omega)).trans ?_
  refine (if_neg (by omega)).trans ?_
  refine (if_neg (by omega)).trans ?_
  refine (if_neg (by omega)).trans ?_
  refine (if_neg (by omega)).trans ?_
  refine (if_neg (by omega)).trans ?_
  refine (if_neg (by omega)).trans ?_
  refine (if_neg (by omega)).trans ?_
  refine (if_neg (by omega)).trans ?_
  refine (if_neg (by omega)).trans ?_
  refine (if_neg (by omega)).trans ?_
  refine (if_neg (by omega)).trans ?_
  refine (if_neg (by omega)).trans ?_
  refine (if_neg (by omega)).trans ?_
  refine (if_neg (by omega)).trans ?_
  refine (if_neg (by omega)).trans ?_
  refine (if_neg (by omega)).trans ?_
  refine (if_neg (by omega)).trans ?_
  refine (if_neg (by omega)).trans ?_
  refine (if_neg (by omega)).trans ?_
  refine (if_neg (by omega)).trans ?_
  refine (if_neg (by omega)).trans ?_
  refine (if_neg (by omega)).trans ?_
  refine (if_neg (by omega)).trans ?_
  refine (if_neg (by omega)).trans ?_
  refine (if_neg (by omega)).trans ?_
  refine (if_neg (by omega)).trans ?_
  refine (if_neg (by omega)).trans ?_
  refine (if_neg (by omega)).trans ?_
  refine (if_neg (by omega)).trans ?_
  refine (if_neg (by omega)).trans ?_
  refine (if_neg (by omega)).trans ?_
  refine (if_neg (by omega)).trans ?_
  refine (if_neg (by omega)).trans ?_
  refine (if_neg (by omega)).trans ?_
  refine (if_pos h3).trans ?_
  refine (ev_eq _ _ _ _ _ _).trans ?_
  refine (if_pos h4).trans ?_
  refine (if_pos h5).trans ?_
  refine (el_call rfl h6).trans ?_
  refine (if_pos h7).trans ?_
  refine (if_pos h8).trans ?_
  refine (el_call rfl h9).trans ?_
  refine (if_pos h10).trans ?_
  rfl
theorem B_L_law_18_73 {T : List Shp} {c : Nat → Int → Int} {x3 : Int} {r1 : Int} {c2 : Nat → Int → Int} {r3 : Int} {c4 : Nat → Int → Int} (h1 : ¬ (w32 ((c 1000001 0) - 6)) < x3) (h2 : 0 ≤ x3 ∧ x3 < c 1000001 0) (h3 : (iand (c 1000000 x3) 63) = 35) (h4 : 0 ≤ (w32 (x3 + 1)) ∧ (w32 (x3 + 1)) < c 1000001 0) (h5 : 0 ≤ (w32 (x3 + 2)) ∧ (w32 (x3 + 2)) < c 1000001 0) (h6 : cal 149 [vR 1, vI (c 1000000 (w32 (x3 + 1))), vI (c 1000000 (w32 (x3 + 2)))] (SH T, c) = some (some (vI r1), (SH T, c2))) (h7 : 0 ≤ (w32 (x3 + 1)) ∧ (w32 (x3 + 1)) < c 1000001 0) (h8 : 0 ≤ (w32 (x3 + 2)) ∧ (w32 (x3 + 2)) < c 1000001 0) (h9 : cal 298 [vR 78, vI (c2 1000000 (w32 (x3 + 1))), vI (c2 1000000 (w32 (x3 + 2)))] (SH T, c2) = some (some (vI r3), (SH T, c4))) (h10 : ¬ r1 = r3) : ev 356 106 18 [vR (-1), vR 1, vR 78, vI x3] [] (SH T, c) = some (some (vI 0), (SH T, c4)) := by
  refine (ev_eq _ _ _ _ _ _).trans ?_
  refine (if_neg h1).trans ?_
  refine (if_pos h2).trans ?_
  refine (if_neg (by omega)).trans ?_
  refine (if_neg (by omega)).trans ?_
  refine (if_neg (by omega)).trans ?_
  refine (if_neg (by omega)).trans ?_
  refine (if_neg (by omega)).trans ?_
  refine (if_neg (by omega)).trans ?_
  refine (if_neg (by omega)).trans ?_
  refine (if_neg (by omega)).trans ?_
  refine (if_neg (by omega)).trans ?_
  refine (if_neg (by omega)).trans ?_
  refine (if_neg (by omega)).trans ?_
  refine (if_neg (by omega)).trans ?_
  refine (if_neg (by omega)).trans ?_
  refine (if_neg (by omega)).trans ?_
  refine (if_neg (by omega)).trans ?_
  refine (if_neg (by omega)).trans ?_
  refine (if_neg (by omega)).trans ?_
  refine (if_neg (by omega)).trans ?_
  refine (if_neg (by omega)).trans ?_
  refine (if_neg (by omega)).trans ?_
  refine (if_neg (by omega)).trans ?_
  refine (if_neg (by omega)).trans ?_
  refine (if_neg (by omega)).trans ?_
  refine (if_neg (by omega)).trans ?_
  refine (if_neg (by omega)).trans ?_
  refine (if_neg (by omega)).trans ?_
  refine (if_neg (by omega)).trans ?_
  refine (if_neg (by omega)).trans ?_
  refine (if_neg (by omega)).trans ?_
  refine (if_neg (by omega)).trans ?_
  refine (if_neg (by omega)).trans ?_
  refine (if_neg (by omega)).trans ?_
  refine (if_neg (by omega)).trans ?_
  refine (if_neg (by omega)).trans ?_
  refine (if_neg (by omega)).trans ?_
  refine (if_pos h3).trans ?_
  refine (ev_eq _ _ _ _ _ _).trans ?_
  refine (if_pos h4).trans ?_
  refine (if_pos h5).trans ?_
  refine (el_call rfl h6).trans ?_
  refine (if_pos h7).trans ?_
  refine (if_pos h8).trans ?_
  refine (el_call rfl h9).trans ?_
  refine (if_neg h10).trans ?_
  rfl
theorem B_L_law_18_74 {T : List Shp} {c : Nat → Int → Int} {x3 : Int} {r1 : Int} {c2 : Nat → Int → Int} {r3 : Int} {c4 : Nat → Int → Int} (h1 : ¬ (w32 ((c 1000001 0) - 6)) < x3) (h2 : 0 ≤ x3 ∧ x3 < c 1000001 0) (h3 : (iand (c 1000000 x3) 63) = 36) (h4 : 0 ≤ (w32 (x3 + 1)) ∧ (w32 (x3 + 1)) < c 1000001 0) (h5 : cal 150 [vR 1, vI (c 1000000 (w32 (x3 + 1)))] (SH T, c) = some (some (vI r1), (SH T, c2))) (h6 : 0 ≤ (w32 (x3 + 1)) ∧ (w32 (x3 + 1)) < c 1000001 0) (h7 : cal 301 [vR 78, vI (c2 1000000 (w32 (x3 + 1)))] (SH T, c2) = some (some (vI r3), (SH T, c4))) (h8 : r1 = r3) : ev 356 106 18 [vR (-1), vR 1, vR 78, vI x3] [] (SH T, c) = ev 356 106 1828 [vR (-1), vR 1, vR 78, vI x3] [] (SH T, c4) := by
  refine (ev_eq _ _ _ _ _ _).trans ?_
  refine (if_neg h1).trans ?_
  refine (if_pos h2).trans ?_
  refine (if_neg (by omega)).trans ?_
  refine (if_neg (by omega)).trans ?_
  refine (if_neg (by omega)).trans ?_
  refine (if_neg (by omega)).trans ?_
  refine (if_neg (by omega)).trans ?_
  refine (if_neg (by omega)).trans ?_
  refine (if_neg (by omega)).trans ?_
  refine (if_neg (by omega)).trans ?_
  refine (if_neg (by omega)).trans ?_
  refine (if_neg (by omega)).trans ?_
  refine (if_neg (by omega)).trans ?_
  refine (if_neg (by omega)).trans ?_
  refine (if_neg (by omega)).trans ?_
  refine (if_neg (by omega)).trans ?_
  refine (if_neg (by omega)).trans ?_
  refine (if_neg (by omega)).trans ?_
  refine (if_neg (by omega)).trans ?_
  refine (if_neg (by omega)).trans ?_
  refine (if_neg (by omega)).trans ?_
  refine (if_neg (by omega)).trans ?_
  refine (if_neg (by omega)).trans ?_
  refine (if_neg (by omega)).trans ?_
  refine (if_neg (by omega)).trans ?_
  refine (if_neg (by omega)).trans ?_
  refine (if_neg (by omega)).trans ?_
  refine (if_neg (by omega)).trans ?_
  refine (if_neg (by omega)).trans ?_
  refine (if_neg (by omega)).trans ?_
  refine (if_neg (by omega)).trans ?_
  refine (if_neg (by omega)).trans ?_
  refine (if_neg (by omega)).trans ?_
  refine (if_neg (by omega)).trans ?_
  refine (if_neg (by omega)).trans ?_
  refine (if_neg (by omega)).trans ?_
  refine (if_neg (by omega)).trans ?_
  refine (if_neg (by omega)).trans ?_
  refine (if_pos h3).trans ?_
  refine (ev_eq _ _ _ _ _ _).trans ?_
  refine (if_pos h4).trans ?_
  refine (el_call rfl h5).trans ?_
  refine (if_pos h6).trans ?_
  refine (el_call rfl h7).trans ?_
  refine (if_pos h8).trans ?_
  rfl
theorem B_L_law_18_75 {T : List Shp} {c : Nat → Int → Int} {x3 : Int} {r1 : Int} {c2 : Nat → Int → Int} {r3 : Int} {c4 : Nat → Int → Int} (h1 : ¬ (w32 ((c 1000001 0) - 6)) < x3) (h2 : 0 ≤ x3 ∧ x3 < c 1000001 0) (h3 : (iand (c 1000000 x3) 63) = 36) (h4 : 0 ≤ (w32 (x3 + 1)) ∧ (w32 (x3 + 1)) < c 1000001 0) (h5 : cal 150 [vR 1, vI (c 1000000 (w32 (x3 + 1)))] (SH T, c) = some (some (vI r1), (SH T, c2))) (h6 : 0 ≤ (w32 (x3 + 1)) ∧ (w32 (x3 + 1)) < c 1000001 0) (h7 : cal 301 [vR 78, vI (c2 1000000 (w32 (x3 + 1)))] (SH T, c2) = some (some (vI r3), (SH T, c4))) (h8 : ¬ r1 = r3) : ev 356 106 18 [vR (-1), vR 1, vR 78, vI x3] [] (SH T, c) = some (some (vI 0), (SH T, c4)) := by
  refine (ev_eq _ _ _ _ _ _).trans ?_
  refine (if_neg h1).trans ?_
  refine (if_pos h2).trans ?_
  refine (if_neg (by omega)).trans ?_
  refine (if_neg (by omega)).trans ?_
  refine (if_neg (by omega)).trans ?_
  refine (if_neg (by omega)).trans ?_
  refine (if_neg (by omega)).trans ?_
  refine (if_neg (by omega)).trans ?_
  refine (if_neg (by omega)).trans ?_
  refine (if_neg (by omega)).trans ?_
  refine (if_neg (by omega)).trans ?_
  refine (if_neg (by omega)).trans ?_
  refine (if_neg (by omega)).trans ?_
  refine (if_neg (by omega)).trans ?_
  refine (if_neg (by omega)).trans ?_
  refine (if_neg (by omega)).trans ?_
  refine (if_neg (by omega)).trans ?_
  refine (if_neg (by omega)).trans ?_
  refine (if_neg (by omega)).trans ?_
  refine (if_neg (by omega)).trans ?_
  refine (if_neg (by omega)).trans ?_
  refine (if_neg (by omega)).trans ?_
  refine (if_neg (by omega)).trans ?_
  refine (if_neg (by omega)).trans ?_
  refine (if_neg (by omega)).trans ?_
  refine (if_neg (by omega)).trans ?_
  refine (if_neg (by omega)).trans ?_
  refine (if_neg (by omega)).trans ?_
  refine (if_neg (by omega)).trans ?_
  refine (if_neg (by omega)).trans ?_
  refine (if_neg (by omega)).trans ?_
  refine (if_neg (by omega)).trans ?_
  refine (if_neg (by omega)).trans ?_
  refine (if_neg (by omega)).trans ?_
  refine (if_neg (by omega)).trans ?_
  refine (if_neg (by omega)).trans ?_
  refine (if_neg (by omega)).trans ?_
  refine (if_neg (by omega)).trans ?_
  refine (if_pos h3).trans ?_
  refine (ev_eq _ _ _ _ _ _).trans ?_
  refine (if_pos h4).trans ?_
  refine (el_call rfl h5).trans ?_
  refine (if_pos h6).trans ?_
  refine (el_call rfl h7).trans ?_
  refine (if_neg h8).trans ?_
  rfl
theorem B_L_law_18_76 {T : List Shp} {c : Nat → Int → Int} {x3 : Int} {r1 : Int} {c2 : Nat → Int → Int} {r3 : Int} {c4 : Nat → Int → Int} (h1 : ¬ (w32 ((c 1000001 0) - 6)) < x3) (h2 : 0 ≤ x3 ∧ x3 < c 1000001 0) (h3 : (iand (c 1000000 x3) 63) = 37) (h4 : 0 ≤ (w32 (x3 + 1)) ∧ (w32 (x3 + 1)) < c 1000001 0) (h5 : cal 151 [vR 1, vI (c 1000000 (w32 (x3 + 1)))] (SH T, c) = some (some (vI r1), (SH T, c2))) (h6 : 0 ≤ (w32 (x3 + 1)) ∧ (w32 (x3 + 1)) < c 1000001 0) (h7 : cal 303 [vR 78, vI (c2 1000000 (w32 (x3 + 1)))] (SH T, c2) = some (some (vI r3), (SH T, c4))) (h8 : r1 = r3) : ev 356 106 18 [vR (-1), vR 1, vR 78, vI x3] [] (SH T, c) = ev 356 106 1828 [vR (-1), vR 1, vR 78, vI x3] [] (SH T, c4) := by
  refine (ev_eq _ _ _ _ _ _).trans ?_
  refine (if_neg h1).trans ?_
  refine (if_pos h2).trans ?_
  refine (if_neg (by omega)).trans ?_
  refine (if_neg (by omega)).trans ?_
  refine (if_neg (by omega)).trans ?_
  refine (if_neg (by omega)).trans ?_
  refine (if_neg (by omega)).trans ?_
  refine (if_neg (by omega)).trans ?_
  refine (if_neg (by omega)).trans ?_
  refine (if_neg (by omega)).trans ?_
  refine (if_neg (by omega)).trans ?_
  refine (if_neg (by omega)).trans ?_
  refine (if_neg (by omega)).trans ?_
  refine (if_neg (by omega)).trans ?_
  refine (if_neg (by omega)).trans ?_
  refine (if_neg (by omega)).trans ?_
  refine (if_neg (by omega)).trans ?_
  refine (if_neg (by omega)).trans ?_
  refine (if_neg (by omega)).trans ?_
  refine (if_neg (by omega)).trans ?_
  refine (if_neg (by omega)).trans ?_
  refine (if_neg (by omega)).trans ?_
  refine (if_neg (by omega)).trans ?_
  refine (if_neg (by omega)).trans ?_
  refine (if_neg (by omega)).trans ?_
  refine (if_neg (by omega)).trans ?_
  refine (if_neg (by omega)).trans ?_
  refine (if_neg (by omega)).trans ?_
  refine (if_neg (by omega)).trans ?_
  refine (if_neg (by omega)).trans ?_
  refine (if_neg (by omega)).trans ?_
  refine (if_neg (by omega)).trans ?_
  refine (if_neg (by omega)).trans ?_
  refine (if_neg (by omega)).trans ?_
  refine (if_neg (by omega)).trans ?_
  refine (if_neg (by omega)).trans ?_
  refine (if_neg (by omega)).trans ?_
  refine (if_neg (by omega)).trans ?_
  refine (if_neg (by omega)).trans ?_
  refine (if_pos h3).trans ?_
  refine (ev_eq _ _ _ _ _ _).trans ?_
  refine (if_pos h4).trans ?_
  refine (el_call rfl h5).trans ?_
  refine (if_pos h6).trans ?_
  refine (el_call rfl h7).trans ?_
  refine (if_pos h8).trans ?_
  rfl
theorem B_L_law_18_77 {T : List Shp} {c : Nat → Int → Int} {x3 : Int} {r1 : Int} {c2 : Nat → Int → Int} {r3 : Int} {c4 : Nat → Int → Int} (h1 : ¬ (w32 ((c 1000001 0) - 6)) < x3) (h2 : 0 ≤ x3 ∧ x3 < c 1000001 0) (h3 : (iand (c 1000000 x3) 63) = 37) (h4 : 0 ≤ (w32 (x3 + 1)) ∧ (w32 (x3 + 1)) < c 1000001 0) (h5 : cal 151 [vR 1, vI (c 1000000 (w32 (x3 + 1)))] (SH T, c) = some (some (vI r1), (SH T, c2))) (h6 : 0 ≤ (w32 (x3 + 1)) ∧ (w32 (x3 + 1)) < c 1000001 0) (h7 : cal 303 [vR 78, vI (c2 1000000 (w32 (x3 + 1)))] (SH T, c2) = some (some (vI r3), (SH T, c4))) (h8 : ¬ r1 = r3) : ev 356 106 18 [vR (-1), vR 1, vR 78, vI x3] [] (SH T, c) = some (some (vI 0), (SH T, c4)) := by
  refine (ev_eq _ _ _ _ _ _).trans ?_
  refine (if_neg h1).trans ?_
  refine (if_pos h2).trans ?_
  refine (if_neg (by omega)).trans ?_
  refine (if_neg (by omega)).trans ?_
  refine (if_neg (by omega)).trans ?_
  refine (if_neg (by omega)).trans ?_
  refine (if_neg (by omega)).trans ?_
  refine (if_neg (by omega)).trans ?_
  refine (if_neg (by omega)).trans ?_
  refine (if_neg (by omega)).trans ?_
  refine (if_neg (by omega)).trans ?_
  refine (if_neg (by omega)).trans ?_
  refine (if_neg (by omega)).trans ?_
  refine (if_neg (by omega)).trans ?_
  refine (if_neg (by omega)).trans ?_
  refine (if_neg (by omega)).trans ?_
  refine (if_neg (by omega)).trans ?_
  refine (if_neg (by omega)).trans ?_
  refine (if_neg (by omega)).trans ?_
  refine (if_neg (by omega)).trans ?_
  refine (if_neg (by omega)).trans ?_
  refine (if_neg (by omega)).trans ?_
  refine (if_neg (by omega)).trans ?_
  refine (if_neg (by omega)).trans ?_
  refine (if_neg (by omega)).trans ?_
  refine (if_neg (by omega)).trans ?_
  refine (if_neg (by omega)).trans ?_
  refine (if_neg (by omega)).trans ?_
  refine (if_neg (by omega)).trans ?_
  refine (if_neg (by omega)).trans ?_
  refine (if_neg (by omega)).trans ?_
  refine (if_neg (by omega)).trans ?_
  refine (if_neg (by omega)).trans ?_
  refine (if_neg (by omega)).trans ?_
  refine (if_neg (by omega)).trans ?_
  refine (if_neg (by omega)).trans ?_
  refine (if_neg (by omega)).trans ?_
  refine (if_neg (by omega)).trans ?_
  refine (if_neg (by omega)).trans ?_
  refine (if_pos h3).trans ?_
  refine (ev_eq _ _ _ _ _ _).trans ?_
  refine (if_pos h4).trans ?_
  refine (el_call rfl h5).trans ?_
  refine (if_pos h6).trans ?_
  refine (el_call rfl h7).trans ?_
  refine (if_neg h8).trans ?_
  rfl
theorem B_L_law_18_78 {T : List Shp} {c : Nat → Int → Int} {x3 : Int} {r1 : Int} {c2 : Nat → Int → Int} {r3 : Int} {c4 : Nat → Int → Int} (h1 : ¬ (w32 ((c 1000001 0) - 6)) < x3) (h2 : 0 ≤ x3 ∧ x3 < c 1000001 0) (h3 : (iand (c 1000000 x3) 63) = 38) (h4 : 0 ≤ (w32 (x3 + 1)) ∧ (w32 (x3 + 1)) < c 1000001 0) (h5 : 0 ≤ (w32 (x3 + 2)) ∧ (w32 (x3 + 2)) < c 1000001 0) (h6 : 0 ≤ (w32 (x3 + 3)) ∧ (w32 (x3 + 3)) < c 1000001 0) (h7 : cal 152 [vR 1, vI (c 1000000 (w32 (x3 + 1))), vI (c 1000000 (w32 (x3 + 2))), vI (c 1000000 (w32 (x3 + 3)))] (SH T, c) = some (some (vI r1), (SH T, c2))) (h8 : 0 ≤ (w32 (x3 + 1)) ∧ (w32 (x3 + 1)) < c 1000001 0) (h9 : 0 ≤ (w32 (x3 + 2)) ∧ (w32 (x3 + 2)) < c 1000001 0) (h10 : 0 ≤ (w32 (x3 + 3)) ∧ (w32 (x3 + 3)) < c 1000001 0) (h11 : cal 304 [vR 78, vI (c2 1000000 (w32 (x3 + 1))), vI (c2 1000000 (w32 (x3 + 2))), vI (c2 1000000 (w32 (x3 + 3)))] (SH T, c2) = some (some (vI r3), (SH T, c4))) (h12 : r1 = r3) : ev 356 106 18 [vR (-1), vR 1, vR 78, vI x3] [] (SH T, c) = ev 356 106 1828 [vR (-1), vR 1, vR 78, vI x3] [] (SH T, c4) := by
  refine (ev_eq _ _ _ _ _ _).trans ?_
  refine (if_neg h1).trans ?_
  refine (if_pos h2).trans ?_
  refine (if_neg (by omega)).trans ?_
  refine (if_neg (by omega)).trans ?_
  refine (if_neg (by omega)).trans ?_
  refine (if_neg (by omega)).trans ?_
  refine (if_neg (by omega)).trans ?_
  refine (if_neg (by omega)).trans ?_
  refine (if_neg (by omega)).trans ?_
  refine (if_neg (by omega)).trans ?_
  refine (if_neg (by omega)).trans ?_
  refine (if_neg (by omega)).trans ?_
  refine (if_neg (by omega)).trans ?_
  refine (if_neg (by omega)).trans ?_
  refine (if_neg (by omega)).trans ?_
  refine (if_neg (by omega)).trans ?_
  refine (if_neg (by omega)).trans ?_
  refine (if_neg (by omega)).trans ?_
  refine (if_neg (by omega)).trans ?_
  refine (if_neg (by omega)).trans ?_
  refine (if_neg (by omega)).trans ?_
  refine (if_neg (by omega)).trans ?_
  refine (if_neg (by omega)).trans ?_
  refine (if_neg (by omega)).trans ?_
  refine (if_neg (by omega)).trans ?_
  refine (if_neg (by omega)).trans ?_
  refine (if_neg (by omega)).trans ?_
  refine (if_neg (by omega)).trans ?_
  refine (if_neg (by omega)).trans ?_
  refine (if_neg (by omega)).trans ?_
  refine (if_neg (by omega)).trans ?_
  refine (if_neg (by omega)).trans ?_
  refine (if_neg (by omega)).trans ?_
  refine (if_neg (by omega)).trans ?_
  refine (if_neg (by omega)).trans ?_
  refine (if_neg (by omega)).trans ?_
  refine (if_neg (by omega)).trans ?_
  refine (if_neg (by omega)).trans ?_
  refine (if_neg (by omega)).trans ?_
  refine (if_neg (by omega)).trans ?_
  refine (if_pos h3).trans ?_
  refine (ev_eq _ _ _ _ _ _).trans ?_
  refine (if_pos h4).trans ?_
  refine (if_pos h5).trans ?_
  refine (if_pos h6).trans ?_
  refine (el_call rfl h7).trans ?_
  refine (if_pos h8).trans ?_
  refine (if_pos h9).trans ?_
  refine (if_pos h10).trans ?_
  refine (el_call rfl h11).trans ?_
  refine (if_pos h12).trans ?_
  rfl
theorem B_L_law_18_79 {T : List Shp} {c : Nat → Int → Int} {x3 : Int} {r1 : Int} {c2 : Nat → Int → Int} {r3 : Int} {c4 : Nat → Int → Int} (h1 : ¬ (w32 ((c 1000001 0) - 6)) < x3) (h2 : 0 ≤ x3 ∧ x3 < c 1000001 0) (h3 : (iand (c 1000000 x3) 63) = 38) (h4 : 0 ≤ (w32 (x3 + 1)) ∧ (w32 (x3 + 1)) < c 1000001 0) (h5 : 0 ≤ (w32 (x3 + 2)) ∧ (w32 (x3 + 2)) < c 1000001 0) (h6 : 0 ≤ (w32 (x3 + 3)) ∧ (w32 (x3 + 3)) < c 1000001 0) (h7 : cal 152 [vR 1, vI (c 1000000 (w32 (x3 + 1))), vI (c 1000000 (w32 (x3 + 2))), vI (c 1000000 (w32 (x3 + 3)))] (SH T, c) = some (some (vI r1), (SH T, c2))) (h8 : 0 ≤ (w32 (x3 + 1)) ∧ (w32 (x3 + 1)) < c 1000001 0) (h9 : 0 ≤ (w32 (x3 + 2)) ∧ (w32 (x3 + 2)) < c 1000001 0) (h10 : 0 ≤ (w32 (x3 + 3)) ∧ (w32 (x3 + 3)) < c 1000001 0) (h11 : cal 304 [vR 78, vI (c2 1000000 (w32 (x3 + 1))), vI (c2 1000000 (w32 (x3 + 2))), vI (c2 1000000 (w32 (x3 + 3)))] (SH T, c2) = some (some (vI r3), (SH T, c4))) (h12 : ¬ r1 = r3) : ev 356 106 18 [vR (-1), vR 1, vR 78, vI x3] [] (SH T, c) = some (some (vI 0), (SH T, c4)) := by
  refine (ev_eq _ _ _ _ _ _).trans ?_
  refine (if_neg h1).trans ?_
  refine (if_pos h2).trans ?_
  refine (if_neg (by omega)).trans ?_
  refine (if_neg (by omega)).trans ?_
  refine (if_neg (by omega)).trans ?_
  refine (if_neg (by omega)).trans ?_
  refine (if_neg (by omega)).trans ?_
  refine (if_neg (by omega)).trans ?_
  refine (if_neg (by omega)).trans ?_
  refine (if_neg (by omega)).trans ?_
  refine (if_neg (by omega)).trans ?_
  refine (if_neg (by omega)).trans ?_
  refine (if_neg (by omega)).trans ?_
  refine (if_neg (by omega)).trans ?_
  refine (if_neg (by omega)).trans ?_
  refine (if_neg (by omega)).trans ?_
  refine (if_neg (by omega)).trans ?_
  refine (if_neg (by omega)).trans ?_
  refine (if_neg (by omega)).trans ?_
  refine (if_neg (by omega)).trans ?_
  refine (if_neg (by omega)).trans ?_
  refine (if_neg (by omega)).trans ?_
  refine (if_neg (by omega)).trans ?_
  refine (if_neg (by omega)).trans ?_
  refine (if_neg (by omega)).trans ?_
  refine (if_neg (by omega)).trans ?_
  refine (if_neg (by omega)).trans ?_
  refine (if_neg (by omega)).trans ?_
  refine (if_neg (by omega)).trans ?_
  refine (if_neg (by omega)).trans ?_
  refine (if_neg (by omega)).trans ?_
  refine (if_neg (by omega)).trans ?_
  refine (if_neg (by omega)).trans ?_
  refine (if_neg (by omega)).trans ?_
  refine (if_neg (by omega)).trans ?_
  refine (if_neg (by omega)).trans ?_
  refine (if_neg (by omega)).trans ?_
  refine (if_neg (by omega)).trans ?_
  refine (if_neg (by omega)).trans ?_
  refine (if_neg (by omega)).trans ?_
  refine (if_pos h3).trans ?_
  refine (ev_eq _ _ _ _ _ _).trans ?_
  refine (if_pos h4).trans ?_
  refine (if_pos h5).trans ?_
  refine (if_pos h6).trans ?_
  refine (el_call rfl h7).trans ?_
  refine (if_pos h8).trans ?_
  refine (if_pos h9).trans ?_
  refine (if_pos h10).trans ?_
  refine (el_call rfl h11).trans ?_
  refine (if_neg h12).trans ?_
  rfl
theorem B_L_law_18_80 {T : List Shp} {c : Nat → Int → Int} {x3 : Int} {r1 : Int} {c2 : Nat → Int → Int} {r3 : Int} {c4 : Nat → Int → Int} (h1 : ¬ (w32 ((c 1000001 0) - 6)) < x3) (h2 : 0 ≤ x3 ∧ x3 < c 1000001 0) (h3 : (iand (c 1000000 x3) 63) = 39) (h4 : cal 153 [vR 1] (SH T, c) = some (some (vI r1), (SH T, c2))) (h5 : cal 305 [vR 78] (SH T, c2) = some (some (vI r3), (SH T, c4))) (h6 : r1 = r3) : ev 356 106 18 [vR (-1), vR 1, vR 78, vI x3] [] (SH T, c) = ev 356 106 1828 [vR (-1), vR 1, vR 78, vI x3] [] (SH T, c4) := by
  refine (ev_eq _ _ _ _ _ _).trans ?_
  refine (if_neg h1).trans ?_
  refine (if_pos h2).trans ?_
  refine (if_neg (by omega)).trans ?_
  refine (if_neg (by omega)).trans ?_
  refine (if_neg (by omega)).trans ?_
  refine (if_neg (by omega)).trans ?_
  refine (if_neg (by omega)).trans ?_
  refine (if_neg (by omega)).trans ?_
  refine (if_neg (by omega)).trans ?_
  refine (if_neg (by omega)).trans ?_
  refine (if_neg (by omega)).trans ?_
  refine (if_neg (by omega)).trans ?_
  refine (if_neg (by omega)).trans ?_
  refine (if_neg (by omega)).trans ?_
  refine (if_neg (by omega)).trans ?_
  refine (if_neg (by omega)).trans ?_
  refine (if_neg (by omega)).trans ?_
  refine (if_neg (by omega)).trans ?_
  refine (if_neg (by omega)).trans ?_
  refine (if_neg (by omega)).trans ?_
  refine (if_neg (by omega)).trans ?_
  refine (if_neg (by omega)).trans ?_
  refine (if_neg (by omega)).trans ?_
  refine (if_neg (by omega)).trans ?_
  refine (if_neg (by omega)).trans ?_
  refine (if_neg (by omega)).trans ?_
  refine (if_neg (by omega)).trans ?_
  refine (if_neg (by omega)).trans ?_
  refine (if_neg (by omega)).trans ?_
  refine (if_neg (by omega)).trans ?_
  refine (if_neg (by omega)).trans ?_
  refine (if_neg (by omega)).trans ?_
  refine (if_neg (by omega)).trans ?_
  refine (if_neg (by omega)).trans ?_
  refine (if_neg (by omega)).trans ?_
  refine (if_neg (by omega)).trans ?_
  refine (if_neg (by omega)).trans ?_
  refine (if_neg (by omega)).trans ?_
  refine (if_neg (by omega)).trans ?_
  refine (if_neg (by omega)).trans ?_
  refine (if_neg (by omega)).trans ?_
  refine (if_pos h3).trans ?_
  refine (ev_eq _ _ _ _ _ _).trans ?_
  refine (el_call rfl h4).trans ?_
  refine (el_call rfl h5).trans ?_
  refine (if_pos h6).trans ?_
  rfl
theorem B_L_law_18_81 {T : List Shp} {c : Nat → Int → Int} {x3 : Int} {r1 : Int} {c2 : Nat → Int → Int} {r3 : Int} {c4 : Nat → Int → Int} (h1 : ¬ (w32 ((c 1000001 0) - 6)) < x3) (h2 : 0 ≤ x3 ∧ x3 < c 1000001 0) (h3 : (iand (c 1000000 x3) 63) = 39) (h4 : cal 153 [vR 1] (SH T, c) = some (some (vI r1), (SH T, c2))) (h5 : cal 305 [vR 78] (SH T, c2) = some (some (vI r3), (SH T, c4))) (h6 : ¬ r1 = r3) : ev 356 106 18 [vR (-1), vR 1, vR 78, vI x3] [] (SH T, c) = some (some (vI 0), (SH T, c4)) := by
  refine (ev_eq _ _ _ _ _ _).trans ?_
  refine (if_neg h1).trans ?_
  refine (if_pos h2).trans ?_
  refine (if_neg (by omega)).trans ?_
  refine (if_neg (by omega)).trans ?_
  refine (if_neg (by omega)).trans ?_
  refine (if_neg (by omega)).trans ?_
  refine (if_neg (by omega)).trans ?_
  refine (if_neg (by omega)).trans ?_
  refine (if_neg (by omega)).trans ?_
  refine (if_neg (by omega)).trans ?_
  refine (if_neg (by omega)).trans ?_
  refine (if_neg (by omega)).trans ?_
  refine (if_neg (by omega)).trans ?_
  refine (if_neg (by omega)).trans ?_
  refine (if_neg (by omega)).trans ?_
  refine (if_neg (by omega)).trans ?_
  refine (if_neg (by omega)).trans ?_
  refine (if_neg (by omega)).trans ?_
  refine (if_neg (by omega)).trans ?_
  refine (if_neg (by omega)).trans ?_
  refine (if_neg (by omega)).trans ?_
  refine (if_neg (by omega)).trans ?_
  refine (if_neg (by omega)).trans ?_
  refine (if_neg (by omega)).trans ?_
  refine (if_neg (by omega)).trans ?_
  refine (if_neg (by omega)).trans ?_
  refine (if_neg (by omega)).trans ?_
  refine (if_neg (by omega)).trans ?_
  refine (if_neg (by omega)).trans ?_
  refine (if_neg (by omega)).trans ?_
  refine (if_neg (by omega)).trans ?_
  refine (if_neg (by omega)).trans ?_
  refine (if_neg (by omega)).trans ?_
  refine (if_neg (by omega)).trans ?_
  refine (if_neg (by omega)).trans ?_
  refine (if_neg (by omega)).trans ?_
  refine (if_neg (by omega)).trans ?_
  refine (if_neg (by omega)).trans ?_
  refine (if_neg (by omega)).trans ?_
  refine (if_neg (by omega)).trans ?_
  refine (if_neg (by omega)).trans ?_
  refine (if_pos h3).trans ?_
  refine (ev_eq _ _ _ _ _ _).trans ?_
  refine (el_call rfl h4).trans ?_
  refine (el_call rfl h5).trans ?_
  refine (if_neg h6).trans ?_
  rfl
theorem B_L_law_18_82 {T : List Shp} {c : Nat → Int → Int} {x3 : Int} {r1 : Int} {c2 : Nat → Int → Int} {r3 : Int} {c4 : Nat → Int → Int} (h1 : ¬ (w32 ((c 1000001 0) - 6)) < x3) (h2 : 0 ≤ x3 ∧ x3 < c 1000001 0) (h3 : (iand (c 1000000 x3) 63) = 40) (h4 : 0 ≤ (w32 (x3 + 1)) ∧ (w32 (x3 + 1)) < c 1000001 0) (h5 : 0 ≤ (w32 (x3 + 2)) ∧ (w32 (x3 + 2)) < c 1000001 0) (h6 : cal 154 [vR 1, vI (c 1000000 (w32 (x3 + 1))), vI (c 1000000 (w32 (x3 + 2)))] (SH T, c) = some (some (vI r1), (SH T, c2))) (h7 : 0 ≤ (w32 (x3 + 1)) ∧ (w32 (x3 + 1)) < c 1000001 0) (h8 : 0 ≤ (w32 (x3 + 2)) ∧ (w32 (x3 + 2)) < c 1000001 0) (h9 : cal 306 [vR 78, vI (c2 1000000 (w32 (x3 + 1))), vI (c2 1000000 (w32 (x3 + 2)))] (SH T, c2) = some (some (vI r3), (SH T, c4))) (h10 : r1 = r3) : ev 356 106 18 [vR (-1), vR 1, vR 78, vI x3] [] (SH T, c) = ev 356 106 1828 [vR (-1), vR 1, vR 78, vI x3] [] (SH T, c4) := by
  refine (ev_eq _ _ _ _ _ _).trans ?_
  refine (if_neg h1).trans ?_
  refine (if_pos h2).trans ?_
  refine (if_neg (by omega)).trans ?_
  refine (if_neg (by omega)).trans ?_
  refine (if_neg (by omega)).trans ?_
  refine (if_neg (by omega)).trans ?_
  refine (if_neg (by omega)).trans ?_
  refine (if_neg (by omega)).trans ?_
  refine (if_neg (by omega)).trans ?_
  refine (if_neg (by omega)).trans ?_
  refine (if_neg (by omega)).trans ?_
  refine (if_neg (by omega)).trans ?_
  refine (if_neg (by omega)).trans ?_
  refine (if_neg (by omega)).trans ?_
  refine (if_neg (by omega)).trans ?_
  refine (if_neg (by omega)).trans ?_
  refine (if_neg (by omega)).trans ?_
  refine (if_neg (by omega)).trans ?_
  refine (if_neg (by omega)).trans ?_
  refine (if_neg (by omega)).trans ?_
  refine (if_neg (by omega)).trans ?_
  refine (if_neg (by omega)).trans ?_
  refine (if_neg (by omega)).trans ?_
  refine (if_neg (by omega)).trans ?_
  refine (if_neg (by omega)).trans ?_
  refine (if_neg (by omega)).trans ?_
  refine (if_neg (by omega)).trans ?_
  refine (if_neg (by omega)).trans ?_
  refine (if_neg (by omega)).trans ?_
  refine (if_neg (by omega)).trans ?_
  refine (if_neg (by omega)).trans ?_
  refine (if_neg (by omega)).trans ?_
  refine (if_neg (by omega)).trans ?_
  refine (if_neg (by omega)).trans ?_
  refine (if_neg (by omega)).trans ?_
  refine (if_neg (by omega)).trans ?_
  refine (if_neg (by omega)).trans ?_
  refine (if_neg (by omega)).trans ?_
  refine (if_neg (by omega)).trans ?_
  refine (if_neg (by omega)).trans ?_
  refine (if_neg (by omega)).trans ?_
  refine (if_neg (by omega)).trans ?_
  refine (if_pos h3).trans ?_
  refine (ev_eq _ _ _ _ _ _).trans ?_
  refine (if_pos h4).trans ?_
  refine (if_pos h5).trans ?_
  refine (el_call rfl h6).trans ?_
  refine (if_pos h7).trans ?_
  refine (if_pos h8).trans ?_
  refine (el_call rfl h9).trans ?_
  refine (if_pos h10).trans ?_
  rfl
theorem B_L_law_18_83 {T : List Shp} {c : Nat → Int → Int} {x3 : Int} {r1 : Int} {c2 : Nat → Int → Int} {r3 : Int} {c4 : Nat → Int → Int} (h1 : ¬ (w32 ((c 1000001 0) - 6)) < x3) (h2 : 0 ≤ x3 ∧ x3 < c 1000001 0) (h3 : (iand (c 1000000 x3) 63) = 40) (h4 : 0 ≤ (w32 (x3 + 1)) ∧ (w32 (x3 + 1)) < c 1000001 0) (h5 : 0 ≤ (w32 (x3 + 2)) ∧ (w32 (x3 + 2)) < c 1000001 0) (h6 : cal 154 [vR 1, vI (c 1000000 (w32 (x3 + 1))), vI (c 1000000 (w32 (x3 + 2)))] (SH T, c) = some (some (vI r1), (SH T, c2))) (h7 : 0 ≤ (w32 (x3 + 1)) ∧ (w32 (x3 + 1)) < c 1000001 0) (h8 : 0 ≤ (w32 (x3 + 2)) ∧ (w32 (x3 + 2)) < c 1000001 0) (h9 : cal 306 [vR 78, vI (c2 1000000 (w32 (x3 + 1))), vI (c2 1000000 (w32 (x3 + 2)))] (SH T, c2) = some (some (vI r3), (SH T, c4))) (h10 : ¬ r1 = r3) : ev 356 106 18 [vR (-1), vR 1, vR 78, vI x3] [] (SH T, c) = some (some (vI 0), (SH T, c4)) := by
  refine (ev_eq _ _ _ _ _ _).trans ?_
  refine (if_neg h1).trans ?_
  refine (if_pos h2).trans ?_
  refine (if_neg (by omega)).trans ?_
  refine (if_neg (by omega)).trans ?_
  refine (if_neg (by omega)).trans ?_
  refine (if_neg (by omega)).trans ?_
  refine (if_neg (by omega)).trans ?_
  refine (if_neg (by omega)).trans ?_
  refine (if_neg (by omega)).trans ?_
  refine (if_neg (by omega)).trans ?_
  refine (if_neg (by omega)).trans ?_
  refine (if_neg (by omega)).trans ?_
  refine (if_neg (by omega)).trans ?_
  refine (if_neg (by omega)).trans ?_
  refine (if_neg (by omega)).trans ?_
  refine (if_neg (by omega)).trans ?_
  refine (if_neg (by omega)).trans ?_
  refine (if_neg (by omega)).trans ?_
  refine (if_neg (by omega)).trans ?_
  refine (if_neg (by omega)).trans ?_
  refine (if_neg (by omega)).trans ?_
  refine (if_neg (by omega)).trans ?_
  refine (if_neg (by omega)).trans ?_
  refine (if_neg (by omega)).trans ?_
  refine (if_neg (by omega)).trans ?_
  refine (if_neg (by omega)).trans ?_
  refine (if_neg (by omega)).trans ?_
  refine (if_neg (by omega)).trans ?_
  refine (if_neg (by omega)).trans ?_
  refine (if_neg (by omega)).trans ?_
  refine (if_neg (by omega)).trans ?_
  refine (if_neg (by omega)).trans ?_
  refine (if_neg (by omega)).trans ?_
  refine (if_neg (by omega)).trans ?_
  refine (if_neg (by omega)).trans ?_
  refine (if_neg (by omega)).trans ?_
  refine (if_neg (by omega)).trans ?_
  refine (if_neg (by omega)).trans ?_
  refine (if_neg (by omega)).trans ?_
  refine (if_neg (by omega)).trans ?_
  refine (if_neg (by omega)).trans ?_
  refine (if_neg (by omega)).trans ?_
  refine (if_pos h3).trans ?_
  refine (ev_eq _ _ _ _ _ _).trans ?_
  refine (if_pos h4).trans ?_
  refine (if_pos h5).trans ?_
  refine (el_call rfl h6).trans ?_
  refine (if_pos h7).trans ?_
  refine (if_pos h8).trans ?_
  refine (el_call rfl h9).trans ?_
  refine (if_neg h10).trans ?_
  rfl
theorem B_L_law_18_84 {T : List Shp} {c : Nat → Int → Int} {x3 : Int} {r1 : Int} {c2 : Nat → Int → Int} {r3 : Int} {c4 : Nat → Int → Int} (h1 : ¬ (w32 ((c 1000001 0) - 6)) < x3) (h2 : 0 ≤ x3 ∧ x3 < c 1000001 0) (h3 : (iand (c 1000000 x3) 63) = 41) (h4 : 0 ≤ (w32 (x3 + 1)) ∧ (w32 (x3 + 1)) < c 1000001 0) (h5 : cal 155 [vR 1, vI (c 1000000 (w32 (x3 + 1)))] (SH T, c) = some (some (vI r1), (SH T, c2))) (h6 : 0 ≤ (w32 (x3 + 1)) ∧ (w32 (x3 + 1)) < c 1000001 0) (h7 : cal 309 [vR 78, vI (c2 1000000 (w32 (x3 + 1)))] (SH T, c2) = some (some (vI r3), (SH T, c4))) (h8 : r1 = r3) : ev 356 106 18 [vR (-1), vR 1, vR 78, vI x3] [] (SH T, c) = ev 356 106 1828 [vR (-1), vR 1, vR 78, vI x3] [] (SH T, c4) := by
  refine (ev_eq _ _ _ _ _ _).trans ?_
  refine (if_neg h1).trans ?_
  refine (if_pos h2).trans ?_
  refine (if_neg (by omega)).trans ?_
  refine (if_neg (by omega)).trans ?_
  refine (if_neg (by omega)).trans ?_
  refine (if_neg (by omega)).trans ?_
  refine (if_neg (by omega)).trans ?_
  refine (if_neg (by omega)).trans ?_
  refine (if_neg (by omega)).trans ?_
  refine (if_neg (by omega)).trans ?_
  refine (if_neg (by omega)).trans ?_
  refine (if_neg (by omega)).trans ?_
  refine (if_neg (by omega)).trans ?_
  refine (if_neg (by omega)).trans ?_
  refine (if_neg (by omega)).trans ?_
  refine (if_neg (by omega)).trans ?_
  refine (if_neg (by omega)).trans ?_
  refine (if_neg (by omega)).trans ?_
  refine (if_neg (by omega)).trans ?_
  refine (if_neg (by omega)).trans ?_
  refine (if_neg (by omega)).trans ?_
  refine (if_neg (by omega)).trans ?_
  refine (if_neg (by omega)).trans ?_
  refine (if_neg (by omega)).trans ?_
  refine (if_neg (by omega)).trans ?_
  refine (if_neg (by omega)).trans ?_
  refine (if_neg (by omega)).trans ?_
  refine (if_neg (by omega)).trans ?_
  refine (if_neg (by omega)).trans ?_
  refine (if_neg (by omega)).trans ?_
  refine (if_neg (by omega)).trans ?_
  refine (if_neg (by omega)).trans ?_
  refine (if_neg (by omega)).trans ?_
  refine (if_neg (by omega)).trans ?_
  refine (if_neg (by omega)).trans ?_
  refine (if_neg (by omega)).trans ?_
  refine (if_neg (by omega)).trans ?_
  refine (if_neg (by omega)).trans ?_
  refine (if_neg (by omega)).trans ?_
  refine (if_neg (by omega)).trans ?_
  refine (if_neg (by omega)).trans ?_
  refine (if_neg (by omega)).trans ?_
  refine (if_neg (by omega)).trans ?_
  refine (if_pos h3).trans ?_
  refine (ev_eq _ _ _ _ _ _).trans ?_
  refine (if_pos h4).trans ?_
  refine (el_call rfl h5).trans ?_
  refine (if_pos h6).trans ?_
  refine (el_call rfl h7).trans ?_
  refine (if_pos h8).trans ?_
  rfl
theorem B_L_law_18_85 {T : List Shp} {c : Nat → Int → Int} {x3 : Int} {r1 : Int} {c2 : Nat → Int → Int} {r3 : Int} {c4 : Nat → Int → Int} (h1 : ¬ (w32 ((c 1000001 0) - 6)) < x3) (h2 : 0 ≤ x3 ∧ x3 < c 1000001 0) (h3 : (iand (c 1000000 x3) 63) = 41) (h4 : 0 ≤ (w32 (x3 + 1)) ∧ (w32 (x3 + 1)) < c 1000001 0) (h5 : cal 155 [vR 1, vI (c 1000000 (w32 (x3 + 1)))] (SH T, c) = some (some (vI r1), (SH T, c2))) (h6 : 0 ≤ (w32 (x3 + 1)) ∧ (w32 (x3 + 1)) < c 1000001 0) (h7 : cal 309 [vR 78, vI (c2 1000000 (w32 (x3 + 1)))] (SH T, c2) = some (some (vI r3), (SH T, c4))) (h8 : ¬ r1 = r3) : ev 356 106 18 [vR (-1), vR 1, vR 78, vI x3] [] (SH T, c) = some (some (vI 0), (SH T, c4)) := by
  refine (ev_eq _ _ _ _ _ _).trans ?_
  refine (if_neg h1).trans ?_
  refine (if_pos h2).trans ?_
  refine (if_neg (by omega)).trans ?_
  refine (if_neg (by omega)).trans ?_
  refine (if_neg (by omega)).trans ?_
  refine (if_neg (by omega)).trans ?_
  refine (if_neg (by omega)).trans ?_
  refine (if_neg (by omega)).trans ?_
  refine (if_neg (by omega)).trans ?_
  refine (if_neg (by omega)).trans ?_
  refine (if_neg (by omega)).trans ?_
  refine (if_neg (by omega)).trans ?_
  refine (if_neg (by omega)).trans ?_
  refine (if_neg (by omega)).trans ?_
  refine (if_neg (by omega)).trans ?_
  refine (if_neg (by omega)).trans ?_
  refine (if_neg (by omega)).trans ?_
  refine (if_neg (by omega)).trans ?_
  refine (if_neg (by omega)).trans ?_
  refine (if_neg (by omega)).trans ?_
  refine (if_neg (by omega)).trans ?_
  refine (if_neg (by omega)).trans ?_
  refine (if_neg (by omega)).trans ?_
  refine (if_neg (by omega)).trans ?_
  refine (if_neg (by omega)).trans ?_
  refine (if_neg (by omega)).trans ?_
  refine (if_neg (by omega)).trans ?_
  refine (if_neg (by omega)).trans ?_
  refine (if_neg (by omega)).trans ?_
  refine (if_neg (by omega)).trans ?_
  refine (if_neg (by omega)).trans ?_
  refine (if_neg (by omega)).trans ?_
  refine (if_neg (by omega)).trans ?_
  refine (if_neg (by omega)).trans ?_
  refine (if_neg (by omega)).trans ?_
  refine (if_neg (by omega)).trans ?_
  refine (if_neg (by omega)).trans ?_
  refine (if_neg (by omega)).trans ?_
  refine (if_neg (by omega)).trans ?_
  refine (if_neg (by omega)).trans ?_
  refine (if_neg (by omega)).trans ?_
  refine (if_neg (by omega)).trans ?_
  refine (if_neg (by omega)).trans ?_
  refine (if_pos h3).trans ?_
  refine (ev_eq _ _ _ _ _ _).trans ?_
  refine (if_pos h4).trans ?_
  refine (el_call rfl h5).trans ?_
  refine (if_pos h6).trans ?_
  refine (el_call rfl h7).trans ?_
  refine (if_neg h8).trans ?_
  rfl
theorem B_L_law_18_86 {T : List Shp} {c : Nat → Int → Int} {x3 : Int} {r1 : Int} {c2 : Nat → Int → Int} {r3 : Int} {c4 : Nat → Int → Int} (h1 : ¬ (w32 ((c 1000001 0) - 6)) < x3) (h2 : 0 ≤ x3 ∧ x3 < c 1000001 0) (h3 : (iand (c 1000000 x3) 63) = 42) (h4 : cal 156 [vR 1] (SH T, c) = some (some (vL r1), (SH T, c2))) (h5 : cal 310 [vR 78] (SH T, c2) = some (some (vL r3), (SH T, c4))) (h6 : r1 < r3) : ev 356 106 18 [vR (-1), vR 1, vR 78, vI x3] [] (SH T, c) = some (some (vI 0), (SH T, c4)) := by
  refine (ev_eq _ _ _ _ _ _).trans ?_
  refine (if_neg h1).trans ?_
  refine (if_pos h2).trans ?_
  refine (if_neg (by omega)).trans ?_
  refine (if_neg (by omega)).trans ?_
  refine (if_neg (by omega)).trans ?_
  refine (if_neg (by omega)).trans ?_
  refine (if_neg (by omega)).trans ?_
  refine (if_neg (by omega)).trans ?_
  refine (if_neg (by omega)).trans ?_
  refine (if_neg (by omega)).trans ?_
  refine (if_neg (by omega)).trans ?_
  refine (if_neg (by omega)).trans ?_
  refine (if_neg (by omega)).trans ?_
  refine (if_neg (by omega)).trans ?_
  refine (if_neg (by omega)).trans ?_
  refine (if_neg (by omega)).trans ?_
  refine (if_neg (by omega)).trans ?_
  refine (if_neg (by omega)).trans ?_
  refine (if_neg (by omega)).trans ?_
  refine (if_neg (by omega)).trans ?_
  refine (if_neg (by omega)).trans ?_
  refine (if_neg (by omega)).trans ?_
  refine (if_neg (by omega)).trans ?_
  refine (if_neg (by omega)).trans ?_
  refine (if_neg (by omega)).trans ?_
  refine (if_neg (by omega)).trans ?_
  refine (if_neg (by omega)).trans ?_
  refine (if_neg (by omega)).trans ?_
  refine (if_neg (by omega)).trans ?_
  refine (if_neg (by omega)).trans ?_
  refine (if_neg (by omega)).trans ?_
  refine (if_neg (by omega)).trans ?_
  refine (if_neg (by omega)).trans ?_
  refine (if_neg (by omega)).trans ?_
  refine (if_neg (by omega)).trans ?_
  refine (if_neg (by omega)).trans ?_
  refine (if_neg (by omega)).trans ?_
  refine (if_neg (by omega)).trans ?_
  refine (if_neg (by omega)).trans ?_
  refine (if_neg (by omega)).trans ?_
  refine (if_neg (by omega)).trans ?_
  refine (if_neg (by omega)).trans ?_
  refine (if_neg (by omega)).trans ?_
  refine (if_neg (by omega)).trans ?_
  refine (if_pos h3).trans ?_
  refine (ev_eq _ _ _ _ _ _).trans ?_
  refine (el_call rfl h4).trans ?_
  refine (el_call rfl h5).trans ?_
  refine (if_pos h6).trans ?_
  rfl
theorem B_L_law_18_87 {T : List Shp} {c : Nat → Int → Int} {x3 : Int} {r1 : Int} {c2 : Nat → Int → Int} {r3 : Int} {c4 : Nat → Int → Int} (h1 : ¬ (w32 ((c 1000001 0) - 6)) < x3) (h2 : 0 ≤ x3 ∧ x3 < c 1000001 0) (h3 : (iand (c 1000000 x3) 63) = 42) (h4 : cal 156 [vR 1] (SH T, c) = some (some (vL r1), (SH T, c2))) (h5 : cal 310 [vR 78] (SH T, c2) = some (some (vL r3), (SH T, c4))) (h6 : r1 = r3) : ev 356 106 18 [vR (-1), vR 1, vR 78, vI x3] [] (SH T, c) = ev 356 106 1828 [vR (-1), vR 1, vR 78, vI x3] [] (SH T, c4) := by
  refine (ev_eq _ _ _ _ _ _).trans ?_
  refine (if_neg h1).trans ?_
  refine (if_pos h2).trans ?_
  refine (if_neg (by omega)).trans ?_
  refine (if_neg (by omega)).trans ?_
  refine (if_neg (by omega)).trans ?_
  refine (if_neg (by omega)).trans ?_
  refine (if_neg (by omega)).trans ?_
  refine (if_neg (by omega)).trans ?_
  refine (if_neg (by omega)).trans ?_
  refine (if_neg (by omega)).trans ?_
  refine (if_neg (by omega)).trans ?_
  refine (if_neg (by omega)).trans ?_
  refine (if_neg (by omega)).trans ?_
  refine (if_neg (by omega)).trans ?_
  refine (if_neg (by omega)).trans ?_
  refine (if_neg (by omega)).trans ?_
  refine (if_neg (by omega)).trans ?_
  refine (if_neg (by omega)).trans ?_
  refine (if_neg (by omega)).trans ?_
  refine (if_neg (by omega)).trans ?_
  refine (if_neg (by omega)).trans ?_
  refine (if_neg (by omega)).trans ?_
  refine (if_neg (by omega)).trans ?_
  refine (if_neg (by omega)).trans ?_
  refine (if_neg (by omega)).trans ?_
  refine (if_neg (by omega)).trans ?_
  refine (if_neg (by omega)).trans ?_
  refine (if_neg (by omega)).trans ?_
  refine (if_neg (by omega)).trans ?_
  refine (if_neg (by omega)).trans ?_
  refine (if_neg (by omega)).trans ?_
  refine (if_neg (by omega)).trans ?_
  refine (if_neg (by omega)).trans ?_
  refine (if_neg (by omega)).trans ?_
  refine (if_neg (by omega)).trans ?_
  refine (if_neg (by omega)).trans ?_
  refine (if_neg (by omega)).trans ?_
  refine (if_neg (by omega)).trans ?_
  refine (if_neg (by omega)).trans ?_
  refine (if_neg (by omega)).trans ?_
  refine (if_neg (by omega)).trans ?_
  refine (if_neg (by omega)).trans ?_
  refine (if_neg (by omega)).trans ?_
  refine (if_neg (by omega)).trans ?_
  refine (if_pos h3).trans ?_
  refine (ev_eq _ _ _ _ _ _).trans ?_
  refine (el_call rfl h4).trans ?_
  refine (el_call rfl h5).trans ?_
  refine (if_neg (by omega)).trans ?_
  refine (if_pos h6).trans ?_
  rfl
theorem B_L_law_18_88 {T : List Shp} {c : Nat → Int → Int} {x3 : Int} {r1 : Int} {c2 : Nat → Int → Int} {r3 : Int} {c4 : Nat → Int → Int} (h1 : ¬ (w32 ((c 1000001 0) - 6)) < x3) (h2 : 0 ≤ x3 ∧ x3 < c 1000001 0) (h3 : (iand (c 1000000 x3) 63) = 42) (h4 : cal 156 [vR 1] (SH T, c) = some (some (vL r1), (SH T, c2))) (h5 : cal 310 [vR 78] (SH T, c2) = some (some (vL r3), (SH T, c4))) (h6 : ¬ r1 < r3 ∧ ¬ r1 = r3) : ev 356 106 18 [vR (-1), vR 1, vR 78, vI x3] [] (SH T, c) = some (some (vI 0), (SH T, c4)) := by
  refine (ev_eq _ _ _ _ _ _).trans ?_
  refine (if_neg h1).trans ?_
  refine (if_pos h2).trans ?_
  refine (if_neg (by omega)).trans ?_
  refine (if_neg (by omega)).trans ?_
  refine (if_neg (by omega)).trans ?_
  refine (if_neg (by omega)).trans ?_
  refine (if_neg (by omega)).trans ?_
  refine (if_neg (by omega)).trans ?_
  refine (if_neg (by omega)).trans ?_
  refine (if_neg (by omega)).trans ?_
  refine (if_neg (by omega)).trans ?_
  refine (if_neg (by omega)).trans ?_
  refine (if_neg (by omega)).trans ?_
  refine (if_neg (by omega)).trans ?_
  refine (if_neg (by omega)).trans ?_
  refine (if_neg (by omega)).trans ?_
  refine (if_neg (by omega)).trans ?_
  refine (if_neg (by omega)).trans ?_
  refine (if_neg (by omega)).trans ?_
  refine (if_neg (by omega)).trans ?_
  refine (if_neg (by omega)).trans ?_
  refine (if_neg (by omega)).trans ?_
  refine (if_neg (by omega)).trans ?_
  refine (if_neg (by omega)).trans ?_
  refine (if_neg (by omega)).trans ?_
  refine (if_neg (by omega)).trans ?_
  refine (if_neg (by omega)).trans ?_
  refine (if_neg (by omega)).trans ?_
  refine (if_neg (by omega)).trans ?_
  refine (if_neg (by omega)).trans ?_
  refine (if_neg (by omega)).trans ?_
  refine (if_neg (by omega)).trans ?_
  refine (if_neg (by omega)).trans ?_
  refine (if_neg (by omega)).trans ?_
  refine (if_neg (by omega)).trans ?_
  refine (if_neg (by omega)).trans ?_
  refine (if_neg (by omega)).trans ?_
  refine (if_neg (by omega)).trans ?_
  refine (if_neg (by omega)).trans ?_
  refine (if_neg (by omega)).trans ?_
  refine (if_neg (by omega)).trans ?_
  refine (if_neg (by omega)).trans ?_
  refine (if_neg (by omega)).trans ?_
  refine (if_neg (by omega)).trans ?_
  refine (if_pos h3).trans ?_
  refine (ev_eq _ _ _ _ _ _).trans ?_
  refine (el_call rfl h4).trans ?_
  refine (el_call rfl h5).trans ?_
  refine (if_neg h6.1).trans ?_
  refine (if_neg h6.2).trans ?_
  rfl
theorem B_L_law_18_89 {T : List Shp} {c : Nat → Int → Int} {x3 : Int} {r1 : Int} {c2 : Nat → Int → Int} {r3 : Int} {c4 : Nat → Int → Int} (h1 : ¬ (w32 ((c 1000001 0) - 6)) < x3) (h2 : 0 ≤ x3 ∧ x3 < c 1000001 0) (h3 : (iand (c 1000000 x3) 63) = 43) (h4 : 0 ≤ (w32 (x3 + 1)) ∧ (w32 (x3 + 1)) < c 1000001 0) (h5 : 0 ≤ (w32 (x3 + 2)) ∧ (w32 (x3 + 2)) < c 1000001 0) (h6 : 0 ≤ (w32 (x3 + 3)) ∧ (w32 (x3 + 3)) < c 1000001 0) (h7 : 0 ≤ (w32 (x3 + 4)) ∧ (w32 (x3 + 4)) < c 1000001 0) (h8 : cal 157 [vR 1, vI (c 1000000 (w32 (x3 + 1))), vI (c 1000000 (w32 (x3 + 2))), vI (c 1000000 (w32 (x3 + 3))), vI (c 1000000 (w32 (x3 + 4)))] (SH T, c) = some (some (vI r1), (SH T, c2))) (h9 : 0 ≤ (w32 (x3 + 1)) ∧ (w32 (x3 + 1)) < c 1000001 0) (h10 : 0 ≤ (w32 (x3 + 2)) ∧ (w32 (x3 + 2)) < c 1000001 0) (h11 : 0 ≤ (w32 (x3 + 3)) ∧ (w32 (x3 + 3)) < c 1000001 0) (h12 : 0 ≤ (w32 (x3 + 4)) ∧ (w32 (x3 + 4)) < c 1000001 0) (h13 : cal 311 [vR 78, vI (c2 1000000 (w32 (x3 + 1))), vI (c2 1000000 (w32 (x3 + 2))), vI (c2 1000000 (w32 (x3 + 3))), vI (c2 1000000 (w32 (x3 + 4)))] (SH T, c2) = some (some (vI r3), (SH T, c4))) (h14 : r1 = r3) : ev 356 106 18 [vR (-1), vR 1, vR 78, vI x3] [] (SH T, c) = ev 356 106 1828 [vR (-1), vR 1, vR 78, vI x3] [] (SH T, c4) := by
  refine (ev_eq _ _ _ _ _ _).trans ?_
  refine (if_neg h1).trans ?_
  refine (if_pos h2).trans ?_
  refine (if_neg (by omega)).trans ?_
  refine (if_neg (by omega)).trans ?_
  refine (if_neg (by omega)).trans ?_
  refine (if_neg (by omega)).trans ?_
  refine (if_neg (by omega)).trans ?_
  refine (if_neg (by omega)).trans ?_
  refine (if_neg (by omega)).trans ?_
  refine (if_neg (by omega)).trans ?_
  refine (if_neg (by omega)).trans ?_
  refine (if_neg (by omega)).trans ?_
  refine (if_neg (by omega)).trans ?_
  refine (if_neg (by omega)).trans ?_
  refine (if_neg (by omega)).trans ?_
  refine (if_neg (by omega)).trans ?_
  refine (if_neg (by omega)).trans ?_
  refine (if_neg (by omega)).trans ?_
  refine (if_neg (by omega)).trans ?_
  refine (if_neg (by omega)).trans ?_
  refine (if_neg (by omega)).trans ?_
  refine (if_neg (by omega)).trans ?_
  refine (if_neg (by omega)).trans ?_
  refine (if_neg (by omega)).trans ?_
  refine (if_neg (by omega)).trans ?_
  refine (if_neg (by omega)).trans ?_
  refine (if_neg (by omega)).trans ?_
  refine (if_neg (by omega)).trans ?_
  refine (if_neg (by omega)).trans ?_
  refine (if_neg (by omega)).trans ?_
  refine (if_neg (by omega)).trans ?_
  refine (if_neg (by omega)).trans ?_
  refine (if_neg (by omega)).trans ?_
  refine (if_neg (by omega)).trans ?_
  refine (if_neg (by omega)).trans ?_
  refine (if_neg (by omega)).trans ?_
  refine (if_neg (by omega)).trans ?_
  refine (if_neg (by omega)).trans ?_
  refine (if_neg (by omega)).trans ?_
  refine (if_neg (by omega)).trans ?_
  refine (if_neg (by omega)).trans ?_
  refine (if_neg (by omega)).trans ?_
  refine (if_neg (by omega)).trans ?_
  refine (if_neg (by omega)).trans ?_
  refine (if_neg (by omega)).trans ?_
  refine (if_pos h3).trans ?_
  refine (ev_eq _ _ _ _ _ _).trans ?_
  refine (if_pos h4).trans ?_
  refine (if_pos h5).trans ?_
  refine (if_pos h6).trans ?_
  refine (if_pos h7).trans ?_
  refine (el_call rfl h8).trans ?_
  refine (if_pos h9).trans ?_
  refine (if_pos h10).trans ?_
  refine (if_pos h11).trans ?_
  refine (if_pos h12).trans ?_
  refine (el_call rfl h13).trans ?_
  refine (if_pos h14).trans ?_
  rfl
theorem B_L_law_18_90 {T : List Shp} {c : Nat → Int → Int} {x3 : Int} {r1 : Int} {c2 : Nat → Int → Int} {r3 : Int} {c4 : Nat → Int → Int} (h1 : ¬ (w32 ((c 1000001 0) - 6)) < x3) (h2 : 0 ≤ x3 ∧ x3 < c 1000001 0) (h3 : (iand (c 1000000 x3) 63) = 43) (h4 : 0 ≤ (w32 (x3 + 1)) ∧ (w32 (x3 + 1)) < c 1000001 0) (h5 : 0 ≤ (w32 (x3 + 2)) ∧ (w32 (x3 + 2)) < c 1000001 0) (h6 : 0 ≤ (w32 (x3 + 3)) ∧ (w32 (x3 + 3)) < c 1000001 0) (h7 : 0 ≤ (w32 (x3 + 4)) ∧ (w32 (x3 + 4)) < c 1000001 0) (h8 : cal 157 [vR 1, vI (c 1000000 (w32 (x3 + 1))), vI (c 1000000 (w32 (x3 + 2))), vI (c 1000000 (w32 (x3 + 3))), vI (c 1000000 (w32 (x3 + 4)))] (SH T, c) = some (some (vI r1), (SH T, c2))) (h9 : 0 ≤ (w32 (x3 + 1)) ∧ (w32 (x3 + 1)) < c 1000001 0) (h10 : 0 ≤ (w32 (x3 + 2)) ∧ (w32 (x3 + 2)) < c 1000001 0) (h11 : 0 ≤ (w32 (x3 + 3)) ∧ (w32 (x3 + 3)) < c 1000001 0) (h12 : 0 ≤ (w32 (x3 + 4)) ∧ (w32 (x3 + 4)) < c 1000001 0) (h13 : cal 311 [vR 78, vI (c2 1000000 (w32 (x3 + 1))), vI (c2 1000000 (w32 (x3 + 2))), vI (c2 1000000 (w32 (x3 + 3))), vI (c2 1000000 (w32 (x3 + 4)))] (SH T, c2) = some (some (vI r3), (SH T, c4))) (h14 : ¬ r1 = r3) : ev 356 106 18 [vR (-1), vR 1, vR 78, vI x3] [] (SH T, c) = some (some (vI 0), (SH T, c4)) := by
  refine (ev_eq _ _ _ _ _ _).trans ?_
  refine (if_neg h1).trans ?_
  refine (if_pos h2).trans ?_
  refine (if_neg (by omega)).trans ?_
  refine (if_neg (by omega)).trans ?_
  refine (if_neg (by omega)).trans ?_
  refine (if_neg (by omega)).trans ?_
  refine (if_neg (by omega)).trans ?_
  refine (if_neg (by omega)).trans ?_
  refine (if_neg (by omega)).trans ?_
  refine (if_neg (by omega)).trans ?_
  refine (if_neg (by omega)).trans ?_
  refine (if_neg (by omega)).trans ?_
  refine (if_neg (by omega)).trans ?_
  refine (if_neg (by omega)).trans ?_
  refine (if_neg (by omega)).trans ?_
  refine (if_neg (by omega)).trans ?_
  refine (if_neg (by omega)).trans ?_
  refine (if_neg (by omega)).trans ?_
  refine (if_neg (by omega)).trans ?_
  refine (if_neg (by omega)).trans ?_
  refine (if_neg (by omega)).trans ?_
  refine (if_neg (by omega)).trans ?_
  refine (if_neg (by omega)).trans ?_
  refine (if_neg (by omega)).trans ?_
  refine (if_neg (by omega)).trans ?_
  refine (if_neg (by omega)).trans ?_
  refine (if_neg (by omega)).trans ?_
  refine (if_neg (by omega)).trans ?_
  refine (if_neg (by omega)).trans ?_
  refine (if_neg (by omega)).trans ?_
  refine (if_neg (by omega)).trans ?_
  refine (if_neg (by omega)).trans ?_
  refine (if_neg (by omega)).trans ?_
  refine (if_neg (by omega)).trans ?_
  refine (if_neg (by omega)).trans ?_
  refine (if_neg (by omega)).trans ?_
  refine (if_neg (by omega)).trans ?_
  refine (if_neg (by omega)).trans ?_
  refine (if_neg (by omega)).trans ?_
  refine (if_neg (by omega)).trans ?_
  refine (if_neg (by omega)).trans ?_
  refine (if_neg (by omega)).trans ?_
  refine (if_neg (by omega)).trans ?_
  refine (if_neg (by omega)).trans ?_
  refine (if_neg (by omega)).trans ?_
  refine (if_pos h3).trans ?_
  refine (ev_eq _ _ _ _ _ _).trans ?_
  refine (if_pos h4).trans ?_
  refine (if_pos h5).trans ?_
  refine (if_pos h6).trans ?_
  refine (if_pos h7).trans ?_
  refine (el_call rfl h8).trans ?_
  refine (if_pos h9).trans ?_
  refine (if_pos h10).trans ?_
  refine (if_pos h11).trans ?_
  refine (if_pos h12).trans ?_
  refine (el_call rfl h13).trans ?_
  refine (if_neg h14).trans ?_
  rfl
theorem B_L_law_18_91 {T : List Shp} {c : Nat → Int → Int} {x3 : Int} {r1 : Int} {c2 : Nat → Int → Int} {r3 : Int} {c4 : Nat → Int → Int} (h1 : ¬ (w32 ((c 1000001 0) - 6)) < x3) (h2 : 0 ≤ x3 ∧ x3 < c 1000001 0) (h3 : (iand (c 1000000 x3) 63) = 44) (h4 : 0 ≤ (w32 (x3 + 1)) ∧ (w32 (x3 + 1)) < c 1000001 0) (h5 : 0 ≤ (w32 (x3 + 2)) ∧ (w32 (x3 + 2)) < c 1000001 0) (h6 : 0 ≤ (w32 (x3 + 3)) ∧ (w32 (x3 + 3)) < c 1000001 0) (h7 : cal 158 [vR 1, vI (c 1000000 (w32 (x3 + 1))), vI (c 1000000 (w32 (x3 + 2))), vI (c 1000000 (w32 (x3 + 3)))] (SH T, c) = some (some (vI r1), (SH T, c2))) (h8 : 0 ≤ (w32 (x3 + 1)) ∧ (w32 (x3 + 1)) < c 1000001 0) (h9 : 0 ≤ (w32 (x3 + 2)) ∧ (w32 (x3 + 2)) < c 1000001 0) (h10 : 0 ≤ (w32 (x3 + 3)) ∧ (w32 (x3 + 3)) < c 1000001 0) (h11 : cal 313 [vR 78, vI (c2 1000000 (w32 (x3 + 1))), vI (c2 1000000 (w32 (x3 + 2))), vI (c2 1000000 (w32 (x3 + 3)))] (SH T, c2) = some (some (vI r3), (SH T, c4))) (h12 : r1 = r3) : ev 356 106 18 [vR (-1), vR 1, vR 78, vI x3] [] (SH T, c) = ev 356 106 1828 [vR (-1), vR 1, vR 78, vI x3] [] (SH T, c4) := by
  refine (ev_eq _ _ _ _ _ _).trans ?_
  refine (if_neg h1).trans ?_
  refine (if_pos h2).trans ?_
  refine (if_neg (by omega)).trans ?_
  refine (if_neg (by omega)).trans ?_
  refine (if_neg (by omega)).trans ?_
  refine (if_neg (by omega)).trans ?_
  refine (if_neg (by omega)).trans ?_
  refine (if_neg (by omega)).trans ?_
  refine (if_neg (by omega)).trans ?_
  refine (if_neg (by omega)).trans ?_
  refine (if_neg (by omega)).trans ?_
  refine (if_neg (by omega)).trans ?_
  refine (if_neg (by omega)).trans ?_
  refine (if_neg (by omega)).trans ?_
  refine (if_neg (by omega)).trans ?_
  refine (if_neg (by omega)).trans ?_
  refine (if_neg (by omega)).trans ?_
  refine (if_neg (by omega)).trans ?_
  refine (if_neg (by omega)).trans ?_
  refine (if_neg (by omega)).trans ?_
  refine (if_neg (by omega)).trans ?_
  refine (if_neg (by omega)).trans ?_
  refine (if_neg (by omega)).trans ?_
  refine (if_neg (by omega)).trans ?_
  refine (if_neg (by omega)).trans ?_
  refine (if_neg (by omega)).trans ?_
  refine (if_neg (by omega)).trans ?_
  refine (if_neg (by omega)).trans ?_
  refine (if_neg (by omega)).trans ?_
  refine (if_neg (by omega)).trans ?_
  refine (if_neg (by omega)).trans ?_
  refine (if_neg (by omega)).trans ?_
  refine (if_neg (by omega)).trans ?_
  refine (if_neg (by omega)).trans ?_
  refine (if_neg (by omega)).trans ?_
  refine (if_neg (by omega)).trans ?_
  refine (if_neg (by omega)).trans ?_
  refine (if_neg (by omega)).trans ?_
  refine (if_neg (by omega)).trans ?_
  refine (if_neg (by omega)).trans ?_
  refine (if_neg (by omega)).trans ?_
  refine (if_neg (by omega)).trans ?_
  refine (if_neg (by omega)).trans ?_
  refine (if_neg (by omega)).trans ?_
  refine (if_neg (by omega)).trans ?_
  refine (if_neg (by omega)).trans ?_
  refine (if_pos h3).trans ?_
  refine (ev_eq _ _ _ _ _ _).trans ?_
  refine (if_pos h4).trans ?_
  refine (if_pos h5).trans ?_
  refine (if_pos h6).trans ?_
  refine (el_call rfl h7).trans ?_
  refine (if_pos h8).trans ?_
  refine (if_pos h9).trans ?_
  refine (if_pos h10).trans ?_
  refine (el_call rfl h11).trans ?_
  refine (if_pos h12).trans ?_
  rfl
theorem B_L_law_18_92 {T : List Shp} {c : Nat → Int → Int} {x3 : Int} {r1 : Int} {c2 : Nat → Int → Int} {r3 : Int} {c4 : Nat → Int → Int} (h1 : ¬ (w32 ((c 1000001 0) - 6)) < x3) (h2 : 0 ≤ x3 ∧ x3 < c 1000001 0) (h3 : (iand (c 1000000 x3) 63) = 44) (h4 : 0 ≤ (w32 (x3 + 1)) ∧ (w32 (x3 + 1)) < c 1000001 0) (h5 : 0 ≤ (w32 (x3 + 2)) ∧ (w32 (x3 + 2)) < c 1000001 0) (h6 : 0 ≤ (w32 (x3 + 3)) ∧ (w32 (x3 + 3)) < c 1000001 0) (h7 : cal 158 [vR 1, vI (c 1000000 (w32 (x3 + 1))), vI (c 1000000 (w32 (x3 + 2))), vI (c 1000000 (w32 (x3 + 3)))] (SH T, c) = some (some (vI r1), (SH T, c2))) (h8 : 0 ≤ (w32 (x3 + 1)) ∧ (w32 (x3 + 1)) < c 1000001 0) (h9 : 0 ≤ (w32 (x3 + 2)) ∧ (w32 (x3 + 2)) < c 1000001 0) (h10 : 0 ≤ (w32 (x3 + 3)) ∧ (w32 (x3 + 3)) < c 1000001 0) (h11 : cal 313 [vR 78, vI (c2 1000000 (w32 (x3 + 1))), vI (c2 1000000 (w32 (x3 + 2))), vI (c2 1000000 (w32 (x3 + 3)))] (SH T, c2) = some (some (vI r3), (SH T, c4))) (h12 : ¬ r1 = r3) : ev 356 106 18 [vR (-1), vR 1, vR 78, vI x3] [] (SH T, c) = some (some (vI 0), (SH T, c4)) := by
  refine (ev_eq _ _ _ _ _ _).trans ?_
  refine (if_neg h1).trans ?_
  refine (if_pos h2).trans ?_
  refine (if_neg (by omega)).trans ?_
  refine (if_neg (by omega)).trans ?_
  refine (if_neg (by omega)).trans ?_
  refine (if_neg (by omega)).trans ?_
  refine (if_neg (by omega)).trans ?_
  refine (if_neg (by omega)).trans ?_
  refine (if_neg (by omega)).trans ?_
  refine (if_neg (by omega)).trans ?_
  refine (if_neg (by omega)).trans ?_
  refine (if_neg (by omega)).trans ?_
  refine (if_neg (by omega)).trans ?_
  refine (if_neg (by omega)).trans ?_
  refine (if_neg (by omega)).trans ?_
  refine (if_neg (by omega)).trans ?_
  refine (if_neg (by omega)).trans ?_
  refine (if_neg (by omega)).trans ?_
  refine (if_neg (by omega)).trans ?_
  refine (if_neg (by omega)).trans ?_
  refine (if_neg (by omega)).trans ?_
  refine (if_neg (by omega)).trans ?_
  refine (if_neg (by omega)).trans ?_
  refine (if_neg (by omega)).trans ?_
  refine (if_neg (by omega)).trans ?_
  refine (if_neg (by omega)).trans ?_
  refine (if_neg (by omega)).trans ?_
  refine (if_neg (by omega)).trans ?_
  refine (if_neg (by omega)).trans ?_
  refine (if_neg (by omega)).trans ?_
  refine (if_neg (by omega)).trans ?_
  refine (if_neg (by omega)).trans ?_
  refine (if_neg (by omega)).trans ?_
  refine (if_neg (by omega)).trans ?_
  refine (if_neg (by omega)).trans ?_
  refine (if_neg (by omega)).trans ?_
  refine (if_neg (by omega)).trans ?_
  refine (if_neg (by omega)).trans ?_
  refine (if_neg (by omega)).trans ?_
  refine (if_neg (by omega)).trans ?_
  refine (if_neg (by omega)).trans ?_
  refine (if_neg (by omega)).trans ?_
  refine (if_neg (by omega)).trans ?_
  refine (if_neg (by omega)).trans ?_
  refine (if_neg (by omega)).trans ?_
  refine (if_neg (by omega)).trans ?_
  refine (if_pos h3).trans ?_
  refine (ev_eq _ _ _ _ _ _).trans ?_
  refine (if_pos h4).trans ?_
  refine (if_pos h5).trans ?_
  refine (if_pos h6).trans ?_
  refine (el_call rfl h7).trans ?_
  refine (if_pos h8).trans ?_
  refine (if_pos h9).trans ?_
  refine (if_pos h10).trans ?_
  refine (el_call rfl h11).trans ?_
  refine (if_neg h12).trans ?_
  rfl
theorem B_L_law_18_93 {T : List Shp} {c : Nat → Int → Int} {x3 : Int} {r1 : Int} {c2 : Nat → Int → Int} {r3 : Int} {c4 : Nat → Int → Int} (h1 : ¬ (w32 ((c 1000001 0) - 6)) < x3) (h2 : 0 ≤ x3 ∧ x3 < c 1000001 0) (h3 : (iand (c 1000000 x3) 63) = 45) (h4 : 0 ≤ (w32 (x3 + 1)) ∧ (w32 (x3 + 1)) < c 1000001 0) (h5 : 0 ≤ (w32 (x3 + 2)) ∧ (w32 (x3 + 2)) < c 1000001 0) (h6 : cal 159 [vR 1, vI (c 1000000 (w32 (x3 + 1))), vI (c 1000000 (w32 (x3 + 2)))] (SH T, c) = some (some (vI r1), (SH T, c2))) (h7 : 0 ≤ (w32 (x3 + 1)) ∧ (w32 (x3 + 1)) < c 1000001 0) (h8 : 0 ≤ (w32 (x3 + 2)) ∧ (w32 (x3 + 2)) < c 1000001 0) (h9 : cal 314 [vR 78, vI (c2 1000000 (w32 (x3 + 1))), vI (c2 1000000 (w32 (x3 + 2)))] (SH T, c2) = some (some (vI r3), (SH T, c4))) (h10 : r1 = r3) : ev 356 106 18 [vR (-1), vR 1, vR 78, vI x3] [] (SH T, c) = ev 356 106 1828 [vR (-1), vR 1, vR 78, vI x3] [] (SH T, c4) := by
  refine (ev_eq _ _ _ _ _ _).trans ?_
  refine (if_neg h1).trans ?_
  refine (if_pos h2).trans ?_
  refine (if_neg (by omega)).trans ?_
  refine (if_neg (by omega)).trans ?_
  refine (if_neg (by omega)).trans ?_
  refine (if_neg (by omega)).trans ?_
  refine (if_neg (by omega)).trans ?_
  refine (if_neg (by omega)).trans ?_
  refine (if_neg (by omega)).trans ?_
  refine (if_neg (by omega)).trans ?_
  refine (if_neg (by omega)).trans ?_
  refine (if_neg (by omega)).trans ?_
  refine (if_neg (by omega)).trans ?_
  refine (if_neg (by omega)).trans ?_
  refine (if_neg (by omega)).trans ?_
  refine (if_neg (by omega)).trans ?_
  refine (if_neg (by omega)).trans ?_
  refine (if_neg (by omega)).trans ?_
  refine (if_neg (by omega)).trans ?_
  refine (if_neg (by omega)).trans ?_
  refine (if_neg (by omega)).trans ?_
  refine (if_neg (by omega)).trans ?_
  refine (if_neg (by omega)).trans ?_
  refine (if_neg (by omega)).trans ?_
  refine (if_neg (by omega)).trans ?_
  refine (if_neg (by omega)).trans ?_
  refine (if_neg (by omega)).trans ?_
  refine (if_neg (by omega)).trans ?_
  refine (if_neg (by omega)).trans ?_
  refine (if_neg (by omega)).trans ?_
  refine (if_neg (by omega)).trans ?_
  refine (if_neg (by omega)).trans ?_
  refine (if_neg (by omega)).trans ?_
  refine (if_neg (by omega)).trans ?_
  refine (if_neg (by omega)).trans ?_
  refine (if_neg (by omega)).trans ?_
  refine (if_neg (by omega)).trans ?_
  refine (if_neg (by omega)).trans ?_
  refine (if_neg (by omega)).trans ?_
  refine (if_neg (by omega)).trans ?_
  refine (if_neg (by omega)).trans ?_
  refine (if_neg (by omega)).trans ?_
  refine (if_neg (by omega)).trans ?_
  refine (if_neg (by omega)).trans ?_
  refine (if_neg (by omega)).trans ?_
  refine (if_neg (by omega)).trans ?_
  refine (if_neg (by omega)).trans ?_
  refine (if_pos h3).trans ?_
  refine (ev_eq _ _ _ _ _ _).trans ?_
  refine (if_pos h4).trans ?_
  refine (if_pos h5).trans ?_
  refine (el_call rfl h6).trans ?_
  refine (if_pos h7).trans ?_
  refine (if_pos h8).trans ?_
  refine (el_call rfl h9).trans ?_
  refine (if_pos h10).trans ?_
  rfl
theorem B_L_law_18_94 {T : List Shp} {c : Nat → Int → Int} {x3 : Int} {r1 : Int} {c2 : Nat → Int → Int} {r3 : Int} {c4 : Nat → Int → Int} (h1 : ¬ (w32 ((c 1000001 0) - 6)) < x3) (h2 : 0 ≤ x3 ∧ x3 < c 1000001 0) (h3 : (iand (c 1000000 x3) 63) = 45) (h4 : 0 ≤ (w32 (x3 + 1)) ∧ (w32 (x3 + 1)) < c 1000001 0) (h5 : 0 ≤ (w32 (x3 + 2)) ∧ (w32 (x3 + 2)) < c 1000001 0) (h6 : cal 159 [vR 1, vI (c 1000000 (w32 (x3 + 1))), vI (c 1000000 (w32 (x3 + 2)))] (SH T, c) = some (some (vI r1), (SH T, c2))) (h7 : 0 ≤ (w32 (x3 + 1)) ∧ (w32 (x3 + 1)) < c 1000001 0) (h8 : 0 ≤ (w32 (x3 + 2)) ∧ (w32 (x3 + 2)) < c 1000001 0) (h9 : cal 314 [vR 78, vI (c2 1000000 (w32 (x3 + 1))), vI (c2 1000000 (w32 (x3 + 2)))] (SH T, c2) = some (some (vI r3), (SH T, c4))) (h10 : ¬ r1 = r3) : ev 356 106 18 [vR (-1), vR 1, vR 78, vI x3] [] (SH T, c) = some (some (vI 0), (SH T, c4)) := by
  refine (ev_eq _ _ _ _ _ _).trans ?_
  refine (if_neg h1).trans ?_
  refine (if_pos h2).trans ?_
  refine (if_neg (by omega)).trans ?_
  refine (if_neg (by omega)).trans ?_
  refine (if_neg (by omega)).trans ?_
  refine (if_neg (by omega)).trans ?_
  refine (if_neg (by omega)).trans ?_
  refine (if_neg (by omega)).trans ?_
  refine (if_neg (by omega)).trans ?_
  refine (if_neg (by omega)).trans ?_
  refine (if_neg (by omega)).trans ?_
  refine (if_neg (by omega)).trans ?_
  refine (if_neg (by omega)).trans ?_
  refine (if_neg (by omega)).trans ?_
  refine (if_neg (by omega)).trans ?_
  refine (if_neg (by omega)).trans ?_
  refine (if_neg (by omega)).trans ?_
  refine (if_neg (by omega)).trans ?_
  refine (if_neg (by omega)).trans ?_
  refine (if_neg (by omega)).trans ?_
  refine (if_neg (by omega)).trans ?_
  refine (if_neg (by omega)).trans ?_
  refine (if_neg (by omega)).trans ?_
  refine (if_neg (by omega)).trans ?_
  refine (if_neg (by omega)).trans ?_
  refine (if_neg (by omega)).trans ?_
  refine (if_neg (by omega)).trans ?_
  refine (if_neg (by omega)).trans ?_
  refine (if_neg (by omega)).trans ?_
  refine (if_neg (by omega)).trans ?_
  refine (if_neg (by omega)).trans ?_
  refine (if_neg (by omega)).trans ?_
  refine (if_neg (by omega)).trans ?_
  refine (if_neg (by omega)).trans ?_
  refine (if_neg (by omega)).trans ?_
  refine (if_neg (by omega)).trans ?_
  refine (if_neg (by omega)).trans ?_
  refine (if_neg (by omega)).trans ?_
  refine (if_neg (by omega)).trans ?_
  refine (if_neg (by omega)).trans ?_
  refine (if_neg (by omega)).trans ?_
  refine (if_neg (by omega)).trans ?_
  refine (if_neg (by omega)).trans ?_
  refine (if_neg (by omega)).trans ?_
  refine (if_neg (by omega)).trans ?_
  refine (if_neg (by omega)).trans ?_
  refine (if_neg (by omega)).trans ?_
  refine (if_pos h3).trans ?_
  refine (ev_eq _ _ _ _ _ _).trans ?_
  refine (if_pos h4).trans ?_
  refine (if_pos h5).trans ?_
  refine (el_call rfl h6).trans ?_
  refine (if_pos h7).trans ?_
  refine (if_pos h8).trans ?_
  refine (el_call rfl h9).trans ?_
  refine (if_neg h10).trans ?_
  rfl
theorem B_L_law_18_95 {T : List Shp} {c : Nat → Int → Int} {x3 : Int} {r1 : Int} {c2 : Nat → Int → Int} {r3 : Int} {c4 : Nat → Int → Int} (h1 : ¬ (w32 ((c 1000001 0) - 6)) < x3) (h2 : 0 ≤ x3 ∧ x3 < c 1000001 0) (h3 : (iand (c 1000000 x3) 63) = 46) (h4 : 0 ≤ (w32 (x3 + 1)) ∧ (w32 (x3 + 1)) < c 1000001 0) (h5 : 0 ≤ (w32 (x3 + 2)) ∧ (w32 (x3 + 2)) < c 1000001 0) (h6 : 0 ≤ (w32 (x3 + 3)) ∧ (w32 (x3 + 3)) < c 1000001 0) (h7 : cal 160 [vR 1, vI (c 1000000 (w32 (x3 + 1))), vI (c 1000000 (w32 (x3 + 2))), vI (c 1000000 (w32 (x3 + 3)))] (SH T, c) = some (some (vI r1), (SH T, c2))) (h8 : 0 ≤ (w32 (x3 + 1)) ∧ (w32 (x3 + 1)) < c 1000001 0) (h9 : 0 ≤ (w32 (x3 + 2)) ∧ (w32 (x3 + 2)) < c 1000001 0) (h10 : 0 ≤ (w32 (x3 + 3)) ∧ (w32 (x3 + 3)) < c 1000001 0) (h11 : cal 320 [vR 78, vI (c2 1000000 (w32 (x3 + 1))), vI (c2 1000000 (w32 (x3 + 2))), vI (c2 1000000 (w32 (x3 + 3)))] (SH T, c2) = some (some (vI r3), (SH T, c4))) (h12 : r1 = r3) : ev 356 106 18 [vR (-1), vR 1, vR 78, vI x3] [] (SH T, c) = ev 356 106 1828 [vR (-1), vR 1, vR 78, vI x3] [] (SH T, c4) := by
  refine (ev_eq _ _ _ _ _ _).trans ?_
  refine (if_neg h1).trans ?_
  refine (if_pos h2).trans ?_
  refine (if_neg (by omega)).trans ?_
  refine (if_neg (by omega)).trans ?_
  refine (if_neg (by omega)).trans ?_
  refine (if_neg (by omega)).trans ?_
  refine (if_neg (by omega)).trans ?_
  refine (if_neg (by omega)).trans ?_
  refine (if_neg (by omega)).trans ?_
  refine (if_neg (by omega)).trans ?_
  refine (if_neg (by omega)).trans ?_
  refine (if_neg (by omega)).trans ?_
  refine (if_neg (by omega)).trans ?_
  refine (if_neg (by omega)).trans ?_
  refine (if_neg (by omega)).trans ?_
  refine (if_neg (by omega)).trans ?_
  refine (if_neg (by omega)).trans ?_
  refine (if_neg (by omega)).trans ?_
  refine (if_neg (by omega)).trans ?_
  refine (if_neg (by omega)).trans ?_
  refine (if_neg (by omega)).trans ?_
  refine (if_neg (by omega)).trans ?_
  refine (if_neg (by omega)).trans ?_
  refine (if_neg (by omega)).trans ?_
  refine (if_neg (by omega)).trans ?_
  refine (if_neg (by omega)).trans ?_
  refine (if_neg (by omega)).trans ?_
  refine (if_neg (by omega)).trans ?_
  refine (if_neg (by omega)).trans ?_
  refine (if_neg (by omega)).trans ?_
  refine (if_neg (by omega)).trans ?_
  refine (if_neg (by omega)).trans ?_
  refine (if_neg (by omega)).trans ?_
  refine (if_neg (by omega)).trans ?_
  refine (if_neg (by omega)).trans ?_
  refine (if_neg (by omega)).trans ?_
  refine (if_neg (by omega)).trans ?_
  refine (if_neg (by omega)).trans ?_
  refine (if_neg (by omega)).trans ?_
  refine (if_neg (by omega)).trans ?_
  refine (if_neg (by omega)).trans ?_
  refine (if_neg (by omega)).trans ?_
  refine (if_neg (by omega)).trans ?_
  refine (if_neg (by omega)).trans ?_
  refine (if_neg (by omega)).trans ?_
  refine (if_neg (by omega)).trans ?_
  refine (if_neg (by omega)).trans ?_
  refine (if_neg (by omega)).trans ?_
  refine (if_pos h3).trans ?_
  refine (ev_eq _ _ _ _ _ _).trans ?_
  refine (if_pos h4).trans ?_
  refine (if_pos h5).trans ?_
  refine (if_pos h6).trans ?_
  refine (el_call rfl h7).trans ?_
  refine (if_pos h8).trans ?_
  refine (if_pos h9).trans ?_
  refine (if_pos h10).trans ?_
  refine (el_call rfl h11).trans ?_
  refine (if_pos h12).trans ?_
  rfl
theorem B_L_law_18_96 {T : List Shp} {c : Nat → Int → Int} {x3 : Int} {r1 : Int} {c2 : Nat → Int → Int} {r3 : Int} {c4 : Nat → Int → Int} (h1 : ¬ (w32 ((c 1000001 0) - 6)) < x3) (h2 : 0 ≤ x3 ∧ x3 < c 1000001 0) (h3 : (iand (c 1000000 x3) 63) = 46) (h4 : 0 ≤ (w32 (x3 + 1)) ∧ (w32 (x3 + 1)) < c 1000001 0) (h5 : 0 ≤ (w32 (x3 + 2)) ∧ (w32 (x3 + 2)) < c 1000001 0) (h6 : 0 ≤ (w32 (x3 + 3)) ∧ (w32 (x3 + 3)) < c 1000001 0) (h7 : cal 160 [vR 1, vI (c 1000000 (w32 (x3 + 1))), vI (c 1000000 (w32 (x3 + 2))), vI (c 1000000 (w32 (x3 + 3)))] (SH T, c) = some (some (vI r1), (SH T, c2))) (h8 : 0 ≤ (w32 (x3 + 1)) ∧ (w32 (x3 + 1)) < c 1000001 0) (h9 : 0 ≤ (w32 (x3 + 2)) ∧ (w32 (x3 + 2)) < c 1000001 0) (h10 : 0 ≤ (w32 (x3 + 3)) ∧ (w32 (x3 + 3)) < c 1000001 0) (h11 : cal 320 [vR 78, vI (c2 1000000 (w32 (x3 + 1))), vI (c2 1000000 (w32 (x3 + 2))), vI (c2 1000000 (w32 (x3 + 3)))] (SH T, c2) = some (some (vI r3), (SH T, c4))) (h12 : ¬ r1 = r3) : ev 356 106 18 [vR (-1), vR 1, vR 78, vI x3] [] (SH T, c) = some (some (vI 0), (SH T, c4)) := by
  refine (ev_eq _ _ _ _ _ _).trans ?_
  refine (if_neg h1).trans ?_
  refine (if_pos h2).trans ?_
  refine (if_neg (by omega)).trans ?_
  refine (if_neg (by omega)).trans ?_
  refine (if_neg (by omega)).trans ?_
  refine (if_neg (by omega)).trans ?_
  refine (if_neg (by omega)).trans ?_
  refine (if_neg (by omega)).trans ?_
  refine (if_neg (by omega)).trans ?_
  refine (if_neg (by omega)).trans ?_
  refine (if_neg (by omega)).trans ?_
  refine (if_neg (by omega)).trans ?_
  refine (if_neg (by omega)).trans ?_
  refine (if_neg (by omega)).trans ?_
  refine (if_neg (by omega)).trans ?_
  refine (if_neg (by omega)).trans ?_
  refine (if_neg (by omega)).trans ?_
  refine (if_neg (by omega)).trans ?_
  refine (if_neg (by omega)).trans ?_
  refine (if_neg (by omega)).trans ?_
  refine (if_neg (by omega)).trans ?_
  refine (if_neg (by omega)).trans ?_
  refine (if_neg (by omega)).trans ?_
  refine (if_neg (by omega)).trans ?_
  refine (if_neg (by omega)).trans ?_
  refine (if_neg (by omega)).trans ?_
  refine (if_neg (by omega)).trans ?_
  refine (if_neg (by omega)).trans ?_
  refine (if_neg (by omega)).trans ?_
  refine (if_neg (by omega)).trans ?_
  refine (if_neg (by omega)).trans ?_
  refine (if_neg (by omega)).trans ?_
  refine (if_neg (by omega)).trans ?_
  refine (if_neg (by omega)).trans ?_
  refine (if_neg (by omega)).trans ?_
  refine (if_neg (by omega)).trans ?_
  refine (if_neg (by omega)).trans ?_
  refine (if_neg (by omega)).trans ?_
  refine (if_neg (by omega)).trans ?_
  refine (if_neg (by omega)).trans ?_
  refine (if_neg (by omega)).trans ?_
  refine (if_neg (by omega)).trans ?_
  refine (if_neg (by omega)).trans ?_
  refine (if_neg (by omega)).trans ?_
  refine (if_neg (by omega)).trans ?_
  refine (if_neg (by omega)).trans ?_
  refine (if_neg (by omega)).trans ?_
  refine (if_neg (by omega)).trans ?_
  refine (if_pos h3).trans ?_
  refine (ev_eq _ _ _ _ _ _).trans ?_
  refine (if_pos h4).trans ?_
  refine (if_pos h5).trans ?_
  refine (if_pos h6).trans ?_
  refine (el_call rfl h7).trans ?_
  refine (if_pos h8).trans ?_
  refine (if_pos h9).trans ?_
  refine (if_pos h10).trans ?_
  refine (el_call rfl h11).trans ?_
  refine (if_neg h12).trans ?_
  rfl
theorem B_L_law_18_97 {T : List Shp} {c : Nat → Int → Int} {x3 : Int} {r1 : Int} {c2 : Nat → Int → Int} {r3 : Int} {c4 : Nat → Int → Int} (h1 : ¬ (w32 ((c 1000001 0) - 6)) < x3) (h2 : 0 ≤ x3 ∧ x3 < c 1000001 0) (h3 : (iand (c 1000000 x3) 63) = 47) (h4 : 0 ≤ (w32 (x3 + 1)) ∧ (w32 (x3 + 1)) < c 1000001 0) (h5 : cal 161 [vR 1, vI (c 1000000 (w32 (x3 + 1)))] (SH T, c) = some (some (vI r1), (SH T, c2))) (h6 : 0 ≤ (w32 (x3 + 1)) ∧ (w32 (x3 + 1)) < c 1000001 0) (h7 : cal 322 [vR 78, vI (c2 1000000 (w32 (x3 + 1)))] (SH T, c2) = some (some (vI r3), (SH T, c4))) (h8 : r1 = r3) : ev 356 106 18 [vR (-1), vR 1, vR 78, vI x3] [] (SH T, c) = ev 356 106 1828 [vR (-1), vR 1, vR 78, vI x3] [] (SH T, c4) := by
  refine (ev_eq _ _ _ _ _ _).trans ?_
  refine (if_neg h1).trans ?_
  refine (if_pos h2).trans ?_
  refine (if_neg (by omega)).trans ?_
  refine (if_neg (by omega)).trans ?_
  refine (if_neg (by omega)).trans ?_
  refine (if_neg (by omega)).trans ?_
  refine (if_neg (by omega)).trans ?_
  refine (if_neg (by omega)).trans ?_
  refine (if_neg (by omega)).trans ?_
  refine (if_neg (by omega)).trans ?_
  refine (if_neg (by omega)).trans ?_
  refine (if_neg (by omega)).trans ?_
  refine (if_neg (by omega)).trans ?_
  refine (if_neg (by omega)).trans ?_
  refine (if_neg (by omega)).trans ?_
  refine (if_neg (by omega)).trans ?_
  refine (if_neg (by omega)).trans ?_
  refine (if_neg (by omega)).trans ?_
  refine (if_neg (by omega)).trans ?_
  refine (if_neg (by omega)).trans ?_
  refine (if_neg (by omega)).trans ?_
  refine (if_neg (by omega)).trans ?_
  refine (if_neg (by omega)).trans ?_
  refine (if_neg (by omega)).trans ?_
  refine (if_neg (by omega)).trans ?_
  refine (if_neg (by omega)).trans ?_
  refine (if_neg (by omega)).trans ?_
  refine (if_neg (by omega)).trans ?_
  refine (if_neg (by omega)).trans ?_
  refine (if_neg (by omega)).trans ?_
  refine (if_neg (by omega)).trans ?_
  refine (if_neg (by omega)).trans ?_
  refine (if_neg (by omega)).trans ?_
  refine (if_neg (by omega)).trans ?_
  refine (if_neg (by omega)).trans ?_
  refine (if_neg (by omega)).trans ?_
  refine (if_neg (by omega)).trans ?_
  refine (if_neg (by omega)).trans ?_
  refine (if_neg (by omega)).trans ?_
  refine (if_neg (by omega)).trans ?_
  refine (if_neg (by omega)).trans ?_
  refine (if_neg (by omega)).trans ?_
  refine (if_neg (by omega)).trans ?_
  refine (if_neg (by omega)).trans ?_
  refine (if_neg (by omega)).trans ?_
  refine (if_neg (by omega)).trans ?_
  refine (if_neg (by omega)).trans ?_
  refine (if_neg (by omega)).trans ?_
  refine (if_neg (by omega)).trans ?_
  refine (if_pos h3).trans ?_
  refine (ev_eq _ _ _ _ _ _).trans ?_
  refine (if_pos h4).trans ?_
  refine (el_call rfl h5).trans ?_
  refine (if_pos h6).trans ?_
  refine (el_call rfl h7).trans ?_
  refine (if_pos h8).trans ?_
  rfl
theorem B_L_law_18_98 {T : List Shp} {c : Nat → Int → Int} {x3 : Int} {r1 : Int} {c2 : Nat → Int → Int} {r3 : Int} {c4 : Nat → Int → Int} (h1 : ¬ (w32 ((c 1000001 0) - 6)) < x3) (h2 : 0 ≤ x3 ∧ x3 < c 1000001 0) (h3 : (iand (c 1000000 x3) 63) = 47) (h4 : 0 ≤ (w32 (x3 + 1)) ∧ (w32 (x3 + 1)) < c 1000001 0) (h5 : cal 161 [vR 1, vI (c 1000000 (w32 (x3 + 1)))] (SH T, c) = some (some (vI r1), (SH T, c2))) (h6 : 0 ≤ (w32 (x3 + 1)) ∧ (w32 (x3 + 1)) < c 1000001 0) (h7 : cal 322 [vR 78, vI (c2 1000000 (w32 (x3 + 1)))] (SH T, c2) = some (some (vI r3), (SH T, c4))) (h8 : ¬ r1 = r3) : ev 356 106 18 [vR (-1), vR 1, vR 78, vI x3] [] (SH T, c) = some (some (vI 0), (SH T, c4)) := by
  refine (ev_eq _ _ _ _ _ _).trans ?_
  refine (if_neg h1).trans ?_
  refine (if_pos h2).trans ?_
  refine (if_neg (by omega)).trans ?_
  refine (if_neg (by omega)).trans ?_
  refine (if_neg (by omega)).trans ?_
  refine (if_neg (by omega)).trans ?_
  refine (if_neg (by omega)).trans ?_
  refine (if_neg (by omega)).trans ?_
  refine (if_neg (by omega)).trans ?_
  refine (if_neg (by omega)).trans ?_
  refine (if_neg (by omega)).trans ?_
  refine (if_neg (by omega)).trans ?_
  refine (if_neg (by omega)).trans ?_
  refine (if_neg (by omega)).trans ?_
  refine (if_neg (by omega)).trans ?_
  refine (if_neg (by omega)).trans ?_
  refine (if_neg (by omega)).trans ?_
  refine (if_neg (by omega)).trans ?_
  refine (if_neg (by omega)).trans ?_
  refine (if_neg (by omega)).trans ?_
  refine (if_neg (by omega)).trans ?_
  refine (if_neg (by omega)).trans ?_
  refine (if_neg (by omega)).trans ?_
  refine (if_neg (by omega)).trans ?_
  refine (if_neg (by omega)).trans ?_
  refine (if_neg (by omega)).trans ?_
  refine (if_neg (by omega)).trans ?_
  refine (if_neg (by omega)).trans ?_
  refine (if_neg (by omega)).trans ?_
  refine (if_neg (by omega)).trans ?_
  refine (if_neg (by omega)).trans ?_
  refine (if_neg (by omega)).trans ?_
  refine (if_neg (by omega)).trans ?_
  refine (if_neg (by omega)).trans ?_
  refine (if_neg (by omega)).trans ?_
  refine (if_neg (by omega)).trans ?_
  refine (if_neg (by omega)).trans ?_
  refine (if_neg (by omega)).trans ?_
  refine (if_neg (by omega)).trans ?_
  refine (if_neg (by omega)).trans ?_
  refine (if_neg (by omega)).trans ?_
  refine (if_neg (by omega)).trans ?_
  refine (if_neg (by omega)).trans ?_
  refine (if_neg (by omega)).trans ?_
  refine (if_neg (by omega)).trans ?_
  refine (if_neg (by omega)).trans ?_
  refine (if_neg (by omega)).trans ?_
  refine (if_neg (by omega)).trans ?_
  refine (if_neg (by omega)).trans ?_
  refine (if_pos h3).trans ?_
  refine (ev_eq _ _ _ _ _ _).trans ?_
  refine (if_pos h4).trans ?_
  refine (el_call rfl h5).trans ?_
  refine (if_pos h6).trans ?_
  refine (el_call rfl h7).trans ?_
  refine (if_neg h8).trans ?_
  rfl
theorem B_L_law_18_99 {T : List Shp} {c : Nat → Int → Int} {x3 : Int} {r1 : Int} {c2 : Nat → Int → Int} {r3 : Int} {c4 : Nat → Int → Int} (h1 : ¬ (w32 ((c 1000001 0) - 6)) < x3) (h2 : 0 ≤ x3 ∧ x3 < c 1000001 0) (h3 : (iand (c 1000000 x3) 63) = 48) (h4 : 0 ≤ (w32 (x3 + 1)) ∧ (w32 (x3 + 1)) < c 1000001 0) (h5 : 0 ≤ (w32 (x3 + 2)) ∧ (w32 (x3 + 2)) < c 1000001 0) (h6 : cal 162 [vR 1, vI (c 1000000 (w32 (x3 + 1))), vI (c 1000000 (w32 (x3 + 2)))] (SH T, c) = some (some (vI r1), (SH T, c2))) (h7 : 0 ≤ (w32 (x3 + 1)) ∧ (w32 (x3 + 1)) < c 1000001 0) (h8 : 0 ≤ (w32 (x3 + 2)) ∧ (w32 (x3 + 2)) < c 1000001 0) (h9 : cal 323 [vR 78, vI (c2 1000000 (w32 (x3 + 1))), vI (c2 1000000 (w32 (x3 + 2)))] (SH T, c2) = some (some (vI r3), (SH T, c4))) (h10 : r1 = r3) : ev 356 106 18 [vR (-1), vR 1, vR 78, vI x3] [] (SH T, c) = ev 356 106 1828 [vR (-1), vR 1, vR 78, vI x3] [] (SH T, c4) := by
  refine (ev_eq _ _ _ _ _ _).trans ?_
  refine (if_neg h1).trans ?_
  refine (if_pos h2).trans ?_
  refine (if_neg (by omega)).trans ?_
  refine (if_neg (by omega)).trans ?_
  refine (if_neg (by omega)).trans ?_
  refine (if_neg (by omega)).trans ?_
  refine (if_neg (by omega)).trans ?_
  refine (if_neg (by omega)).trans ?_
  refine (if_neg (by omega)).trans ?_
  refine (if_neg (by omega)).trans ?_
  refine (if_neg (by omega)).trans ?_
  refine (if_neg (by omega)).trans ?_
  refine (if_neg (by omega)).trans ?_
  refine (if_neg (by omega)).trans ?_
  refine (if_neg (by omega)).trans ?_
  refine (if_neg (by omega)).trans ?_
  refine (if_neg (by omega)).trans ?_
  refine (if_neg (by omega)).trans ?_
  refine (if_neg (by omega)).trans ?_
  refine (if_neg (by omega)).trans ?_
  refine (if_neg (by omega)).trans ?_
  refine (if_neg (by omega)).trans ?_
  refine (if_neg (by omega)).trans ?_
  refine (if_neg (by omega)).trans ?_
  refine (if_neg (by omega)).trans ?_
  refine (if_neg (by omega)).trans ?_
  refine (if_neg (by omega)).trans ?_
  refine (if_neg (by omega)).trans ?_
  refine (if_neg (by omega)).trans ?_
  refine (if_neg (by omega)).trans ?_
  refine (if_neg (by omega)).trans ?_
  refine (if_neg (by omega)).trans ?_
  refine (if_neg (by omega)).trans ?_
  refine (if_neg (by omega)).trans ?_
  refine (if_neg (by omega)).trans ?_
  refine (if_neg (by omega)).trans ?_
  refine (if_neg (by omega)).trans ?_
  refine (if_neg (by omega)).trans ?_
  refine (if_neg (by omega)).trans ?_
  refine (if_neg (by omega)).trans ?_
  refine (if_neg (by omega)).trans ?_
  refine (if_neg (by omega)).trans ?_
  refine (if_neg (by omega)).trans ?_
  refine (if_neg (by omega)).trans ?_
  refine (if_neg (by omega)).trans ?_
  refine (if_neg (by omega)).trans ?_
  refine (if_neg (by omega)).trans ?_
  refine (if_neg (by omega)).trans ?_
  refine (if_neg (by omega)).trans ?_
  refine (if_neg (by omega)).trans ?_
  refine (if_pos h3).trans ?_
  refine (ev_eq _ _ _ _ _ _).trans ?_
  refine (if_pos h4).trans ?_
  refine (if_pos h5).trans ?_
  refine (el_call rfl h6).trans ?_
  refine (if_pos h7).trans ?_
  refine (if_pos h8).trans ?_
  refine (el_call rfl h9).trans ?_
  refine (if_pos h10).trans ?_
  rfl
theorem B_L_law_18_100 {T : List Shp} {c : Nat → Int → Int} {x3 : Int} {r1 : Int} {c2 : Nat → Int → Int} {r3 : Int} {c4 : Nat → Int → Int} (h1 : ¬ (w32 ((c 1000001 0) - 6)) < x3) (h2 : 0 ≤ x3 ∧ x3 < c 1000001 0) (h3 : (iand (c 1000000 x3) 63) = 48) (h4 : 0 ≤ (w32 (x3 + 1)) ∧ (w32 (x3 + 1)) < c 1000001 0) (h5 : 0 ≤ (w32 (x3 + 2)) ∧ (w32 (x3 + 2)) < c 1000001 0) (h6 : cal 162 [vR 1, vI (c 1000000 (w32 (x3 + 1))), vI (c 1000000 (w32 (x3 + 2)))] (SH T, c) = some (some (vI r1), (SH T, c2))) (h7 : 0 ≤ (w32 (x3 + 1)) ∧ (w32 (x3 + 1)) < c 1000001 0) (h8 : 0 ≤ (w32 (x3 + 2)) ∧ (w32 (x3 + 2)) < c 1000001 0) (h9 : cal 323 [vR 78, vI (c2 1000000 (w32 (x3 + 1))), vI (c2 1000000 (w32 (x3 + 2)))] (SH T, c2) = some (some (vI r3), (SH T, c4))) (h10 : ¬ r1 = r3) : ev 356 106 18 [vR (-1), vR 1, vR 78, vI x3] [] (SH T, c) = some (some (vI 0), (SH T, c4)) := by
  refine (ev_eq _ _ _ _ _ _).trans ?_
  refine (if_neg h1).trans ?_
  refine (if_pos h2).trans ?_
  refine (if_neg (by omega)).trans ?_
  refine (if_neg (by omega)).trans ?_
  refine (if_neg (by omega)).trans ?_
  refine (if_neg (by omega)).trans ?_
  refine (if_neg (by omega)).trans ?_
  refine (if_neg (by omega)).trans ?_
  refine (if_neg (by omega)).trans ?_
  refine (if_neg (by omega)).trans ?_
  refine (if_neg (by omega)).trans ?_
  refine (if_neg (by omega)).trans ?_
  refine (if_neg (by omega)).trans ?_
  refine (if_neg (by omega)).trans ?_
  refine (if_neg (by omega)).trans ?_
  refine (if_neg (by omega)).trans ?_
  refine (if_neg (by omega)).trans ?_
  refine (if_neg (by omega)).trans ?_
  refine (if_neg (by omega)).trans ?_
  refine (if_neg (by omega)).trans ?_
  refine (if_neg (by omega)).trans ?_
  refine (if_neg (by omega)).trans ?_
  refine (if_neg (by omega)).trans ?_
  refine (if_neg (by omega)).trans ?_
  refine (if_neg (by omega)).trans ?_
  refine (if_neg (by omega)).trans ?_
  refine (if_neg (by omega)).trans ?_
  refine (if_neg (by omega)).trans ?_
  refine (if_neg (by omega)).trans ?_
  refine (if_neg (by omega)).trans ?_
  refine (if_neg (by omega)).trans ?_
  refine (if_neg (by omega)).trans ?_
  refine (if_neg (by omega)).trans ?_
  refine (if_neg (by omega)).trans ?_
  refine (if_neg (by omega)).trans ?_
  refine (if_neg (by omega)).trans ?_
  refine (if_neg (by omega)).trans ?_
  refine (if_neg (by omega)).trans ?_
  refine (if_neg (by omega)).trans ?_
  refine (if_neg (by omega)).trans ?_
  refine (if_neg (by omega)).trans ?_
  refine (if_neg (by omega)).trans ?_
  refine (if_neg (by omega)).trans ?_
  refine (if_neg (by omega)).trans ?_
  refine (if_neg (by omega)).trans ?_
  refine (if_neg (by omega)).trans ?_
  refine (if_neg (by omega)).trans ?_
  refine (if_neg (by omega)).trans ?_
  refine (if_neg (by omega)).trans ?_
  refine (if_neg (by omega)).trans ?_
  refine (if_pos h3).trans ?_
  refine (ev_eq _ _ _ _ _ _).trans ?_
  refine (if_pos h4).trans ?_
  refine (if_pos h5).trans ?_
  refine (el_call rfl h6).trans ?_
  refine (if_pos h7).trans ?_
  refine (if_pos h8).trans ?_
  refine (el_call rfl h9).trans ?_
  refine (if_neg h10).trans ?_
  rfl
theorem B_L_law_18_101 {T : List Shp} {c : Nat → Int → Int} {x3 : Int} {r1 : Int} {c2 : Nat → Int → Int} {r3 : Int} {c4 : Nat → Int → Int} (h1 : ¬ (w32 ((c 1000001 0) - 6)) < x3) (h2 : 0 ≤ x3 ∧ x3 < c 1000001 0) (h3 : (iand (c 1000000 x3) 63) = 49) (h4 : cal 163 [vR 1] (SH T, c) = some (some (vI r1), (SH T, c2))) (h5 : cal 324 [vR 78] (SH T, c2) = some (some (vI r3), (SH T, c4))) (h6 : r1 = r3) : ev 356 106 18 [vR (-1), vR 1, vR 78, vI x3] [] (SH T, c) = ev 356 106 1828 [vR (-1), vR 1, vR 78, vI x3] [] (SH T, c4) := by
  refine (ev_eq _ _ _ _ _ _).trans ?_
  refine (if_neg h1).trans ?_
  refine (if_pos h2).trans ?_
  refine (if_neg (by omega)).trans ?_
  refine (if_neg (by omega)).trans ?_
  refine (if_neg (by omega)).trans ?_
  refine (if_neg (by omega)).trans ?_
  refine (if_neg (by omega)).trans ?_
  refine (if_neg (by omega)).trans ?_
  refine (if_neg (by omega)).trans ?_
  refine (if_neg (by omega)).trans ?_
  refine (if_neg (by omega)).trans ?_
  refine (if_neg (by omega)).trans ?_
  refine (if_neg (by omega)).trans ?_
  refine (if_neg (by omega)).trans ?_
  refine (if_neg (by omega)).trans ?_
  refine (if_neg (by omega)).trans ?_
  refine (if_neg (by omega)).trans ?_
  refine (if_neg (by omega)).trans ?_
  refine (if_neg (by omega)).trans ?_
  refine (if_neg (by omega)).trans ?_
  refine (if_neg (by omega)).trans ?_
  refine (if_neg (by omega)).trans ?_
  refine (if_neg (by omega)).trans ?_
  refine (if_neg (by omega)).trans ?_
  refine (if_neg (by omega)).trans ?_
  refine (if_neg (by omega)).trans ?_
  refine (if_neg (by omega)).trans ?_
  refine (if_neg (by omega)).trans ?_
  refine (if_neg (by omega)).trans ?_
  refine (if_neg (by omega)).trans ?_
  refine (if_neg (by omega)).trans ?_
  refine (if_neg (by omega)).trans ?_
  refine (if_neg (by omega)).trans ?_
  refine (if_neg (by omega)).trans ?_
  refine (if_neg (by omega)).trans ?_
  refine (if_neg (by omega)).trans ?_
  refine (if_neg (by omega)).trans ?_
  refine (if_neg (by omega)).trans ?_
  refine (if_neg (by omega)).trans ?_
  refine (if_neg (by omega)).trans ?_
  refine (if_neg (by omega)).trans ?_
  refine (if_neg (by omega)).trans ?_
  refine (if_neg (by omega)).trans ?_
  refine (if_neg (by omega)).trans ?_
  refine (if_neg (by omega)).trans ?_
  refine (if_neg (by omega)).trans ?_
  refine (if_neg (by omega)).trans ?_
  refine (if_neg (by omega)).trans ?_
  refine (if_neg (by omega)).trans ?_
  refine (if_neg (by omega)).trans ?_
  refine (if_neg (by omega)).trans ?_
  refine (if_pos h3).trans ?_
  refine (ev_eq _ _ _ _ _ _).trans ?_
  refine (el_call rfl h4).trans ?_
  refine (el_call rfl h5).trans ?_
  refine (if_pos h6).trans ?_
  rfl
theorem B_L_law_18_102 {T : List Shp} {c : Nat → Int → Int} {x3 : Int} {r1 : Int} {c2 : Nat → Int → Int} {r3 : Int} {c4 : Nat → Int → Int} (h1 : ¬ (w32 ((c 1000001 0) - 6)) < x3) (h2 : 0 ≤ x3 ∧ x3 < c 1000001 0) (h3 : (iand (c 1000000 x3) 63) = 49) (h4 : cal 163 [vR 1] (SH T, c) = some (some (vI r1), (SH T, c2))) (h5 : cal 324 [vR 78] (SH T, c2) = some (some (vI r3), (SH T, c4))) (h6 : ¬ r1 = r3) : ev 356 106 18 [vR (-1), vR 1, vR 78, vI x3] [] (SH T, c) = some (some (vI 0), (SH T, c4)) := by
  refine (ev_eq _ _ _ _ _ _).trans ?_
  refine (if_neg h1).trans ?_
  refine (if_pos h2).trans ?_
  refine (if_neg (by omega)).trans ?_
  refine (if_neg (by omega)).trans ?_
  refine (if_neg (by omega)).trans ?_
  refine (if_neg (by omega)).trans ?_
  refine (if_neg (by omega)).trans ?_
  refine (if_neg (by omega)).trans ?_
  refine (if_neg (by omega)).trans ?_
  refine (if_neg (by omega)).trans ?_
  refine (if_neg (by omega)).trans ?_
  refine (if_neg (by omega)).trans ?_
  refine (if_neg (by omega)).trans ?_
  refine (if_neg (by omega)).trans ?_
  refine (if_neg (by omega)).trans ?_
  refine (if_neg (by omega)).trans ?_
  refine (if_neg (by omega)).trans ?_
  refine (if_neg (by omega)).trans ?_
  refine (if_neg (by omega)).trans ?_
  refine (if_neg (by omega)).trans ?_
  refine (if_neg (by omega)).trans ?_
  refine (if_neg (by omega)).trans ?_
  refine (if_neg (by omega)).trans ?_
  refine (if_neg (by omega)).trans ?_
  refine (if_neg (by omega)).trans ?_
  refine (if_neg (by omega)).trans ?_
  refine (if_neg (by omega)).trans ?_
  refine (if_neg (by omega)).trans ?_
  refine (if_neg (by omega)).trans ?_
  refine (if_neg (by omega)).trans ?_
  refine (if_neg (by omega)).trans ?_
  refine (if_neg (by omega)).trans ?_
  refine (if_neg (by omega)).trans ?_
  refine (if_neg (by omega)).trans ?_
  refine (if_neg (by omega)).trans ?_
  refine (if_neg (by omega)).trans ?_
  refine (if_neg (by omega)).trans ?_
  refine (if_neg (by omega)).trans ?_
  refine (if_neg (by omega)).trans ?_
  refine (if_neg (by omega)).trans ?_
  refine (if_neg (by omega)).trans ?_
  refine (if_neg (by omega)).trans ?_
  refine (if_neg (by omega)).trans ?_
  refine (if_neg (by omega)).trans ?_
  refine (if_neg (by omega)).trans ?_
  refine (if_neg (by omega)).trans ?_
  refine (if_neg (by omega)).trans ?_
  refine (if_neg (by omega)).trans ?_
  refine (if_neg (by omega)).trans ?_
  refine (if_neg (by omega)).trans ?_
  refine (if_neg (by omega)).trans ?_
  refine (if_pos h3).trans ?_
  refine (ev_eq _ _ _ _ _ _).trans ?_
  refine (el_call rfl h4).trans ?_
  refine (el_call rfl h5).trans ?_
  refine (if_neg h6).trans ?_
  rfl
theorem B_L_law_18_103 {T : List Shp} {c : Nat → Int → Int} {x3 : Int} {r1 : Int} {c2 : Nat → Int → Int} {r3 : Int} {c4 : Nat → Int → Int} (h1 : ¬ (w32 ((c 1000001 0) - 6)) < x3) (h2 : 0 ≤ x3 ∧ x3 < c 1000001 0) (h3 : (iand (c 1000000 x3) 63) = 50) (h4 : 0 ≤ (w32 (x3 + 1)) ∧ (w32 (x3 + 1)) < c 1000001 0) (h5 : 0 ≤ (w32 (x3 + 2)) ∧ (w32 (x3 + 2)) < c 1000001 0) (h6 : cal 164 [vR 1, vI (c 1000000 (w32 (x3 + 1))), vI (c 1000000 (w32 (x3 + 2)))] (SH T, c) = some (some (vI r1), (SH T, c2))) (h7 : 0 ≤ (w32 (x3 + 1)) ∧ (w32 (x3 + 1)) < c 1000001 0) (h8 : 0 ≤ (w32 (x3 + 2)) ∧ (w32 (x3 + 2)) < c 1000001 0) (h9 : cal 325 [vR 78, vI (c2 1000000 (w32 (x3 + 1))), vI (c2 1000000 (w32 (x3 + 2)))] (SH T, c2) = some (some (vI r3), (SH T, c4))) (h10 : r1 = r3) : ev 356 106 18 [vR (-1), vR 1, vR 78, vI x3] [] (SH T, c) = ev 356 106 1828 [vR (-1), vR 1, vR 78, vI x3] [] (SH T, c4) := by
  refine (ev_eq _ _ _ _ _ _).trans ?_
  refine (if_neg h1).trans ?_
  refine (if_pos h2).trans ?_
  refine (if_neg (by omega)).trans ?_
  refine (if_neg (by omega)).trans ?_
  refine (if_neg (by omega)).trans ?_
  refine (if_neg (by omega)).trans ?_
  refine (if_neg (by omega)).trans ?_
  refine (if_neg (by omega)).trans ?_
  refine (if_neg (by omega)).trans ?_
  refine (if_neg (by omega)).trans ?_
  refine (if_neg (by omega)).trans ?_
  refine (if_neg (by omega)).trans ?_
  refine (if_neg (by omega)).trans ?_
  refine (if_neg (by omega)).trans ?_
  refine (if_neg (by omega)).trans ?_
  refine (if_neg (by omega)).trans ?_
  refine (if_neg (by omega)).trans ?_
  refine (if_neg (by omega)).trans ?_
  refine (if_neg (by omega)).trans ?_
  refine (if_neg (by omega)).trans ?_
  refine (if_neg (by omega)).trans ?_
  refine (if_neg (by omega)).trans ?_
  refine (if_neg (by omega)).trans ?_
  refine (if_neg (by omega)).trans ?_
  refine (if_neg (by omega)).trans ?_
  refine (if_neg (by omega)).trans ?_
  refine (if_neg (by omega)).trans ?_
  refine (if_neg (by omega)).trans ?_
  refine (if_neg (by omega)).trans ?_
  refine (if_neg (by omega)).trans ?_
  refine (if_neg (by omega)).trans ?_
  refine (if_neg (by omega)).trans ?_
  refine (if_neg (by omega)).trans ?_
  refine (if_neg (by omega)).trans ?_
  refine (if_neg (by omega)).trans ?_
  refine (if_neg (by omega)).trans ?_
  refine (if_neg (by omega)).trans ?_
  refine (if_neg (by omega)).trans ?_
  refine (if_neg (by omega)).trans ?_
  refine (if_neg (by omega)).trans ?_
  refine (if_neg (by omega)).trans ?_
  refine (if_neg (by omega)).trans ?_
  refine (if_neg (by omega)).trans ?_
  refine (if_neg (by omega)).trans ?_
  refine (if_neg (by omega)).trans ?_
  refine (if_neg (by omega)).trans ?_
  refine (if_neg (by omega)).trans ?_
  refine (if_neg (by omega)).trans ?_
  refine (if_neg (by omega)).trans ?_
  refine (if_neg (by omega)).trans ?_
  refine (if_neg (by omega)).trans ?_
  refine (if_neg (by omega)).trans ?_
  refine (if_pos h3).trans ?_
  refine (ev_eq _ _ _ _ _ _).trans ?_
  refine (if_pos h4).trans ?_
  refine (if_pos h5).trans ?_
  refine (el_call rfl h6).trans ?_
  refine (if_pos h7).trans ?_
  refine (if_pos h8).trans ?_
  refine (el_call rfl h9).trans ?_
  refine (if_pos h10).trans ?_
  rfl
theorem B_L_law_18_104 {T : List Shp} {c : Nat → Int → Int} {x3 : Int} {r1 : Int} {c2 : Nat → Int → Int} {r3 : Int} {c4 : Nat → Int → Int} (h1 : ¬ (w32 ((c 1000001 0) - 6)) < x3) (h2 : 0 ≤ x3 ∧ x3 < c 1000001 0) (h3 : (iand (c 1000000 x3) 63) = 50) (h4 : 0 ≤ (w32 (x3 + 1)) ∧ (w32 (x3 + 1)) < c 1000001 0) (h5 : 0 ≤ (w32 (x3 + 2)) ∧ (w32 (x3 + 2)) < c 1000001 0) (h6 : cal 164 [vR 1, vI (c 1000000 (w32 (x3 + 1))), vI (c 1000000 (w32 (x3 + 2)))] (SH T, c) = some (some (vI r1), (SH T, c2))) (h7 : 0 ≤ (w32 (x3 + 1)) ∧ (w32 (x3 + 1)) < c 1000001 0) (h8 : 0 ≤ (w32 (x3 + 2)) ∧ (w32 (x3 + 2)) < c 1000001 0) (h9 : cal 325 [vR 78, vI (c2 1000000 (w32 (x3 + 1))), vI (c2 1000000 (w32 (x3 + 2)))] (SH T, c2) = some (some (vI r3), (SH T, c4))) (h10 : ¬ r1 = r3) : ev 356 106 18 [vR (-1), vR 1, vR 78, vI x3] [] (SH T, c) = some (some (vI 0), (SH T, c4)) := by
  refine (ev_eq _ _ _ _ _ _).trans ?_
  refine (if_neg h1).trans ?_
  refine (if_pos h2).trans ?_
  refine (if_neg (by omega)).trans ?_
  refine (if_neg (by omega)).trans ?_
  refine (if_neg (by omega)).trans ?_
  refine (if_neg (by omega)).trans ?_
  refine (if_neg (by omega)).trans ?_
  refine (if_neg (by omega)).trans ?_
  refine (if_neg (by omega)).trans ?_
  refine (if_neg (by omega)).trans ?_
  refine (if_neg (by omega)).trans ?_
  refine (if_neg (by omega)).trans ?_
  refine (if_neg (by omega)).trans ?_
  refine (if_neg (by omega)).trans ?_
  refine (if_neg (by omega)).trans ?_
  refine (if_neg (by omega)).trans ?_
  refine (if_neg (by omega)).trans ?_
  refine (if_neg (by omega)).trans ?_
  refine (if_neg (by omega)).trans ?_
  refine (if_neg (by omega)).trans ?_
  refine (if_neg (by omega)).trans ?_
  refine (if_neg (by omega)).trans ?_
  refine (if_neg (by omega)).trans ?_
  refine (if_neg (by omega)).trans ?_
  refine (if_neg (by omega)).trans ?_
  refine (if_neg (by omega)).trans ?_
  refine (if_neg (by omega)).trans ?_
  refine (if_neg (by omega)).trans ?_
  refine (if_neg (by omega)).trans ?_
  refine (if_neg (by omega)).trans ?_
  refine (if_neg (by omega)).trans ?_
  refine (if_neg (by omega)).trans ?_
  refine (if_neg (by omega)).trans ?_
  refine (if_neg (by omega)).trans ?_
  refine (if_neg (by omega)).trans ?_
  refine (if_neg (by omega)).trans ?_
  refine (if_neg (by omega)).trans ?_
  refine (if_neg (by omega)).trans ?_
  refine (if_neg (by omega)).trans ?_
  refine (if_neg (by omega)).trans ?_
  refine (if_neg (by omega)).trans ?_
  refine (if_neg (by omega)).trans ?_
  refine (if_neg (by omega)).trans ?_
  refine (if_neg (by omega)).trans ?_
  refine (if_neg (by omega)).trans ?_
  refine (if_neg (by omega)).trans ?_
  refine (if_neg (by omega)).trans ?_
  refine (if_neg (by omega)).trans ?_
  refine (if_neg (by omega)).trans ?_
  refine (if_neg (by omega)).trans ?_
  refine (if_neg (by omega)).trans ?_
  refine (if_neg (by omega)).trans ?_
  refine (if_pos h3).trans ?_
  refine (ev_eq _ _ _ _ _ _).trans ?_
  refine (if_pos h4).trans ?_
  refine (if_pos h5).trans ?_
  refine (el_call rfl h6).trans ?_
  refine (if_pos h7).trans ?_
  refine (if_pos h8).trans ?_
  refine (el_call rfl h9).trans ?_
  refine (if_neg h10).trans ?_
  rfl
theorem B_L_law_18_105 {T : List Shp} {c : Nat → Int → Int} {x3 : Int} {r1 : Int} {c2 : Nat → Int → Int} {r3 : Int} {c4 : Nat → Int → Int} (h1 : ¬ (w32 ((c 1000001 0) - 6)) < x3) (h2 : 0 ≤ x3 ∧ x3 < c 1000001 0) (h3 : (iand (c 1000000 x3) 63) = 51) (h4 : 0 ≤ (w32 (x3 + 1)) ∧ (w32 (x3 + 1)) < c 1000001 0) (h5 : 0 ≤ (w32 (x3 + 2)) ∧ (w32 (x3 + 2)) < c 1000001 0) (h6 : cal 165 [vR 1, vI (c 1000000 (w32 (x3 + 1))), vI (c 1000000 (w32 (x3 + 2)))] (SH T, c) = some (some (vI r1), (SH T, c2))) (h7 : 0 ≤ (w32 (x3 + 1)) ∧ (w32 (x3 + 1)) < c 1000001 0) (h8 : 0 ≤ (w32 (x3 + 2)) ∧ (w32 (x3 + 2)) < c 1000001 0) (h9 : cal 337 [vR 78, vI (c2 1000000 (w32 (x3 + 1))), vI (c2 1000000 (w32 (x3 + 2)))] (SH T, c2) = some (some (vI r3), (SH T, c4))) (h10 : r1 = r3) : ev 356 106 18 [vR (-1), vR 1, vR 78, vI x3] [] (SH T, c) = ev 356 106 1828 [vR (-1), vR 1, vR 78, vI x3] [] (SH T, c4) := by
  refine (ev_eq _ _ _ _ _ _).trans ?_
  refine (if_neg h1).trans ?_
  refine (if_pos h2).trans ?_
  refine (if_neg (by omega)).trans ?_
  refine (if_neg (by omega)).trans ?_
  refine (if_neg (by omega)).trans ?_
  refine (if_neg (by omega)).trans ?_
  refine (if_neg (by omega)).trans ?_
  refine (if_neg (by omega)).trans ?_
  refine (if_neg (by omega)).trans ?_
  refine (if_neg (by omega)).trans ?_
  refine (if_neg (by omega)).trans ?_
  refine (if_neg (by omega)).trans ?_
  refine (if_neg (by omega)).trans ?_
  refine (if_neg (by omega)).trans ?_
  refine (if_neg (by omega)).trans ?_
  refine (if_neg (by omega)).trans ?_
  refine (if_neg (by omega)).trans ?_
  refine (if_neg (by omega)).trans ?_
  refine (if_neg (by omega)).trans ?_
  refine (if_neg (by omega)).trans ?_
  refine (if_neg (by omega)).trans ?_
  refine (if_neg (by omega)).trans ?_
  refine (if_neg (by omega)).trans ?_
  refine (if_neg (by omega)).trans ?_
  refine (if_neg (by omega)).trans ?_
  refine (if_neg (by omega)).trans ?_
  refine (if_neg (by omega)).trans ?_
  refine (if_neg (by omega)).trans ?_
  refine (if_neg (by omega)).trans ?_
  refine (if_neg (by omega)).trans ?_
  refine (if_neg (by omega)).trans ?_
  refine (if_neg (by omega)).trans ?_
  refine (if_neg (by omega)).trans ?_
  refine (if_neg (by omega)).trans ?_
  refine (if_neg (by omega)).trans ?_
  refine (if_neg (by omega)).trans ?_
  refine (if_neg (by omega)).trans ?_
  refine (if_neg (by omega)).trans ?_
  refine (if_neg (by omega)).trans ?_
  refine (if_neg (by omega)).trans ?_
  refine (if_neg (by omega)).trans ?_
  refine (if_neg (by omega)).trans ?_
  refine (if_neg (by omega)).trans ?_
  refine (if_neg (by omega)).trans ?_
  refine (if_neg (by omega)).trans ?_
  refine (if_neg (by omega)).trans ?_
  refine (if_neg (by omega)).trans ?_
  refine (if_neg (by omega)).trans ?_
  refine (if_neg (by omega)).trans ?_
  refine (if_neg (by omega)).trans ?_
  refine (if_neg (by omega)).trans ?_
  refine (if_neg (by omega)).trans ?_
  refine (if_neg (by omega)).trans ?_
  refine (if_pos h3).trans ?_
  refine (ev_eq _ _ _ _ _ _).trans ?_
  refine (if_pos h4).trans ?_
  refine (if_pos h5).trans ?_
  refine (el_call rfl h6).trans ?_
  refine (if_pos h7).trans ?_
  refine (if_pos h8).trans ?_
  refine (el_call rfl h9).trans ?_
  refine (if_pos h10).trans ?_
  rfl
theorem B_L_law_18_106 {T : List Shp} {c : Nat → Int → Int} {x3 : Int} {r1 : Int} {c2 : Nat → Int → Int} {r3 : Int} {c4 : Nat → Int → Int} (h1 : ¬ (w32 ((c 1000001 0) - 6)) < x3) (h2 : 0 ≤ x3 ∧ x3 < c 1000001 0) (h3 : (iand (c 1000000 x3) 63) = 51) (h4 : 0 ≤ (w32 (x3 + 1)) ∧ (w32 (x3 + 1)) < c 1000001 0) (h5 : 0 ≤ (w32 (x3 + 2)) ∧ (w32 (x3 + 2)) < c 1000001 0) (h6 : cal 165 [vR 1, vI (c 1000000 (w32 (x3 + 1))), vI (c 1000000 (w32 (x3 + 2)))] (SH T, c) = some (some (vI r1), (SH T, c2))) (h7 : 0 ≤ (w32 (x3 + 1)) ∧ (w32 (x3 + 1)) < c 1000001 0) (h8 : 0 ≤ (w32 (x3 + 2)) ∧ (w32 (x3 + 2)) < c 1000001 0) (h9 : cal 337 [vR 78, vI (c2 1000000 (w32 (x3 + 1))), vI (c2 1000000 (w32 (x3 + 2)))] (SH T, c2) = some (some (vI r3), (SH T, c4))) (h10 : ¬ r1 = r3) : ev 356 106 18 [vR (-1), vR 1, vR 78, vI x3] [] (SH T, c) = some (some (vI 0), (SH T, c4)) := by
  refine (ev_eq _ _ _ _ _ _).trans ?_
  refine (if_neg h1).trans ?_
  refine (if_pos h2).trans ?_
  refine (if_neg (by omega)).trans ?_
  refine (if_neg (by omega)).trans ?_
  refine (if_neg (by omega)).trans ?_
  refine (if_neg (by omega)).trans ?_
  refine (if_neg (by omega)).trans ?_
  refine (if_neg (by omega)).trans ?_
  refine (if_neg (by omega)).trans ?_
  refine (if_neg (by omega)).trans ?_
  refine (if_neg (by omega)).trans ?_
  refine (if_neg (by omega)).trans ?_
  refine (if_neg (by omega)).trans ?_
  refine (if_neg (by omega)).trans ?_
  refine (if_neg (by omega)).trans ?_
  refine (if_neg (by omega)).trans ?_
  refine (if_neg (by omega)).trans ?_
  refine (if_neg (by omega)).trans ?_
  refine (if_neg (by omega)).trans ?_
  refine (if_neg (by omega)).trans ?_
  refine (if_neg (by omega)).trans ?_
  refine (if_neg (by omega)).trans ?_
  refine (if_neg (by omega)).trans ?_
  refine (if_neg (by omega)).trans ?_
  refine (if_neg (by omega)).trans ?_
  refine (if_neg (by omega)).trans ?_
  refine (if_neg (by omega)).trans ?_
  refine (if_neg (by omega)).trans ?_
  refine (if_neg (by omega)).trans ?_
  refine (if_neg (by omega)).trans ?_
  refine (if_neg (by omega)).trans ?_
  refine (if_neg (by omega)).trans ?_
  refine (if_neg (by omega)).trans ?_
  refine (if_neg (by omega)).trans ?_
  refine (if_neg (by omega)).trans ?_
  refine (if_neg (by omega)).trans ?_
  refine (if_neg (by omega)).trans ?_
  refine (if_neg (by omega)).trans ?_
  refine (if_neg (by omega)).trans ?_
  refine (if_neg (by omega)).trans ?_
  refine (if_neg (by omega)).trans ?_
  refine (if_neg (by omega)).trans ?_
  refine (if_neg (by omega)).trans ?_
  refine (if_neg (by omega)).trans ?_
  refine (if_neg (by omega)).trans ?_
  refine (if_neg (by omega)).trans ?_
  refine (if_neg (by omega)).trans ?_
  refine (if_neg (by omega)).trans ?_
  refine (if_neg (by omega)).trans ?_
  refine (if_neg (by omega)).trans ?_
  refine (if_neg (by omega)).trans ?_
  refine (if_neg (by omega)).trans ?_
  refine (if_neg (by omega)).trans ?_
  refine (if_pos h3).trans ?_
  refine (ev_eq _ _ _ _ _ _).trans ?_
  refine (if_pos h4).trans ?_
  refine (if_pos h5).trans ?_
  refine (el_call rfl h6).trans ?_
  refine (if_pos h7).trans ?_
  refine (if_pos h8).trans ?_
  refine (el_call rfl h9).trans ?_
  refine (if_neg h10).trans ?_
  rfl
theorem B_L_law_18_107 {T : List Shp} {c : Nat → Int → Int} {x3 : Int} {r1 : Int} {c2 : Nat → Int → Int} {r3 : Int} {c4 : Nat → Int → Int} (h1 : ¬ (w32 ((c 1000001 0) - 6)) < x3) (h2 : 0 ≤ x3 ∧ x3 < c 1000001 0) (h3 : (iand (c 1000000 x3) 63) = 52) (h4 : 0 ≤ (w32 (x3 + 1)) ∧ (w32 (x3 + 1)) < c 1000001 0) (h5 : cal 166 [vR 1, vI (c 1000000 (w32 (x3 + 1)))] (SH T, c) = some (some (vI r1), (SH T, c2))) (h6 : 0 ≤ (w32 (x3 + 1)) ∧ (w32 (x3 + 1)) < c 1000001 0) (h7 : cal 338 [vR 78, vI (c2 1000000 (w32 (x3 + 1)))] (SH T, c2) = some (some (vI r3), (SH T, c4))) (h8 : r1 = r3) : ev 356 106 18 [vR (-1), vR 1, vR 78, vI x3] [] (SH T, c) = ev 356 106 1828 [vR (-1), vR 1, vR 78, vI x3] [] (SH T, c4) := by
  refine (ev_eq _ _ _ _ _ _).trans ?_
  refine (if_neg h1).trans ?_
  refine (if_pos h2).trans ?_
  refine (if_neg (by omega)).trans ?_
  refine (if_neg (by omega)).trans ?_
  refine (if_neg (by omega)).trans ?_
  refine (if_neg (by omega)).trans ?_
  refine (if_neg (by omega)).trans ?_
  refine (if_neg (by omega)).trans ?_
  refine (if_neg (by omega)).trans ?_
  refine (if_neg (by omega)).trans ?_
  refine (if_neg (by omega)).trans ?_
  refine (if_neg (by omega)).trans ?_
  refine (if_neg (by omega)).trans ?_
  refine (if_neg (by omega)).trans ?_
  refine (if_neg (by omega)).trans ?_
  refine (if_neg (by omega)).trans ?_
  refine (if_neg (by omega)).trans ?_
  refine (if_neg (by omega)).trans ?_
  refine (if_neg (by omega)).trans ?_
  refine (if_neg (by omega)).trans ?_
  refine (if_neg (by omega)).trans ?_
  refine (if_neg (by omega)).trans ?_
  refine (if_neg (by omega)).trans ?_
  refine (if_neg (by omega)).trans ?_
  refine (if_neg (by omega)).trans ?_
  refine (if_neg (by omega)).trans ?_
  refine (if_neg (by omega)).trans ?_
  refine (if_neg (by omega)).trans ?_
  refine (if_neg (by omega)).trans ?_
  refine (if_neg (by omega)).trans ?_
  refine (if_neg (by omega)).trans ?_
  refine (if_neg (by omega)).trans ?_
  refine (if_neg (by omega)).trans ?_
  refine (if_neg (by omega)).trans ?_
  refine (if_neg (by omega)).trans ?_
  refine (if_neg (by omega)).trans ?_
  refine (if_neg (by omega)).trans ?_
  refine (if_neg (by omega)).trans ?_
  refine (if_neg (by omega)).trans ?_
  refine (if_neg (by omega)).trans ?_
  refine (if_neg (by omega)).trans ?_
  refine (if_neg (by omega)).trans ?_
  refine (if_neg (by omega)).trans ?_
  refine (if_neg (by omega)).trans ?_
  refine (if_neg (by omega)).trans ?_
  refine (if_neg (by omega)).trans ?_
  refine (if_neg (by omega)).trans ?_
  refine (if_neg (by omega)).trans ?_
  refine (if_neg (by omega)).trans ?_
  refine (if_neg (by omega)).trans ?_
  refine (if_neg (by omega)).trans ?_
  refine (if_neg (by omega)).trans ?_
  refine (if_neg (by omega)).trans ?_
  refine (if_neg (by omega)).trans ?_
  refine (if_pos h3).trans ?_
  refine (ev_eq _ _ _ _ _ _).trans ?_
  refine (if_pos h4).trans ?_
  refine (el_call rfl h5).trans ?_
  refine (if_pos h6).trans ?_
  refine (el_call rfl h7).trans ?_
  refine (if_pos h8).trans ?_
  rfl
theorem B_L_law_18_108 {T : List Shp} {c : Nat → Int → Int} {x3 : Int} {r1 : Int} {c2 : Nat → Int → Int} {r3 : Int} {c4 : Nat → Int → Int} (h1 : ¬ (w32 ((c 1000001 0) - 6)) < x3) (h2 : 0 ≤ x3 ∧ x3 < c 1000001 0) (h3 : (iand (c 1000000 x3) 63) = 52) (h4 : 0 ≤ (w32 (x3 + 1)) ∧ (w32 (x3 + 1)) < c 1000001 0) (h5 : cal 166 [vR 1, vI (c 1000000 (w32 (x3 + 1)))] (SH T, c) = some (some (vI r1), (SH T, c2))) (h6 : 0 ≤ (w32 (x3 + 1)) ∧ (w32 (x3 + 1)) < c 1000001 0) (h7 : cal 338 [vR 78, vI (c2 1000000 (w32 (x3 + 1)))] (SH T, c2) = some (some (vI r3), (SH T, c4))) (h8 : ¬ r1 = r3) : ev 356 106 18 [vR (-1), vR 1, vR 78, vI x3] [] (SH T, c) = some (some (vI 0), (SH T, c4)) := by
  refine (ev_eq _ _ _ _ _ _).trans ?_
  refine (if_neg h1).trans ?_
  refine (if_pos h2).trans ?_
  refine (if_neg (by omega)).trans ?_
  refine (if_neg (by omega)).trans ?_
  refine (if_neg (by omega)).trans ?_
  refine (if_neg (by omega)).trans ?_
  refine (if_neg (by omega)).trans ?_
  refine (if_neg (by omega)).trans ?_
  refine (if_neg (by omega)).trans ?_
  refine (if_neg (by omega)).trans ?_
  refine (if_neg (by omega)).trans ?_
  refine (if_neg (by omega)).trans ?_
  refine (if_neg (by omega)).trans ?_
  refine (if_neg (by omega)).trans ?_
  refine (if_neg (by omega)).trans ?_
  refine (if_neg (by omega)).trans ?_
  refine (if_neg (by omega)).trans ?_
  refine (if_neg (by omega)).trans ?_
  refine (if_neg (by omega)).trans ?_
  refine (if_neg (by omega)).trans ?_
  refine (if_neg (by omega)).trans ?_
  refine (if_neg (by omega)).trans ?_
  refine (if_neg (by omega)).trans ?_
  refine (if_neg (by omega)).trans ?_
  refine (if_neg (by omega)).trans ?_
  refine (if_neg (by omega)).trans ?_
  refine (if_neg (by omega)).trans ?_
  refine (if_neg (by omega)).trans ?_
  refine (if_neg (by omega)).trans ?_
  refine (if_neg (by omega)).trans ?_
  refine (if_neg (by omega)).trans ?_
  refine (if_neg (by omega)).trans ?_
  refine (if_neg (by omega)).trans ?_
  refine (if_neg (by omega)).trans ?_
  refine (if_neg (by omega)).trans ?_
  refine (if_neg (by omega)).trans ?_
  refine (if_neg (by omega)).trans ?_
  refine (if_neg (by omega)).trans ?_
  refine (if_neg (by omega)).trans ?_
  refine (if_neg (by omega)).trans ?_
  refine (if_neg (by omega)).trans ?_
  refine (if_neg (by omega)).trans ?_
  refine (if_neg (by omega)).trans ?_
  refine (if_neg (by omega)).trans ?_
  refine (if_neg (by omega)).trans ?_
  refine (if_neg (by omega)).trans ?_
  refine (if_neg (by omega)).trans ?_
  refine (if_neg (by omega)).trans ?_
  refine (if_neg (by omega)).trans ?_
  refine (if_neg (by omega)).trans ?_
  refine (if_neg (by omega)).trans ?_
  refine (if_neg (by omega)).trans ?_
  refine (if_neg (by omega)).trans ?_
  refine (if_neg (by omega)).trans ?_
  refine (if_pos h3).trans ?_
  refine (ev_eq _ _ _ _ _ _).trans ?_
  refine (if_pos h4).trans ?_
  refine (el_call rfl h5).trans ?_
  refine (if_pos h6).trans ?_
  refine (el_call rfl h7).trans ?_
  refine (if_neg h8).trans ?_
  rfl
theorem B_L_law_18_109 {T : List Shp} {c : Nat → Int → Int} {x3 : Int} {r1 : Int} {c2 : Nat → Int → Int} {r3 : Int} {c4 : Nat → Int → Int} (h1 : ¬ (w32 ((c 1000001 0) - 6)) < x3) (h2 : 0 ≤ x3 ∧ x3 < c 1000001 0) (h3 : (iand (c 1000000 x3) 63) = 53) (h4 : 0 ≤ (w32 (x3 + 1)) ∧ (w32 (x3 + 1)) < c 1000001 0) (h5 : cal 167 [vR 1, vI (c 1000000 (w32 (x3 + 1)))] (SH T, c) = some (some (vI r1), (SH T, c2))) (h6 : 0 ≤ (w32 (x3 + 1)) ∧ (w32 (x3 + 1)) < c 1000001 0) (h7 : cal 192 [vR 78, vI (c2 1000000 (w32 (x3 + 1)))] (SH T, c2) = some (some (vI r3), (SH T, c4))) (h8 : r1 = r3) : ev 356 106 18 [vR (-1), vR 1, vR 78, vI x3] [] (SH T, c) = ev 356 106 1828 [vR (-1), vR 1, vR 78, vI x3] [] (SH T, c4) := by
  refine (ev_eq _ _ _ _ _ _).trans ?_
  refine (if_neg h1).trans ?_
  refine (if_pos h2).trans ?_
  refine (if_neg (by omega)).trans ?_
  refine (if_neg (by omega)).trans ?_
  refine (if_neg (by omega)).trans ?_
  refine (if_neg (by omega)).trans ?_
  refine (if_neg (by omega)).trans ?_
  refine (if_neg (by omega)).trans ?_
  refine (if_neg (by omega)).trans ?_
  refine (if_neg (by omega)).trans ?_
  refine (if_neg (by omega)).trans ?_
  refine (if_neg (by omega)).trans ?_
  refine (if_neg (by omega)).trans ?_
  refine (if_neg (by omega)).trans ?_
  refine (if_neg (by omega)).trans ?_
  refine (if_neg (by omega)).trans ?_
  refine (if_neg (by omega)).trans ?_
  refine (if_neg (by omega)).trans ?_
  refine (if_neg (by omega)).trans ?_
  refine (if_neg (by omega)).trans ?_
  refine (if_neg (by omega)).trans ?_
  refine (if_neg (by omega)).trans ?_
  refine (if_neg (by omega)).trans ?_
  refine (if_neg (by omega)).trans ?_
  refine (if_neg (by omega)).trans ?_
  refine (if_neg (by omega)).trans ?_
  refine (if_neg (by omega)).trans ?_
  refine (if_neg (by omega)).trans ?_
  refine (if_neg (by omega)).trans ?_
  refine (if_neg (by omega)).trans ?_
  refine (if_neg (by omega)).trans ?_
  refine (if_neg (by omega)).trans ?_
  refine (if_neg (by omega)).trans ?_
  refine (if_neg (by omega)).trans ?_
  refine (if_neg (by omega)).trans ?_
  refine (if_neg (by omega)).trans ?_
  refine (if_neg (by omega)).trans ?_
  refine (if_neg (by omega)).trans ?_
  refine (if_neg (by omega)).trans ?_
  refine (if_neg (by omega)).trans ?_
  refine (if_neg (by omega)).trans ?_
  refine (if_neg (by omega)).trans ?_
  refine (if_neg (by omega)).trans ?_
  refine (if_neg (by omega)).trans ?_
  refine (if_neg (by omega)).trans ?_
  refine (if_neg (by omega)).trans ?_
  refine (if_neg (by omega)).trans ?_
  refine (if_neg (by omega)).trans ?_
  refine (if_neg (by omega)).trans ?_
  refine (if_neg (by omega)).trans ?_
  refine (if_neg (by omega)).trans ?_
  refine (if_neg (by omega)).trans ?_
  refine (if_neg (by omega)).trans ?_
  refine (if_neg (by omega)).trans ?_
  refine (if_neg (by omega)).trans ?_
  refine (if_pos h3).trans ?_
  refine (ev_eq _ _ _ _ _ _).trans ?_
  refine (if_pos h4).trans ?_
  refine (el_call rfl h5).trans ?_
  refine (if_pos h6).trans ?_
  refine (el_call rfl h7).trans ?_
  refine (if_pos h8).trans ?_
  rfl
theorem B_L_law_18_110 {T : List Shp} {c : Nat → Int → Int} {x3 : Int} {r1 : Int} {c2 : Nat → Int → Int} {r3 : Int} {c4 : Nat → Int → Int} (h1 : ¬ (w32 ((c 1000001 0) - 6)) < x3) (h2 : 0 ≤ x3 ∧ x3 < c 1000001 0) (h3 : (iand (c 1000000 x3) 63) = 53) (h4 : 0 ≤ (w32 (x3 + 1)) ∧ (w32 (x3 + 1)) < c 1000001 0) (h5 : cal 167 [vR 1, vI (c 1000000 (w32 (x3 + 1)))] (SH T, c) = some (some (vI r1), (SH T, c2))) (h6 : 0 ≤ (w32 (x3 + 1)) ∧ (w32 (x3 + 1)) < c 1000001 0) (h7 : cal 192 [vR 78, vI (c2 1000000 (w32 (x3 + 1)))] (SH T, c2) = some (some (vI r3), (SH T, c4))) (h8 : ¬ r1 = r3) : ev 356 106 18 [vR (-1), vR 1, vR 78, vI x3] [] (SH T, c) = some (some (vI 0), (SH T, c4)) := by
  refine (ev_eq _ _ _ _ _ _).trans ?_
  refine (if_neg h1).trans ?_
  refine (if_pos h2).trans ?_
  refine (if_neg (by omega)).trans ?_
  refine (if_neg (by omega)).trans ?_
  refine (if_neg (by omega)).trans ?_
  refine (if_neg (by omega)).trans ?_
  refine (if_neg (by omega)).trans ?_
  refine (if_neg (by omega)).trans ?_
  refine (if_neg (by omega)).trans ?_
  refine (if_neg (by omega)).trans ?_
  refine (if_neg (by omega)).trans ?_
  refine (if_neg (by omega)).trans ?_
  refine (if_neg (by omega)).trans ?_
  refine (if_neg (by omega)).trans ?_
  refine (if_neg (by omega)).trans ?_
  refine (if_neg (by omega)).trans ?_
  refine (if_neg (by omega)).trans ?_
  refine (if_neg (by omega)).trans ?_
  refine (if_neg (by omega)).trans ?_
  refine (if_neg (by omega)).trans ?_
  refine (if_neg (by omega)).trans ?_
  refine (if_neg (by omega)).trans ?_
  refine (if_neg (by omega)).trans ?_
  refine (if_neg (by omega)).trans ?_
  refine (if_neg (by omega)).trans ?_
  refine (if_neg (by omega)).trans ?_
  refine (if_neg (by omega)).trans ?_
  refine (if_neg (by omega)).trans ?_
  refine (if_neg (by omega)).trans ?_
  refine (if_neg (by omega)).trans ?_
  refine (if_neg (by omega)).trans ?_
  refine (if_neg (by omega)).trans ?_
  refine (if_neg (by omega)).trans ?_
  refine (if_neg (by omega)).trans ?_
  refine (if_neg (by omega)).trans ?_
  refine (if_neg (by omega)).trans ?_
  refine (if_neg (by omega)).trans ?_
  refine (if_neg (by omega)).trans ?_
  refine (if_neg (by omega)).trans ?_
  refine (if_neg (by omega)).trans ?_
  refine (if_neg (by omega)).trans ?_
  refine (if_neg (by omega)).trans ?_
  refine (if_neg (by omega)).trans ?_
  refine (if_neg (by omega)).trans ?_
  refine (if_neg (by omega)).trans ?_
  refine (if_neg (by omega)).trans ?_
  refine (if_neg (by omega)).trans ?_
  refine (if_neg (by omega)).trans ?_
  refine (if_neg (by omega)).trans ?_
  refine (if_neg (by omega)).trans ?_
  refine (if_neg (by omega)).trans ?_
  refine (if_neg (by omega)).trans ?_
  refine (if_neg (by omega)).trans ?_
  refine (if_neg (by omega)).trans ?_
  refine (if_neg (by omega)).trans ?_
  refine (if_pos h3).trans ?_
  refine (ev_eq _ _ _ _ _ _).trans ?_
  refine (if_pos h4).trans ?_
  refine (el_call rfl h5).trans ?_
  refine (if_pos h6).trans ?_
  refine (el_call rfl h7).trans ?_
  refine (if_neg h8).trans ?_
  rfl
theorem B_L_law_18_111 {T : List Shp} {c : Nat → Int → Int} {x3 : Int} {r1 : Int} {c2 : Nat → Int → Int} {r3 : Int} {c4 : Nat → Int → Int} (h1 : ¬ (w32 ((c 1000001 0) - 6)) < x3) (h2 : 0 ≤ x3 ∧ x3 < c 1000001 0) (h3 : (iand (c 1000000 x3) 63) = 54) (h4 : 0 ≤ (w32 (x3 + 1)) ∧ (w32 (x3 + 1)) < c 1000001 0) (h5 : cal 168 [vR 1, vI (c 1000000 (w32 (x3 + 1)))] (SH T, c) = some (some (vI r1), (SH T, c2))) (h6 : 0 ≤ (w32 (x3 + 1)) ∧ (w32 (x3 + 1)) < c 1000001 0) (h7 : cal 193 [vR 78, vI (c2 1000000 (w32 (x3 + 1)))] (SH T, c2) = some (some (vI r3), (SH T, c4))) (h8 : r1 = r3) : ev 356 106 18 [vR (-1), vR 1, vR 78, vI x3] [] (SH T, c) = ev 356 106 1828 [vR (-1), vR 1, vR 78, vI x3] [] (SH T, c4) := by
  refine (ev_eq _ _ _ _ _ _).trans ?_
  refine (if_neg h1).trans ?_
  refine (if_pos h2).trans ?_
  refine (if_neg (by omega)).trans ?_
  refine (if_neg (by omega)).trans ?_
  refine (if_neg (by omega)).trans ?_
  refine (if_neg (by omega)).trans ?_
  refine (if_neg (by omega)).trans ?_
  refine (if_neg (by omega)).trans ?_
  refine (if_neg (by omega)).trans ?_
  refine (if_neg (by omega)).trans ?_
  refine (if_neg (by omega)).trans ?_
  refine (if_neg (by omega)).trans ?_
  refine (if_neg (by omega)).trans ?_
  refine (if_neg (by omega)).trans ?_
  refine (if_neg (by omega)).trans ?_
  refine (if_neg (by omega)).trans ?_
  refine (if_neg (by omega)).trans ?_
  refine (if_neg (by omega)).trans ?_
  refine (if_neg (by omega)).trans ?_
  refine (if_neg (by omega)).trans ?_
  refine (if_neg (by omega)).trans ?_
  refine (if_neg (by omega)).trans ?_
  refine (if_neg (by omega)).trans ?_
  refine (if_neg (by omega)).trans ?_
  refine (if_neg (by omega)).trans ?_
  refine (if_neg (by omega)).trans ?_
  refine (if_neg (by omega)).trans ?_
  refine (if_neg (by omega)).trans ?_
  refine (if_neg (by omega)).trans ?_
  refine (if_neg (by omega)).trans ?_
  refine (if_neg (by omega)).trans ?_
  refine (if_neg (by omega)).trans ?_
  refine (if_neg (by omega)).trans ?_
  refine (if_neg (by omega)).trans ?_
  refine (if_neg (by omega)).trans ?_
  refine (if_neg (by omega)).trans ?_
  refine (if_neg (by omega)).trans ?_
  refine (if_neg (by omega)).trans ?_
  refine (if_neg (by omega)).trans ?_
  refine (if_neg (by omega)).trans ?_
  refine (if_neg (by omega)).trans ?_
  refine (if_neg (by omega)).trans ?_
  refine (if_neg (by omega)).trans ?_
  refine (if_neg (by omega)).trans ?_
  refine (if_neg (by omega)).trans ?_
  refine (if_neg (by omega)).trans ?_
  refine (if_neg (by omega)).trans ?_
  refine (if_neg (by omega)).trans ?_
  refine (if_neg (by omega)).trans ?_
  refine (if_neg (by omega)).trans ?_
  refine (if_neg (by omega)).trans ?_
  refine (if_neg (by omega)).trans ?_
  refine (if_neg (by omega)).trans ?_
  refine (if_neg (by omega)).trans ?_
  refine (if_neg (by omega)).trans ?_
  refine (if_neg (by omega)).trans ?_
  refine (if_pos h3).trans ?_
  refine (ev_eq _ _ _ _ _ _).trans ?_
  refine (if_pos h4).trans ?_
  refine (el_call rfl h5).trans ?_
  refine (if_pos h6).trans ?_
  refine (el_call rfl h7).trans ?_
  refine (if_pos h8).trans ?_
  rfl
theorem B_L_law_18_112 {T : List Shp} {c : Nat → Int → Int} {x3 : Int} {r1 : Int} {c2 : Nat → Int → Int} {r3 : Int} {c4 : Nat → Int → Int} (h1 : ¬ (w32 ((c 1000001 0) - 6)) < x3) (h2 : 0 ≤ x3 ∧ x3 < c 1000001 0) (h3 : (iand (c 1000000 x3) 63) = 54) (h4 : 0 ≤ (w32 (x3 + 1)) ∧ (w32 (x3 + 1)) < c 1000001 0) (h5 : cal 168 [vR 1, vI (c 1000000 (w32 (x3 + 1)))] (SH T, c) = some (some (vI r1), (SH T, c2))) (h6 : 0 ≤ (w32 (x3 + 1)) ∧ (w32 (x3 + 1)) < c 1000001 0) (h7 : cal 193 [vR 78, vI (c2 1000000 (w32 (x3 + 1)))] (SH T, c2) = some (some (vI r3), (SH T, c4))) (h8 : ¬ r1 = r3) : ev 356 106 18 [vR (-1), vR 1, vR 78, vI x3] [] (SH T, c) = some (some (vI 0), (SH T, c4)) := by
  refine (ev_eq _ _ _ _ _ _).trans ?_
  refine (if_neg h1).trans ?_
  refine (if_pos h2).trans ?_
  refine (if_neg (by omega)).trans ?_
  refine (if_neg (by omega)).trans ?_
  refine (if_neg (by omega)).trans ?_
  refine (if_neg (by omega)).trans ?_
  refine (if_neg (by omega)).trans ?_
  refine (if_neg (by omega)).trans ?_
  refine (if_neg (by omega)).trans ?_
  refine (if_neg (by omega)).trans ?_
  refine (if_neg (by omega)).trans ?_
  refine (if_neg (by omega)).trans ?_
  refine (if_neg (by omega)).trans ?_
  refine (if_neg (by omega)).trans ?_
  refine (if_neg (by omega)).trans ?_
  refine (if_neg (by omega)).trans ?_
  refine (if_neg (by omega)).trans ?_
  refine (if_neg (by omega)).trans ?_
  refine (if_neg (by omega)).trans ?_
  refine (if_neg (by omega)).trans ?_
  refine (if_neg (by omega)).trans ?_
  refine (if_neg (by omega)).trans ?_
  refine (if_neg (by omega)).trans ?_
  refine (if_neg (by omega)).trans ?_
  refine (if_neg (by omega)).trans ?_
  refine (if_neg (by omega)).trans ?_
  refine (if_neg (by omega)).trans ?_
  refine (if_neg (by omega)).trans ?_
  refine (if_neg (by omega)).trans ?_
  refine (if_neg (by omega)).trans ?_
  refine (if_neg (by omega)).trans ?_
  refine (if_neg (by omega)).trans ?_
  refine (if_neg (by omega)).trans ?_
  refine (if_neg (by omega)).trans ?_
  refine (if_neg (by omega)).trans ?_
  refine (if_neg (by omega)).trans ?_
  refine (if_neg (by omega)).trans ?_
  refine (if_neg (by omega)).trans ?_
  refine (if_neg (by omega)).trans ?_
  refine (if_neg (by omega)).trans ?_
  refine (if_neg (by omega)).trans ?_
  refine (if_neg (by omega)).trans ?_
  refine (if_neg (by omega)).trans ?_
  refine (if_neg (by omega)).trans ?_
  refine (if_neg (by omega)).trans ?_
  refine (if_neg (by omega)).trans ?_
  refine (if_neg (by omega)).trans ?_
  refine (if_neg (by omega)).trans ?_
  refine (if_neg (by omega)).trans ?_
  refine (if_neg (by omega)).trans ?_
  refine (if_neg (by omega)).trans ?_
  refine (if_neg (by omega)).trans ?_
  refine (if_neg (by omega)).trans ?_
  refine (if_neg (by omega)).trans ?_
  refine (if_neg (by omega)).trans ?_
  refine (if_neg (by omega)).trans ?_
  refine (if_pos h3).trans ?_
  refine (ev_eq _ _ _ _ _ _).trans ?_
  refine (if_pos h4).trans ?_
  refine (el_call rfl h5).trans ?_
  refine (if_pos h6).trans ?_
  refine (el_call rfl h7).trans ?_
  refine (if_neg h8).trans ?_
  rfl
theorem B_L_law_18_113 {T : List Shp} {c : Nat → Int → Int} {x3 : Int} {r1 : Int} {c2 : Nat → Int → Int} {r3 : Int} {c4 : Nat → Int → Int} (h1 : ¬ (w32 ((c 1000001 0) - 6)) < x3) (h2 : 0 ≤ x3 ∧ x3 < c 1000001 0) (h3 : (iand (c 1000000 x3) 63) = 55) (h4 : 0 ≤ (w32 (x3 + 1)) ∧ (w32 (x3 + 1)) < c 1000001 0) (h5 : cal 169 [vR 1, vI (c 1000000 (w32 (x3 + 1)))] (SH T, c) = some (some (vI r1), (SH T, c2))) (h6 : 0 ≤ (w32 (x3 + 1)) ∧ (w32 (x3 + 1)) < c 1000001 0) (h7 : cal 339 [vR 78, vI (c2 1000000 (w32 (x3 + 1)))] (SH T, c2) = some (some (vI r3), (SH T, c4))) (h8 : r1 = r3) : ev 356 106 18 [vR (-1), vR 1, vR 78, vI x3] [] (SH T, c) = ev 356 106 1828 [vR (-1), vR 1, vR 78, vI x3] [] (SH T, c4) := by
  refine (ev_eq _ _ _ _ _ _).trans ?_
  refine (if_neg h1).trans ?_
  refine (if_pos h2).trans ?_
  refine (if_neg (by omega)).trans ?_
  refine (if_neg (by omega)).trans ?_
  refine (if_neg (by omega)).trans ?_
  refine (if_neg (by omega)).trans ?_
  refine (if_neg (by omega)).trans ?_
  refine (if_neg (by omega)).trans ?_
  refine (if_neg (by omega)).trans ?_
  refine (if_neg (by omega)).trans ?_
  refine (if_neg (by omega)).trans ?_
  refine (if_neg (by omega)).trans ?_
  refine (if_neg (by omega)).trans ?_
  refine (if_neg (by omega)).trans ?_
  refine (if_neg (by omega)).trans ?_
  refine (if_neg (by omega)).trans ?_
  refine (if_neg (by omega)).trans ?_
  refine (if_neg (by omega)).trans ?_
  refine (if_neg (by omega)).trans ?_
  refine (if_neg (by omega)).trans ?_
  refine (if_neg (by omega)).trans ?_
  refine (if_neg (by omega)).trans ?_
  refine (if_neg (by omega)).trans ?_
  refine (if_neg (by omega)).trans ?_
  refine (if_neg (by omega)).trans ?_
  refine (if_neg (by omega)).trans ?_
  refine (if_neg (by omega)).trans ?_
  refine (if_neg (by omega)).trans ?_
  refine (if_neg (by omega)).trans ?_
  refine (if_neg (by omega)).trans ?_
  refine (if_neg (by omega)).trans ?_
  refine (if_neg (by omega)).trans ?_
  refine (if_neg (by omega)).trans ?_
  refine (if_neg (by omega)).trans ?_
  refine (if_neg (by omega)).trans ?_
  refine (if_neg (by omega)).trans ?_
  refine (if_neg (by omega)).trans ?_
  refine (if_neg (by omega)).trans ?_
  refine (if_neg (by omega)).trans ?_
  refine (if_neg (by omega)).trans ?_
  refine (if_neg (by omega)).trans ?_
  refine (if_neg (by omega)).trans ?_
  refine (if_neg (by omega)).trans ?_
  refine (if_neg (by omega)).trans ?_
  refine (if_neg (by omega)).trans ?_
  refine (if_neg (by omega)).trans ?_
  refine (if_neg (by omega)).trans ?_
  refine (if_neg (by omega)).trans ?_
  refine (if_neg (by omega)).trans ?_
  refine (if_neg (by omega)).trans ?_
  refine (if_neg (by omega)).trans ?_
  refine (if_neg (by omega)).trans ?_
  refine (if_neg (by omega)).trans ?_
  refine (if_neg (by omega)).trans ?_
  refine (if_neg (by omega)).trans ?_
  refine (if_neg (by omega)).trans ?_
  refine (if_neg (by omega)).trans ?_
  refine (if_pos h3).trans ?_
  refine (ev_eq _ _ _ _ _ _).trans ?_
  refine (if_pos h4).trans ?_
  refine (el_call rfl h5).trans ?_
  refine (if_pos h6).trans ?_
  refine (el_call rfl h7).trans ?_
  refine (if_pos h8).trans ?_
  rfl
theorem B_L_law_18_114 {T : List Shp} {c : Nat → Int → Int} {x3 : Int} {r1 : Int} {c2 : Nat → Int → Int} {r3 : Int} {c4 : Nat → Int → Int} (h1 : ¬ (w32 ((c 1000001 0) - 6)) < x3) (h2 : 0 ≤ x3 ∧ x3 < c 1000001 0) (h3 : (iand (c 1000000 x3) 63) = 55) (h4 : 0 ≤ (w32 (x3 + 1)) ∧ (w32 (x3 + 1)) < c 1000001 0) (h5 : cal 169 [vR 1, vI (c 1000000 (w32 (x3 + 1)))] (SH T, c) = some (some (vI r1), (SH T, c2))) (h6 : 0 ≤ (w32 (x3 + 1)) ∧ (w32 (x3 + 1)) < c 1000001 0) (h7 : cal 339 [vR 78, vI (c2 1000000 (w32 (x3 + 1)))] (SH T, c2) = some (some (vI r3), (SH T, c4))) (h8 : ¬ r1 = r3) : ev 356 106 18 [vR (-1), vR 1, vR 78, vI x3] [] (SH T, c) = some (some (vI 0), (SH T, c4)) := by
  refine (ev_eq _ _ _ _ _ _).trans ?_
  refine (if_neg h1).trans ?_
  refine (if_pos h2).trans ?_
  refine (if_neg (by omega)).trans ?_
  refine (if_neg (by omega)).trans ?_
  refine (if_neg (by omega)).trans ?_
  refine (if_neg (by omega)).trans ?_
  refine (if_neg (by omega)).trans ?_
  refine (if_neg (by omega)).trans ?_
  refine (if_neg (by omega)).trans ?_
  refine (if_neg (by omega)).trans ?_
  refine (if_neg (by omega)).trans ?_
  refine (if_neg (by omega)).trans ?_
  refine (if_neg (by omega)).trans ?_
  refine (if_neg (by omega)).trans ?_
  refine (if_neg (by omega)).trans ?_
  refine (if_neg (by omega)).trans ?_
  refine (if_neg (by omega)).trans ?_
  refine (if_neg (by omega)).trans ?_
  refine (if_neg (by omega)).trans ?_
  refine (if_neg (by omega)).trans ?_
  refine (if_neg (by omega)).trans ?_
  refine (if_neg (by omega)).trans ?_
  refine (if_neg (by omega)).trans ?_
  refine (if_neg (by omega)).trans ?_
  refine (if_neg (by omega)).trans ?_
  refine (if_neg (by omega)).trans ?_
  refine (if_neg (by omega)).trans ?_
  refine (if_neg (by omega)).trans ?_
  refine (if_neg (by omega)).trans ?_
  refine (if_neg (by omega)).trans ?_
  refine (if_neg (by omega)).trans ?_
  refine (if_neg (by omega)).trans ?_
  refine (if_neg (by omega)).trans ?_
  refine (if_neg (by omega)).trans ?_
  refine (if_neg (by omega)).trans ?_
  refine (if_neg (by omega)).trans ?_
  refine (if_neg (by omega)).trans ?_
  refine (if_neg (by omega)).trans ?_
  refine (if_neg (by omega)).trans ?_
  refine (if_neg (by omega)).trans ?_
  refine (if_neg (by omega)).trans ?_
  refine (if_neg (by omega)).trans ?_
  refine (if_neg (by omega)).trans ?_
  refine (if_neg (by omega)).trans ?_
  refine (if_neg (by omega)).trans ?_
  refine (if_neg (by omega)).trans ?_
  refine (if_neg (by omega)).trans ?_
  refine (if_neg (by omega)).trans ?_
  refine (if_neg (by omega)).trans ?_
  refine (if_neg (by omega)).trans ?_
  refine (if_neg (by omega)).trans ?_
  refine (if_neg (by omega)).trans ?_
  refine (if_neg (by omega)).trans ?_
  refine (if_neg (by omega)).trans ?_
  refine (if_neg (by omega)).trans ?_
  refine (if_neg (by omega)).trans ?_
  refine (if_neg (by omega)).trans ?_
  refine (if_pos h3).trans ?_
  refine (ev_eq _ _ _ _ _ _).trans ?_
  refine (if_pos h4).trans ?_
  refine (el_call rfl h5).trans ?_
  refine (if_pos h6).trans ?_
  refine (el_call rfl h7).trans ?_
  refine (if_neg h8).trans ?_
  rfl
theorem B_L_law_18_115 {T : List Shp} {c : Nat → Int → Int} {x3 : Int} {r1 : Int} {c2 : Nat → Int → Int} {r3 : Int} {c4 : Nat → Int → Int} (h1 : ¬ (w32 ((c 1000001 0) - 6)) < x3) (h2 : 0 ≤ x3 ∧ x3 < c 1000001 0) (h3 : (iand (c 1000000 x3) 63) = 56) (h4 : cal 170 [vR 1] (SH T, c) = some (some (vI r1), (SH T, c2))) (h5 : cal 340 [vR 78] (SH T, c2) = some (some (vI r3), (SH T, c4))) (h6 : r1 = r3) : ev 356 106 18 [vR (-1), vR 1, vR 78, vI x3] [] (SH T, c) = ev 356 106 1828 [vR (-1), vR 1, vR 78, vI x3] [] (SH T, c4) := by
  refine (ev_eq _ _ _ _ _ _).trans ?_
  refine (if_neg h1).trans ?_
  refine (if_pos h2).trans ?_
  refine (if_neg (by omega)).trans ?_
  refine (if_neg (by omega)).trans ?_
  refine (if_neg (by omega)).trans ?_
  refine (if_neg (by omega)).trans ?_
  refine (if_neg (by omega)).trans ?_
  refine (if_neg (by omega)).trans ?_
  refine (if_neg (by omega)).trans ?_
  refine (if_neg (by omega)).trans ?_
  refine (if_neg (by omega)).trans ?_
  refine (if_neg (by omega)).trans ?_
  refine (if_neg (by omega)).trans ?_
  refine (if_neg (by omega)).trans ?_
  refine (if_neg (by omega)).trans ?_
  refine (if_neg (by omega)).trans ?_
  refine (if_neg (by omega)).trans ?_
  refine (if_neg (by omega)).trans ?_
  refine (if_neg (by omega)).trans ?_
  refine (if_neg (by omega)).trans ?_
  refine (if_neg (by omega)).trans ?_
  refine (if_neg (by omega)).trans ?_
  refine (if_neg (by omega)).trans ?_
  refine (if_neg (by omega)).trans ?_
  refine (if_neg (by omega)).trans ?_
  refine (if_neg (by omega)).trans ?_
  refine (if_neg (by omega)).trans ?_
  refine (if_neg (by omega)).trans ?_
  refine (if_neg (by omega)).trans ?_
  refine (if_neg (by omega)).trans ?_
  refine (if_neg (by omega)).trans ?_
  refine (if_neg (by omega)).trans ?_
  refine (if_neg (by omega)).trans ?_
  refine (if_neg (by omega)).trans ?_
  refine (if_neg (by omega)).trans ?_
  refine (if_neg (by omega)).trans ?_
  refine (if_neg (by omega)).trans ?_
  refine (if_neg (by omega)).trans ?_
  refine (if_neg (by omega)).trans ?_
  refine (if_neg (by omega)).trans ?_
  refine (if_neg (by omega)).trans ?_
  refine (if_neg (by omega)).trans ?_
  refine (if_neg (by omega)).trans ?_
  refine (if_neg (by omega)).trans ?_
  refine (if_neg (by omega)).trans ?_
  refine (if_neg (by omega)).trans ?_
  refine (if_neg (by omega)).trans ?_
  refine (if_neg (by omega)).trans ?_
  refine (if_neg (by omega)).trans ?_
  refine (if_neg (by omega)).trans ?_
  refine (if_neg (by omega)).trans ?_
  refine (if_neg (by omega)).trans ?_
  refine (if_neg (by omega)).trans ?_
  refine (if_neg (by omega)).trans ?_
  refine (if_neg (by omega)).trans ?_
  refine (if_neg (by omega)).trans ?_
  refine (if_neg (by omega)).trans ?_
  refine (if_neg (by omega)).trans ?_
  refine (if_pos h3).trans ?_
  refine (ev_eq _ _ _ _ _ _).trans ?_
  refine (el_call rfl h4).trans ?_
  refine (el_call rfl h5).trans ?_
  refine (if_pos h6).trans ?_
  rfl
theorem B_L_law_18_116 {T : List Shp} {c : Nat → Int → Int} {x3 : Int} {r1 : Int} {c2 : Nat → Int → Int} {r3 : Int} {c4 : Nat → Int → Int} (h1 : ¬ (w32 ((c 1000001 0) - 6)) < x3) (h2 : 0 ≤ x3 ∧ x3 < c 1000001 0) (h3 : (iand (c 1000000 x3) 63) = 56) (h4 : cal 170 [vR 1] (SH T, c) = some (some (vI r1), (SH T, c2))) (h5 : cal 340 [vR 78] (SH T, c2) = some (some (vI r3), (SH T, c4))) (h6 : ¬ r1 = r3) : ev 356 106 18 [vR (-1), vR 1, vR 78, vI x3] [] (SH T, c) = some (some (vI 0), (SH T, c4)) := by
  refine (ev_eq _ _ _ _ _ _).trans ?_
  refine (if_neg h1).trans ?_
  refine (if_pos h2).trans ?_
  refine (if_neg (by omega)).trans ?_
  refine (if_neg (by omega)).trans ?_
  refine (if_neg (by omega)).trans ?_
  refine (if_neg (by omega)).trans ?_
  refine (if_neg (by omega)).trans ?_
  refine (if_neg (by omega)).trans ?_
  refine (if_neg (by omega)).trans ?_
  refine (if_neg (by omega)).trans ?_
  refine (if_neg (by omega)).trans ?_
  refine (if_neg (by omega)).trans ?_
  refine (if_neg (by omega)).trans ?_
  refine (if_neg (by omega)).trans ?_
  refine (if_neg (by omega)).trans ?_
  refine (if_neg (by omega)).trans ?_
  refine (if_neg (by omega)).trans ?_
  refine (if_neg (by omega)).trans ?_
  refine (if_neg (by omega)).trans ?_
  refine (if_neg (by omega)).trans ?_
  refine (if_neg (by omega)).trans ?_
  refine (if_neg (by omega)).trans ?_
  refine (if_neg (by omega)).trans ?_
  refine (if_neg (by omega)).trans ?_
  refine (if_neg (by omega)).trans ?_
  refine (if_neg (by omega)).trans ?_
  refine (if_neg (by omega)).trans ?_
  refine (if_neg (by omega)).trans ?_
  refine (if_neg (by omega)).trans ?_
  refine (if_neg (by omega)).trans ?_
  refine (if_neg (by omega)).trans ?_
  refine (if_neg (by omega)).trans ?_
  refine (if_neg (by omega)).trans ?_
  refine (if_neg (by omega)).trans ?_
  refine (if_neg (by omega)).trans ?_
  refine (if_neg (by omega)).trans ?_
  refine (if_neg (by omega)).trans ?_
  refine (if_neg (by omega)).trans ?_
  refine (if_neg (by omega)).trans ?_
  refine (if_neg (by omega)).trans ?_
  refine (if_neg (by omega)).trans ?_
  refine (if_neg (by omega)).trans ?_
  refine (if_neg (by omega)).trans ?_
  refine (if_neg (by omega)).trans ?_
  refine (if_neg (by omega)).trans ?_
  refine (if_neg (by omega)).trans ?_
  refine (if_neg (by omega)).trans ?_
  refine (if_neg (by omega)).trans ?_
  refine (if_neg (by omega)).trans ?_
  refine (if_neg (by omega)).trans ?_
  refine (if_neg (by omega)).trans ?_
  refine (if_neg (by omega)).trans ?_
  refine (if_neg (by omega)).trans ?_
  refine (if_neg (by omega)).trans ?_
  refine (if_neg (by omega)).trans ?_
  refine (if_neg (by omega)).trans ?_
  refine (if_neg (by omega)).trans ?_
  refine (if_neg (by omega)).trans ?_
  refine (if_pos h3).trans ?_
  refine (ev_eq _ _ _ _ _ _).trans ?_
  refine (el_call rfl h4).trans ?_
  refine (el_call rfl h5).trans ?_
  refine (if_neg h6).trans ?_
  rfl
theorem B_L_law_18_117 {T : List Shp} {c : Nat → Int → Int} {x3 : Int} (h1 : ¬ (w32 ((c 1000001 0) - 6)) < x3) (h2 : 0 ≤ x3 ∧ x3 < c 1000001 0) (h3 : ¬ (iand (c 1000000 x3) 63) = 0 ∧ ¬ (iand (c 1000000 x3) 63) = 1 ∧ ¬ (iand (c 1000000 x3) 63) = 2 ∧ ¬ (iand (c 1000000 x3) 63) = 3 ∧ ¬ (iand (c 1000000 x3) 63) = 4 ∧ ¬ (iand (c 1000000 x3) 63) = 5 ∧ ¬ (iand (c 1000000 x3) 63) = 6 ∧ ¬ (iand (c 1000000 x3) 63) = 7 ∧ ¬ (iand (c 1000000 x3) 63) = 8 ∧ ¬ (iand (c 1000000 x3) 63) = 9 ∧ ¬ (iand (c 1000000 x3) 63) = 10 ∧ ¬ (iand (c 1000000 x3) 63) = 11 ∧ ¬ (iand (c 1000000 x3) 63) = 12 ∧ ¬ (iand (c 1000000 x3) 63) = 13 ∧ ¬ (iand (c 1000000 x3) 63) = 14 ∧ ¬ (iand (c 1000000 x3) 63) = 15 ∧ ¬ (iand (c 1000000 x3) 63) = 16 ∧ ¬ (iand (c 1000000 x3) 63) = 17 ∧ ¬ (iand (c 1000000 x3) 63) = 18 ∧ ¬ (iand (c 1000000 x3) 63) = 19 ∧ ¬ (iand (c 1000000 x3) 63) = 20 ∧ ¬ (iand (c 1000000 x3) 63) = 21 ∧ ¬ (iand (c 1000000 x3) 63) = 22 ∧ ¬ (iand (c 1000000 x3) 63) = 23 ∧ ¬ (iand (c 1000000 x3) 63) = 24 ∧ ¬ (iand (c 1000000 x3) 63) = 25 ∧ ¬ (iand (c 1000000 x3) 63) = 26 ∧ ¬ (iand (c 1000000 x3) 63) = 27 ∧ ¬ (iand (c 1000000 x3) 63) = 28 ∧ ¬ (iand (c 1000000 x3) 63) = 29 ∧ ¬ (iand (c 1000000 x3) 63) = 30 ∧ ¬ (iand (c 1000000 x3) 63) = 31 ∧ ¬ (iand (c 1000000 x3) 63) = 32 ∧ ¬ (iand (c 1000000 x3) 63) = 33 ∧ ¬ (iand (c 1000000 x3) 63) = 34 ∧ ¬ (iand (c 1000000 x3) 63) = 35 ∧ ¬ (iand (c 1000000 x3) 63) = 36 ∧ ¬ (iand (c 1000000 x3) 63) = 37 ∧ ¬ (iand (c 1000000 x3) 63) = 38 ∧ ¬ (iand (c 1000000 x3) 63) = 39 ∧ ¬ (iand (c 1000000 x3) 63) = 40 ∧ ¬ (iand (c 1000000 x3) 63) = 41 ∧ ¬ (iand (c 1000000 x3) 63) = 42 ∧ ¬ (iand (c 1000000 x3) 63) = 43 ∧ ¬ (iand (c 1000000 x3) 63) = 44 ∧ ¬ (iand (c 1000000 x3) 63) = 45 ∧ ¬ (iand (c 1000000 x3) 63) = 46 ∧ ¬ (iand (c 1000000 x3) 63) = 47 ∧ ¬ (iand (c 1000000 x3) 63) = 48 ∧ ¬ (iand (c 1000000 x3) 63) = 49 ∧ ¬ (iand (c 1000000 x3) 63) = 50 ∧ ¬ (iand (c 1000000 x3) 63) = 51 ∧ ¬ (iand (c 1000000 x3) 63) = 52 ∧ ¬ (iand (c 1000000 x3) 63) = 53 ∧ ¬ (iand (c 1000000 x3) 63) = 54 ∧ ¬ (iand (c 1000000 x3) 63) = 55 ∧ ¬ (iand (c 1000000 x3) 63) = 56) : ev 356 106 18 [vR (-1), vR 1, vR 78, vI x3] [] (SH T, c) = ev 356 106 1828 [vR (-1), vR 1, vR 78, vI x3] [] (SH T, c) := by
  refine (ev_eq _ _ _ _ _ _).trans ?_
  refine (if_neg h1).trans ?_
  refine (if_pos h2).trans ?_
  refine (if_neg (h3.1)).trans ?_
  refine (if_neg (h3.2.1)).trans ?_
  refine (if_neg (h3.2.2.1)).trans ?_
  refine (if_neg (h3.2.2.2.1)).trans ?_
  refine (if_neg (h3.2.2.2.2.1)).trans ?_
  refine (if_neg (h3.2.2.2.2.2.1)).trans ?_
  refine (if_neg (h3.2.2.2.2.2.2.1)).trans ?_
  refine (if_neg (h3.2.2.2.2.2.2.2.1)).trans ?_
  refine (if_neg (h3.2.2.2.2.2.2.2.2.1)).trans ?_
  refine (if_neg (h3.2.2.2.2.2.2.2.2.2.1)).trans ?_
  refine (if_neg (h3.2.2.2.2.2.2.2.2.2.2.1)).trans ?_
  refine (if_neg (h3.2.2.2.2.2.2.2.2.2.2.2.1)).trans ?_
  refine (if_neg (h3.2.2.2.2.2.2.2.2.2.2.2.2.1)).trans ?_
  refine (if_neg (h3.2.2.2.2.2.2.2.2.2.2.2.2.2.1)).trans ?_
  refine (if_neg (h3.2.2.2.2.2.2.2.2.2.2.2.2.2.2.1)).trans ?_
  refine (if_neg (h3.2.2.2.2.2.2.2.2.2.2.2.2.2.2.2.1)).trans ?_
  refine (if_neg (h3.2.2.2.2.2.2.2.2.2.2.2.2.2.2.2.2.1)).trans ?_
  refine (if_neg (h3.2.2.2.2.2.2.2.2.2.2.2.2.2.2.2.2.2.1)).trans ?_
  refine (if_neg (h3.2.2.2.2.2.2.2.2.2.2.2.2.2.2.2.2.2.2.1)).trans ?_
  refine (if_neg (h3.2.2.2.2.2.2.2.2.2.2.2.2.2.2.2.2.2.2.2.1)).trans ?_
  refine (if_neg (h3.2.2.2.2.2.2.2.2.2.2.2.2.2.2.2.2.2.2.2.2.1)).trans ?_
  refine (if_neg (h3.2.2.2.2.2.2.2.2.2.2.2.2.2.2.2.2.2.2.2.2.2.1)).trans ?_
  refine (if_neg (h3.2.2.2.2.2.2.2.2.2.2.2.2.2.2.2.2.2.2.2.2.2.2.1)).trans ?_
  refine (if_neg (h3.2.2.2.2.2.2.2.2.2.2.2.2.2.2.2.2.2.2.2.2.2.2.2.1)).trans ?_
  refine (if_neg (h3.2.2.2.2.2.2.2.2.2.2.2.2.2.2.2.2.2.2.2.2.2.2.2.2.1)).trans ?_
  refine (if_neg (h3.2.2.2.2.2.2.2.2.2.2.2.2.2.2.2.2.2.2.2.2.2.2.2.2.2.1)).trans ?_
  refine (if_neg (h3.2.2.2.2.2.2.2.2.2.2.2.2.2.2.2.2.2.2.2.2.2.2.2.2.2.2.1)).trans ?_
  refine (if_neg (h3.2.2.2.2.2.2.2.2.2.2.2.2.2.2.2.2.2.2.2.2.2.2.2.2.2.2.2.1)).trans ?_
  refine (if_neg (h3.2.2.2.2.2.2.2.2.2.2.2.2.2.2.2.2.2.2.2.2.2.2.2.2.2.2.2.2.1)).trans ?_
  refine (if_neg (h3.2.2.2.2.2.2.2.2.2.2.2.2.2.2.2.2.2.2.2.2.2.2.2.2.2.2.2.2.2.1)).trans ?_
  refine (if_neg (h3.2.2.2.2.2.2.2.2.2.2.2.2.2.2.2.2.2.2.2.2.2.2.2.2.2.2.2.2.2.2.1)).trans ?_
  refine (if_neg (h3.2.2.2.2.2.2.2.2.2.2.2.2.2.2.2.2.2.2.2.2.2.2.2.2.2.2.2.2.2.2.2.1)).trans ?_
  refine (if_neg (h3.2.2.2.2.2.2.2.2.2.2.2.2.2.2.2.2.2.2.2.2.2.2.2.2.2.2.2.2.2.2.2.2.1)).trans ?_
  refine (if_neg (h3.2.2.2.2.2.2.2.2.2.2.2.2.2.2.2.2.2.2.2.2.2.2.2.2.2.2.2.2.2.2.2.2.2.1)).trans ?_
  refine (if_neg (h3.2.2.2.2.2.2.2.2.2.2.2.2.2.2.2.2.2.2.2.2.2.2.2.2.2.2.2.2.2.2.2.2.2.2.1)).trans ?_
  refine (if_neg (h3.2.2.2.2.2.2.2.2.2.2.2.2.2.2.2.2.2.2.2.2.2.2.2.2.2.2.2.2.2.2.2.2.2.2.2.1)).trans ?_
  refine (if_neg (h3.2.2.2.2.2.2.2.2.2.2.2.2.2.2.2.2.2.2.2.2.2.2.2.2.2.2.2.2.2.2.2.2.2.2.2.2.1)).trans ?_
  refine (if_neg (h3.2.2.2.2.2.2.2.2.2.2.2.2.2.2.2.2.2.2.2.2.2.2.2.2.2.2.2.2.2.2.2.2.2.2.2.2.2.1)).trans ?_
  refine (if_neg (h3.2.2.2.2.2.2.2.2.2.2.2.2.2.2.2.2.2.2.2.2.2.2.2.2.2.2.2.2.2.2.2.2.2.2.2.2.2.2.1)).trans ?_
  refine (if_neg (h3.2.2.2.2.2.2.2.2.2.2.2.2.2.2.2.2.2.2.2.2.2.2.2.2.2.2.2.2.2.2.2.2.2.2.2.2.2.2.2.1)).trans ?_
  refine (if_neg (h3.2.2.2.2.2.2.2.2.2.2.2.2.2.2.2.2.2.2.2.2.2.2.2.2.2.2.2.2.2.2.2.2.2.2.2.2.2.2.2.2.1)).trans ?_
  refine (if_neg (h3.2.2.2.2.2.2.2.2.2.2.2.2.2.2.2.2.2.2.2.2.2.2.2.2.2.2.2.2.2.2.2.2.2.2.2.2.2.2.2.2.2.1)).trans ?_
  refine (if_neg (h3.2.2.2.2.2.2.2.2.2.2.2.2.2.2.2.2.2.2.2.2.2.2.2.2.2.2.2.2.2.2.2.2.2.2.2.2.2.2.2.2.2.2.1)).trans ?_
  refine (if_neg (h3.2.2.2.2.2.2.2.2.2.2.2.2.2.2.2.2.2.2.2.2.2.2.2.2.2.2.2.2.2.2.2.2.2.2.2.2.2.2.2.2.2.2.2.1)).trans ?_
  refine (if_neg (h3.2.2.2.2.2.2.2.2.2.2.2.2.2.2.2.2.2.2.2.2.2.2.2.2.2.2.2.2.2.2.2.2.2.2.2.2.2.2.2.2.2.2.2.2.1)).trans ?_
  refine (if_neg (h3.2.2.2.2.2.2.2.2.2.2.2.2.2.2.2.2.2.2.2.2.2.2.2.2.2.2.2.2.2.2.2.2.2.2.2.2.2.2.2.2.2.2.2.2.2.1)).trans ?_
  refine (if_neg (h3.2.2.2.2.2.2.2.2.2.2.2.2.2.2.2.2.2.2.2.2.2.2.2.2.2.2.2.2.2.2.2.2.2.2.2.2.2.2.2.2.2.2.2.2.2.2.1)).trans ?_
  refine (if_neg (h3.2.2.2.2.2.2.2.2.2.2.2.2.2.2.2.2.2.2.2.2.2.2.2.2.2.2.2.2.2.2.2.2.2.2.2.2.2.2.2.2.2.2.2.2.2.2.2.1)).trans ?_
  refine (if_neg (h3.2.2.2.2.2.2.2.2.2.2.2.2.2.2.2.2.2.2.2.2.2.2.2.2.2.2.2.2.2.2.2.2.2.2.2.2.2.2.2.2.2.2.2.2.2.2.2.2.1)).trans ?_
  refine (if_neg (h3.2.2.2.2.2.2.2.2.2.2.2.2.2.2.2.2.2.2.2.2.2.2.2.2.2.2.2.2.2.2.2.2.2.2.2.2.2.2.2.2.2.2.2.2.2.2.2.2.2.1)).trans ?_
  refine (if_neg (h3.2.2.2.2.2.2.2.2.2.2.2.2.2.2.2.2.2.2.2.2.2.2.2.2.2.2.2.2.2.2.2.2.2.2.2.2.2.2.2.2.2.2.2.2.2.2.2.2.2.2.1)).trans ?_
  refine (if_neg (h3.2.2.2.2.2.2.2.2.2.2.2.2.2.2.2.2.2.2.2.2.2.2.2.2.2.2.2.2.2.2.2.2.2.2.2.2.2.2.2.2.2.2.2.2.2.2.2.2.2.2.2.1)).trans ?_
  refine (if_neg (h3.2.2.2.2.2.2.2.2.2.2.2.2.2.2.2.2.2.2.2.2.2.2.2.2.2.2.2.2.2.2.2.2.2.2.2.2.2.2.2.2.2.2.2.2.2.2.2.2.2.2.2.2.1)).trans ?_
  refine (if_neg (h3.2.2.2.2.2.2.2.2.2.2.2.2.2.2.2.2.2.2.2.2.2.2.2.2.2.2.2.2.2.2.2.2.2.2.2.2.2.2.2.2.2.2.2.2.2.2.2.2.2.2.2.2.2.1)).trans ?_
  refine (if_neg (h3.2.2.2.2.2.2.2.2.2.2.2.2.2.2.2.2.2.2.2.2.2.2.2.2.2.2.2.2.2.2.2.2.2.2.2.2.2.2.2.2.2.2.2.2.2.2.2.2.2.2.2.2.2.2.1)).trans ?_
  refine (if_neg (h3.2.2.2.2.2.2.2.2.2.2.2.2.2.2.2.2.2.2.2.2.2.2.2.2.2.2.2.2.2.2.2.2.2.2.2.2.2.2.2.2.2.2.2.2.2.2.2.2.2.2.2.2.2.2.2.1)).trans ?_
  refine (if_neg (h3.2.2.2.2.2.2.2.2.2.2.2.2.2.2.2.2.2.2.2.2.2.2.2.2.2.2.2.2.2.2.2.2.2.2.2.2.2.2.2.2.2.2.2.2.2.2.2.2.2.2.2.2.2.2.2.2)).trans ?_
  rfl
theorem B_L_law_1828 {T : List Shp} {c : Nat → Int → Int} {x3 : Int}  : ev 356 106 1828 [vR (-1), vR 1, vR 78, vI x3] [] (SH T, c) = ev 356 106 18 [vR (-1), vR 1, vR 78, vI (w32 (x3 + 6))] [] (SH T, c) := by
  refine (ev_eq _ _ _ _ _ _).trans ?_
  rfl

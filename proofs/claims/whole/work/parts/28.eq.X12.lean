theorem B_X12_claimant_44 {T : List Shp} {c : Nat → Int → Int} {r1 : Int} {c2 : Nat → Int → Int} (h1 : cal 190 [vR 78, vI (-1)] (SH T, c) = some (some (vI r1), (SH T, c2))) : ev 311 3 44 [vR 78, vU, vU, vU, vU, vU, vU] [] (SH T, c) = some (some (vI r1), (SH T, c2)) := by
  refine (ev_eq _ _ _ _ _ _).trans ?_
  refine (el_call rfl h1).trans ?_
  rfl
theorem B_X12_claimant_70_1 {T : List Shp} {c : Nat → Int → Int} {x1 x2 x3 x4 : Int} {r1 : Int} {c2 : Nat → Int → Int} (h1 : (c 79 6) = 8) (h2 : cal 190 [vR 78, vI (-5)] (SH T, c) = some (some (vI r1), (SH T, c2))) : ev 311 3 70 [vR 78, vI x1, vI x2, vI x3, vI x4, vU, vU] [] (SH T, c) = some (some (vI r1), (SH T, c2)) := by
  refine (ev_eq _ _ _ _ _ _).trans ?_
  refine (if_pos h1).trans ?_
  refine (el_call rfl h2).trans ?_
  rfl
theorem B_X12_claimant_70_2 {T : List Shp} {c : Nat → Int → Int} {x1 x2 x3 x4 : Int} {r1 : Int} {c2 : Nat → Int → Int} (h1 : ¬ (c 79 6) = 8) (h2 : 0 ≤ (w32 (348 + (w32 (4 * (c 79 6))))) ∧ (w32 (348 + (w32 (4 * (c 79 6))))) < 5780) (h3 : 0 ≤ (w32 ((w32 (348 + (w32 (4 * (c 79 6))))) + 1)) ∧ (w32 ((w32 (348 + (w32 (4 * (c 79 6))))) + 1)) < 5780) (h4 : 0 ≤ (w32 ((w32 (348 + (w32 (4 * (c 79 6))))) + 2)) ∧ (w32 ((w32 (348 + (w32 (4 * (c 79 6))))) + 2)) < 5780) (h5 : 0 ≤ (w32 ((w32 (348 + (w32 (4 * (c 79 6))))) + 3)) ∧ (w32 ((w32 (348 + (w32 (4 * (c 79 6))))) + 3)) < 5780) (h6 : cal 190 [vR 78, vI (c 79 6)] (SH T, (up (up (up (up (up c 79 (w32 (348 + (w32 (4 * (c 79 6))))) x1) 79 (w32 ((w32 (348 + (w32 (4 * (c 79 6))))) + 1)) x2) 79 (w32 ((w32 (348 + (w32 (4 * (c 79 6))))) + 2)) x3) 79 (w32 ((w32 (348 + (w32 (4 * (c 79 6))))) + 3)) x4) 79 6 (w32 (((up (up (up (up c 79 (w32 (348 + (w32 (4 * (c 79 6))))) x1) 79 (w32 ((w32 (348 + (w32 (4 * (c 79 6))))) + 1)) x2) 79 (w32 ((w32 (348 + (w32 (4 * (c 79 6))))) + 2)) x3) 79 (w32 ((w32 (348 + (w32 (4 * (c 79 6))))) + 3)) x4) 79 6) + 1)))) = some (some (vI r1), (SH T, c2))) : ev 311 3 70 [vR 78, vI x1, vI x2, vI x3, vI x4, vU, vU] [] (SH T, c) = some (some (vI r1), (SH T, c2)) := by
  refine (ev_eq _ _ _ _ _ _).trans ?_
  refine (if_neg h1).trans ?_
  refine (ev_eq _ _ _ _ _ _).trans ?_
  refine (if_pos h2).trans ?_
  refine (if_pos h3).trans ?_
  refine (if_pos h4).trans ?_
  refine (if_pos h5).trans ?_
  refine (el_call rfl h6).trans ?_
  rfl
theorem E_X12_ofClaimant {T : List Shp} {c : Nat → Int → Int} {x1 x2 : Int} (h1 : 0 ≤ (w32 ((w32 (348 + (w32 (4 * x1)))) + x2)) ∧ (w32 ((w32 (348 + (w32 (4 * x1)))) + x2)) < 5780) : cal 312 [vR 78, vI x1, vI x2] (SH T, c) = some (some (vI (c 79 (w32 ((w32 (348 + (w32 (4 * x1)))) + x2)))), (SH T, c)) := by
  refine (ev_eq _ _ _ _ _ _).trans ?_
  refine (if_pos h1).trans ?_
  rfl
theorem E_X12_claim_1 {T : List Shp} {c : Nat → Int → Int} {x1 x2 x3 : Int} {r1 : Int} {c2 : Nat → Int → Int} (h1 : x2 = 0) (h2 : cal 186 [vL x3, vL 0, vL 150] (SH T, (up c 77 0 0)) = some (some (vI r1), (SH T, c2))) : cal 313 [vR 78, vI x1, vI x2, vI x3] (SH T, c) = ev 313 3 45 [vR 78, vI x1, vI x2, vI x3, vU] [vI r1] (SH T, c2) := by
  refine (ev_eq _ _ _ _ _ _).trans ?_
  refine (if_pos h1).trans ?_
  refine (el_call rfl h2).trans ?_
  rfl
theorem E_X12_claim_2 {T : List Shp} {c : Nat → Int → Int} {x1 x2 x3 : Int} {r1 : Int} {c2 : Nat → Int → Int} (h1 : ¬ x2 = 0) (h2 : x2 = 1) (h3 : cal 186 [vL x3, vL (-1), vL 5] (SH T, (up c 77 0 0)) = some (some (vI r1), (SH T, c2))) (h4 : r1 = 0) : cal 313 [vR 78, vI x1, vI x2, vI x3] (SH T, c) = ev 313 3 44 [vR 78, vI x1, vI x2, vI x3, vU] [] (SH T, c2) := by
  refine (ev_eq _ _ _ _ _ _).trans ?_
  refine (if_neg h1).trans ?_
  refine (ev_eq _ _ _ _ _ _).trans ?_
  refine (if_pos h2).trans ?_
  refine (el_call rfl h3).trans ?_
  refine (if_pos h4).trans ?_
  rfl
theorem E_X12_claim_3 {T : List Shp} {c : Nat → Int → Int} {x1 x2 x3 : Int} {r1 : Int} {c2 : Nat → Int → Int} (h1 : ¬ x2 = 0) (h2 : x2 = 1) (h3 : cal 186 [vL x3, vL (-1), vL 5] (SH T, (up c 77 0 0)) = some (some (vI r1), (SH T, c2))) (h4 : ¬ r1 = 0) : cal 313 [vR 78, vI x1, vI x2, vI x3] (SH T, c) = ev 313 3 45 [vR 78, vI x1, vI x2, vI x3, vU] [vI 1] (SH T, c2) := by
  refine (ev_eq _ _ _ _ _ _).trans ?_
  refine (if_neg h1).trans ?_
  refine (ev_eq _ _ _ _ _ _).trans ?_
  refine (if_pos h2).trans ?_
  refine (el_call rfl h3).trans ?_
  refine (if_neg h4).trans ?_
  rfl
theorem E_X12_claim_4 {T : List Shp} {c : Nat → Int → Int} {x1 x2 x3 : Int} (h1 : ¬ x2 = 0) (h2 : ¬ x2 = 1) : cal 313 [vR 78, vI x1, vI x2, vI x3] (SH T, c) = ev 313 3 44 [vR 78, vI x1, vI x2, vI x3, vU] [] (SH T, (up c 77 0 0)) := by
  refine (ev_eq _ _ _ _ _ _).trans ?_
  refine (if_neg h1).trans ?_
  refine (ev_eq _ _ _ _ _ _).trans ?_
  refine (if_neg h2).trans ?_
  rfl
theorem B_X12_claim_44 {T : List Shp} {c : Nat → Int → Int} {x1 x2 x3 : Int}  : ev 313 3 44 [vR 78, vI x1, vI x2, vI x3, vU] [] (SH T, c) = ev 313 3 45 [vR 78, vI x1, vI x2, vI x3, vU] [vI 0] (SH T, c) := by
  refine (ev_eq _ _ _ _ _ _).trans ?_
  rfl
theorem B_X12_claim_45_1 {T : List Shp} {c : Nat → Int → Int} {x1 x2 x3 y0 : Int} {r1 : Int} {c2 : Nat → Int → Int} (h1 : y0 = 0) (h2 : cal 190 [vR 78, vI (-1)] (SH T, c) = some (some (vI r1), (SH T, c2))) : ev 313 3 45 [vR 78, vI x1, vI x2, vI x3, vU] [vI y0] (SH T, c) = some (some (vI r1), (SH T, c2)) := by
  refine (ev_eq _ _ _ _ _ _).trans ?_
  refine (if_pos h1).trans ?_
  refine (el_call rfl h2).trans ?_
  rfl
theorem B_X12_claim_45_2 {T : List Shp} {c : Nat → Int → Int} {x1 x2 x3 y0 : Int} {r1 : Int} {c2 : Nat → Int → Int} {r3 : Int} {c4 : Nat → Int → Int} (h1 : ¬ y0 = 0) (h2 : cal 201 [vR 78, vI x1] (SH T, c) = some (some (vI r1), (SH T, c2))) (h3 : r1 = 0) (h4 : cal 190 [vR 78, vI (-2)] (SH T, c2) = some (some (vI r3), (SH T, c4))) : ev 313 3 45 [vR 78, vI x1, vI x2, vI x3, vU] [vI y0] (SH T, c) = some (some (vI r3), (SH T, c4)) := by
  refine (ev_eq _ _ _ _ _ _).trans ?_
  refine (if_neg h1).trans ?_
  refine (ev_eq _ _ _ _ _ _).trans ?_
  refine (el_call rfl h2).trans ?_
  refine (if_pos h3).trans ?_
  refine (el_call rfl h4).trans ?_
  rfl
theorem B_X12_claim_45_3 {T : List Shp} {c : Nat → Int → Int} {x1 x2 x3 y0 : Int} {r1 : Int} {c2 : Nat → Int → Int} {r3 : Int} {c4 : Nat → Int → Int} (h1 : ¬ y0 = 0) (h2 : cal 201 [vR 78, vI x1] (SH T, c) = some (some (vI r1), (SH T, c2))) (h3 : ¬ r1 = 0) (h4 : x2 = 0) (h5 : cal 312 [vR 78, vI x1, vI 1] (SH T, c2) = some (some (vI r3), (SH T, c4))) (h6 : r3 < x3) : ev 313 3 45 [vR 78, vI x1, vI x2, vI x3, vU] [vI y0] (SH T, c) = ev 313 3 95 [vR 78, vI x1, vI x2, vI x3, vU] [] (SH T, c4) := by
  refine (ev_eq _ _ _ _ _ _).trans ?_
  refine (if_neg h1).trans ?_
  refine (ev_eq _ _ _ _ _ _).trans ?_
  refine (el_call rfl h2).trans ?_
  refine (if_neg h3).trans ?_
  refine (ev_eq _ _ _ _ _ _).trans ?_
  refine (if_pos h4).trans ?_
  refine (el_call rfl h5).trans ?_
  refine (if_pos h6).trans ?_
  rfl
theorem B_X12_claim_45_4 {T : List Shp} {c : Nat → Int → Int} {x1 x2 x3 y0 : Int} {r1 : Int} {c2 : Nat → Int → Int} {r3 : Int} {c4 : Nat → Int → Int} {r5 : Int} {c6 : Nat → Int → Int} (h1 : ¬ y0 = 0) (h2 : cal 201 [vR 78, vI x1] (SH T, c) = some (some (vI r1), (SH T, c2))) (h3 : ¬ r1 = 0) (h4 : x2 = 0) (h5 : cal 312 [vR 78, vI x1, vI 1] (SH T, c2) = some (some (vI r3), (SH T, c4))) (h6 : ¬ r3 < x3) (h7 : cal 190 [vR 78, vI (-1)] (SH T, c4) = some (some (vI r5), (SH T, c6))) : ev 313 3 45 [vR 78, vI x1, vI x2, vI x3, vU] [vI y0] (SH T, c) = some (some (vI r5), (SH T, c6)) := by
  refine (ev_eq _ _ _ _ _ _).trans ?_
  refine (if_neg h1).trans ?_
  refine (ev_eq _ _ _ _ _ _).trans ?_
  refine (el_call rfl h2).trans ?_
  refine (if_neg h3).trans ?_
  refine (ev_eq _ _ _ _ _ _).trans ?_
  refine (if_pos h4).trans ?_
  refine (el_call rfl h5).trans ?_
  refine (if_neg h6).trans ?_
  refine (el_call rfl h7).trans ?_
  rfl
theorem B_X12_claim_45_5 {T : List Shp} {c : Nat → Int → Int} {x1 x2 x3 y0 : Int} {r1 : Int} {c2 : Nat → Int → Int} (h1 : ¬ y0 = 0) (h2 : cal 201 [vR 78, vI x1] (SH T, c) = some (some (vI r1), (SH T, c2))) (h3 : ¬ r1 = 0) (h4 : ¬ x2 = 0) : ev 313 3 45 [vR 78, vI x1, vI x2, vI x3, vU] [vI y0] (SH T, c) = ev 313 3 95 [vR 78, vI x1, vI x2, vI x3, vU] [] (SH T, c2) := by
  refine (ev_eq _ _ _ _ _ _).trans ?_
  refine (if_neg h1).trans ?_
  refine (ev_eq _ _ _ _ _ _).trans ?_
  refine (el_call rfl h2).trans ?_
  refine (if_neg h3).trans ?_
  refine (ev_eq _ _ _ _ _ _).trans ?_
  refine (if_neg h4).trans ?_
  rfl
theorem B_X12_claim_95 {T : List Shp} {c : Nat → Int → Int} {x1 x2 x3 : Int} {r1 : Int} {c2 : Nat → Int → Int} (h1 : cal 191 [vR 78, vI (w32 ((w32 ((w32 (348 + (w32 (4 * x1)))) + 2)) + x2)), vI x3] (SH T, c) = some (some (vI r1), (SH T, c2))) : ev 313 3 95 [vR 78, vI x1, vI x2, vI x3, vU] [] (SH T, c) = some (some (vI r1), (SH T, c2)) := by
  refine (ev_eq _ _ _ _ _ _).trans ?_
  refine (el_call rfl h1).trans ?_
  rfl
theorem E_X12_born_1 {T : List Shp} {c : Nat → Int → Int} {x1 x2 : Int} {r1 : Int} {c2 : Nat → Int → Int} (h1 : cal 201 [vR 78, vI x1] (SH T, (up c 77 0 0)) = some (some (vI r1), (SH T, c2))) (h2 : r1 = 0) : cal 314 [vR 78, vI x1, vI x2] (SH T, c) = some (some (vI (-1)), (SH T, c2)) := by
  refine (ev_eq _ _ _ _ _ _).trans ?_
  refine (el_call rfl h1).trans ?_
  refine (if_pos h2).trans ?_
  refine (ev_eq _ _ _ _ _ _).trans ?_
  rfl
theorem E_X12_born_2 {T : List Shp} {c : Nat → Int → Int} {x1 x2 : Int} {r1 : Int} {c2 : Nat → Int → Int} {r3 : Int} {c4 : Nat → Int → Int} (h1 : cal 201 [vR 78, vI x1] (SH T, (up c 77 0 0)) = some (some (vI r1), (SH T, c2))) (h2 : ¬ r1 = 0) (h3 : cal 186 [vL x2, vL 0, vL 3] (SH T, c2) = some (some (vI r3), (SH T, c4))) (h4 : r3 = 0) : cal 314 [vR 78, vI x1, vI x2] (SH T, c) = some (some (vI (-1)), (SH T, c4)) := by
  refine (ev_eq _ _ _ _ _ _).trans ?_
  refine (el_call rfl h1).trans ?_
  refine (if_neg h2).trans ?_
  refine (el_call rfl h3).trans ?_
  refine (if_pos h4).trans ?_
  refine (ev_eq _ _ _ _ _ _).trans ?_
  rfl
theorem E_X12_born_3 {T : List Shp} {c : Nat → Int → Int} {x1 x2 : Int} {r1 : Int} {c2 : Nat → Int → Int} {r3 : Int} {c4 : Nat → Int → Int} {r5 : Int} {c6 : Nat → Int → Int} (h1 : cal 201 [vR 78, vI x1] (SH T, (up c 77 0 0)) = some (some (vI r1), (SH T, c2))) (h2 : ¬ r1 = 0) (h3 : cal 186 [vL x2, vL 0, vL 3] (SH T, c2) = some (some (vI r3), (SH T, c4))) (h4 : ¬ r3 = 0) (h5 : cal 312 [vR 78, vI x1, vI x2] (SH T, c4) = some (some (vI r5), (SH T, c6))) : cal 314 [vR 78, vI x1, vI x2] (SH T, c) = some (some (vI r5), (SH T, c6)) := by
  refine (ev_eq _ _ _ _ _ _).trans ?_
  refine (el_call rfl h1).trans ?_
  refine (if_neg h2).trans ?_
  refine (el_call rfl h3).trans ?_
  refine (if_neg h4).trans ?_
  refine (el_call rfl h5).trans ?_
  rfl
theorem E_X12_isAlive_1 {T : List Shp} {c : Nat → Int → Int} {x1 x2 : Int} {r1 : Int} {c2 : Nat → Int → Int} (h1 : cal 312 [vR 78, vI x1, vI 1] (SH T, c) = some (some (vI r1), (SH T, c2))) (h2 : x2 < r1) : cal 315 [vR 78, vI x1, vI x2] (SH T, c) = some (some (vI 0), (SH T, c2)) := by
  refine (ev_eq _ _ _ _ _ _).trans ?_
  refine (el_call rfl h1).trans ?_
  refine (if_pos h2).trans ?_
  refine (ev_eq _ _ _ _ _ _).trans ?_
  rfl
theorem E_X12_isAlive_2 {T : List Shp} {c : Nat → Int → Int} {x1 x2 : Int} {r1 : Int} {c2 : Nat → Int → Int} {r3 : Int} {c4 : Nat → Int → Int} (h1 : cal 312 [vR 78, vI x1, vI 1] (SH T, c) = some (some (vI r1), (SH T, c2))) (h2 : ¬ x2 < r1) (h3 : cal 312 [vR 78, vI x1, vI 2] (SH T, c2) = some (some (vI r3), (SH T, c4))) (h4 : x2 < r3) : cal 315 [vR 78, vI x1, vI x2] (SH T, c) = some (some (vI 1), (SH T, c4)) := by
  refine (ev_eq _ _ _ _ _ _).trans ?_
  refine (el_call rfl h1).trans ?_
  refine (if_neg h2).trans ?_
  refine (el_call rfl h3).trans ?_
  refine (if_pos h4).trans ?_
  rfl
theorem E_X12_isAlive_3 {T : List Shp} {c : Nat → Int → Int} {x1 x2 : Int} {r1 : Int} {c2 : Nat → Int → Int} {r3 : Int} {c4 : Nat → Int → Int} (h1 : cal 312 [vR 78, vI x1, vI 1] (SH T, c) = some (some (vI r1), (SH T, c2))) (h2 : ¬ x2 < r1) (h3 : cal 312 [vR 78, vI x1, vI 2] (SH T, c2) = some (some (vI r3), (SH T, c4))) (h4 : ¬ x2 < r3) : cal 315 [vR 78, vI x1, vI x2] (SH T, c) = some (some (vI 0), (SH T, c4)) := by
  refine (ev_eq _ _ _ _ _ _).trans ?_
  refine (el_call rfl h1).trans ?_
  refine (if_neg h2).trans ?_
  refine (el_call rfl h3).trans ?_
  refine (if_neg h4).trans ?_
  refine (ev_eq _ _ _ _ _ _).trans ?_
  rfl
theorem E_X12_childrenOf {T : List Shp} {c : Nat → Int → Int} {x1 x2 : Int}  : cal 316 [vR 78, vI x1, vI x2] (SH T, c) = ev 316 3 5 [vR 78, vI x1, vI x2, vI 0, vI 0] [] (SH T, c) := by
  refine (ev_eq _ _ _ _ _ _).trans ?_
  rfl
theorem B_X12_childrenOf_5_1 {T : List Shp} {c : Nat → Int → Int} {x1 x2 x3 x4 : Int} {r1 : Int} {c2 : Nat → Int → Int} {r3 : Int} {c4 : Nat → Int → Int} (h1 : x4 < (c 79 6)) (h2 : cal 312 [vR 78, vI x4, vI 0] (SH T, c) = some (some (vI r1), (SH T, c2))) (h3 : r1 = x1) (h4 : cal 315 [vR 78, vI x4, vI x2] (SH T, c2) = some (some (vI r3), (SH T, c4))) (h5 : r3 = 0) : ev 316 3 5 [vR 78, vI x1, vI x2, vI x3, vI x4] [] (SH T, c) = ev 316 3 43 [vR 78, vI x1, vI x2, vU, vI x4] [vI x3] (SH T, c4) := by
  refine (ev_eq _ _ _ _ _ _).trans ?_
  refine (if_pos h1).trans ?_
  refine (el_call rfl h2).trans ?_
  refine (if_pos h3).trans ?_
  refine (el_call rfl h4).trans ?_
  refine (if_pos h5).trans ?_
  rfl
theorem B_X12_childrenOf_5_2 {T : List Shp} {c : Nat → Int → Int} {x1 x2 x3 x4 : Int} {r1 : Int} {c2 : Nat → Int → Int} {r3 : Int} {c4 : Nat → Int → Int} (h1 : x4 < (c 79 6)) (h2 : cal 312 [vR 78, vI x4, vI 0] (SH T, c) = some (some (vI r1), (SH T, c2))) (h3 : r1 = x1) (h4 : cal 315 [vR 78, vI x4, vI x2] (SH T, c2) = some (some (vI r3), (SH T, c4))) (h5 : ¬ r3 = 0) : ev 316 3 5 [vR 78, vI x1, vI x2, vI x3, vI x4] [] (SH T, c) = ev 316 3 5 [vR 78, vI x1, vI x2, vI (w32 (x3 + 1)), vI (w32 (x4 + 1))] [] (SH T, c4) := by
  refine (ev_eq _ _ _ _ _ _).trans ?_
  refine (if_pos h1).trans ?_
  refine (el_call rfl h2).trans ?_
  refine (if_pos h3).trans ?_
  refine (el_call rfl h4).trans ?_
  refine (if_neg h5).trans ?_
  rfl
theorem B_X12_childrenOf_5_3 {T : List Shp} {c : Nat → Int → Int} {x1 x2 x3 x4 : Int} {r1 : Int} {c2 : Nat → Int → Int} (h1 : x4 < (c 79 6)) (h2 : cal 312 [vR 78, vI x4, vI 0] (SH T, c) = some (some (vI r1), (SH T, c2))) (h3 : ¬ r1 = x1) : ev 316 3 5 [vR 78, vI x1, vI x2, vI x3, vI x4] [] (SH T, c) = ev 316 3 43 [vR 78, vI x1, vI x2, vU, vI x4] [vI x3] (SH T, c2) := by
  refine (ev_eq _ _ _ _ _ _).trans ?_
  refine (if_pos h1).trans ?_
  refine (el_call rfl h2).trans ?_
  refine (if_neg h3).trans ?_
  rfl
theorem B_X12_childrenOf_5_4 {T : List Shp} {c : Nat → Int → Int} {x1 x2 x3 x4 : Int} (h1 : ¬ x4 < (c 79 6)) : ev 316 3 5 [vR 78, vI x1, vI x2, vI x3, vI x4] [] (SH T, c) = some (some (vI x3), (SH T, c)) := by
  refine (ev_eq _ _ _ _ _ _).trans ?_
  refine (if_neg h1).trans ?_
  refine (ev_eq _ _ _ _ _ _).trans ?_
  rfl
theorem B_X12_childrenOf_43 {T : List Shp} {c : Nat → Int → Int} {x1 x2 x4 y0 : Int}  : ev 316 3 43 [vR 78, vI x1, vI x2, vU, vI x4] [vI y0] (SH T, c) = ev 316 3 5 [vR 78, vI x1, vI x2, vI (w32 (y0 + 0)), vI (w32 (x4 + 1))] [] (SH T, c) := by
  refine (ev_eq _ _ _ _ _ _).trans ?_
  rfl
theorem E_X12_setClaimant_1 {T : List Shp} {c : Nat → Int → Int} {x1 x2 : Int} {r1 : Int} {c2 : Nat → Int → Int} {c3 : Nat → Int → Int} {r4 : Int} {c5 : Nat → Int → Int} {r6 : Int} {c7 : Nat → Int → Int} {r8 : Int} {c9 : Nat → Int → Int} (h1 : cal 312 [vR 78, vI x1, vI 3] (SH T, c) = some (some (vI r1), (SH T, c2))) (h2 : cal 250 [vR 78, vI x2] (SH T, c2) = some (none, (SH T, c3))) (h3 : cal 312 [vR 78, vI x1, vI 1] (SH T, c3) = some (some (vI r4), (SH T, c5))) (h4 : cal 312 [vR 78, vI x1, vI 1] (SH T, (up (up c5 92 2 (w32 (x2 - r4))) 92 7 x1)) = some (some (vI r6), (SH T, c7))) (h5 : cal 200 [vR 78, vI r1] (SH T, (up c7 92 8 r6)) = some (some (vI r8), (SH T, c9))) (h6 : r8 = 0) : cal 317 [vR 78, vI x1, vI x2] (SH T, c) = ev 317 4 76 [vR 78, vI x1, vI x2, vU] [vL (-1), vI 9, vR 93] (SH T, c9) := by
  refine (ev_eq _ _ _ _ _ _).trans ?_
  refine (el_call rfl h1).trans ?_
  refine (el_call rfl h2).trans ?_
  refine (el_call rfl h3).trans ?_
  refine (el_call rfl h4).trans ?_
  refine (el_call rfl h5).trans ?_
  refine (if_pos h6).trans ?_
  refine (ev_eq _ _ _ _ _ _).trans ?_
  rfl
theorem E_X12_setClaimant_2 {T : List Shp} {c : Nat → Int → Int} {x1 x2 : Int} {r1 : Int} {c2 : Nat → Int → Int} {c3 : Nat → Int → Int} {r4 : Int} {c5 : Nat → Int → Int} {r6 : Int} {c7 : Nat → Int → Int} {r8 : Int} {c9 : Nat → Int → Int} {r10 : Int} {c11 : Nat → Int → Int} (h1 : cal 312 [vR 78, vI x1, vI 3] (SH T, c) = some (some (vI r1), (SH T, c2))) (h2 : cal 250 [vR 78, vI x2] (SH T, c2) = some (none, (SH T, c3))) (h3 : cal 312 [vR 78, vI x1, vI 1] (SH T, c3) = some (some (vI r4), (SH T, c5))) (h4 : cal 312 [vR 78, vI x1, vI 1] (SH T, (up (up c5 92 2 (w32 (x2 - r4))) 92 7 x1)) = some (some (vI r6), (SH T, c7))) (h5 : cal 200 [vR 78, vI r1] (SH T, (up c7 92 8 r6)) = some (some (vI r8), (SH T, c9))) (h6 : ¬ r8 = 0) (h7 : cal 290 [vR 78, vI r1] (SH T, c9) = some (some (vI r10), (SH T, c11))) : cal 317 [vR 78, vI x1, vI x2] (SH T, c) = ev 317 4 76 [vR 78, vI x1, vI x2, vU] [vL r10, vI 9, vR 93] (SH T, c11) := by
  refine (ev_eq _ _ _ _ _ _).trans ?_
  refine (el_call rfl h1).trans ?_
  refine (el_call rfl h2).trans ?_
  refine (el_call rfl h3).trans ?_
  refine (el_call rfl h4).trans ?_
  refine (el_call rfl h5).trans ?_
  refine (if_neg h6).trans ?_
  refine (el_call rfl h7).trans ?_
  rfl
theorem B_X12_setClaimant_76 {T : List Shp} {c : Nat → Int → Int} {x1 x2 y0 y1 : Int} {r1 : Int} {c2 : Nat → Int → Int} (h1 : 0 ≤ y1 ∧ y1 < 13) (h2 : cal 316 [vR 78, vI x1, vI x2] (SH T, (up c 92 y1 y0)) = some (some (vI r1), (SH T, c2))) : ev 317 4 76 [vR 78, vI x1, vI x2, vU] [vL y0, vI y1, vR 93] (SH T, c) = some (none, (SH T, (up c2 92 10 r1))) := by
  refine (ev_eq _ _ _ _ _ _).trans ?_
  refine (if_pos h1).trans ?_
  refine (el_call rfl h2).trans ?_
  rfl
theorem E_X12_ranks {T : List Shp} {c : Nat → Int → Int} {x1 x2 : Int} {c1 : Nat → Int → Int} {r2 : Int} {c3 : Nat → Int → Int} {r4 : Int} {c5 : Nat → Int → Int} (h1 : cal 317 [vR 78, vI x1, vI x2] (SH T, c) = some (none, (SH T, c1))) (h2 : cal 249 [vR 78, vI 3, vL x1] (SH T, c1) = some (some (vL r2), (SH T, c3))) (h3 : cal 189 [vL r2, vI 0, vI 999] (SH T, c3) = some (some (vI r4), (SH T, c5))) : cal 318 [vR 78, vI x1, vI x2] (SH T, c) = some (some (vI r4), (SH T, c5)) := by
  refine (ev_eq _ _ _ _ _ _).trans ?_
  refine (el_call rfl h1).trans ?_
  refine (el_call rfl h2).trans ?_
  refine (el_call rfl h3).trans ?_
  rfl
theorem E_X12_isOut_1 {T : List Shp} {c : Nat → Int → Int} {x1 x2 : Int} {c1 : Nat → Int → Int} {r2 : Int} {c3 : Nat → Int → Int} (h1 : cal 317 [vR 78, vI x1, vI x2] (SH T, c) = some (none, (SH T, c1))) (h2 : cal 249 [vR 78, vI 4, vL 0] (SH T, c1) = some (some (vL r2), (SH T, c3))) (h3 : r2 < 1) : cal 319 [vR 78, vI x1, vI x2] (SH T, c) = some (some (vI 0), (SH T, c3)) := by
  refine (ev_eq _ _ _ _ _ _).trans ?_
  refine (el_call rfl h1).trans ?_
  refine (el_call rfl h2).trans ?_
  refine (if_pos h3).trans ?_
  refine (ev_eq _ _ _ _ _ _).trans ?_
  rfl
theorem E_X12_isOut_2 {T : List Shp} {c : Nat → Int → Int} {x1 x2 : Int} {c1 : Nat → Int → Int} {r2 : Int} {c3 : Nat → Int → Int} (h1 : cal 317 [vR 78, vI x1, vI x2] (SH T, c) = some (none, (SH T, c1))) (h2 : cal 249 [vR 78, vI 4, vL 0] (SH T, c1) = some (some (vL r2), (SH T, c3))) (h3 : r2 = 1) : cal 319 [vR 78, vI x1, vI x2] (SH T, c) = some (some (vI 1), (SH T, c3)) := by
  refine (ev_eq _ _ _ _ _ _).trans ?_
  refine (el_call rfl h1).trans ?_
  refine (el_call rfl h2).trans ?_
  refine (if_neg (by omega)).trans ?_
  refine (if_pos h3).trans ?_
  rfl
theorem E_X12_isOut_3 {T : List Shp} {c : Nat → Int → Int} {x1 x2 : Int} {c1 : Nat → Int → Int} {r2 : Int} {c3 : Nat → Int → Int} (h1 : cal 317 [vR 78, vI x1, vI x2] (SH T, c) = some (none, (SH T, c1))) (h2 : cal 249 [vR 78, vI 4, vL 0] (SH T, c1) = some (some (vL r2), (SH T, c3))) (h3 : ¬ r2 < 1 ∧ ¬ r2 = 1) : cal 319 [vR 78, vI x1, vI x2] (SH T, c) = some (some (vI 0), (SH T, c3)) := by
  refine (ev_eq _ _ _ _ _ _).trans ?_
  refine (el_call rfl h1).trans ?_
  refine (el_call rfl h2).trans ?_
  refine (if_neg h3.1).trans ?_
  refine (if_neg h3.2).trans ?_
  refine (ev_eq _ _ _ _ _ _).trans ?_
  rfl
theorem E_X12_stands_1 {T : List Shp} {c : Nat → Int → Int} {x1 x2 x3 : Int} {r1 : Int} {c2 : Nat → Int → Int} (h1 : cal 201 [vR 78, vI x1] (SH T, (up c 77 0 0)) = some (some (vI r1), (SH T, c2))) (h2 : r1 = 0) : cal 320 [vR 78, vI x1, vI x2, vI x3] (SH T, c) = some (some (vI (-1)), (SH T, c2)) := by
  refine (ev_eq _ _ _ _ _ _).trans ?_
  refine (el_call rfl h1).trans ?_
  refine (if_pos h2).trans ?_
  refine (ev_eq _ _ _ _ _ _).trans ?_
  rfl
theorem E_X12_stands_2 {T : List Shp} {c : Nat → Int → Int} {x1 x2 x3 : Int} {r1 : Int} {c2 : Nat → Int → Int} {r3 : Int} {c4 : Nat → Int → Int} (h1 : cal 201 [vR 78, vI x1] (SH T, (up c 77 0 0)) = some (some (vI r1), (SH T, c2))) (h2 : ¬ r1 = 0) (h3 : cal 196 [vI x2] (SH T, c2) = some (some (vI r3), (SH T, c4))) (h4 : r3 = 0) : cal 320 [vR 78, vI x1, vI x2, vI x3] (SH T, c) = some (some (vI (-1)), (SH T, c4)) := by
  refine (ev_eq _ _ _ _ _ _).trans ?_
  refine (el_call rfl h1).trans ?_
  refine (if_neg h2).trans ?_
  refine (el_call rfl h3).trans ?_
  refine (if_pos h4).trans ?_
  refine (ev_eq _ _ _ _ _ _).trans ?_
  rfl
theorem E_X12_stands_3 {T : List Shp} {c : Nat → Int → Int} {x1 x2 x3 : Int} {r1 : Int} {c2 : Nat → Int → Int} {r3 : Int} {c4 : Nat → Int → Int} {r5 : Int} {c6 : Nat → Int → Int} (h1 : cal 201 [vR 78, vI x1] (SH T, (up c 77 0 0)) = some (some (vI r1), (SH T, c2))) (h2 : ¬ r1 = 0) (h3 : cal 196 [vI x2] (SH T, c2) = some (some (vI r3), (SH T, c4))) (h4 : ¬ r3 = 0) (h5 : cal 186 [vL x3, vL 0, vL 3] (SH T, c4) = some (some (vI r5), (SH T, c6))) (h6 : r5 = 0) : cal 320 [vR 78, vI x1, vI x2, vI x3] (SH T, c) = some (some (vI (-1)), (SH T, c6)) := by
  refine (ev_eq _ _ _ _ _ _).trans ?_
  refine (el_call rfl h1).trans ?_
  refine (if_neg h2).trans ?_
  refine (el_call rfl h3).trans ?_
  refine (if_neg h4).trans ?_
  refine (el_call rfl h5).trans ?_
  refine (if_pos h6).trans ?_
  refine (ev_eq _ _ _ _ _ _).trans ?_
  rfl
theorem E_X12_stands_4 {T : List Shp} {c : Nat → Int → Int} {x1 x2 x3 : Int} {r1 : Int} {c2 : Nat → Int → Int} {r3 : Int} {c4 : Nat → Int → Int} {r5 : Int} {c6 : Nat → Int → Int} {r7 : Int} {c8 : Nat → Int → Int} (h1 : cal 201 [vR 78, vI x1] (SH T, (up c 77 0 0)) = some (some (vI r1), (SH T, c2))) (h2 : ¬ r1 = 0) (h3 : cal 196 [vI x2] (SH T, c2) = some (some (vI r3), (SH T, c4))) (h4 : ¬ r3 = 0) (h5 : cal 186 [vL x3, vL 0, vL 3] (SH T, c4) = some (some (vI r5), (SH T, c6))) (h6 : ¬ r5 = 0) (h7 : x3 = 0) (h8 : cal 315 [vR 78, vI x1, vI x2] (SH T, c6) = some (some (vI r7), (SH T, c8))) (h9 : r7 = 0) : cal 320 [vR 78, vI x1, vI x2, vI x3] (SH T, c) = some (some (vI 0), (SH T, c8)) := by
  refine (ev_eq _ _ _ _ _ _).trans ?_
  refine (el_call rfl h1).trans ?_
  refine (if_neg h2).trans ?_
  refine (el_call rfl h3).trans ?_
  refine (if_neg h4).trans ?_
  refine (el_call rfl h5).trans ?_
  refine (if_neg h6).trans ?_
  refine (ev_eq _ _ _ _ _ _).trans ?_
  refine (if_pos h7).trans ?_
  refine (ev_eq _ _ _ _ _ _).trans ?_
  refine (el_call rfl h8).trans ?_
  refine (if_pos h9).trans ?_
  refine (ev_eq _ _ _ _ _ _).trans ?_
  rfl
theorem E_X12_stands_5 {T : List Shp} {c : Nat → Int → Int} {x1 x2 x3 : Int} {r1 : Int} {c2 : Nat → Int → Int} {r3 : Int} {c4 : Nat → Int → Int} {r5 : Int} {c6 : Nat → Int → Int} {r7 : Int} {c8 : Nat → Int → Int} (h1 : cal 201 [vR 78, vI x1] (SH T, (up c 77 0 0)) = some (some (vI r1), (SH T, c2))) (h2 : ¬ r1 = 0) (h3 : cal 196 [vI x2] (SH T, c2) = some (some (vI r3), (SH T, c4))) (h4 : ¬ r3 = 0) (h5 : cal 186 [vL x3, vL 0, vL 3] (SH T, c4) = some (some (vI r5), (SH T, c6))) (h6 : ¬ r5 = 0) (h7 : x3 = 0) (h8 : cal 315 [vR 78, vI x1, vI x2] (SH T, c6) = some (some (vI r7), (SH T, c8))) (h9 : ¬ r7 = 0) : cal 320 [vR 78, vI x1, vI x2, vI x3] (SH T, c) = some (some (vI 1), (SH T, c8)) := by
  refine (ev_eq _ _ _ _ _ _).trans ?_
  refine (el_call rfl h1).trans ?_
  refine (if_neg h2).trans ?_
  refine (el_call rfl h3).trans ?_
  refine (if_neg h4).trans ?_
  refine (el_call rfl h5).trans ?_
  refine (if_neg h6).trans ?_
  refine (ev_eq _ _ _ _ _ _).trans ?_
  refine (if_pos h7).trans ?_
  refine (ev_eq _ _ _ _ _ _).trans ?_
  refine (el_call rfl h8).trans ?_
  refine (if_neg h9).trans ?_
  rfl
theorem E_X12_stands_6 {T : List Shp} {c : Nat → Int → Int} {x1 x2 x3 : Int} {r1 : Int} {c2 : Nat → Int → Int} {r3 : Int} {c4 : Nat → Int → Int} {r5 : Int} {c6 : Nat → Int → Int} {r7 : Int} {c8 : Nat → Int → Int} (h1 : cal 201 [vR 78, vI x1] (SH T, (up c 77 0 0)) = some (some (vI r1), (SH T, c2))) (h2 : ¬ r1 = 0) (h3 : cal 196 [vI x2] (SH T, c2) = some (some (vI r3), (SH T, c4))) (h4 : ¬ r3 = 0) (h5 : cal 186 [vL x3, vL 0, vL 3] (SH T, c4) = some (some (vI r5), (SH T, c6))) (h6 : ¬ r5 = 0) (h7 : x3 = 1) (h8 : cal 318 [vR 78, vI x1, vI x2] (SH T, c6) = some (some (vI r7), (SH T, c8))) : cal 320 [vR 78, vI x1, vI x2, vI x3] (SH T, c) = some (some (vI r7), (SH T, c8)) := by
  refine (ev_eq _ _ _ _ _ _).trans ?_
  refine (el_call rfl h1).trans ?_
  refine (if_neg h2).trans ?_
  refine (el_call rfl h3).trans ?_
  refine (if_neg h4).trans ?_
  refine (el_call rfl h5).trans ?_
  refine (if_neg h6).trans ?_
  refine (ev_eq _ _ _ _ _ _).trans ?_
  refine (if_neg (by omega)).trans ?_
  refine (if_pos h7).trans ?_
  refine (ev_eq _ _ _ _ _ _).trans ?_
  refine (el_call rfl h8).trans ?_
  rfl
theorem E_X12_stands_7 {T : List Shp} {c : Nat → Int → Int} {x1 x2 x3 : Int} {r1 : Int} {c2 : Nat → Int → Int} {r3 : Int} {c4 : Nat → Int → Int} {r5 : Int} {c6 : Nat → Int → Int} {r7 : Int} {c8 : Nat → Int → Int} (h1 : cal 201 [vR 78, vI x1] (SH T, (up c 77 0 0)) = some (some (vI r1), (SH T, c2))) (h2 : ¬ r1 = 0) (h3 : cal 196 [vI x2] (SH T, c2) = some (some (vI r3), (SH T, c4))) (h4 : ¬ r3 = 0) (h5 : cal 186 [vL x3, vL 0, vL 3] (SH T, c4) = some (some (vI r5), (SH T, c6))) (h6 : ¬ r5 = 0) (h7 : x3 = 2) (h8 : cal 319 [vR 78, vI x1, vI x2] (SH T, c6) = some (some (vI r7), (SH T, c8))) (h9 : r7 = 0) : cal 320 [vR 78, vI x1, vI x2, vI x3] (SH T, c) = some (some (vI 0), (SH T, c8)) := by
  refine (ev_eq _ _ _ _ _ _).trans ?_
  refine (el_call rfl h1).trans ?_
  refine (if_neg h2).trans ?_
  refine (el_call rfl h3).trans ?_
  refine (if_neg h4).trans ?_
  refine (el_call rfl h5).trans ?_
  refine (if_neg h6).trans ?_
  refine (ev_eq _ _ _ _ _ _).trans ?_
  refine (if_neg (by omega)).trans ?_
  refine (if_neg (by omega)).trans ?_
  refine (if_pos h7).trans ?_
  refine (ev_eq _ _ _ _ _ _).trans ?_
  refine (el_call rfl h8).trans ?_
  refine (if_pos h9).trans ?_
  refine (ev_eq _ _ _ _ _ _).trans ?_
  rfl
theorem E_X12_stands_8 {T : List Shp} {c : Nat → Int → Int} {x1 x2 x3 : Int} {r1 : Int} {c2 : Nat → Int → Int} {r3 : Int} {c4 : Nat → Int → Int} {r5 : Int} {c6 : Nat → Int → Int} {r7 : Int} {c8 : Nat → Int → Int} (h1 : cal 201 [vR 78, vI x1] (SH T, (up c 77 0 0)) = some (some (vI r1), (SH T, c2))) (h2 : ¬ r1 = 0) (h3 : cal 196 [vI x2] (SH T, c2) = some (some (vI r3), (SH T, c4))) (h4 : ¬ r3 = 0) (h5 : cal 186 [vL x3, vL 0, vL 3] (SH T, c4) = some (some (vI r5), (SH T, c6))) (h6 : ¬ r5 = 0) (h7 : x3 = 2) (h8 : cal 319 [vR 78, vI x1, vI x2] (SH T, c6) = some (some (vI r7), (SH T, c8))) (h9 : ¬ r7 = 0) : cal 320 [vR 78, vI x1, vI x2, vI x3] (SH T, c) = some (some (vI 1), (SH T, c8)) := by
  refine (ev_eq _ _ _ _ _ _).trans ?_
  refine (el_call rfl h1).trans ?_
  refine (if_neg h2).trans ?_
  refine (el_call rfl h3).trans ?_
  refine (if_neg h4).trans ?_
  refine (el_call rfl h5).trans ?_
  refine (if_neg h6).trans ?_
  refine (ev_eq _ _ _ _ _ _).trans ?_
  refine (if_neg (by omega)).trans ?_
  refine (if_neg (by omega)).trans ?_
  refine (if_pos h7).trans ?_
  refine (ev_eq _ _ _ _ _ _).trans ?_
  refine (el_call rfl h8).trans ?_
  refine (if_neg h9).trans ?_
  rfl
theorem E_X12_stands_9 {T : List Shp} {c : Nat → Int → Int} {x1 x2 x3 : Int} {r1 : Int} {c2 : Nat → Int → Int} {r3 : Int} {c4 : Nat → Int → Int} {r5 : Int} {c6 : Nat → Int → Int} {r7 : Int} {c8 : Nat → Int → Int} (h1 : cal 201 [vR 78, vI x1] (SH T, (up c 77 0 0)) = some (some (vI r1), (SH T, c2))) (h2 : ¬ r1 = 0) (h3 : cal 196 [vI x2] (SH T, c2) = some (some (vI r3), (SH T, c4))) (h4 : ¬ r3 = 0) (h5 : cal 186 [vL x3, vL 0, vL 3] (SH T, c4) = some (some (vI r5), (SH T, c6))) (h6 : ¬ r5 = 0) (h7 : ¬ x3 = 0 ∧ ¬ x3 = 1 ∧ ¬ x3 = 2) (h8 : cal 316 [vR 78, vI x1, vI x2] (SH T, c6) = some (some (vI r7), (SH T, c8))) : cal 320 [vR 78, vI x1, vI x2, vI x3] (SH T, c) = some (some (vI r7), (SH T, c8)) := by
  refine (ev_eq _ _ _ _ _ _).trans ?_
  refine (el_call rfl h1).trans ?_
  refine (if_neg h2).trans ?_
  refine (el_call rfl h3).trans ?_
  refine (if_neg h4).trans ?_
  refine (el_call rfl h5).trans ?_
  refine (if_neg h6).trans ?_
  refine (ev_eq _ _ _ _ _ _).trans ?_
  refine (if_neg (h7.1)).trans ?_
  refine (if_neg (h7.2.1)).trans ?_
  refine (if_neg (h7.2.2)).trans ?_
  refine (ev_eq _ _ _ _ _ _).trans ?_
  refine (el_call rfl h8).trans ?_
  rfl
theorem E_X12_findRulers {T : List Shp} {c : Nat → Int → Int}  : cal 321 [vR 78] (SH T, c) = ev 321 7 2 [vR 78, vI 0, vU, vU, vU, vU, vU] [] (SH T, c) := by
  refine (ev_eq _ _ _ _ _ _).trans ?_
  rfl
theorem B_X12_findRulers_2_1 {T : List Shp} {c : Nat → Int → Int} {x1 : Int} (h1 : x1 < 100) (h2 : x1 = 0) : ev 321 7 2 [vR 78, vI x1, vU, vU, vU, vU, vU] [] (SH T, c) = ev 321 7 24 [vR 78, vI x1, vU, vU, vU, vU, vU] [vI (-1)] (SH T, c) := by
  refine (ev_eq _ _ _ _ _ _).trans ?_
  refine (if_pos h1).trans ?_
  refine (if_pos h2).trans ?_
  rfl
theorem B_X12_findRulers_2_2 {T : List Shp} {c : Nat → Int → Int} {x1 : Int} (h1 : x1 < 100) (h2 : ¬ x1 = 0) (h3 : 0 ≤ (w32 (x1 - 1)) ∧ (w32 (x1 - 1)) < 100) : ev 321 7 2 [vR 78, vI x1, vU, vU, vU, vU, vU] [] (SH T, c) = ev 321 7 24 [vR 78, vI x1, vU, vU, vU, vU, vU] [vI (c 105 (w32 (x1 - 1)))] (SH T, c) := by
  refine (ev_eq _ _ _ _ _ _).trans ?_
  refine (if_pos h1).trans ?_
  refine (if_neg h2).trans ?_
  refine (ev_eq _ _ _ _ _ _).trans ?_
  refine (if_pos h3).trans ?_
  rfl
theorem B_X12_findRulers_2_3 {T : List Shp} {c : Nat → Int → Int} {x1 : Int} (h1 : ¬ x1 < 100) : ev 321 7 2 [vR 78, vI x1, vU, vU, vU, vU, vU] [] (SH T, c) = some (none, (SH T, c)) := by
  refine (ev_eq _ _ _ _ _ _).trans ?_
  refine (if_neg h1).trans ?_
  refine (ev_eq _ _ _ _ _ _).trans ?_
  rfl
theorem B_X12_findRulers_24_1 {T : List Shp} {c : Nat → Int → Int} {x1 y0 : Int} (h1 : y0 = (-1)) : ev 321 7 24 [vR 78, vI x1, vU, vU, vU, vU, vU] [vI y0] (SH T, c) = ev 321 7 43 [vR 78, vI x1, vU, vU, vU, vU, vU] [] (SH T, c) := by
  refine (ev_eq _ _ _ _ _ _).trans ?_
  refine (if_pos h1).trans ?_
  rfl
theorem B_X12_findRulers_24_2 {T : List Shp} {c : Nat → Int → Int} {x1 y0 : Int} {r1 : Int} {c2 : Nat → Int → Int} (h1 : ¬ y0 = (-1)) (h2 : cal 315 [vR 78, vI y0, vI x1] (SH T, c) = some (some (vI r1), (SH T, c2))) (h3 : r1 = 0) : ev 321 7 24 [vR 78, vI x1, vU, vU, vU, vU, vU] [vI y0] (SH T, c) = ev 321 7 43 [vR 78, vI x1, vU, vU, vU, vU, vU] [] (SH T, c2) := by
  refine (ev_eq _ _ _ _ _ _).trans ?_
  refine (if_neg h1).trans ?_
  refine (el_call rfl h2).trans ?_
  refine (if_pos h3).trans ?_
  rfl
theorem B_X12_findRulers_24_3 {T : List Shp} {c : Nat → Int → Int} {x1 y0 : Int} {r1 : Int} {c2 : Nat → Int → Int} (h1 : ¬ y0 = (-1)) (h2 : cal 315 [vR 78, vI y0, vI x1] (SH T, c) = some (some (vI r1), (SH T, c2))) (h3 : ¬ r1 = 0) : ev 321 7 24 [vR 78, vI x1, vU, vU, vU, vU, vU] [vI y0] (SH T, c) = ev 321 7 44 [vR 78, vI x1, vU, vU, vU, vU, vU] [vI y0] (SH T, c2) := by
  refine (ev_eq _ _ _ _ _ _).trans ?_
  refine (if_neg h1).trans ?_
  refine (el_call rfl h2).trans ?_
  refine (if_neg h3).trans ?_
  rfl
theorem B_X12_findRulers_43 {T : List Shp} {c : Nat → Int → Int} {x1 : Int}  : ev 321 7 43 [vR 78, vI x1, vU, vU, vU, vU, vU] [] (SH T, c) = ev 321 7 44 [vR 78, vI x1, vU, vU, vU, vU, vU] [vI (-1)] (SH T, c) := by
  refine (ev_eq _ _ _ _ _ _).trans ?_
  rfl
theorem B_X12_findRulers_44_1 {T : List Shp} {c : Nat → Int → Int} {x1 y0 : Int} (h1 : y0 = (-1)) : ev 321 7 44 [vR 78, vI x1, vU, vU, vU, vU, vU] [vI y0] (SH T, c) = ev 321 7 64 [vR 78, vI x1, vI y0, vI 100000000, vI 0, vI 0, vU] [] (SH T, c) := by
  refine (ev_eq _ _ _ _ _ _).trans ?_
  refine (if_pos h1).trans ?_
  refine (ev_eq _ _ _ _ _ _).trans ?_
  rfl
theorem B_X12_findRulers_44_2 {T : List Shp} {c : Nat → Int → Int} {x1 y0 : Int} (h1 : ¬ y0 = (-1)) : ev 321 7 44 [vR 78, vI x1, vU, vU, vU, vU, vU] [vI y0] (SH T, c) = ev 321 7 64 [vR 78, vI x1, vI y0, vI 100000000, vI 1, vI 0, vU] [] (SH T, c) := by
  refine (ev_eq _ _ _ _ _ _).trans ?_
  refine (if_neg h1).trans ?_
  rfl
theorem B_X12_findRulers_64_1 {T : List Shp} {c : Nat → Int → Int} {x1 x2 x3 x4 x5 : Int} {r1 : Int} {c2 : Nat → Int → Int} (h1 : x5 < (c 79 6)) (h2 : x4 = 0) (h3 : cal 315 [vR 78, vI x5, vI x1] (SH T, c) = some (some (vI r1), (SH T, c2))) (h4 : r1 = 0) : ev 321 7 64 [vR 78, vI x1, vI x2, vI x3, vI x4, vI x5, vU] [] (SH T, c) = ev 321 7 111 [vR 78, vI x1, vI x2, vI x3, vI x4, vI x5, vU] [] (SH T, c2) := by
  refine (ev_eq _ _ _ _ _ _).trans ?_
  refine (if_pos h1).trans ?_
  refine (if_pos h2).trans ?_
  refine (el_call rfl h3).trans ?_
  refine (if_pos h4).trans ?_
  rfl
theorem B_X12_findRulers_64_2 {T : List Shp} {c : Nat → Int → Int} {x1 x2 x3 x4 x5 : Int} {r1 : Int} {c2 : Nat → Int → Int} {r3 : Int} {c4 : Nat → Int → Int} {r5 : Int} {c6 : Nat → Int → Int} (h1 : x5 < (c 79 6)) (h2 : x4 = 0) (h3 : cal 315 [vR 78, vI x5, vI x1] (SH T, c) = some (some (vI r1), (SH T, c2))) (h4 : ¬ r1 = 0) (h5 : cal 319 [vR 78, vI x5, vI x1] (SH T, c2) = some (some (vI r3), (SH T, c4))) (h6 : r3 = 0) (h7 : cal 318 [vR 78, vI x5, vI x1] (SH T, c4) = some (some (vI r5), (SH T, c6))) : ev 321 7 64 [vR 78, vI x1, vI x2, vI x3, vI x4, vI x5, vU] [] (SH T, c) = ev 321 7 114 [vR 78, vI x1, vI x2, vI x3, vI x4, vI x5, vU] [vI r5] (SH T, c6) := by
  refine (ev_eq _ _ _ _ _ _).trans ?_
  refine (if_pos h1).trans ?_
  refine (if_pos h2).trans ?_
  refine (el_call rfl h3).trans ?_
  refine (if_neg h4).trans ?_
  refine (el_call rfl h5).trans ?_
  refine (if_pos h6).trans ?_
  refine (el_call rfl h7).trans ?_
  rfl
theorem B_X12_findRulers_64_3 {T : List Shp} {c : Nat → Int → Int} {x1 x2 x3 x4 x5 : Int} {r1 : Int} {c2 : Nat → Int → Int} {r3 : Int} {c4 : Nat → Int → Int} (h1 : x5 < (c 79 6)) (h2 : x4 = 0) (h3 : cal 315 [vR 78, vI x5, vI x1] (SH T, c) = some (some (vI r1), (SH T, c2))) (h4 : ¬ r1 = 0) (h5 : cal 319 [vR 78, vI x5, vI x1] (SH T, c2) = some (some (vI r3), (SH T, c4))) (h6 : ¬ r3 = 0) : ev 321 7 64 [vR 78, vI x1, vI x2, vI x3, vI x4, vI x5, vU] [] (SH T, c) = ev 321 7 111 [vR 78, vI x1, vI x2, vI x3, vI x4, vI x5, vU] [] (SH T, c4) := by
  refine (ev_eq _ _ _ _ _ _).trans ?_
  refine (if_pos h1).trans ?_
  refine (if_pos h2).trans ?_
  refine (el_call rfl h3).trans ?_
  refine (if_neg h4).trans ?_
  refine (el_call rfl h5).trans ?_
  refine (if_neg h6).trans ?_
  rfl
theorem B_X12_findRulers_64_4 {T : List Shp} {c : Nat → Int → Int} {x1 x2 x3 x4 x5 : Int} (h1 : x5 < (c 79 6)) (h2 : ¬ x4 = 0) : ev 321 7 64 [vR 78, vI x1, vI x2, vI x3, vI x4, vI x5, vU] [] (SH T, c) = ev 321 7 148 [vR 78, vI x1, vI x2, vU, vU, vU, vU] [] (SH T, c) := by
  refine (ev_eq _ _ _ _ _ _).trans ?_
  refine (if_pos h1).trans ?_
  refine (if_neg h2).trans ?_
  rfl
theorem B_X12_findRulers_64_5 {T : List Shp} {c : Nat → Int → Int} {x1 x2 x3 x4 x5 : Int} (h1 : ¬ x5 < (c 79 6)) : ev 321 7 64 [vR 78, vI x1, vI x2, vI x3, vI x4, vI x5, vU] [] (SH T, c) = ev 321 7 148 [vR 78, vI x1, vI x2, vU, vU, vU, vU] [] (SH T, c) := by
  refine (ev_eq _ _ _ _ _ _).trans ?_
  refine (if_neg h1).trans ?_
  rfl
theorem B_X12_findRulers_111 {T : List Shp} {c : Nat → Int → Int} {x1 x2 x3 x4 x5 : Int}  : ev 321 7 111 [vR 78, vI x1, vI x2, vI x3, vI x4, vI x5, vU] [] (SH T, c) = ev 321 7 114 [vR 78, vI x1, vI x2, vI x3, vI x4, vI x5, vU] [vI 100000000] (SH T, c) := by
  refine (ev_eq _ _ _ _ _ _).trans ?_
  rfl
theorem B_X12_findRulers_114_1 {T : List Shp} {c : Nat → Int → Int} {x1 x2 x3 x4 x5 y0 : Int} (h1 : y0 < x3) : ev 321 7 114 [vR 78, vI x1, vI x2, vI x3, vI x4, vI x5, vU] [vI y0] (SH T, c) = ev 321 7 128 [vR 78, vI x1, vU, vI x3, vI x4, vI x5, vI y0] [vI x5] (SH T, c) := by
  refine (ev_eq _ _ _ _ _ _).trans ?_
  refine (if_pos h1).trans ?_
  rfl
theorem B_X12_findRulers_114_2 {T : List Shp} {c : Nat → Int → Int} {x1 x2 x3 x4 x5 y0 : Int} (h1 : ¬ y0 < x3) : ev 321 7 114 [vR 78, vI x1, vI x2, vI x3, vI x4, vI x5, vU] [vI y0] (SH T, c) = ev 321 7 128 [vR 78, vI x1, vU, vI x3, vI x4, vI x5, vI y0] [vI x2] (SH T, c) := by
  refine (ev_eq _ _ _ _ _ _).trans ?_
  refine (if_neg h1).trans ?_
  refine (ev_eq _ _ _ _ _ _).trans ?_
  rfl
theorem B_X12_findRulers_128_1 {T : List Shp} {c : Nat → Int → Int} {x1 x3 x4 x5 x6 y0 : Int} (h1 : x6 < x3) : ev 321 7 128 [vR 78, vI x1, vU, vI x3, vI x4, vI x5, vI x6] [vI y0] (SH T, c) = ev 321 7 64 [vR 78, vI x1, vI y0, vI x6, vI x4, vI (w32 (x5 + 1)), vU] [] (SH T, c) := by
  refine (ev_eq _ _ _ _ _ _).trans ?_
  refine (if_pos h1).trans ?_
  rfl
theorem B_X12_findRulers_128_2 {T : List Shp} {c : Nat → Int → Int} {x1 x3 x4 x5 x6 y0 : Int} (h1 : ¬ x6 < x3) : ev 321 7 128 [vR 78, vI x1, vU, vI x3, vI x4, vI x5, vI x6] [vI y0] (SH T, c) = ev 321 7 64 [vR 78, vI x1, vI y0, vI x3, vI x4, vI (w32 (x5 + 1)), vU] [] (SH T, c) := by
  refine (ev_eq _ _ _ _ _ _).trans ?_
  refine (if_neg h1).trans ?_
  refine (ev_eq _ _ _ _ _ _).trans ?_
  rfl
theorem B_X12_findRulers_148 {T : List Shp} {c : Nat → Int → Int} {x1 x2 : Int} (h1 : 0 ≤ x1 ∧ x1 < 100) : ev 321 7 148 [vR 78, vI x1, vI x2, vU, vU, vU, vU] [] (SH T, c) = ev 321 7 2 [vR 78, vI (w32 (x1 + 1)), vU, vU, vU, vU, vU] [] (SH T, (up c 105 x1 x2)) := by
  refine (ev_eq _ _ _ _ _ _).trans ?_
  refine (if_pos h1).trans ?_
  rfl
theorem E_X12_ruler_1 {T : List Shp} {c : Nat → Int → Int} {x1 : Int} {r1 : Int} {c2 : Nat → Int → Int} (h1 : cal 196 [vI x1] (SH T, (up c 77 0 0)) = some (some (vI r1), (SH T, c2))) (h2 : r1 = 0) : cal 322 [vR 78, vI x1] (SH T, c) = some (some (vI (-1)), (SH T, c2)) := by
  refine (ev_eq _ _ _ _ _ _).trans ?_
  refine (el_call rfl h1).trans ?_
  refine (if_pos h2).trans ?_
  rfl
theorem E_X12_ruler_2 {T : List Shp} {c : Nat → Int → Int} {x1 : Int} {r1 : Int} {c2 : Nat → Int → Int} {c3 : Nat → Int → Int} (h1 : cal 196 [vI x1] (SH T, (up c 77 0 0)) = some (some (vI r1), (SH T, c2))) (h2 : ¬ r1 = 0) (h3 : cal 321 [vR 78] (SH T, c2) = some (none, (SH T, c3))) (h4 : 0 ≤ x1 ∧ x1 < 100) : cal 322 [vR 78, vI x1] (SH T, c) = some (some (vI (c3 105 x1)), (SH T, c3)) := by
  refine (ev_eq _ _ _ _ _ _).trans ?_
  refine (el_call rfl h1).trans ?_
  refine (if_neg h2).trans ?_
  refine (ev_eq _ _ _ _ _ _).trans ?_
  refine (el_call rfl h3).trans ?_
  refine (if_pos h4).trans ?_
  rfl
theorem E_X12_reign_1 {T : List Shp} {c : Nat → Int → Int} {x1 x2 : Int} (h1 : x1 = (-1)) : cal 323 [vR 78, vI x1, vI x2] (SH T, c) = ev 323 8 24 [vR 78, vI x1, vI x2, vU, vU, vU] [] (SH T, (up c 77 0 0)) := by
  refine (ev_eq _ _ _ _ _ _).trans ?_
  refine (if_pos h1).trans ?_
  rfl
theorem E_X12_reign_2 {T : List Shp} {c : Nat → Int → Int} {x1 x2 : Int} {r1 : Int} {c2 : Nat → Int → Int} (h1 : ¬ x1 = (-1)) (h2 : cal 186 [vL x2, vL 0, vL 2] (SH T, (up c 77 0 0)) = some (some (vI r1), (SH T, c2))) (h3 : r1 = 0) : cal 323 [vR 78, vI x1, vI x2] (SH T, c) = some (some (vI (-1)), (SH T, c2)) := by
  refine (ev_eq _ _ _ _ _ _).trans ?_
  refine (if_neg h1).trans ?_
  refine (el_call rfl h2).trans ?_
  refine (if_pos h3).trans ?_
  rfl
theorem E_X12_reign_3 {T : List Shp} {c : Nat → Int → Int} {x1 x2 : Int} {r1 : Int} {c2 : Nat → Int → Int} (h1 : ¬ x1 = (-1)) (h2 : cal 186 [vL x2, vL 0, vL 2] (SH T, (up c 77 0 0)) = some (some (vI r1), (SH T, c2))) (h3 : ¬ r1 = 0) : cal 323 [vR 78, vI x1, vI x2] (SH T, c) = ev 323 8 24 [vR 78, vI x1, vI x2, vU, vU, vU] [] (SH T, c2) := by
  refine (ev_eq _ _ _ _ _ _).trans ?_
  refine (if_neg h1).trans ?_
  refine (el_call rfl h2).trans ?_
  refine (if_neg h3).trans ?_
  rfl
theorem B_X12_reign_24 {T : List Shp} {c : Nat → Int → Int} {x1 x2 : Int} {c1 : Nat → Int → Int} (h1 : cal 321 [vR 78] (SH T, c) = some (none, (SH T, c1))) : ev 323 8 24 [vR 78, vI x1, vI x2, vU, vU, vU] [] (SH T, c) = ev 323 8 33 [vR 78, vI x1, vI x2, vI 0, vI 0, vU] [] (SH T, c1) := by
  refine (ev_eq _ _ _ _ _ _).trans ?_
  refine (el_call rfl h1).trans ?_
  rfl
theorem B_X12_reign_33_1 {T : List Shp} {c : Nat → Int → Int} {x1 x2 x3 x4 : Int} (h1 : x4 < 100) : ev 323 8 33 [vR 78, vI x1, vI x2, vI x3, vI x4, vU] [] (SH T, c) = ev 323 8 44 [vR 78, vI x1, vI x2, vI x3, vI x4, vI x4] [] (SH T, c) := by
  refine (ev_eq _ _ _ _ _ _).trans ?_
  refine (if_pos h1).trans ?_
  rfl
theorem B_X12_reign_33_2 {T : List Shp} {c : Nat → Int → Int} {x1 x2 x3 x4 : Int} (h1 : ¬ x4 < 100) (h2 : x1 = (-1)) : ev 323 8 33 [vR 78, vI x1, vI x2, vI x3, vI x4, vU] [] (SH T, c) = some (some (vI x3), (SH T, c)) := by
  refine (ev_eq _ _ _ _ _ _).trans ?_
  refine (if_neg h1).trans ?_
  refine (ev_eq _ _ _ _ _ _).trans ?_
  refine (if_pos h2).trans ?_
  rfl
theorem B_X12_reign_33_3 {T : List Shp} {c : Nat → Int → Int} {x1 x2 x3 x4 : Int} (h1 : ¬ x4 < 100) (h2 : ¬ x1 = (-1)) : ev 323 8 33 [vR 78, vI x1, vI x2, vI x3, vI x4, vU] [] (SH T, c) = some (some (vI (-1)), (SH T, c)) := by
  refine (ev_eq _ _ _ _ _ _).trans ?_
  refine (if_neg h1).trans ?_
  refine (ev_eq _ _ _ _ _ _).trans ?_
  refine (if_neg h2).trans ?_
  refine (ev_eq _ _ _ _ _ _).trans ?_
  rfl
theorem B_X12_reign_44_1 {T : List Shp} {c : Nat → Int → Int} {x1 x2 x3 x4 x5 : Int} (h1 : x5 < 100) (h2 : 0 ≤ x5 ∧ x5 < 100) (h3 : 0 ≤ x4 ∧ x4 < 100) (h4 : (c 105 x5) = (c 105 x4)) : ev 323 8 44 [vR 78, vI x1, vI x2, vI x3, vI x4, vI x5] [] (SH T, c) = ev 323 8 44 [vR 78, vI x1, vI x2, vI x3, vI x4, vI (w32 (x5 + 1))] [] (SH T, c) := by
  refine (ev_eq _ _ _ _ _ _).trans ?_
  refine (if_pos h1).trans ?_
  refine (if_pos h2).trans ?_
  refine (if_pos h3).trans ?_
  refine (if_pos h4).trans ?_
  rfl
theorem B_X12_reign_44_2 {T : List Shp} {c : Nat → Int → Int} {x1 x2 x3 x4 x5 : Int} (h1 : x5 < 100) (h2 : 0 ≤ x5 ∧ x5 < 100) (h3 : 0 ≤ x4 ∧ x4 < 100) (h4 : ¬ (c 105 x5) = (c 105 x4)) : ev 323 8 44 [vR 78, vI x1, vI x2, vI x3, vI x4, vI x5] [] (SH T, c) = ev 323 8 74 [vR 78, vI x1, vI x2, vI x3, vI x4, vI x5] [] (SH T, c) := by
  refine (ev_eq _ _ _ _ _ _).trans ?_
  refine (if_pos h1).trans ?_
  refine (if_pos h2).trans ?_
  refine (if_pos h3).trans ?_
  refine (if_neg h4).trans ?_
  rfl
theorem B_X12_reign_44_3 {T : List Shp} {c : Nat → Int → Int} {x1 x2 x3 x4 x5 : Int} (h1 : ¬ x5 < 100) : ev 323 8 44 [vR 78, vI x1, vI x2, vI x3, vI x4, vI x5] [] (SH T, c) = ev 323 8 74 [vR 78, vI x1, vI x2, vI x3, vI x4, vI x5] [] (SH T, c) := by
  refine (ev_eq _ _ _ _ _ _).trans ?_
  refine (if_neg h1).trans ?_
  rfl
theorem B_X12_reign_74_1 {T : List Shp} {c : Nat → Int → Int} {x1 x2 x3 x4 x5 : Int} (h1 : 0 ≤ x4 ∧ x4 < 100) (h2 : (c 105 x4) = (-1)) : ev 323 8 74 [vR 78, vI x1, vI x2, vI x3, vI x4, vI x5] [] (SH T, c) = ev 323 8 123 [vR 78, vI x1, vI x2, vI x3, vU, vI x5] [] (SH T, c) := by
  refine (ev_eq _ _ _ _ _ _).trans ?_
  refine (if_pos h1).trans ?_
  refine (if_pos h2).trans ?_
  rfl
theorem B_X12_reign_74_2 {T : List Shp} {c : Nat → Int → Int} {x1 x2 x3 x4 x5 : Int} (h1 : 0 ≤ x4 ∧ x4 < 100) (h2 : ¬ (c 105 x4) = (-1)) (h3 : x3 = x1) (h4 : x2 = 0) (h5 : 0 ≤ x4 ∧ x4 < 100) : ev 323 8 74 [vR 78, vI x1, vI x2, vI x3, vI x4, vI x5] [] (SH T, c) = some (some (vI (c 105 x4)), (SH T, c)) := by
  refine (ev_eq _ _ _ _ _ _).trans ?_
  refine (if_pos h1).trans ?_
  refine (if_neg h2).trans ?_
  refine (if_pos h3).trans ?_
  refine (if_pos h4).trans ?_
  refine (if_pos h5).trans ?_
  rfl
theorem B_X12_reign_74_3 {T : List Shp} {c : Nat → Int → Int} {x1 x2 x3 x4 x5 : Int} (h1 : 0 ≤ x4 ∧ x4 < 100) (h2 : ¬ (c 105 x4) = (-1)) (h3 : x3 = x1) (h4 : ¬ x2 = 0) (h5 : x2 = 1) : ev 323 8 74 [vR 78, vI x1, vI x2, vI x3, vI x4, vI x5] [] (SH T, c) = some (some (vI x4), (SH T, c)) := by
  refine (ev_eq _ _ _ _ _ _).trans ?_
  refine (if_pos h1).trans ?_
  refine (if_neg h2).trans ?_
  refine (if_pos h3).trans ?_
  refine (if_neg h4).trans ?_
  refine (ev_eq _ _ _ _ _ _).trans ?_
  refine (if_pos h5).trans ?_
  rfl
theorem B_X12_reign_74_4 {T : List Shp} {c : Nat → Int → Int} {x1 x2 x3 x4 x5 : Int} (h1 : 0 ≤ x4 ∧ x4 < 100) (h2 : ¬ (c 105 x4) = (-1)) (h3 : x3 = x1) (h4 : ¬ x2 = 0) (h5 : ¬ x2 = 1) : ev 323 8 74 [vR 78, vI x1, vI x2, vI x3, vI x4, vI x5] [] (SH T, c) = some (some (vI (w32 (x5 - x4))), (SH T, c)) := by
  refine (ev_eq _ _ _ _ _ _).trans ?_
  refine (if_pos h1).trans ?_
  refine (if_neg h2).trans ?_
  refine (if_pos h3).trans ?_
  refine (if_neg h4).trans ?_
  refine (ev_eq _ _ _ _ _ _).trans ?_
  refine (if_neg h5).trans ?_
  refine (ev_eq _ _ _ _ _ _).trans ?_
  rfl
theorem B_X12_reign_74_5 {T : List Shp} {c : Nat → Int → Int} {x1 x2 x3 x4 x5 : Int} (h1 : 0 ≤ x4 ∧ x4 < 100) (h2 : ¬ (c 105 x4) = (-1)) (h3 : ¬ x3 = x1) : ev 323 8 74 [vR 78, vI x1, vI x2, vI x3, vI x4, vI x5] [] (SH T, c) = ev 323 8 123 [vR 78, vI x1, vI x2, vI (w32 (x3 + 1)), vU, vI x5] [] (SH T, c) := by
  refine (ev_eq _ _ _ _ _ _).trans ?_
  refine (if_pos h1).trans ?_
  refine (if_neg h2).trans ?_
  refine (if_neg h3).trans ?_
  refine (ev_eq _ _ _ _ _ _).trans ?_
  rfl
theorem B_X12_reign_123 {T : List Shp} {c : Nat → Int → Int} {x1 x2 x3 x5 : Int}  : ev 323 8 123 [vR 78, vI x1, vI x2, vI x3, vU, vI x5] [] (SH T, c) = ev 323 8 33 [vR 78, vI x1, vI x2, vI x3, vI x5, vU] [] (SH T, c) := by
  refine (ev_eq _ _ _ _ _ _).trans ?_
  rfl
theorem E_X12_vacant {T : List Shp} {c : Nat → Int → Int} {c1 : Nat → Int → Int} (h1 : cal 321 [vR 78] (SH T, (up c 77 0 0)) = some (none, (SH T, c1))) : cal 324 [vR 78] (SH T, c) = ev 324 8 13 [vR 78, vI 0, vI 0] [] (SH T, c1) := by
  refine (ev_eq _ _ _ _ _ _).trans ?_
  refine (el_call rfl h1).trans ?_
  rfl
theorem B_X12_vacant_13_1 {T : List Shp} {c : Nat → Int → Int} {x1 x2 : Int} (h1 : x2 < 100) (h2 : 0 ≤ x2 ∧ x2 < 100) (h3 : (c 105 x2) = (-1)) : ev 324 8 13 [vR 78, vI x1, vI x2] [] (SH T, c) = ev 324 8 13 [vR 78, vI (w32 (x1 + 1)), vI (w32 (x2 + 1))] [] (SH T, c) := by
  refine (ev_eq _ _ _ _ _ _).trans ?_
  refine (if_pos h1).trans ?_
  refine (if_pos h2).trans ?_
  refine (if_pos h3).trans ?_
  rfl
theorem B_X12_vacant_13_2 {T : List Shp} {c : Nat → Int → Int} {x1 x2 : Int} (h1 : x2 < 100) (h2 : 0 ≤ x2 ∧ x2 < 100) (h3 : ¬ (c 105 x2) = (-1)) : ev 324 8 13 [vR 78, vI x1, vI x2] [] (SH T, c) = ev 324 8 13 [vR 78, vI (w32 (x1 + 0)), vI (w32 (x2 + 1))] [] (SH T, c) := by
  refine (ev_eq _ _ _ _ _ _).trans ?_
  refine (if_pos h1).trans ?_
  refine (if_pos h2).trans ?_
  refine (if_neg h3).trans ?_
  refine (ev_eq _ _ _ _ _ _).trans ?_
  rfl
theorem B_X12_vacant_13_3 {T : List Shp} {c : Nat → Int → Int} {x1 x2 : Int} (h1 : ¬ x2 < 100) : ev 324 8 13 [vR 78, vI x1, vI x2] [] (SH T, c) = some (some (vI x1), (SH T, c)) := by
  refine (ev_eq _ _ _ _ _ _).trans ?_
  refine (if_neg h1).trans ?_
  refine (ev_eq _ _ _ _ _ _).trans ?_
  rfl
theorem E_X12_line_1 {T : List Shp} {c : Nat → Int → Int} {x1 x2 : Int} {r1 : Int} {c2 : Nat → Int → Int} (h1 : cal 196 [vI x1] (SH T, (up c 77 0 0)) = some (some (vI r1), (SH T, c2))) (h2 : r1 = 0) : cal 325 [vR 78, vI x1, vI x2] (SH T, c) = some (some (vI (-1)), (SH T, c2)) := by
  refine (ev_eq _ _ _ _ _ _).trans ?_
  refine (el_call rfl h1).trans ?_
  refine (if_pos h2).trans ?_
  rfl
theorem E_X12_line_2 {T : List Shp} {c : Nat → Int → Int} {x1 x2 : Int} {r1 : Int} {c2 : Nat → Int → Int} (h1 : cal 196 [vI x1] (SH T, (up c 77 0 0)) = some (some (vI r1), (SH T, c2))) (h2 : ¬ r1 = 0) : cal 325 [vR 78, vI x1, vI x2] (SH T, c) = ev 325 7 19 [vR 78, vI x1, vI x2, vI 0, vI 0, vU, vU] [] (SH T, c2) := by
  refine (ev_eq _ _ _ _ _ _).trans ?_
  refine (el_call rfl h1).trans ?_
  refine (if_neg h2).trans ?_
  refine (ev_eq _ _ _ _ _ _).trans ?_
  rfl
theorem B_X12_line_19_1 {T : List Shp} {c : Nat → Int → Int} {x1 x2 x3 x4 : Int} {r1 : Int} {c2 : Nat → Int → Int} (h1 : x4 < (c 79 6)) (h2 : cal 315 [vR 78, vI x4, vI x1] (SH T, c) = some (some (vI r1), (SH T, c2))) (h3 : r1 = 0) : ev 325 7 19 [vR 78, vI x1, vI x2, vI x3, vI x4, vU, vU] [] (SH T, c) = ev 325 7 67 [vR 78, vI x1, vI x2, vI x3, vI x4, vU, vU] [vI x4, vR 107] (SH T, c2) := by
  refine (ev_eq _ _ _ _ _ _).trans ?_
  refine (if_pos h1).trans ?_
  refine (el_call rfl h2).trans ?_
  refine (if_pos h3).trans ?_
  rfl
theorem B_X12_line_19_2 {T : List Shp} {c : Nat → Int → Int} {x1 x2 x3 x4 : Int} {r1 : Int} {c2 : Nat → Int → Int} {r3 : Int} {c4 : Nat → Int → Int} {r5 : Int} {c6 : Nat → Int → Int} (h1 : x4 < (c 79 6)) (h2 : cal 315 [vR 78, vI x4, vI x1] (SH T, c) = some (some (vI r1), (SH T, c2))) (h3 : ¬ r1 = 0) (h4 : cal 319 [vR 78, vI x4, vI x1] (SH T, c2) = some (some (vI r3), (SH T, c4))) (h5 : r3 = 0) (h6 : cal 318 [vR 78, vI x4, vI x1] (SH T, c4) = some (some (vI r5), (SH T, c6))) : ev 325 7 19 [vR 78, vI x1, vI x2, vI x3, vI x4, vU, vU] [] (SH T, c) = ev 325 7 70 [vR 78, vI x1, vI x2, vI x3, vI x4, vU, vU] [vI r5, vI x4, vR 107] (SH T, c6) := by
  refine (ev_eq _ _ _ _ _ _).trans ?_
  refine (if_pos h1).trans ?_
  refine (el_call rfl h2).trans ?_
  refine (if_neg h3).trans ?_
  refine (el_call rfl h4).trans ?_
  refine (if_pos h5).trans ?_
  refine (el_call rfl h6).trans ?_
  rfl
theorem B_X12_line_19_3 {T : List Shp} {c : Nat → Int → Int} {x1 x2 x3 x4 : Int} {r1 : Int} {c2 : Nat → Int → Int} {r3 : Int} {c4 : Nat → Int → Int} (h1 : x4 < (c 79 6)) (h2 : cal 315 [vR 78, vI x4, vI x1] (SH T, c) = some (some (vI r1), (SH T, c2))) (h3 : ¬ r1 = 0) (h4 : cal 319 [vR 78, vI x4, vI x1] (SH T, c2) = some (some (vI r3), (SH T, c4))) (h5 : ¬ r3 = 0) : ev 325 7 19 [vR 78, vI x1, vI x2, vI x3, vI x4, vU, vU] [] (SH T, c) = ev 325 7 67 [vR 78, vI x1, vI x2, vI x3, vI x4, vU, vU] [vI x4, vR 107] (SH T, c4) := by
  refine (ev_eq _ _ _ _ _ _).trans ?_
  refine (if_pos h1).trans ?_
  refine (el_call rfl h2).trans ?_
  refine (if_neg h3).trans ?_
  refine (el_call rfl h4).trans ?_
  refine (if_neg h5).trans ?_
  rfl
theorem B_X12_line_19_4 {T : List Shp} {c : Nat → Int → Int} {x1 x2 x3 x4 : Int} (h1 : ¬ x4 < (c 79 6)) : ev 325 7 19 [vR 78, vI x1, vI x2, vI x3, vI x4, vU, vU] [] (SH T, c) = ev 325 7 101 [vR 78, vU, vI x2, vI x3, vI 0, vU, vU] [] (SH T, c) := by
  refine (ev_eq _ _ _ _ _ _).trans ?_
  refine (if_neg h1).trans ?_
  refine (ev_eq _ _ _ _ _ _).trans ?_
  rfl
theorem B_X12_line_67 {T : List Shp} {c : Nat → Int → Int} {x1 x2 x3 x4 y0 : Int}  : ev 325 7 67 [vR 78, vI x1, vI x2, vI x3, vI x4, vU, vU] [vI y0, vR 107] (SH T, c) = ev 325 7 70 [vR 78, vI x1, vI x2, vI x3, vI x4, vU, vU] [vI 100000000, vI y0, vR 107] (SH T, c) := by
  refine (ev_eq _ _ _ _ _ _).trans ?_
  rfl
theorem B_X12_line_70_1 {T : List Shp} {c : Nat → Int → Int} {x1 x2 x3 x4 y0 y1 : Int} (h1 : 0 ≤ y1 ∧ y1 < 8) (h2 : 0 ≤ x4 ∧ x4 < 8) (h3 : ((up c 106 y1 y0) 106 x4) < 100000000) : ev 325 7 70 [vR 78, vI x1, vI x2, vI x3, vI x4, vU, vU] [vI y0, vI y1, vR 107] (SH T, c) = ev 325 7 19 [vR 78, vI x1, vI x2, vI (w32 (x3 + 1)), vI (w32 (x4 + 1)), vU, vU] [] (SH T, (up c 106 y1 y0)) := by
  refine (ev_eq _ _ _ _ _ _).trans ?_
  refine (if_pos h1).trans ?_
  refine (if_pos h2).trans ?_
  refine (if_pos h3).trans ?_
  rfl
theorem B_X12_line_70_2 {T : List Shp} {c : Nat → Int → Int} {x1 x2 x3 x4 y0 y1 : Int} (h1 : 0 ≤ y1 ∧ y1 < 8) (h2 : 0 ≤ x4 ∧ x4 < 8) (h3 : ¬ ((up c 106 y1 y0) 106 x4) < 100000000) : ev 325 7 70 [vR 78, vI x1, vI x2, vI x3, vI x4, vU, vU] [vI y0, vI y1, vR 107] (SH T, c) = ev 325 7 19 [vR 78, vI x1, vI x2, vI (w32 (x3 + 0)), vI (w32 (x4 + 1)), vU, vU] [] (SH T, (up c 106 y1 y0)) := by
  refine (ev_eq _ _ _ _ _ _).trans ?_
  refine (if_pos h1).trans ?_
  refine (if_pos h2).trans ?_
  refine (if_neg h3).trans ?_
  refine (ev_eq _ _ _ _ _ _).trans ?_
  rfl
theorem B_X12_line_101_1 {T : List Shp} {c : Nat → Int → Int} {x2 x3 x4 : Int} (h1 : x4 < (c 79 6)) (h2 : x2 = (-1)) : ev 325 7 101 [vR 78, vU, vI x2, vI x3, vI x4, vU, vU] [] (SH T, c) = ev 325 7 221 [vU, vU, vI x2, vI x3, vU, vU, vU] [] (SH T, c) := by
  refine (ev_eq _ _ _ _ _ _).trans ?_
  refine (if_pos h1).trans ?_
  refine (if_pos h2).trans ?_
  rfl
theorem B_X12_line_101_2 {T : List Shp} {c : Nat → Int → Int} {x2 x3 x4 : Int} (h1 : x4 < (c 79 6)) (h2 : ¬ x2 = (-1)) : ev 325 7 101 [vR 78, vU, vI x2, vI x3, vI x4, vU, vU] [] (SH T, c) = ev 325 7 124 [vR 78, vU, vI x2, vI x3, vI x4, vI 0, vI 0] [] (SH T, c) := by
  refine (ev_eq _ _ _ _ _ _).trans ?_
  refine (if_pos h1).trans ?_
  refine (if_neg h2).trans ?_
  rfl
theorem B_X12_line_101_3 {T : List Shp} {c : Nat → Int → Int} {x2 x3 x4 : Int} (h1 : ¬ x4 < (c 79 6)) : ev 325 7 101 [vR 78, vU, vI x2, vI x3, vI x4, vU, vU] [] (SH T, c) = ev 325 7 221 [vU, vU, vI x2, vI x3, vU, vU, vU] [] (SH T, c) := by
  refine (ev_eq _ _ _ _ _ _).trans ?_
  refine (if_neg h1).trans ?_
  rfl
theorem B_X12_line_124_1 {T : List Shp} {c : Nat → Int → Int} {x2 x3 x4 x5 x6 : Int} (h1 : x6 < (c 79 6)) (h2 : 0 ≤ x6 ∧ x6 < 8) (h3 : 0 ≤ x4 ∧ x4 < 8) (h4 : (c 106 x6) < (c 106 x4)) : ev 325 7 124 [vR 78, vU, vI x2, vI x3, vI x4, vI x5, vI x6] [] (SH T, c) = ev 325 7 179 [vR 78, vU, vI x2, vI x3, vI x4, vU, vI x6] [vI x5] (SH T, c) := by
  refine (ev_eq _ _ _ _ _ _).trans ?_
  refine (if_pos h1).trans ?_
  refine (if_pos h2).trans ?_
  refine (if_pos h3).trans ?_
  refine (if_pos h4).trans ?_
  rfl
theorem B_X12_line_124_2 {T : List Shp} {c : Nat → Int → Int} {x2 x3 x4 x5 x6 : Int} (h1 : x6 < (c 79 6)) (h2 : 0 ≤ x6 ∧ x6 < 8) (h3 : 0 ≤ x4 ∧ x4 < 8) (h4 : ¬ (c 106 x6) < (c 106 x4)) (h5 : 0 ≤ x6 ∧ x6 < 8) (h6 : 0 ≤ x4 ∧ x4 < 8) (h7 : (c 106 x6) = (c 106 x4)) (h8 : x6 < x4) : ev 325 7 124 [vR 78, vU, vI x2, vI x3, vI x4, vI x5, vI x6] [] (SH T, c) = ev 325 7 179 [vR 78, vU, vI x2, vI x3, vI x4, vU, vI x6] [vI x5] (SH T, c) := by
  refine (ev_eq _ _ _ _ _ _).trans ?_
  refine (if_pos h1).trans ?_
  refine (if_pos h2).trans ?_
  refine (if_pos h3).trans ?_
  refine (if_neg h4).trans ?_
  refine (if_pos h5).trans ?_
  refine (if_pos h6).trans ?_
  refine (if_pos h7).trans ?_
  refine (if_pos h8).trans ?_
  rfl
theorem B_X12_line_124_3 {T : List Shp} {c : Nat → Int → Int} {x2 x3 x4 x5 x6 : Int} (h1 : x6 < (c 79 6)) (h2 : 0 ≤ x6 ∧ x6 < 8) (h3 : 0 ≤ x4 ∧ x4 < 8) (h4 : ¬ (c 106 x6) < (c 106 x4)) (h5 : 0 ≤ x6 ∧ x6 < 8) (h6 : 0 ≤ x4 ∧ x4 < 8) (h7 : (c 106 x6) = (c 106 x4)) (h8 : ¬ x6 < x4) : ev 325 7 124 [vR 78, vU, vI x2, vI x3, vI x4, vI x5, vI x6] [] (SH T, c) = ev 325 7 183 [vR 78, vU, vI x2, vI x3, vI x4, vU, vI x6] [vI x5] (SH T, c) := by
  refine (ev_eq _ _ _ _ _ _).trans ?_
  refine (if_pos h1).trans ?_
  refine (if_pos h2).trans ?_
  refine (if_pos h3).trans ?_
  refine (if_neg h4).trans ?_
  refine (if_pos h5).trans ?_
  refine (if_pos h6).trans ?_
  refine (if_pos h7).trans ?_
  refine (if_neg h8).trans ?_
  rfl
theorem B_X12_line_124_4 {T : List Shp} {c : Nat → Int → Int} {x2 x3 x4 x5 x6 : Int} (h1 : x6 < (c 79 6)) (h2 : 0 ≤ x6 ∧ x6 < 8) (h3 : 0 ≤ x4 ∧ x4 < 8) (h4 : ¬ (c 106 x6) < (c 106 x4)) (h5 : 0 ≤ x6 ∧ x6 < 8) (h6 : 0 ≤ x4 ∧ x4 < 8) (h7 : ¬ (c 106 x6) = (c 106 x4)) : ev 325 7 124 [vR 78, vU, vI x2, vI x3, vI x4, vI x5, vI x6] [] (SH T, c) = ev 325 7 183 [vR 78, vU, vI x2, vI x3, vI x4, vU, vI x6] [vI x5] (SH T, c) := by
  refine (ev_eq _ _ _ _ _ _).trans ?_
  refine (if_pos h1).trans ?_
  refine (if_pos h2).trans ?_
  refine (if_pos h3).trans ?_
  refine (if_neg h4).trans ?_
  refine (if_pos h5).trans ?_
  refine (if_pos h6).trans ?_
  refine (if_neg h7).trans ?_
  rfl
theorem B_X12_line_124_5 {T : List Shp} {c : Nat → Int → Int} {x2 x3 x4 x5 x6 : Int} (h1 : ¬ x6 < (c 79 6)) (h2 : 0 ≤ x4 ∧ x4 < 8) (h3 : (c 106 x4) < 100000000) (h4 : x5 = x2) : ev 325 7 124 [vR 78, vU, vI x2, vI x3, vI x4, vI x5, vI x6] [] (SH T, c) = some (some (vI x4), (SH T, c)) := by
  refine (ev_eq _ _ _ _ _ _).trans ?_
  refine (if_neg h1).trans ?_
  refine (ev_eq _ _ _ _ _ _).trans ?_
  refine (if_pos h2).trans ?_
  refine (if_pos h3).trans ?_
  refine (if_pos h4).trans ?_
  rfl
theorem B_X12_line_124_6 {T : List Shp} {c : Nat → Int → Int} {x2 x3 x4 x5 x6 : Int} (h1 : ¬ x6 < (c 79 6)) (h2 : 0 ≤ x4 ∧ x4 < 8) (h3 : (c 106 x4) < 100000000) (h4 : ¬ x5 = x2) : ev 325 7 124 [vR 78, vU, vI x2, vI x3, vI x4, vI x5, vI x6] [] (SH T, c) = ev 325 7 215 [vR 78, vU, vI x2, vI x3, vI x4, vU, vU] [] (SH T, c) := by
  refine (ev_eq _ _ _ _ _ _).trans ?_
  refine (if_neg h1).trans ?_
  refine (ev_eq _ _ _ _ _ _).trans ?_
  refine (if_pos h2).trans ?_
  refine (if_pos h3).trans ?_
  refine (if_neg h4).trans ?_
  rfl
theorem B_X12_line_124_7 {T : List Shp} {c : Nat → Int → Int} {x2 x3 x4 x5 x6 : Int} (h1 : ¬ x6 < (c 79 6)) (h2 : 0 ≤ x4 ∧ x4 < 8) (h3 : ¬ (c 106 x4) < 100000000) : ev 325 7 124 [vR 78, vU, vI x2, vI x3, vI x4, vI x5, vI x6] [] (SH T, c) = ev 325 7 215 [vR 78, vU, vI x2, vI x3, vI x4, vU, vU] [] (SH T, c) := by
  refine (ev_eq _ _ _ _ _ _).trans ?_
  refine (if_neg h1).trans ?_
  refine (ev_eq _ _ _ _ _ _).trans ?_
  refine (if_pos h2).trans ?_
  refine (if_neg h3).trans ?_
  rfl
theorem B_X12_line_179 {T : List Shp} {c : Nat → Int → Int} {x2 x3 x4 x6 y0 : Int}  : ev 325 7 179 [vR 78, vU, vI x2, vI x3, vI x4, vU, vI x6] [vI y0] (SH T, c) = ev 325 7 124 [vR 78, vU, vI x2, vI x3, vI x4, vI (w32 (y0 + 1)), vI (w32 (x6 + 1))] [] (SH T, c) := by
  refine (ev_eq _ _ _ _ _ _).trans ?_
  rfl
theorem B_X12_line_183 {T : List Shp} {c : Nat → Int → Int} {x2 x3 x4 x6 y0 : Int}  : ev 325 7 183 [vR 78, vU, vI x2, vI x3, vI x4, vU, vI x6] [vI y0] (SH T, c) = ev 325 7 124 [vR 78, vU, vI x2, vI x3, vI x4, vI (w32 (y0 + 0)), vI (w32 (x6 + 1))] [] (SH T, c) := by
  refine (ev_eq _ _ _ _ _ _).trans ?_
  rfl
theorem B_X12_line_215 {T : List Shp} {c : Nat → Int → Int} {x2 x3 x4 : Int}  : ev 325 7 215 [vR 78, vU, vI x2, vI x3, vI x4, vU, vU] [] (SH T, c) = ev 325 7 101 [vR 78, vU, vI x2, vI x3, vI (w32 (x4 + 1)), vU, vU] [] (SH T, c) := by
  refine (ev_eq _ _ _ _ _ _).trans ?_
  rfl
theorem B_X12_line_221_1 {T : List Shp} {c : Nat → Int → Int} {x2 x3 : Int} (h1 : x2 = (-1)) : ev 325 7 221 [vU, vU, vI x2, vI x3, vU, vU, vU] [] (SH T, c) = some (some (vI x3), (SH T, c)) := by
  refine (ev_eq _ _ _ _ _ _).trans ?_
  refine (if_pos h1).trans ?_
  rfl
theorem B_X12_line_221_2 {T : List Shp} {c : Nat → Int → Int} {x2 x3 : Int} (h1 : ¬ x2 = (-1)) : ev 325 7 221 [vU, vU, vI x2, vI x3, vU, vU, vU] [] (SH T, c) = some (some (vI (-1)), (SH T, c)) := by
  refine (ev_eq _ _ _ _ _ _).trans ?_
  refine (if_neg h1).trans ?_
  refine (ev_eq _ _ _ _ _ _).trans ?_
  rfl
theorem E_X12_readSum_1 {T : List Shp} {c : Nat → Int → Int} {x1 : Int} {c1 : Nat → Int → Int} (h1 : 0 ≤ x1 ∧ x1 < 120) (h2 : (c 77 15) = 0) (h3 : cal 240 [vR 78, vI 0] (SH T, (up c 107 x1 (c 77 19))) = some (none, (SH T, c1))) : cal 326 [vR 78, vI x1] (SH T, c) = ev 326 8 22 [vR 78, vI x1] [] (SH T, c1) := by
  refine (ev_eq _ _ _ _ _ _).trans ?_
  refine (if_pos h1).trans ?_
  refine (if_pos h2).trans ?_
  refine (el_call rfl h3).trans ?_
  rfl
theorem E_X12_readSum_2 {T : List Shp} {c : Nat → Int → Int} {x1 : Int} (h1 : 0 ≤ x1 ∧ x1 < 120) (h2 : ¬ (c 77 15) = 0) : cal 326 [vR 78, vI x1] (SH T, c) = ev 326 8 22 [vR 78, vI x1] [] (SH T, (up c 107 x1 (c 77 19))) := by
  refine (ev_eq _ _ _ _ _ _).trans ?_
  refine (if_pos h1).trans ?_
  refine (if_neg h2).trans ?_
  rfl
theorem B_X12_readSum_22 {T : List Shp} {c : Nat → Int → Int} {x1 : Int} (h1 : 0 ≤ (w32 (x1 + 1)) ∧ (w32 (x1 + 1)) < 120) : ev 326 8 22 [vR 78, vI x1] [] (SH T, c) = some (none, (SH T, (up c 107 (w32 (x1 + 1)) (c 77 19)))) := by
  refine (ev_eq _ _ _ _ _ _).trans ?_
  refine (if_pos h1).trans ?_
  rfl
theorem E_X12_readHead_1 {T : List Shp} {c : Nat → Int → Int} {r1 : Int} {c2 : Nat → Int → Int} {r3 : Int} {c4 : Nat → Int → Int} {r5 : Int} {c6 : Nat → Int → Int} {r7 : Int} {c8 : Nat → Int → Int} (h1 : cal 221 [vR 78, vL 16819668] (SH T, c) = some (some (vI r1), (SH T, c2))) (h2 : cal 221 [vR 78, vL 641271301] (SH T, c2) = some (some (vI r3), (SH T, c4))) (h3 : r3 = 0) (h4 : cal 221 [vR 78, vL 114201] (SH T, c4) = some (some (vI r5), (SH T, c6))) (h5 : r5 = 0) (h6 : cal 221 [vR 78, vL 21484648] (SH T, c6) = some (some (vI r7), (SH T, c8))) (h7 : r7 = 0) : cal 327 [vR 78] (SH T, c) = ev 327 4 51 [vR 78, vI r1, vU] [vI (-1)] (SH T, c8) := by
  refine (ev_eq _ _ _ _ _ _).trans ?_
  refine (el_call rfl h1).trans ?_
  refine (el_call rfl h2).trans ?_
  refine (if_pos h3).trans ?_
  refine (ev_eq _ _ _ _ _ _).trans ?_
  refine (el_call rfl h4).trans ?_
  refine (if_pos h5).trans ?_
  refine (ev_eq _ _ _ _ _ _).trans ?_
  refine (el_call rfl h6).trans ?_
  refine (if_pos h7).trans ?_
  refine (ev_eq _ _ _ _ _ _).trans ?_
  rfl
theorem E_X12_readHead_2 {T : List Shp} {c : Nat → Int → Int} {r1 : Int} {c2 : Nat → Int → Int} {r3 : Int} {c4 : Nat → Int → Int} {r5 : Int} {c6 : Nat → Int → Int} {r7 : Int} {c8 : Nat → Int → Int} (h1 : cal 221 [vR 78, vL 16819668] (SH T, c) = some (some (vI r1), (SH T, c2))) (h2 : cal 221 [vR 78, vL 641271301] (SH T, c2) = some (some (vI r3), (SH T, c4))) (h3 : r3 = 0) (h4 : cal 221 [vR 78, vL 114201] (SH T, c4) = some (some (vI r5), (SH T, c6))) (h5 : r5 = 0) (h6 : cal 221 [vR 78, vL 21484648] (SH T, c6) = some (some (vI r7), (SH T, c8))) (h7 : ¬ r7 = 0) : cal 327 [vR 78] (SH T, c) = ev 327 4 51 [vR 78, vI r1, vU] [vI 5] (SH T, c8) := by
  refine (ev_eq _ _ _ _ _ _).trans ?_
  refine (el_call rfl h1).trans ?_
  refine (el_call rfl h2).trans ?_
  refine (if_pos h3).trans ?_
  refine (ev_eq _ _ _ _ _ _).trans ?_
  refine (el_call rfl h4).trans ?_
  refine (if_pos h5).trans ?_
  refine (ev_eq _ _ _ _ _ _).trans ?_
  refine (el_call rfl h6).trans ?_
  refine (if_neg h7).trans ?_
  rfl
theorem E_X12_readHead_3 {T : List Shp} {c : Nat → Int → Int} {r1 : Int} {c2 : Nat → Int → Int} {r3 : Int} {c4 : Nat → Int → Int} {r5 : Int} {c6 : Nat → Int → Int} (h1 : cal 221 [vR 78, vL 16819668] (SH T, c) = some (some (vI r1), (SH T, c2))) (h2 : cal 221 [vR 78, vL 641271301] (SH T, c2) = some (some (vI r3), (SH T, c4))) (h3 : r3 = 0) (h4 : cal 221 [vR 78, vL 114201] (SH T, c4) = some (some (vI r5), (SH T, c6))) (h5 : ¬ r5 = 0) : cal 327 [vR 78] (SH T, c) = ev 327 4 51 [vR 78, vI r1, vU] [vI 4] (SH T, c6) := by
  refine (ev_eq _ _ _ _ _ _).trans ?_
  refine (el_call rfl h1).trans ?_
  refine (el_call rfl h2).trans ?_
  refine (if_pos h3).trans ?_
  refine (ev_eq _ _ _ _ _ _).trans ?_
  refine (el_call rfl h4).trans ?_
  refine (if_neg h5).trans ?_
  rfl
theorem E_X12_readHead_4 {T : List Shp} {c : Nat → Int → Int} {r1 : Int} {c2 : Nat → Int → Int} {r3 : Int} {c4 : Nat → Int → Int} (h1 : cal 221 [vR 78, vL 16819668] (SH T, c) = some (some (vI r1), (SH T, c2))) (h2 : cal 221 [vR 78, vL 641271301] (SH T, c2) = some (some (vI r3), (SH T, c4))) (h3 : ¬ r3 = 0) : cal 327 [vR 78] (SH T, c) = ev 327 4 51 [vR 78, vI r1, vU] [vI 3] (SH T, c4) := by
  refine (ev_eq _ _ _ _ _ _).trans ?_
  refine (el_call rfl h1).trans ?_
  refine (el_call rfl h2).trans ?_
  refine (if_neg h3).trans ?_
  rfl
theorem B_X12_readHead_51_1 {T : List Shp} {c : Nat → Int → Int} {x1 y0 : Int} (h1 : x1 = 0) (h2 : y0 = (-1)) : ev 327 4 51 [vR 78, vI x1, vU] [vI y0] (SH T, c) = ev 327 4 75 [vR 78, vI x1, vI y0] [vR 78] (SH T, c) := by
  refine (ev_eq _ _ _ _ _ _).trans ?_
  refine (if_pos h1).trans ?_
  refine (if_pos h2).trans ?_
  rfl
theorem B_X12_readHead_51_2 {T : List Shp} {c : Nat → Int → Int} {x1 y0 : Int} (h1 : x1 = 0) (h2 : ¬ y0 = (-1)) : ev 327 4 51 [vR 78, vI x1, vU] [vI y0] (SH T, c) = ev 327 4 62 [vR 78, vI x1, vI y0] [vR 78] (SH T, c) := by
  refine (ev_eq _ _ _ _ _ _).trans ?_
  refine (if_pos h1).trans ?_
  refine (if_neg h2).trans ?_
  rfl
theorem B_X12_readHead_51_3 {T : List Shp} {c : Nat → Int → Int} {x1 y0 : Int} (h1 : ¬ x1 = 0) : ev 327 4 51 [vR 78, vI x1, vU] [vI y0] (SH T, c) = ev 327 4 62 [vR 78, vI x1, vI y0] [vR 78] (SH T, c) := by
  refine (ev_eq _ _ _ _ _ _).trans ?_
  refine (if_neg h1).trans ?_
  rfl
theorem B_X12_readHead_62_1 {T : List Shp} {c : Nat → Int → Int} {x1 x2 : Int} (h1 : (c 77 17) < 12) : ev 327 4 62 [vR 78, vI x1, vI x2] [vR 78] (SH T, c) = ev 327 4 76 [vR 78, vI x1, vI x2] [vI 1, vR 78] (SH T, c) := by
  refine (ev_eq _ _ _ _ _ _).trans ?_
  refine (if_pos h1).trans ?_
  rfl
theorem B_X12_readHead_62_2 {T : List Shp} {c : Nat → Int → Int} {x1 x2 : Int} (h1 : ¬ (c 77 17) < 12) : ev 327 4 62 [vR 78, vI x1, vI x2] [vR 78] (SH T, c) = ev 327 4 75 [vR 78, vI x1, vI x2] [vR 78] (SH T, c) := by
  refine (ev_eq _ _ _ _ _ _).trans ?_
  refine (if_neg h1).trans ?_
  rfl
theorem B_X12_readHead_75 {T : List Shp} {c : Nat → Int → Int} {x1 x2 : Int}  : ev 327 4 75 [vR 78, vI x1, vI x2] [vR 78] (SH T, c) = ev 327 4 76 [vR 78, vI x1, vI x2] [vI 0, vR 78] (SH T, c) := by
  refine (ev_eq _ _ _ _ _ _).trans ?_
  rfl
theorem B_X12_readHead_76_1 {T : List Shp} {c : Nat → Int → Int} {x1 x2 y0 : Int} {c1 : Nat → Int → Int} (h1 : cal 223 [vR 78, vI y0] (SH T, c) = some (none, (SH T, c1))) (h2 : (c1 77 15) = 0) (h3 : x1 = 0) : ev 327 4 76 [vR 78, vI x1, vI x2] [vI y0, vR 78] (SH T, c) = some (some (vI x2), (SH T, c1)) := by
  refine (ev_eq _ _ _ _ _ _).trans ?_
  refine (el_call rfl h1).trans ?_
  refine (if_pos h2).trans ?_
  refine (if_pos h3).trans ?_
  refine (ev_eq _ _ _ _ _ _).trans ?_
  rfl
theorem B_X12_readHead_76_2 {T : List Shp} {c : Nat → Int → Int} {x1 x2 y0 : Int} {c1 : Nat → Int → Int} {r2 : Int} {c3 : Nat → Int → Int} {r4 : Int} {c5 : Nat → Int → Int} {r6 : Int} {c7 : Nat → Int → Int} (h1 : cal 223 [vR 78, vI y0] (SH T, c) = some (none, (SH T, c1))) (h2 : (c1 77 15) = 0) (h3 : ¬ x1 = 0) (h4 : cal 221 [vR 78, vL 412456564] (SH T, c1) = some (some (vI r2), (SH T, c3))) (h5 : r2 = 0) (h6 : cal 221 [vR 78, vL 111838500468] (SH T, c3) = some (some (vI r4), (SH T, c5))) (h7 : r4 = 0) (h8 : cal 221 [vR 78, vL 89] (SH T, c5) = some (some (vI r6), (SH T, c7))) (h9 : r6 = 0) : ev 327 4 76 [vR 78, vI x1, vI x2] [vI y0, vR 78] (SH T, c) = ev 327 4 135 [vR 78, vU, vU] [vI (-1)] (SH T, c7) := by
  refine (ev_eq _ _ _ _ _ _).trans ?_
  refine (el_call rfl h1).trans ?_
  refine (if_pos h2).trans ?_
  refine (if_neg h3).trans ?_
  refine (ev_eq _ _ _ _ _ _).trans ?_
  refine (el_call rfl h4).trans ?_
  refine (if_pos h5).trans ?_
  refine (ev_eq _ _ _ _ _ _).trans ?_
  refine (el_call rfl h6).trans ?_
  refine (if_pos h7).trans ?_
  refine (ev_eq _ _ _ _ _ _).trans ?_
  refine (el_call rfl h8).trans ?_
  refine (if_pos h9).trans ?_
  refine (ev_eq _ _ _ _ _ _).trans ?_
  rfl
theorem B_X12_readHead_76_3 {T : List Shp} {c : Nat → Int → Int} {x1 x2 y0 : Int} {c1 : Nat → Int → Int} {r2 : Int} {c3 : Nat → Int → Int} {r4 : Int} {c5 : Nat → Int → Int} {r6 : Int} {c7 : Nat → Int → Int} (h1 : cal 223 [vR 78, vI y0] (SH T, c) = some (none, (SH T, c1))) (h2 : (c1 77 15) = 0) (h3 : ¬ x1 = 0) (h4 : cal 221 [vR 78, vL 412456564] (SH T, c1) = some (some (vI r2), (SH T, c3))) (h5 : r2 = 0) (h6 : cal 221 [vR 78, vL 111838500468] (SH T, c3) = some (some (vI r4), (SH T, c5))) (h7 : r4 = 0) (h8 : cal 221 [vR 78, vL 89] (SH T, c5) = some (some (vI r6), (SH T, c7))) (h9 : ¬ r6 = 0) : ev 327 4 76 [vR 78, vI x1, vI x2] [vI y0, vR 78] (SH T, c) = ev 327 4 135 [vR 78, vU, vU] [vI 2] (SH T, c7) := by
  refine (ev_eq _ _ _ _ _ _).trans ?_
  refine (el_call rfl h1).trans ?_
  refine (if_pos h2).trans ?_
  refine (if_neg h3).trans ?_
  refine (ev_eq _ _ _ _ _ _).trans ?_
  refine (el_call rfl h4).trans ?_
  refine (if_pos h5).trans ?_
  refine (ev_eq _ _ _ _ _ _).trans ?_
  refine (el_call rfl h6).trans ?_
  refine (if_pos h7).trans ?_
  refine (ev_eq _ _ _ _ _ _).trans ?_
  refine (el_call rfl h8).trans ?_
  refine (if_neg h9).trans ?_
  rfl
theorem B_X12_readHead_76_4 {T : List Shp} {c : Nat → Int → Int} {x1 x2 y0 : Int} {c1 : Nat → Int → Int} {r2 : Int} {c3 : Nat → Int → Int} {r4 : Int} {c5 : Nat → Int → Int} (h1 : cal 223 [vR 78, vI y0] (SH T, c) = some (none, (SH T, c1))) (h2 : (c1 77 15) = 0) (h3 : ¬ x1 = 0) (h4 : cal 221 [vR 78, vL 412456564] (SH T, c1) = some (some (vI r2), (SH T, c3))) (h5 : r2 = 0) (h6 : cal 221 [vR 78, vL 111838500468] (SH T, c3) = some (some (vI r4), (SH T, c5))) (h7 : ¬ r4 = 0) : ev 327 4 76 [vR 78, vI x1, vI x2] [vI y0, vR 78] (SH T, c) = ev 327 4 135 [vR 78, vU, vU] [vI 1] (SH T, c5) := by
  refine (ev_eq _ _ _ _ _ _).trans ?_
  refine (el_call rfl h1).trans ?_
  refine (if_pos h2).trans ?_
  refine (if_neg h3).trans ?_
  refine (ev_eq _ _ _ _ _ _).trans ?_
  refine (el_call rfl h4).trans ?_
  refine (if_pos h5).trans ?_
  refine (ev_eq _ _ _ _ _ _).trans ?_
  refine (el_call rfl h6).trans ?_
  refine (if_neg h7).trans ?_
  rfl
theorem B_X12_readHead_76_5 {T : List Shp} {c : Nat → Int → Int} {x1 x2 y0 : Int} {c1 : Nat → Int → Int} {r2 : Int} {c3 : Nat → Int → Int} (h1 : cal 223 [vR 78, vI y0] (SH T, c) = some (none, (SH T, c1))) (h2 : (c1 77 15) = 0) (h3 : ¬ x1 = 0) (h4 : cal 221 [vR 78, vL 412456564] (SH T, c1) = some (some (vI r2), (SH T, c3))) (h5 : ¬ r2 = 0) : ev 327 4 76 [vR 78, vI x1, vI x2] [vI y0, vR 78] (SH T, c) = ev 327 4 135 [vR 78, vU, vU] [vI 0] (SH T, c3) := by
  refine (ev_eq _ _ _ _ _ _).trans ?_
  refine (el_call rfl h1).trans ?_
  refine (if_pos h2).trans ?_
  refine (if_neg h3).trans ?_
  refine (ev_eq _ _ _ _ _ _).trans ?_
  refine (el_call rfl h4).trans ?_
  refine (if_neg h5).trans ?_
  rfl
theorem B_X12_readHead_76_6 {T : List Shp} {c : Nat → Int → Int} {x1 x2 y0 : Int} {c1 : Nat → Int → Int} (h1 : cal 223 [vR 78, vI y0] (SH T, c) = some (none, (SH T, c1))) (h2 : ¬ (c1 77 15) = 0) : ev 327 4 76 [vR 78, vI x1, vI x2] [vI y0, vR 78] (SH T, c) = some (some (vI x2), (SH T, c1)) := by
  refine (ev_eq _ _ _ _ _ _).trans ?_
  refine (el_call rfl h1).trans ?_
  refine (if_neg h2).trans ?_
  refine (ev_eq _ _ _ _ _ _).trans ?_
  rfl
theorem B_X12_readHead_135_1 {T : List Shp} {c : Nat → Int → Int} {y0 : Int} {c1 : Nat → Int → Int} (h1 : y0 = (-1)) (h2 : cal 223 [vR 78, vI 0] (SH T, c) = some (none, (SH T, c1))) : ev 327 4 135 [vR 78, vU, vU] [vI y0] (SH T, c) = some (some (vI y0), (SH T, c1)) := by
  refine (ev_eq _ _ _ _ _ _).trans ?_
  refine (if_pos h1).trans ?_
  refine (ev_eq _ _ _ _ _ _).trans ?_
  refine (el_call rfl h2).trans ?_
  rfl
theorem B_X12_readHead_135_2 {T : List Shp} {c : Nat → Int → Int} {y0 : Int} {c1 : Nat → Int → Int} (h1 : ¬ y0 = (-1)) (h2 : cal 223 [vR 78, vI 1] (SH T, c) = some (none, (SH T, c1))) : ev 327 4 135 [vR 78, vU, vU] [vI y0] (SH T, c) = some (some (vI y0), (SH T, c1)) := by
  refine (ev_eq _ _ _ _ _ _).trans ?_
  refine (if_neg h1).trans ?_
  refine (el_call rfl h2).trans ?_
  rfl
theorem E_X12_readOrder_1 {T : List Shp} {c : Nat → Int → Int} {r1 : Int} {c2 : Nat → Int → Int} (h1 : cal 327 [vR 78] (SH T, c) = some (some (vI r1), (SH T, c2))) (h2 : (c2 77 15) = 0) (h3 : 0 ≤ (w32 (10 * (c2 77 17))) ∧ (w32 (10 * (c2 77 17))) < 120) (h4 : r1 = 2) : cal 328 [vR 78] (SH T, c) = ev 328 9 48 [vR 78, vI r1, vI (w32 (10 * (c2 77 17)))] [] (SH T, (up (up c2 77 17 (w32 ((c2 77 17) + 1))) 107 (w32 (10 * (c2 77 17))) r1)) := by
  refine (ev_eq _ _ _ _ _ _).trans ?_
  refine (el_call rfl h1).trans ?_
  refine (if_pos h2).trans ?_
  refine (ev_eq _ _ _ _ _ _).trans ?_
  refine (if_pos h3).trans ?_
  refine (if_pos h4).trans ?_
  rfl
theorem E_X12_readOrder_2 {T : List Shp} {c : Nat → Int → Int} {r1 : Int} {c2 : Nat → Int → Int} (h1 : cal 327 [vR 78] (SH T, c) = some (some (vI r1), (SH T, c2))) (h2 : (c2 77 15) = 0) (h3 : 0 ≤ (w32 (10 * (c2 77 17))) ∧ (w32 (10 * (c2 77 17))) < 120) (h4 : ¬ r1 = 2) (h5 : r1 = 5) : cal 328 [vR 78] (SH T, c) = ev 328 9 48 [vR 78, vI r1, vI (w32 (10 * (c2 77 17)))] [] (SH T, (up (up c2 77 17 (w32 ((c2 77 17) + 1))) 107 (w32 (10 * (c2 77 17))) r1)) := by
  refine (ev_eq _ _ _ _ _ _).trans ?_
  refine (el_call rfl h1).trans ?_
  refine (if_pos h2).trans ?_
  refine (ev_eq _ _ _ _ _ _).trans ?_
  refine (if_pos h3).trans ?_
  refine (if_neg h4).trans ?_
  refine (if_pos h5).trans ?_
  rfl
theorem E_X12_readOrder_3 {T : List Shp} {c : Nat → Int → Int} {r1 : Int} {c2 : Nat → Int → Int} (h1 : cal 327 [vR 78] (SH T, c) = some (some (vI r1), (SH T, c2))) (h2 : (c2 77 15) = 0) (h3 : 0 ≤ (w32 (10 * (c2 77 17))) ∧ (w32 (10 * (c2 77 17))) < 120) (h4 : ¬ r1 = 2) (h5 : ¬ r1 = 5) : cal 328 [vR 78] (SH T, c) = ev 328 9 55 [vR 78, vI r1, vI (w32 (10 * (c2 77 17)))] [] (SH T, (up (up c2 77 17 (w32 ((c2 77 17) + 1))) 107 (w32 (10 * (c2 77 17))) r1)) := by
  refine (ev_eq _ _ _ _ _ _).trans ?_
  refine (el_call rfl h1).trans ?_
  refine (if_pos h2).trans ?_
  refine (ev_eq _ _ _ _ _ _).trans ?_
  refine (if_pos h3).trans ?_
  refine (if_neg h4).trans ?_
  refine (if_neg h5).trans ?_
  rfl
theorem E_X12_readOrder_4 {T : List Shp} {c : Nat → Int → Int} {r1 : Int} {c2 : Nat → Int → Int} (h1 : cal 327 [vR 78] (SH T, c) = some (some (vI r1), (SH T, c2))) (h2 : ¬ (c2 77 15) = 0) : cal 328 [vR 78] (SH T, c) = some (none, (SH T, c2)) := by
  refine (ev_eq _ _ _ _ _ _).trans ?_
  refine (el_call rfl h1).trans ?_
  refine (if_neg h2).trans ?_
  rfl
theorem B_X12_readOrder_48 {T : List Shp} {c : Nat → Int → Int} {x1 x2 : Int} {c1 : Nat → Int → Int} (h1 : cal 326 [vR 78, vI (w32 (x2 + 1))] (SH T, c) = some (none, (SH T, c1))) : ev 328 9 48 [vR 78, vI x1, vI x2] [] (SH T, c) = ev 328 9 55 [vR 78, vI x1, vI x2] [] (SH T, c1) := by
  refine (ev_eq _ _ _ _ _ _).trans ?_
  refine (el_call rfl h1).trans ?_
  rfl
theorem B_X12_readOrder_55_1 {T : List Shp} {c : Nat → Int → Int} {x1 x2 : Int} {r1 : Int} {c2 : Nat → Int → Int} {c3 : Nat → Int → Int} {c4 : Nat → Int → Int} (h1 : x1 = 5) (h2 : (c 77 15) = 0) (h3 : cal 221 [vR 78, vL 52] (SH T, c) = some (some (vI r1), (SH T, c2))) (h4 : cal 223 [vR 78, vI r1] (SH T, c2) = some (none, (SH T, c3))) (h5 : cal 326 [vR 78, vI (w32 (x2 + 3))] (SH T, c3) = some (none, (SH T, c4))) : ev 328 9 55 [vR 78, vI x1, vI x2] [] (SH T, c) = ev 328 9 85 [vR 78, vI x1, vI x2] [] (SH T, c4) := by
  refine (ev_eq _ _ _ _ _ _).trans ?_
  refine (if_pos h1).trans ?_
  refine (if_pos h2).trans ?_
  refine (el_call rfl h3).trans ?_
  refine (el_call rfl h4).trans ?_
  refine (el_call rfl h5).trans ?_
  rfl
theorem B_X12_readOrder_55_2 {T : List Shp} {c : Nat → Int → Int} {x1 x2 : Int} (h1 : x1 = 5) (h2 : ¬ (c 77 15) = 0) : ev 328 9 55 [vR 78, vI x1, vI x2] [] (SH T, c) = ev 328 9 85 [vR 78, vI x1, vI x2] [] (SH T, c) := by
  refine (ev_eq _ _ _ _ _ _).trans ?_
  refine (if_pos h1).trans ?_
  refine (if_neg h2).trans ?_
  rfl
theorem B_X12_readOrder_55_3 {T : List Shp} {c : Nat → Int → Int} {x1 x2 : Int} (h1 : ¬ x1 = 5) : ev 328 9 55 [vR 78, vI x1, vI x2] [] (SH T, c) = ev 328 9 85 [vR 78, vI x1, vI x2] [] (SH T, c) := by
  refine (ev_eq _ _ _ _ _ _).trans ?_
  refine (if_neg h1).trans ?_
  rfl
theorem B_X12_readOrder_85_1 {T : List Shp} {c : Nat → Int → Int} {x1 x2 : Int} {r1 : Int} {c2 : Nat → Int → Int} {c3 : Nat → Int → Int} {c4 : Nat → Int → Int} (h1 : x1 = 5) (h2 : (c 77 15) = 0) (h3 : cal 221 [vR 78, vL 763528] (SH T, c) = some (some (vI r1), (SH T, c2))) (h4 : cal 223 [vR 78, vI r1] (SH T, c2) = some (none, (SH T, c3))) (h5 : cal 326 [vR 78, vI (w32 (x2 + 5))] (SH T, c3) = some (none, (SH T, c4))) : ev 328 9 85 [vR 78, vI x1, vI x2] [] (SH T, c) = ev 328 9 115 [vR 78, vU, vI x2] [] (SH T, c4) := by
  refine (ev_eq _ _ _ _ _ _).trans ?_
  refine (if_pos h1).trans ?_
  refine (if_pos h2).trans ?_
  refine (el_call rfl h3).trans ?_
  refine (el_call rfl h4).trans ?_
  refine (el_call rfl h5).trans ?_
  rfl
theorem B_X12_readOrder_85_2 {T : List Shp} {c : Nat → Int → Int} {x1 x2 : Int} (h1 : x1 = 5) (h2 : ¬ (c 77 15) = 0) : ev 328 9 85 [vR 78, vI x1, vI x2] [] (SH T, c) = ev 328 9 115 [vR 78, vU, vI x2] [] (SH T, c) := by
  refine (ev_eq _ _ _ _ _ _).trans ?_
  refine (if_pos h1).trans ?_
  refine (if_neg h2).trans ?_
  rfl
theorem B_X12_readOrder_85_3 {T : List Shp} {c : Nat → Int → Int} {x1 x2 : Int} (h1 : ¬ x1 = 5) : ev 328 9 85 [vR 78, vI x1, vI x2] [] (SH T, c) = ev 328 9 115 [vR 78, vU, vI x2] [] (SH T, c) := by
  refine (ev_eq _ _ _ _ _ _).trans ?_
  refine (if_neg h1).trans ?_
  rfl
theorem B_X12_readOrder_115_1 {T : List Shp} {c : Nat → Int → Int} {x2 : Int} {r1 : Int} {c2 : Nat → Int → Int} (h1 : 0 ≤ (w32 (x2 + 9)) ∧ (w32 (x2 + 9)) < 120) (h2 : (c 77 15) = 0) (h3 : cal 221 [vR 78, vL 21279923] (SH T, (up c 107 (w32 (x2 + 9)) 1)) = some (some (vI r1), (SH T, c2))) (h4 : r1 = 0) : ev 328 9 115 [vR 78, vU, vI x2] [] (SH T, c) = ev 328 9 163 [vR 78, vU, vI x2] [] (SH T, c2) := by
  refine (ev_eq _ _ _ _ _ _).trans ?_
  refine (if_pos h1).trans ?_
  refine (if_pos h2).trans ?_
  refine (el_call rfl h3).trans ?_
  refine (if_pos h4).trans ?_
  rfl
theorem B_X12_readOrder_115_2 {T : List Shp} {c : Nat → Int → Int} {x2 : Int} {r1 : Int} {c2 : Nat → Int → Int} {c3 : Nat → Int → Int} {r4 : Int} {c5 : Nat → Int → Int} (h1 : 0 ≤ (w32 (x2 + 9)) ∧ (w32 (x2 + 9)) < 120) (h2 : (c 77 15) = 0) (h3 : cal 221 [vR 78, vL 21279923] (SH T, (up c 107 (w32 (x2 + 9)) 1)) = some (some (vI r1), (SH T, c2))) (h4 : ¬ r1 = 0) (h5 : cal 220 [vR 78] (SH T, c2) = some (none, (SH T, c3))) (h6 : cal 224 [vR 78, vL 1, vL 20] (SH T, c3) = some (some (vI r4), (SH T, c5))) (h7 : 0 ≤ (w32 (x2 + 9)) ∧ (w32 (x2 + 9)) < 120) : ev 328 9 115 [vR 78, vU, vI x2] [] (SH T, c) = ev 328 9 163 [vR 78, vU, vI x2] [] (SH T, (up c5 107 (w32 (x2 + 9)) r4)) := by
  refine (ev_eq _ _ _ _ _ _).trans ?_
  refine (if_pos h1).trans ?_
  refine (if_pos h2).trans ?_
  refine (el_call rfl h3).trans ?_
  refine (if_neg h4).trans ?_
  refine (el_call rfl h5).trans ?_
  refine (el_call rfl h6).trans ?_
  refine (if_pos h7).trans ?_
  rfl
theorem B_X12_readOrder_115_3 {T : List Shp} {c : Nat → Int → Int} {x2 : Int} (h1 : 0 ≤ (w32 (x2 + 9)) ∧ (w32 (x2 + 9)) < 120) (h2 : ¬ (c 77 15) = 0) : ev 328 9 115 [vR 78, vU, vI x2] [] (SH T, c) = ev 328 9 163 [vR 78, vU, vI x2] [] (SH T, (up c 107 (w32 (x2 + 9)) 1)) := by
  refine (ev_eq _ _ _ _ _ _).trans ?_
  refine (if_pos h1).trans ?_
  refine (if_neg h2).trans ?_
  rfl
theorem B_X12_readOrder_163_1 {T : List Shp} {c : Nat → Int → Int} {x2 : Int} {r1 : Int} {c2 : Nat → Int → Int} (h1 : 0 ≤ (w32 (x2 + 7)) ∧ (w32 (x2 + 7)) < 120) (h2 : (c 77 15) = 0) (h3 : cal 221 [vR 78, vL 294] (SH T, (up c 107 (w32 (x2 + 7)) (c 77 19))) = some (some (vI r1), (SH T, c2))) (h4 : r1 = 0) : ev 328 9 163 [vR 78, vU, vI x2] [] (SH T, c) = ev 328 9 202 [vR 78, vU, vI x2] [] (SH T, c2) := by
  refine (ev_eq _ _ _ _ _ _).trans ?_
  refine (if_pos h1).trans ?_
  refine (if_pos h2).trans ?_
  refine (el_call rfl h3).trans ?_
  refine (if_pos h4).trans ?_
  rfl
theorem B_X12_readOrder_163_2 {T : List Shp} {c : Nat → Int → Int} {x2 : Int} {r1 : Int} {c2 : Nat → Int → Int} {c3 : Nat → Int → Int} {c4 : Nat → Int → Int} (h1 : 0 ≤ (w32 (x2 + 7)) ∧ (w32 (x2 + 7)) < 120) (h2 : (c 77 15) = 0) (h3 : cal 221 [vR 78, vL 294] (SH T, (up c 107 (w32 (x2 + 7)) (c 77 19))) = some (some (vI r1), (SH T, c2))) (h4 : ¬ r1 = 0) (h5 : cal 220 [vR 78] (SH T, c2) = some (none, (SH T, c3))) (h6 : cal 240 [vR 78, vI 1] (SH T, c3) = some (none, (SH T, c4))) : ev 328 9 163 [vR 78, vU, vI x2] [] (SH T, c) = ev 328 9 202 [vR 78, vU, vI x2] [] (SH T, c4) := by
  refine (ev_eq _ _ _ _ _ _).trans ?_
  refine (if_pos h1).trans ?_
  refine (if_pos h2).trans ?_
  refine (el_call rfl h3).trans ?_
  refine (if_neg h4).trans ?_
  refine (el_call rfl h5).trans ?_
  refine (el_call rfl h6).trans ?_
  rfl
theorem B_X12_readOrder_163_3 {T : List Shp} {c : Nat → Int → Int} {x2 : Int} (h1 : 0 ≤ (w32 (x2 + 7)) ∧ (w32 (x2 + 7)) < 120) (h2 : ¬ (c 77 15) = 0) : ev 328 9 163 [vR 78, vU, vI x2] [] (SH T, c) = ev 328 9 202 [vR 78, vU, vI x2] [] (SH T, (up c 107 (w32 (x2 + 7)) (c 77 19))) := by
  refine (ev_eq _ _ _ _ _ _).trans ?_
  refine (if_pos h1).trans ?_
  refine (if_neg h2).trans ?_
  rfl
theorem B_X12_readOrder_202 {T : List Shp} {c : Nat → Int → Int} {x2 : Int} (h1 : 0 ≤ (w32 (x2 + 8)) ∧ (w32 (x2 + 8)) < 120) : ev 328 9 202 [vR 78, vU, vI x2] [] (SH T, c) = some (none, (SH T, (up c 107 (w32 (x2 + 8)) (c 77 19)))) := by
  refine (ev_eq _ _ _ _ _ _).trans ?_
  refine (if_pos h1).trans ?_
  rfl
theorem E_X12_setNow {T : List Shp} {c : Nat → Int → Int} {r1 : Int} {c2 : Nat → Int → Int} {r3 : Int} {c4 : Nat → Int → Int} {r5 : Int} {c6 : Nat → Int → Int} {r7 : Int} {c8 : Nat → Int → Int} {r9 : Int} {c10 : Nat → Int → Int} {r11 : Int} {c12 : Nat → Int → Int} {r13 : Int} {c14 : Nat → Int → Int} (h1 : cal 197 [vR 78] (SH T, c) = some (some (vI r1), (SH T, c2))) (h2 : cal 197 [vR 78] (SH T, (up c2 93 1 r1)) = some (some (vI r3), (SH T, c4))) (h3 : cal 264 [vR 78, vI r3] (SH T, c4) = some (some (vI r5), (SH T, c6))) (h4 : cal 197 [vR 78] (SH T, (up c6 93 2 r5)) = some (some (vI r7), (SH T, c8))) (h5 : cal 274 [vR 78, vI r7] (SH T, c8) = some (some (vI r9), (SH T, c10))) (h6 : cal 197 [vR 78] (SH T, (up (up c10 93 3 r9) 93 4 (c10 79 5))) = some (some (vI r11), (SH T, c12))) (h7 : cal 251 [vR 78, vI r11] (SH T, c12) = some (some (vI r13), (SH T, c14))) : cal 329 [vR 78] (SH T, c) = some (none, (SH T, (up (up c14 93 5 r13) 93 6 (c14 77 55)))) := by
  refine (ev_eq _ _ _ _ _ _).trans ?_
  refine (el_call rfl h1).trans ?_
  refine (el_call rfl h2).trans ?_
  refine (el_call rfl h3).trans ?_
  refine (el_call rfl h4).trans ?_
  refine (el_call rfl h5).trans ?_
  refine (el_call rfl h6).trans ?_
  refine (el_call rfl h7).trans ?_
  rfl
theorem E_X12_sumOf {T : List Shp} {c : Nat → Int → Int} {x1 : Int} {c1 : Nat → Int → Int} (h1 : 0 ≤ x1 ∧ x1 < 120) (h2 : 0 ≤ (w32 (x1 + 1)) ∧ (w32 (x1 + 1)) < 120) (h3 : cal 247 [vR 78, vI (c 107 x1), vI (c 107 (w32 (x1 + 1)))] (SH T, (up c 77 16 1)) = some (none, (SH T, c1))) : cal 330 [vR 78, vI x1] (SH T, c) = some (some (vL (c1 77 35)), (SH T, (up c1 77 16 0))) := by
  refine (ev_eq _ _ _ _ _ _).trans ?_
  refine (if_pos h1).trans ?_
  refine (if_pos h2).trans ?_
  refine (el_call rfl h3).trans ?_
  rfl
theorem E_X12_run_1 {T : List Shp} {c : Nat → Int → Int} {x1 : Int} {c1 : Nat → Int → Int} {r2 : Int} {c3 : Nat → Int → Int} (h1 : cal 329 [vR 78] (SH T, c) = some (none, (SH T, c1))) (h2 : 0 ≤ (w32 (x1 + 7)) ∧ (w32 (x1 + 7)) < 120) (h3 : 0 ≤ (w32 (x1 + 8)) ∧ (w32 (x1 + 8)) < 120) (h4 : (c1 107 (w32 (x1 + 7))) < (c1 107 (w32 (x1 + 8)))) (h5 : cal 330 [vR 78, vI (w32 (x1 + 7))] (SH T, c1) = some (some (vL r2), (SH T, c3))) (h6 : (c3 77 34) = 0) (h7 : r2 < 0) : cal 331 [vR 78, vI x1] (SH T, c) = ev 331 11 49 [vR 78, vI x1, vU, vU] [] (SH T, c3) := by
  refine (ev_eq _ _ _ _ _ _).trans ?_
  refine (el_call rfl h1).trans ?_
  refine (if_pos h2).trans ?_
  refine (if_pos h3).trans ?_
  refine (if_pos h4).trans ?_
  refine (el_call rfl h5).trans ?_
  refine (if_pos h6).trans ?_
  refine (if_pos h7).trans ?_
  rfl
theorem E_X12_run_2 {T : List Shp} {c : Nat → Int → Int} {x1 : Int} {c1 : Nat → Int → Int} {r2 : Int} {c3 : Nat → Int → Int} (h1 : cal 329 [vR 78] (SH T, c) = some (none, (SH T, c1))) (h2 : 0 ≤ (w32 (x1 + 7)) ∧ (w32 (x1 + 7)) < 120) (h3 : 0 ≤ (w32 (x1 + 8)) ∧ (w32 (x1 + 8)) < 120) (h4 : (c1 107 (w32 (x1 + 7))) < (c1 107 (w32 (x1 + 8)))) (h5 : cal 330 [vR 78, vI (w32 (x1 + 7))] (SH T, c1) = some (some (vL r2), (SH T, c3))) (h6 : (c3 77 34) = 0) (h7 : r2 = 0) : cal 331 [vR 78, vI x1] (SH T, c) = some (some (vI 0), (SH T, c3)) := by
  refine (ev_eq _ _ _ _ _ _).trans ?_
  refine (el_call rfl h1).trans ?_
  refine (if_pos h2).trans ?_
  refine (if_pos h3).trans ?_
  refine (if_pos h4).trans ?_
  refine (el_call rfl h5).trans ?_
  refine (if_pos h6).trans ?_
  refine (if_neg (by omega)).trans ?_
  refine (if_pos h7).trans ?_
  refine (ev_eq _ _ _ _ _ _).trans ?_
  rfl
theorem E_X12_run_3 {T : List Shp} {c : Nat → Int → Int} {x1 : Int} {c1 : Nat → Int → Int} {r2 : Int} {c3 : Nat → Int → Int} (h1 : cal 329 [vR 78] (SH T, c) = some (none, (SH T, c1))) (h2 : 0 ≤ (w32 (x1 + 7)) ∧ (w32 (x1 + 7)) < 120) (h3 : 0 ≤ (w32 (x1 + 8)) ∧ (w32 (x1 + 8)) < 120) (h4 : (c1 107 (w32 (x1 + 7))) < (c1 107 (w32 (x1 + 8)))) (h5 : cal 330 [vR 78, vI (w32 (x1 + 7))] (SH T, c1) = some (some (vL r2), (SH T, c3))) (h6 : (c3 77 34) = 0) (h7 : ¬ r2 < 0 ∧ ¬ r2 = 0) : cal 331 [vR 78, vI x1] (SH T, c) = ev 331 11 49 [vR 78, vI x1, vU, vU] [] (SH T, c3) := by
  refine (ev_eq _ _ _ _ _ _).trans ?_
  refine (el_call rfl h1).trans ?_
  refine (if_pos h2).trans ?_
  refine (if_pos h3).trans ?_
  refine (if_pos h4).trans ?_
  refine (el_call rfl h5).trans ?_
  refine (if_pos h6).trans ?_
  refine (if_neg h7.1).trans ?_
  refine (if_neg h7.2).trans ?_
  rfl
theorem E_X12_run_4 {T : List Shp} {c : Nat → Int → Int} {x1 : Int} {c1 : Nat → Int → Int} {r2 : Int} {c3 : Nat → Int → Int} (h1 : cal 329 [vR 78] (SH T, c) = some (none, (SH T, c1))) (h2 : 0 ≤ (w32 (x1 + 7)) ∧ (w32 (x1 + 7)) < 120) (h3 : 0 ≤ (w32 (x1 + 8)) ∧ (w32 (x1 + 8)) < 120) (h4 : (c1 107 (w32 (x1 + 7))) < (c1 107 (w32 (x1 + 8)))) (h5 : cal 330 [vR 78, vI (w32 (x1 + 7))] (SH T, c1) = some (some (vL r2), (SH T, c3))) (h6 : ¬ (c3 77 34) = 0) : cal 331 [vR 78, vI x1] (SH T, c) = some (some (vI 0), (SH T, c3)) := by
  refine (ev_eq _ _ _ _ _ _).trans ?_
  refine (el_call rfl h1).trans ?_
  refine (if_pos h2).trans ?_
  refine (if_pos h3).trans ?_
  refine (if_pos h4).trans ?_
  refine (el_call rfl h5).trans ?_
  refine (if_neg h6).trans ?_
  refine (ev_eq _ _ _ _ _ _).trans ?_
  rfl
theorem E_X12_run_5 {T : List Shp} {c : Nat → Int → Int} {x1 : Int} {c1 : Nat → Int → Int} (h1 : cal 329 [vR 78] (SH T, c) = some (none, (SH T, c1))) (h2 : 0 ≤ (w32 (x1 + 7)) ∧ (w32 (x1 + 7)) < 120) (h3 : 0 ≤ (w32 (x1 + 8)) ∧ (w32 (x1 + 8)) < 120) (h4 : ¬ (c1 107 (w32 (x1 + 7))) < (c1 107 (w32 (x1 + 8)))) : cal 331 [vR 78, vI x1] (SH T, c) = ev 331 11 49 [vR 78, vI x1, vU, vU] [] (SH T, c1) := by
  refine (ev_eq _ _ _ _ _ _).trans ?_
  refine (el_call rfl h1).trans ?_
  refine (if_pos h2).trans ?_
  refine (if_pos h3).trans ?_
  refine (if_neg h4).trans ?_
  rfl
theorem B_X12_run_49_1 {T : List Shp} {c : Nat → Int → Int} {x1 : Int} {r1 : Int} {c2 : Nat → Int → Int} (h1 : 0 ≤ x1 ∧ x1 < 120) (h2 : cal 332 [vR 78, vI x1, vI (c 107 x1)] (SH T, c) = some (some (vI r1), (SH T, c2))) (h3 : r1 < 0) : ev 331 11 49 [vR 78, vI x1, vU, vU] [] (SH T, c) = ev 331 11 75 [vU, vU, vI r1, vU] [vI 0, vI (c2 77 55), vR 78] (SH T, c2) := by
  refine (ev_eq _ _ _ _ _ _).trans ?_
  refine (if_pos h1).trans ?_
  refine (el_call rfl h2).trans ?_
  refine (if_pos h3).trans ?_
  rfl
theorem B_X12_run_49_2 {T : List Shp} {c : Nat → Int → Int} {x1 : Int} {r1 : Int} {c2 : Nat → Int → Int} (h1 : 0 ≤ x1 ∧ x1 < 120) (h2 : cal 332 [vR 78, vI x1, vI (c 107 x1)] (SH T, c) = some (some (vI r1), (SH T, c2))) (h3 : ¬ r1 < 0) : ev 331 11 49 [vR 78, vI x1, vU, vU] [] (SH T, c) = ev 331 11 75 [vU, vU, vI r1, vU] [vI 1, vI (c2 77 55), vR 78] (SH T, c2) := by
  refine (ev_eq _ _ _ _ _ _).trans ?_
  refine (if_pos h1).trans ?_
  refine (el_call rfl h2).trans ?_
  refine (if_neg h3).trans ?_
  refine (ev_eq _ _ _ _ _ _).trans ?_
  rfl
theorem B_X12_run_75_1 {T : List Shp} {c : Nat → Int → Int} {x2 y0 y1 : Int} (h1 : x2 < 0) : ev 331 11 75 [vU, vU, vI x2, vU] [vI y0, vI y1, vR 78] (SH T, c) = some (some (vI x2), (SH T, (up c 77 55 (w32 (y1 + y0))))) := by
  refine (ev_eq _ _ _ _ _ _).trans ?_
  refine (if_pos h1).trans ?_
  rfl
theorem B_X12_run_75_2 {T : List Shp} {c : Nat → Int → Int} {x2 y0 y1 : Int} (h1 : ¬ x2 < 0) : ev 331 11 75 [vU, vU, vI x2, vU] [vI y0, vI y1, vR 78] (SH T, c) = some (some (vI 0), (SH T, (up c 77 55 (w32 (y1 + y0))))) := by
  refine (ev_eq _ _ _ _ _ _).trans ?_
  refine (if_neg h1).trans ?_
  refine (ev_eq _ _ _ _ _ _).trans ?_
  rfl
theorem E_X12_act_1 {T : List Shp} {c : Nat → Int → Int} {x1 x2 : Int} {r1 : Int} {c2 : Nat → Int → Int} {r3 : Int} {c4 : Nat → Int → Int} (h1 : x2 = 2) (h2 : cal 330 [vR 78, vI (w32 (x1 + 1))] (SH T, c) = some (some (vL r1), (SH T, c2))) (h3 : (c2 77 34) = 0) (h4 : cal 186 [vL r1, vL 0, vL (w64 ((c2 79 0) - 1))] (SH T, c2) = some (some (vI r3), (SH T, c4))) (h5 : r3 = 0) : cal 332 [vR 78, vI x1, vI x2] (SH T, c) = some (some (vI (-3)), (SH T, c4)) := by
  refine (ev_eq _ _ _ _ _ _).trans ?_
  refine (if_pos h1).trans ?_
  refine (ev_eq _ _ _ _ _ _).trans ?_
  refine (el_call rfl h2).trans ?_
  refine (if_pos h3).trans ?_
  refine (el_call rfl h4).trans ?_
  refine (if_pos h5).trans ?_
  refine (ev_eq _ _ _ _ _ _).trans ?_
  rfl
theorem E_X12_act_2 {T : List Shp} {c : Nat → Int → Int} {x1 x2 : Int} {r1 : Int} {c2 : Nat → Int → Int} {r3 : Int} {c4 : Nat → Int → Int} {r5 : Int} {c6 : Nat → Int → Int} (h1 : x2 = 2) (h2 : cal 330 [vR 78, vI (w32 (x1 + 1))] (SH T, c) = some (some (vL r1), (SH T, c2))) (h3 : (c2 77 34) = 0) (h4 : cal 186 [vL r1, vL 0, vL (w64 ((c2 79 0) - 1))] (SH T, c2) = some (some (vI r3), (SH T, c4))) (h5 : ¬ r3 = 0) (h6 : cal 266 [vR 78, vI (w32 r1)] (SH T, c4) = some (some (vI r5), (SH T, c6))) : cal 332 [vR 78, vI x1, vI x2] (SH T, c) = some (some (vI r5), (SH T, c6)) := by
  refine (ev_eq _ _ _ _ _ _).trans ?_
  refine (if_pos h1).trans ?_
  refine (ev_eq _ _ _ _ _ _).trans ?_
  refine (el_call rfl h2).trans ?_
  refine (if_pos h3).trans ?_
  refine (el_call rfl h4).trans ?_
  refine (if_neg h5).trans ?_
  refine (ev_eq _ _ _ _ _ _).trans ?_
  refine (el_call rfl h6).trans ?_
  rfl
theorem E_X12_act_3 {T : List Shp} {c : Nat → Int → Int} {x1 x2 : Int} {r1 : Int} {c2 : Nat → Int → Int} (h1 : x2 = 2) (h2 : cal 330 [vR 78, vI (w32 (x1 + 1))] (SH T, c) = some (some (vL r1), (SH T, c2))) (h3 : ¬ (c2 77 34) = 0) : cal 332 [vR 78, vI x1, vI x2] (SH T, c) = some (some (vI (-3)), (SH T, c2)) := by
  refine (ev_eq _ _ _ _ _ _).trans ?_
  refine (if_pos h1).trans ?_
  refine (ev_eq _ _ _ _ _ _).trans ?_
  refine (el_call rfl h2).trans ?_
  refine (if_neg h3).trans ?_
  refine (ev_eq _ _ _ _ _ _).trans ?_
  rfl
theorem E_X12_act_4 {T : List Shp} {c : Nat → Int → Int} {x1 x2 : Int} {r1 : Int} {c2 : Nat → Int → Int} (h1 : x2 = 3) (h2 : cal 197 [vR 78] (SH T, c) = some (some (vI r1), (SH T, c2))) (h3 : r1 = 0) : cal 332 [vR 78, vI x1, vI x2] (SH T, c) = some (some (vI (-3)), (SH T, c2)) := by
  refine (ev_eq _ _ _ _ _ _).trans ?_
  refine (if_neg (by omega)).trans ?_
  refine (if_pos h1).trans ?_
  refine (ev_eq _ _ _ _ _ _).trans ?_
  refine (el_call rfl h2).trans ?_
  refine (if_pos h3).trans ?_
  rfl
theorem E_X12_act_5 {T : List Shp} {c : Nat → Int → Int} {x1 x2 : Int} {r1 : Int} {c2 : Nat → Int → Int} (h1 : x2 = 3) (h2 : cal 197 [vR 78] (SH T, c) = some (some (vI r1), (SH T, c2))) (h3 : ¬ r1 = 0) : cal 332 [vR 78, vI x1, vI x2] (SH T, c) = some (some (vI 0), (SH T, (up c2 79 4 (w32 ((c2 79 4) - 1))))) := by
  refine (ev_eq _ _ _ _ _ _).trans ?_
  refine (if_neg (by omega)).trans ?_
  refine (if_pos h1).trans ?_
  refine (ev_eq _ _ _ _ _ _).trans ?_
  refine (el_call rfl h2).trans ?_
  refine (if_neg h3).trans ?_
  refine (ev_eq _ _ _ _ _ _).trans ?_
  rfl
theorem E_X12_act_6 {T : List Shp} {c : Nat → Int → Int} {x1 x2 : Int} {r1 : Int} {c2 : Nat → Int → Int} (h1 : x2 = 4) (h2 : cal 285 [vR 78] (SH T, c) = some (some (vI r1), (SH T, c2))) : cal 332 [vR 78, vI x1, vI x2] (SH T, c) = some (some (vI r1), (SH T, c2)) := by
  refine (ev_eq _ _ _ _ _ _).trans ?_
  refine (if_neg (by omega)).trans ?_
  refine (if_neg (by omega)).trans ?_
  refine (if_pos h1).trans ?_
  refine (ev_eq _ _ _ _ _ _).trans ?_
  refine (el_call rfl h2).trans ?_
  rfl
theorem E_X12_act_7 {T : List Shp} {c : Nat → Int → Int} {x1 x2 : Int} {r1 : Int} {c2 : Nat → Int → Int} (h1 : x2 = 5) (h2 : cal 333 [vR 78, vI x1] (SH T, c) = some (some (vI r1), (SH T, c2))) : cal 332 [vR 78, vI x1, vI x2] (SH T, c) = some (some (vI r1), (SH T, c2)) := by
  refine (ev_eq _ _ _ _ _ _).trans ?_
  refine (if_neg (by omega)).trans ?_
  refine (if_neg (by omega)).trans ?_
  refine (if_neg (by omega)).trans ?_
  refine (if_pos h1).trans ?_
  refine (ev_eq _ _ _ _ _ _).trans ?_
  refine (el_call rfl h2).trans ?_
  rfl
theorem E_X12_act_8 {T : List Shp} {c : Nat → Int → Int} {x1 x2 : Int} {c1 : Nat → Int → Int} (h1 : ¬ x2 = 2 ∧ ¬ x2 = 3 ∧ ¬ x2 = 4 ∧ ¬ x2 = 5) (h2 : cal 278 [vR 78, vI x2, vI 1] (SH T, c) = some (none, (SH T, c1))) (h3 : (c1 77 46) = 0) : cal 332 [vR 78, vI x1, vI x2] (SH T, c) = some (some (vI (-3)), (SH T, c1)) := by
  refine (ev_eq _ _ _ _ _ _).trans ?_
  refine (if_neg (h1.1)).trans ?_
  refine (if_neg (h1.2.1)).trans ?_
  refine (if_neg (h1.2.2.1)).trans ?_
  refine (if_neg (h1.2.2.2)).trans ?_
  refine (ev_eq _ _ _ _ _ _).trans ?_
  refine (el_call rfl h2).trans ?_
  refine (if_pos h3).trans ?_
  rfl
theorem E_X12_act_9 {T : List Shp} {c : Nat → Int → Int} {x1 x2 : Int} {c1 : Nat → Int → Int} {r2 : Int} {c3 : Nat → Int → Int} (h1 : ¬ x2 = 2 ∧ ¬ x2 = 3 ∧ ¬ x2 = 4 ∧ ¬ x2 = 5) (h2 : cal 278 [vR 78, vI x2, vI 1] (SH T, c) = some (none, (SH T, c1))) (h3 : ¬ (c1 77 46) = 0) (h4 : cal 266 [vR 78, vI (c1 98 0)] (SH T, c1) = some (some (vI r2), (SH T, c3))) : cal 332 [vR 78, vI x1, vI x2] (SH T, c) = some (some (vI r2), (SH T, c3)) := by
  refine (ev_eq _ _ _ _ _ _).trans ?_
  refine (if_neg (h1.1)).trans ?_
  refine (if_neg (h1.2.1)).trans ?_
  refine (if_neg (h1.2.2.1)).trans ?_
  refine (if_neg (h1.2.2.2)).trans ?_
  refine (ev_eq _ _ _ _ _ _).trans ?_
  refine (el_call rfl h2).trans ?_
  refine (if_neg h3).trans ?_
  refine (ev_eq _ _ _ _ _ _).trans ?_
  refine (el_call rfl h4).trans ?_
  rfl
theorem E_X12_touchNow_1 {T : List Shp} {c : Nat → Int → Int} {x1 : Int} {r1 : Int} {c2 : Nat → Int → Int} (h1 : cal 330 [vR 78, vI (w32 (x1 + 1))] (SH T, c) = some (some (vL r1), (SH T, c2))) (h2 : (c2 77 34) = 0) : cal 333 [vR 78, vI x1] (SH T, c) = ev 333 5 20 [vR 78, vI x1, vL r1, vU, vU, vU, vU, vU, vU] [vI 1] (SH T, c2) := by
  refine (ev_eq _ _ _ _ _ _).trans ?_
  refine (el_call rfl h1).trans ?_
  refine (if_pos h2).trans ?_
  rfl
theorem E_X12_touchNow_2 {T : List Shp} {c : Nat → Int → Int} {x1 : Int} {r1 : Int} {c2 : Nat → Int → Int} (h1 : cal 330 [vR 78, vI (w32 (x1 + 1))] (SH T, c) = some (some (vL r1), (SH T, c2))) (h2 : ¬ (c2 77 34) = 0) : cal 333 [vR 78, vI x1] (SH T, c) = ev 333 5 20 [vR 78, vI x1, vL r1, vU, vU, vU, vU, vU, vU] [vI 0] (SH T, c2) := by
  refine (ev_eq _ _ _ _ _ _).trans ?_
  refine (el_call rfl h1).trans ?_
  refine (if_neg h2).trans ?_
  refine (ev_eq _ _ _ _ _ _).trans ?_
  rfl
theorem B_X12_touchNow_20_1 {T : List Shp} {c : Nat → Int → Int} {x1 x2 y0 : Int} (h1 : y0 = 0) : ev 333 5 20 [vR 78, vI x1, vL x2, vU, vU, vU, vU, vU, vU] [vI y0] (SH T, c) = ev 333 5 38 [vR 78, vI x1, vL x2, vU, vI y0, vU, vU, vU, vU] [vL 0] (SH T, c) := by
  refine (ev_eq _ _ _ _ _ _).trans ?_
  refine (if_pos h1).trans ?_
  refine (ev_eq _ _ _ _ _ _).trans ?_
  rfl
theorem B_X12_touchNow_20_2 {T : List Shp} {c : Nat → Int → Int} {x1 x2 y0 : Int} {r1 : Int} {c2 : Nat → Int → Int} (h1 : ¬ y0 = 0) (h2 : cal 330 [vR 78, vI (w32 (x1 + 3))] (SH T, c) = some (some (vL r1), (SH T, c2))) : ev 333 5 20 [vR 78, vI x1, vL x2, vU, vU, vU, vU, vU, vU] [vI y0] (SH T, c) = ev 333 5 38 [vR 78, vI x1, vL x2, vU, vI y0, vU, vU, vU, vU] [vL r1] (SH T, c2) := by
  refine (ev_eq _ _ _ _ _ _).trans ?_
  refine (if_neg h1).trans ?_
  refine (el_call rfl h2).trans ?_
  rfl
theorem B_X12_touchNow_38_1 {T : List Shp} {c : Nat → Int → Int} {x1 x2 x4 y0 : Int} (h1 : x4 = 0) : ev 333 5 38 [vR 78, vI x1, vL x2, vU, vI x4, vU, vU, vU, vU] [vL y0] (SH T, c) = ev 333 5 56 [vR 78, vI x1, vL x2, vU, vU, vL y0, vU, vU, vU] [] (SH T, c) := by
  refine (ev_eq _ _ _ _ _ _).trans ?_
  refine (if_pos h1).trans ?_
  rfl
theorem B_X12_touchNow_38_2 {T : List Shp} {c : Nat → Int → Int} {x1 x2 x4 y0 : Int} (h1 : ¬ x4 = 0) (h2 : (c 77 34) = 0) : ev 333 5 38 [vR 78, vI x1, vL x2, vU, vI x4, vU, vU, vU, vU] [vL y0] (SH T, c) = ev 333 5 57 [vR 78, vI x1, vL x2, vU, vU, vL y0, vU, vU, vU] [vI 1] (SH T, c) := by
  refine (ev_eq _ _ _ _ _ _).trans ?_
  refine (if_neg h1).trans ?_
  refine (if_pos h2).trans ?_
  rfl
theorem B_X12_touchNow_38_3 {T : List Shp} {c : Nat → Int → Int} {x1 x2 x4 y0 : Int} (h1 : ¬ x4 = 0) (h2 : ¬ (c 77 34) = 0) : ev 333 5 38 [vR 78, vI x1, vL x2, vU, vI x4, vU, vU, vU, vU] [vL y0] (SH T, c) = ev 333 5 56 [vR 78, vI x1, vL x2, vU, vU, vL y0, vU, vU, vU] [] (SH T, c) := by
  refine (ev_eq _ _ _ _ _ _).trans ?_
  refine (if_neg h1).trans ?_
  refine (if_neg h2).trans ?_
  rfl
theorem B_X12_touchNow_56 {T : List Shp} {c : Nat → Int → Int} {x1 x2 x5 : Int}  : ev 333 5 56 [vR 78, vI x1, vL x2, vU, vU, vL x5, vU, vU, vU] [] (SH T, c) = ev 333 5 57 [vR 78, vI x1, vL x2, vU, vU, vL x5, vU, vU, vU] [vI 0] (SH T, c) := by
  refine (ev_eq _ _ _ _ _ _).trans ?_
  rfl
theorem B_X12_touchNow_57_1 {T : List Shp} {c : Nat → Int → Int} {x1 x2 x5 y0 : Int} (h1 : y0 = 0) : ev 333 5 57 [vR 78, vI x1, vL x2, vU, vU, vL x5, vU, vU, vU] [vI y0] (SH T, c) = ev 333 5 75 [vR 78, vU, vL x2, vU, vI y0, vL x5, vU, vU, vU] [vL 0] (SH T, c) := by
  refine (ev_eq _ _ _ _ _ _).trans ?_
  refine (if_pos h1).trans ?_
  refine (ev_eq _ _ _ _ _ _).trans ?_
  rfl
theorem B_X12_touchNow_57_2 {T : List Shp} {c : Nat → Int → Int} {x1 x2 x5 y0 : Int} {r1 : Int} {c2 : Nat → Int → Int} (h1 : ¬ y0 = 0) (h2 : cal 330 [vR 78, vI (w32 (x1 + 5))] (SH T, c) = some (some (vL r1), (SH T, c2))) : ev 333 5 57 [vR 78, vI x1, vL x2, vU, vU, vL x5, vU, vU, vU] [vI y0] (SH T, c) = ev 333 5 75 [vR 78, vU, vL x2, vU, vI y0, vL x5, vU, vU, vU] [vL r1] (SH T, c2) := by
  refine (ev_eq _ _ _ _ _ _).trans ?_
  refine (if_neg h1).trans ?_
  refine (el_call rfl h2).trans ?_
  rfl
theorem B_X12_touchNow_75_1 {T : List Shp} {c : Nat → Int → Int} {x2 x4 x5 y0 : Int} (h1 : x4 = 0) : ev 333 5 75 [vR 78, vU, vL x2, vU, vI x4, vL x5, vU, vU, vU] [vL y0] (SH T, c) = ev 333 5 93 [vR 78, vU, vL x2, vU, vU, vL x5, vU, vL y0, vU] [] (SH T, c) := by
  refine (ev_eq _ _ _ _ _ _).trans ?_
  refine (if_pos h1).trans ?_
  rfl
theorem B_X12_touchNow_75_2 {T : List Shp} {c : Nat → Int → Int} {x2 x4 x5 y0 : Int} (h1 : ¬ x4 = 0) (h2 : (c 77 34) = 0) : ev 333 5 75 [vR 78, vU, vL x2, vU, vI x4, vL x5, vU, vU, vU] [vL y0] (SH T, c) = ev 333 5 94 [vR 78, vU, vL x2, vU, vU, vL x5, vU, vL y0, vU] [vI 1] (SH T, c) := by
  refine (ev_eq _ _ _ _ _ _).trans ?_
  refine (if_neg h1).trans ?_
  refine (if_pos h2).trans ?_
  rfl
theorem B_X12_touchNow_75_3 {T : List Shp} {c : Nat → Int → Int} {x2 x4 x5 y0 : Int} (h1 : ¬ x4 = 0) (h2 : ¬ (c 77 34) = 0) : ev 333 5 75 [vR 78, vU, vL x2, vU, vI x4, vL x5, vU, vU, vU] [vL y0] (SH T, c) = ev 333 5 93 [vR 78, vU, vL x2, vU, vU, vL x5, vU, vL y0, vU] [] (SH T, c) := by
  refine (ev_eq _ _ _ _ _ _).trans ?_
  refine (if_neg h1).trans ?_
  refine (if_neg h2).trans ?_
  rfl
theorem B_X12_touchNow_93 {T : List Shp} {c : Nat → Int → Int} {x2 x5 x7 : Int}  : ev 333 5 93 [vR 78, vU, vL x2, vU, vU, vL x5, vU, vL x7, vU] [] (SH T, c) = ev 333 5 94 [vR 78, vU, vL x2, vU, vU, vL x5, vU, vL x7, vU] [vI 0] (SH T, c) := by
  refine (ev_eq _ _ _ _ _ _).trans ?_
  rfl
theorem B_X12_touchNow_94_1 {T : List Shp} {c : Nat → Int → Int} {x2 x5 x7 y0 : Int} (h1 : y0 = 0) : ev 333 5 94 [vR 78, vU, vL x2, vU, vU, vL x5, vU, vL x7, vU] [vI y0] (SH T, c) = some (some (vI (-3)), (SH T, c)) := by
  refine (ev_eq _ _ _ _ _ _).trans ?_
  refine (if_pos h1).trans ?_
  refine (ev_eq _ _ _ _ _ _).trans ?_
  rfl
theorem B_X12_touchNow_94_2 {T : List Shp} {c : Nat → Int → Int} {x2 x5 x7 y0 : Int} {r1 : Int} {c2 : Nat → Int → Int} (h1 : ¬ y0 = 0) (h2 : cal 186 [vL x2, vL 0, vL (w64 ((c 79 5) - 1))] (SH T, c) = some (some (vI r1), (SH T, c2))) (h3 : r1 = 0) : ev 333 5 94 [vR 78, vU, vL x2, vU, vU, vL x5, vU, vL x7, vU] [vI y0] (SH T, c) = some (some (vI (-3)), (SH T, c2)) := by
  refine (ev_eq _ _ _ _ _ _).trans ?_
  refine (if_neg h1).trans ?_
  refine (el_call rfl h2).trans ?_
  refine (if_pos h3).trans ?_
  refine (ev_eq _ _ _ _ _ _).trans ?_
  rfl
theorem B_X12_touchNow_94_3 {T : List Shp} {c : Nat → Int → Int} {x2 x5 x7 y0 : Int} {r1 : Int} {c2 : Nat → Int → Int} {r3 : Int} {c4 : Nat → Int → Int} (h1 : ¬ y0 = 0) (h2 : cal 186 [vL x2, vL 0, vL (w64 ((c 79 5) - 1))] (SH T, c) = some (some (vI r1), (SH T, c2))) (h3 : ¬ r1 = 0) (h4 : cal 186 [vL x5, vL 0, vL 11] (SH T, c2) = some (some (vI r3), (SH T, c4))) (h5 : r3 = 0) : ev 333 5 94 [vR 78, vU, vL x2, vU, vU, vL x5, vU, vL x7, vU] [vI y0] (SH T, c) = some (some (vI (-3)), (SH T, c4)) := by
  refine (ev_eq _ _ _ _ _ _).trans ?_
  refine (if_neg h1).trans ?_
  refine (el_call rfl h2).trans ?_
  refine (if_neg h3).trans ?_
  refine (el_call rfl h4).trans ?_
  refine (if_pos h5).trans ?_
  refine (ev_eq _ _ _ _ _ _).trans ?_
  rfl
theorem B_X12_touchNow_94_4 {T : List Shp} {c : Nat → Int → Int} {x2 x5 x7 y0 : Int} {r1 : Int} {c2 : Nat → Int → Int} {r3 : Int} {c4 : Nat → Int → Int} {r5 : Int} {c6 : Nat → Int → Int} (h1 : ¬ y0 = 0) (h2 : cal 186 [vL x2, vL 0, vL (w64 ((c 79 5) - 1))] (SH T, c) = some (some (vI r1), (SH T, c2))) (h3 : ¬ r1 = 0) (h4 : cal 186 [vL x5, vL 0, vL 11] (SH T, c2) = some (some (vI r3), (SH T, c4))) (h5 : ¬ r3 = 0) (h6 : cal 186 [vL x7, vL 0, vL 9] (SH T, c4) = some (some (vI r5), (SH T, c6))) (h7 : r5 = 0) : ev 333 5 94 [vR 78, vU, vL x2, vU, vU, vL x5, vU, vL x7, vU] [vI y0] (SH T, c) = some (some (vI (-3)), (SH T, c6)) := by
  refine (ev_eq _ _ _ _ _ _).trans ?_
  refine (if_neg h1).trans ?_
  refine (el_call rfl h2).trans ?_
  refine (if_neg h3).trans ?_
  refine (el_call rfl h4).trans ?_
  refine (if_neg h5).trans ?_
  refine (el_call rfl h6).trans ?_
  refine (if_pos h7).trans ?_
  refine (ev_eq _ _ _ _ _ _).trans ?_
  rfl
theorem B_X12_touchNow_94_5 {T : List Shp} {c : Nat → Int → Int} {x2 x5 x7 y0 : Int} {r1 : Int} {c2 : Nat → Int → Int} {r3 : Int} {c4 : Nat → Int → Int} {r5 : Int} {c6 : Nat → Int → Int} (h1 : ¬ y0 = 0) (h2 : cal 186 [vL x2, vL 0, vL (w64 ((c 79 5) - 1))] (SH T, c) = some (some (vI r1), (SH T, c2))) (h3 : ¬ r1 = 0) (h4 : cal 186 [vL x5, vL 0, vL 11] (SH T, c2) = some (some (vI r3), (SH T, c4))) (h5 : ¬ r3 = 0) (h6 : cal 186 [vL x7, vL 0, vL 9] (SH T, c4) = some (some (vI r5), (SH T, c6))) (h7 : ¬ r5 = 0) (h8 : 0 ≤ (w32 ((w32 (276 + (w32 (12 * (w32 x2))))) + (w32 x5))) ∧ (w32 ((w32 (276 + (w32 (12 * (w32 x2))))) + (w32 x5))) < 5780) : ev 333 5 94 [vR 78, vU, vL x2, vU, vU, vL x5, vU, vL x7, vU] [vI y0] (SH T, c) = some (some (vI 0), (SH T, (up c6 79 (w32 ((w32 (276 + (w32 (12 * (w32 x2))))) + (w32 x5))) (w32 x7)))) := by
  refine (ev_eq _ _ _ _ _ _).trans ?_
  refine (if_neg h1).trans ?_
  refine (el_call rfl h2).trans ?_
  refine (if_neg h3).trans ?_
  refine (el_call rfl h4).trans ?_
  refine (if_neg h5).trans ?_
  refine (el_call rfl h6).trans ?_
  refine (if_neg h7).trans ?_
  refine (ev_eq _ _ _ _ _ _).trans ?_
  refine (if_pos h8).trans ?_
  rfl
theorem E_X12_orders {T : List Shp} {c : Nat → Int → Int} {c1 : Nat → Int → Int} {c2 : Nat → Int → Int} (h1 : cal 242 [vR 78, vI 1] (SH T, (up (up c 77 0 0) 77 56 (-1))) = some (none, (SH T, c1))) (h2 : cal 328 [vR 78] (SH T, c1) = some (none, (SH T, c2))) : cal 334 [vR 78] (SH T, c) = ev 334 12 19 [vR 78, vU, vU, vU, vU] [] (SH T, c2) := by
  refine (ev_eq _ _ _ _ _ _).trans ?_
  refine (el_call rfl h1).trans ?_
  refine (el_call rfl h2).trans ?_
  rfl
theorem B_X12_orders_19_1 {T : List Shp} {c : Nat → Int → Int} {r1 : Int} {c2 : Nat → Int → Int} (h1 : (c 77 15) = 0) (h2 : cal 222 [vR 78, vI 59] (SH T, c) = some (some (vI r1), (SH T, c2))) (h3 : r1 = 0) : ev 334 12 19 [vR 78, vU, vU, vU, vU] [] (SH T, c) = ev 334 12 46 [vR 78, vU, vU, vU, vU] [] (SH T, c2) := by
  refine (ev_eq _ _ _ _ _ _).trans ?_
  refine (if_pos h1).trans ?_
  refine (el_call rfl h2).trans ?_
  refine (if_pos h3).trans ?_
  rfl
theorem B_X12_orders_19_2 {T : List Shp} {c : Nat → Int → Int} {r1 : Int} {c2 : Nat → Int → Int} {c3 : Nat → Int → Int} {c4 : Nat → Int → Int} (h1 : (c 77 15) = 0) (h2 : cal 222 [vR 78, vI 59] (SH T, c) = some (some (vI r1), (SH T, c2))) (h3 : ¬ r1 = 0) (h4 : cal 220 [vR 78] (SH T, c2) = some (none, (SH T, c3))) (h5 : cal 328 [vR 78] (SH T, c3) = some (none, (SH T, c4))) : ev 334 12 19 [vR 78, vU, vU, vU, vU] [] (SH T, c) = ev 334 12 19 [vR 78, vU, vU, vU, vU] [] (SH T, c4) := by
  refine (ev_eq _ _ _ _ _ _).trans ?_
  refine (if_pos h1).trans ?_
  refine (el_call rfl h2).trans ?_
  refine (if_neg h3).trans ?_
  refine (el_call rfl h4).trans ?_
  refine (el_call rfl h5).trans ?_
  rfl
theorem B_X12_orders_19_3 {T : List Shp} {c : Nat → Int → Int} (h1 : ¬ (c 77 15) = 0) : ev 334 12 19 [vR 78, vU, vU, vU, vU] [] (SH T, c) = ev 334 12 46 [vR 78, vU, vU, vU, vU] [] (SH T, c) := by
  refine (ev_eq _ _ _ _ _ _).trans ?_
  refine (if_neg h1).trans ?_
  rfl
theorem B_X12_orders_46_1 {T : List Shp} {c : Nat → Int → Int} {c1 : Nat → Int → Int} (h1 : cal 243 [vR 78] (SH T, c) = some (none, (SH T, c1))) (h2 : (c1 77 15) = 0) : ev 334 12 46 [vR 78, vU, vU, vU, vU] [] (SH T, c) = ev 334 12 66 [vR 78, vI 0, vU, vU, vU] [] (SH T, c1) := by
  refine (ev_eq _ _ _ _ _ _).trans ?_
  refine (el_call rfl h1).trans ?_
  refine (if_pos h2).trans ?_
  refine (ev_eq _ _ _ _ _ _).trans ?_
  rfl
theorem B_X12_orders_46_2 {T : List Shp} {c : Nat → Int → Int} {c1 : Nat → Int → Int} {r2 : Int} {c3 : Nat → Int → Int} (h1 : cal 243 [vR 78] (SH T, c) = some (none, (SH T, c1))) (h2 : ¬ (c1 77 15) = 0) (h3 : cal 190 [vR 78, vI (-6)] (SH T, c1) = some (some (vI r2), (SH T, c3))) : ev 334 12 46 [vR 78, vU, vU, vU, vU] [] (SH T, c) = some (some (vI r2), (SH T, c3)) := by
  refine (ev_eq _ _ _ _ _ _).trans ?_
  refine (el_call rfl h1).trans ?_
  refine (if_neg h2).trans ?_
  refine (el_call rfl h3).trans ?_
  rfl
theorem B_X12_orders_66_1 {T : List Shp} {c : Nat → Int → Int} {x1 : Int} (h1 : x1 < 5780) (h2 : 0 ≤ x1 ∧ x1 < 5780) (h3 : 0 ≤ x1 ∧ x1 < 5780) : ev 334 12 66 [vR 78, vI x1, vU, vU, vU] [] (SH T, c) = ev 334 12 66 [vR 78, vI (w32 (x1 + 1)), vU, vU, vU] [] (SH T, (up c 81 x1 (c 79 x1))) := by
  refine (ev_eq _ _ _ _ _ _).trans ?_
  refine (if_pos h1).trans ?_
  refine (if_pos h2).trans ?_
  refine (if_pos h3).trans ?_
  rfl
theorem B_X12_orders_66_2 {T : List Shp} {c : Nat → Int → Int} {x1 : Int} (h1 : ¬ x1 < 5780) : ev 334 12 66 [vR 78, vI x1, vU, vU, vU] [] (SH T, c) = ev 334 12 98 [vR 78, vI 0, vU, vU, vU] [] (SH T, (up c 77 55 0)) := by
  refine (ev_eq _ _ _ _ _ _).trans ?_
  refine (if_neg h1).trans ?_
  refine (ev_eq _ _ _ _ _ _).trans ?_
  rfl
theorem B_X12_orders_98_1 {T : List Shp} {c : Nat → Int → Int} {x1 : Int} (h1 : x1 < (c 77 17)) : ev 334 12 98 [vR 78, vI x1, vU, vU, vU] [] (SH T, c) = ev 334 12 108 [vR 78, vI x1, vI 0, vU, vU] [] (SH T, c) := by
  refine (ev_eq _ _ _ _ _ _).trans ?_
  refine (if_pos h1).trans ?_
  rfl
theorem B_X12_orders_98_2 {T : List Shp} {c : Nat → Int → Int} {x1 : Int} {r1 : Int} {c2 : Nat → Int → Int} (h1 : ¬ x1 < (c 77 17)) (h2 : cal 190 [vR 78, vI (c 77 55)] (SH T, c) = some (some (vI r1), (SH T, c2))) : ev 334 12 98 [vR 78, vI x1, vU, vU, vU] [] (SH T, c) = some (some (vI r1), (SH T, c2)) := by
  refine (ev_eq _ _ _ _ _ _).trans ?_
  refine (if_neg h1).trans ?_
  refine (ev_eq _ _ _ _ _ _).trans ?_
  refine (el_call rfl h2).trans ?_
  rfl
theorem B_X12_orders_108_1 {T : List Shp} {c : Nat → Int → Int} {x1 x2 : Int} {r1 : Int} {c2 : Nat → Int → Int} (h1 : 0 ≤ (w32 ((w32 (10 * x1)) + 9)) ∧ (w32 ((w32 (10 * x1)) + 9)) < 120) (h2 : x2 < (c 107 (w32 ((w32 (10 * x1)) + 9)))) (h3 : cal 331 [vR 78, vI (w32 (10 * x1))] (SH T, c) = some (some (vI r1), (SH T, c2))) (h4 : r1 < 0) : ev 334 12 108 [vR 78, vI x1, vI x2, vU, vU] [] (SH T, c) = ev 334 12 140 [vR 78, vI x1, vU, vI r1, vI 0] [] (SH T, c2) := by
  refine (ev_eq _ _ _ _ _ _).trans ?_
  refine (if_pos h1).trans ?_
  refine (if_pos h2).trans ?_
  refine (el_call rfl h3).trans ?_
  refine (if_pos h4).trans ?_
  rfl
theorem B_X12_orders_108_2 {T : List Shp} {c : Nat → Int → Int} {x1 x2 : Int} {r1 : Int} {c2 : Nat → Int → Int} (h1 : 0 ≤ (w32 ((w32 (10 * x1)) + 9)) ∧ (w32 ((w32 (10 * x1)) + 9)) < 120) (h2 : x2 < (c 107 (w32 ((w32 (10 * x1)) + 9)))) (h3 : cal 331 [vR 78, vI (w32 (10 * x1))] (SH T, c) = some (some (vI r1), (SH T, c2))) (h4 : ¬ r1 < 0) : ev 334 12 108 [vR 78, vI x1, vI x2, vU, vU] [] (SH T, c) = ev 334 12 108 [vR 78, vI x1, vI (w32 (x2 + 1)), vU, vU] [] (SH T, c2) := by
  refine (ev_eq _ _ _ _ _ _).trans ?_
  refine (if_pos h1).trans ?_
  refine (if_pos h2).trans ?_
  refine (el_call rfl h3).trans ?_
  refine (if_neg h4).trans ?_
  refine (ev_eq _ _ _ _ _ _).trans ?_
  rfl
theorem B_X12_orders_108_3 {T : List Shp} {c : Nat → Int → Int} {x1 x2 : Int} (h1 : 0 ≤ (w32 ((w32 (10 * x1)) + 9)) ∧ (w32 ((w32 (10 * x1)) + 9)) < 120) (h2 : ¬ x2 < (c 107 (w32 ((w32 (10 * x1)) + 9)))) : ev 334 12 108 [vR 78, vI x1, vI x2, vU, vU] [] (SH T, c) = ev 334 12 98 [vR 78, vI (w32 (x1 + 1)), vU, vU, vU] [] (SH T, c) := by
  refine (ev_eq _ _ _ _ _ _).trans ?_
  refine (if_pos h1).trans ?_
  refine (if_neg h2).trans ?_
  refine (ev_eq _ _ _ _ _ _).trans ?_
  rfl
theorem B_X12_orders_140_1 {T : List Shp} {c : Nat → Int → Int} {x1 x3 x4 : Int} (h1 : x4 < 5780) (h2 : 0 ≤ x4 ∧ x4 < 5780) (h3 : 0 ≤ x4 ∧ x4 < 5780) : ev 334 12 140 [vR 78, vI x1, vU, vI x3, vI x4] [] (SH T, c) = ev 334 12 140 [vR 78, vI x1, vU, vI x3, vI (w32 (x4 + 1))] [] (SH T, (up c 79 x4 (c 81 x4))) := by
  refine (ev_eq _ _ _ _ _ _).trans ?_
  refine (if_pos h1).trans ?_
  refine (if_pos h2).trans ?_
  refine (if_pos h3).trans ?_
  rfl
theorem B_X12_orders_140_2 {T : List Shp} {c : Nat → Int → Int} {x1 x3 x4 : Int} {r1 : Int} {c2 : Nat → Int → Int} (h1 : ¬ x4 < 5780) (h2 : cal 190 [vR 78, vI x3] (SH T, (up c 77 56 x1)) = some (some (vI r1), (SH T, c2))) : ev 334 12 140 [vR 78, vI x1, vU, vI x3, vI x4] [] (SH T, c) = some (some (vI r1), (SH T, c2)) := by
  refine (ev_eq _ _ _ _ _ _).trans ?_
  refine (if_neg h1).trans ?_
  refine (ev_eq _ _ _ _ _ _).trans ?_
  refine (el_call rfl h2).trans ?_
  rfl
theorem E_X12_stopped {T : List Shp} {c : Nat → Int → Int}  : cal 335 [vR 78] (SH T, c) = some (some (vI (c 77 56)), (SH T, (up c 77 0 0))) := by
  refine (ev_eq _ _ _ _ _ _).trans ?_
  rfl
theorem E_X12_draw {T : List Shp} {c : Nat → Int → Int} {x1 : Int} (h1 : ¬ x1 = 0) : cal 336 [vR 78, vI x1] (SH T, c) = some (some (vI (w32 (w64 (Int.tmod (w64 (Int.tmod (w64 ((w64 ((c 77 57) * 1103)) + 12345)) 1000003)) x1)))), (SH T, (up c 77 57 (w64 (Int.tmod (w64 ((w64 ((c 77 57) * 1103)) + 12345)) 1000003))))) := by
  refine (ev_eq _ _ _ _ _ _).trans ?_
  refine (if_neg h1).trans ?_
  rfl
theorem E_X12_century_1 {T : List Shp} {c : Nat → Int → Int} {x1 x2 : Int} {r1 : Int} {c2 : Nat → Int → Int} (h1 : cal 186 [vL x1, vL 0, vL 1000000] (SH T, (up c 77 0 0)) = some (some (vI r1), (SH T, c2))) (h2 : r1 = 0) : cal 337 [vR 78, vI x1, vI x2] (SH T, c) = ev 337 8 41 [vR 78, vU, vU, vU, vU, vU, vU, vU] [] (SH T, c2) := by
  refine (ev_eq _ _ _ _ _ _).trans ?_
  refine (el_call rfl h1).trans ?_
  refine (if_pos h2).trans ?_
  rfl
theorem E_X12_century_2 {T : List Shp} {c : Nat → Int → Int} {x1 x2 : Int} {r1 : Int} {c2 : Nat → Int → Int} {r3 : Int} {c4 : Nat → Int → Int} (h1 : cal 186 [vL x1, vL 0, vL 1000000] (SH T, (up c 77 0 0)) = some (some (vI r1), (SH T, c2))) (h2 : ¬ r1 = 0) (h3 : cal 186 [vL x2, vL 0, vL 40] (SH T, c2) = some (some (vI r3), (SH T, c4))) (h4 : r3 = 0) : cal 337 [vR 78, vI x1, vI x2] (SH T, c) = ev 337 8 41 [vR 78, vU, vU, vU, vU, vU, vU, vU] [] (SH T, c4) := by
  refine (ev_eq _ _ _ _ _ _).trans ?_
  refine (el_call rfl h1).trans ?_
  refine (if_neg h2).trans ?_
  refine (el_call rfl h3).trans ?_
  refine (if_pos h4).trans ?_
  rfl
theorem E_X12_century_3 {T : List Shp} {c : Nat → Int → Int} {x1 x2 : Int} {r1 : Int} {c2 : Nat → Int → Int} {r3 : Int} {c4 : Nat → Int → Int} {r5 : Int} {c6 : Nat → Int → Int} {r7 : Int} {c8 : Nat → Int → Int} (h1 : cal 186 [vL x1, vL 0, vL 1000000] (SH T, (up c 77 0 0)) = some (some (vI r1), (SH T, c2))) (h2 : ¬ r1 = 0) (h3 : cal 186 [vL x2, vL 0, vL 40] (SH T, c2) = some (some (vI r3), (SH T, c4))) (h4 : ¬ r3 = 0) (h5 : cal 197 [vR 78] (SH T, c4) = some (some (vI r5), (SH T, c6))) (h6 : cal 196 [vI (w32 (r5 + x2))] (SH T, c6) = some (some (vI r7), (SH T, c8))) (h7 : r7 = 0) : cal 337 [vR 78, vI x1, vI x2] (SH T, c) = ev 337 8 41 [vR 78, vU, vU, vU, vU, vU, vU, vU] [] (SH T, c8) := by
  refine (ev_eq _ _ _ _ _ _).trans ?_
  refine (el_call rfl h1).trans ?_
  refine (if_neg h2).trans ?_
  refine (el_call rfl h3).trans ?_
  refine (if_neg h4).trans ?_
  refine (el_call rfl h5).trans ?_
  refine (el_call rfl h6).trans ?_
  refine (if_pos h7).trans ?_
  rfl
theorem E_X12_century_4 {T : List Shp} {c : Nat → Int → Int} {x1 x2 : Int} {r1 : Int} {c2 : Nat → Int → Int} {r3 : Int} {c4 : Nat → Int → Int} {r5 : Int} {c6 : Nat → Int → Int} {r7 : Int} {c8 : Nat → Int → Int} (h1 : cal 186 [vL x1, vL 0, vL 1000000] (SH T, (up c 77 0 0)) = some (some (vI r1), (SH T, c2))) (h2 : ¬ r1 = 0) (h3 : cal 186 [vL x2, vL 0, vL 40] (SH T, c2) = some (some (vI r3), (SH T, c4))) (h4 : ¬ r3 = 0) (h5 : cal 197 [vR 78] (SH T, c4) = some (some (vI r5), (SH T, c6))) (h6 : cal 196 [vI (w32 (r5 + x2))] (SH T, c6) = some (some (vI r7), (SH T, c8))) (h7 : ¬ r7 = 0) : cal 337 [vR 78, vI x1, vI x2] (SH T, c) = ev 337 8 70 [vR 78, vU, vI x2, vI 0, vU, vU, vU, vU] [] (SH T, (up (up (up c8 77 57 x1) 77 59 1) 77 60 (c8 79 0))) := by
  refine (ev_eq _ _ _ _ _ _).trans ?_
  refine (el_call rfl h1).trans ?_
  refine (if_neg h2).trans ?_
  refine (el_call rfl h3).trans ?_
  refine (if_neg h4).trans ?_
  refine (el_call rfl h5).trans ?_
  refine (el_call rfl h6).trans ?_
  refine (if_neg h7).trans ?_
  refine (ev_eq _ _ _ _ _ _).trans ?_
  rfl
theorem B_X12_century_41 {T : List Shp} {c : Nat → Int → Int} {r1 : Int} {c2 : Nat → Int → Int} (h1 : cal 190 [vR 78, vI (-1)] (SH T, c) = some (some (vI r1), (SH T, c2))) : ev 337 8 41 [vR 78, vU, vU, vU, vU, vU, vU, vU] [] (SH T, c) = some (some (vI r1), (SH T, c2)) := by
  refine (ev_eq _ _ _ _ _ _).trans ?_
  refine (el_call rfl h1).trans ?_
  rfl

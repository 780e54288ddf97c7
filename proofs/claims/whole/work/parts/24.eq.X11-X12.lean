theorem E_X11_missing_1 {T : List Shp} {c : Nat → Int → Int} {x1 x2 : Int} (h1 : x1 < 1) : cal 154 [vR 1, vI x1, vI x2] (SH T, c) = some (some (vI (-1)), (SH T, c)) := by
  refine (ev_eq _ _ _ _ _ _).trans ?_
  refine (if_pos h1).trans ?_
  refine (ev_eq _ _ _ _ _ _).trans ?_
  rfl
theorem E_X11_missing_2 {T : List Shp} {c : Nat → Int → Int} {x1 x2 : Int} {r1 : Int} {c2 : Nat → Int → Int} (h1 : ¬ x1 < 1) (h2 : cal 67 [vR 2, vI x1] (SH T, c) = some (some (vI r1), (SH T, c2))) (h3 : r1 = 0) : cal 154 [vR 1, vI x1, vI x2] (SH T, c) = some (some (vI (-1)), (SH T, c2)) := by
  refine (ev_eq _ _ _ _ _ _).trans ?_
  refine (if_neg h1).trans ?_
  refine (el_call rfl h2).trans ?_
  refine (if_pos h3).trans ?_
  refine (ev_eq _ _ _ _ _ _).trans ?_
  rfl
theorem E_X11_missing_3 {T : List Shp} {c : Nat → Int → Int} {x1 x2 : Int} {r1 : Int} {c2 : Nat → Int → Int} (h1 : ¬ x1 < 1) (h2 : cal 67 [vR 2, vI x1] (SH T, c) = some (some (vI r1), (SH T, c2))) (h3 : ¬ r1 = 0) (h4 : x2 < 1) : cal 154 [vR 1, vI x1, vI x2] (SH T, c) = some (some (vI (-1)), (SH T, c2)) := by
  refine (ev_eq _ _ _ _ _ _).trans ?_
  refine (if_neg h1).trans ?_
  refine (el_call rfl h2).trans ?_
  refine (if_neg h3).trans ?_
  refine (if_pos h4).trans ?_
  refine (ev_eq _ _ _ _ _ _).trans ?_
  rfl
theorem E_X11_missing_4 {T : List Shp} {c : Nat → Int → Int} {x1 x2 : Int} {r1 : Int} {c2 : Nat → Int → Int} (h1 : ¬ x1 < 1) (h2 : cal 67 [vR 2, vI x1] (SH T, c) = some (some (vI r1), (SH T, c2))) (h3 : ¬ r1 = 0) (h4 : ¬ x2 < 1) (h5 : 2 < x2) : cal 154 [vR 1, vI x1, vI x2] (SH T, c) = some (some (vI (-1)), (SH T, c2)) := by
  refine (ev_eq _ _ _ _ _ _).trans ?_
  refine (if_neg h1).trans ?_
  refine (el_call rfl h2).trans ?_
  refine (if_neg h3).trans ?_
  refine (if_neg h4).trans ?_
  refine (if_pos h5).trans ?_
  refine (ev_eq _ _ _ _ _ _).trans ?_
  rfl
theorem E_X11_missing_5 {T : List Shp} {c : Nat → Int → Int} {x1 x2 : Int} {r1 : Int} {c2 : Nat → Int → Int} {r3 : Int} {c4 : Nat → Int → Int} (h1 : ¬ x1 < 1) (h2 : cal 67 [vR 2, vI x1] (SH T, c) = some (some (vI r1), (SH T, c2))) (h3 : ¬ r1 = 0) (h4 : ¬ x2 < 1) (h5 : ¬ 2 < x2) (h6 : cal 100 [vR 19, vI x1, vI (w32 (x2 + 1))] (SH T, c2) = some (some (vI r3), (SH T, c4))) : cal 154 [vR 1, vI x1, vI x2] (SH T, c) = some (some (vI r3), (SH T, c4)) := by
  refine (ev_eq _ _ _ _ _ _).trans ?_
  refine (if_neg h1).trans ?_
  refine (el_call rfl h2).trans ?_
  refine (if_neg h3).trans ?_
  refine (if_neg h4).trans ?_
  refine (if_neg h5).trans ?_
  refine (ev_eq _ _ _ _ _ _).trans ?_
  refine (el_call rfl h6).trans ?_
  rfl
theorem E_X11_was_1 {T : List Shp} {c : Nat → Int → Int} {x1 : Int} {r1 : Int} {c2 : Nat → Int → Int} (h1 : cal 178 [vI x1] (SH T, c) = some (some (vI r1), (SH T, c2))) (h2 : r1 = 0) : cal 155 [vR 1, vI x1] (SH T, c) = some (some (vI (-1)), (SH T, c2)) := by
  refine (ev_eq _ _ _ _ _ _).trans ?_
  refine (el_call rfl h1).trans ?_
  refine (if_pos h2).trans ?_
  refine (ev_eq _ _ _ _ _ _).trans ?_
  rfl
theorem E_X11_was_2 {T : List Shp} {c : Nat → Int → Int} {x1 : Int} {r1 : Int} {c2 : Nat → Int → Int} {r3 : Int} {c4 : Nat → Int → Int} (h1 : cal 178 [vI x1] (SH T, c) = some (some (vI r1), (SH T, c2))) (h2 : ¬ r1 = 0) (h3 : cal 103 [vR 19, vI x1] (SH T, c2) = some (some (vI r3), (SH T, c4))) : cal 155 [vR 1, vI x1] (SH T, c) = some (some (vI r3), (SH T, c4)) := by
  refine (ev_eq _ _ _ _ _ _).trans ?_
  refine (el_call rfl h1).trans ?_
  refine (if_neg h2).trans ?_
  refine (el_call rfl h3).trans ?_
  rfl
theorem E_X11_ways {T : List Shp} {c : Nat → Int → Int}  : cal 156 [vR 1] (SH T, c) = ev 156 6 4 [vR 1, vL 1, vU, vI 0] [] (SH T, c) := by
  refine (ev_eq _ _ _ _ _ _).trans ?_
  rfl
theorem B_X11_ways_4_1 {T : List Shp} {c : Nat → Int → Int} {x1 x3 : Int} {r1 : Int} {c2 : Nat → Int → Int} {r3 : Int} {c4 : Nat → Int → Int} (h1 : x3 < 12) (h2 : cal 103 [vR 19, vI x3] (SH T, c) = some (some (vI r1), (SH T, c2))) (h3 : cal 341 [vI r1] (SH T, c2) = some (some (vI r3), (SH T, c4))) : ev 156 6 4 [vR 1, vL x1, vU, vI x3] [] (SH T, c) = ev 156 6 4 [vR 1, vL (w64 (x1 * r3)), vU, vI (w32 (x3 + 1))] [] (SH T, c4) := by
  refine (ev_eq _ _ _ _ _ _).trans ?_
  refine (if_pos h1).trans ?_
  refine (el_call rfl h2).trans ?_
  refine (el_call rfl h3).trans ?_
  rfl
theorem B_X11_ways_4_2 {T : List Shp} {c : Nat → Int → Int} {x1 x3 : Int} (h1 : ¬ x3 < 12) : ev 156 6 4 [vR 1, vL x1, vU, vI x3] [] (SH T, c) = some (some (vL x1), (SH T, c)) := by
  refine (ev_eq _ _ _ _ _ _).trans ?_
  refine (if_neg h1).trans ?_
  refine (ev_eq _ _ _ _ _ _).trans ?_
  rfl
theorem E_X11_claimant_1 {T : List Shp} {c : Nat → Int → Int} {x1 x2 x3 x4 : Int} (h1 : x1 < (-1)) : cal 157 [vR 1, vI x1, vI x2, vI x3, vI x4] (SH T, c) = ev 157 3 22 [vR 1, vU, vU, vU, vU, vU] [] (SH T, c) := by
  refine (ev_eq _ _ _ _ _ _).trans ?_
  refine (if_pos h1).trans ?_
  rfl
theorem E_X11_claimant_2 {T : List Shp} {c : Nat → Int → Int} {x1 x2 x3 x4 : Int} {r1 : Int} {c2 : Nat → Int → Int} (h1 : ¬ x1 < (-1)) (h2 : cal 177 [vI x2, vI 100] (SH T, c) = some (some (vI r1), (SH T, c2))) (h3 : r1 = 0) : cal 157 [vR 1, vI x1, vI x2, vI x3, vI x4] (SH T, c) = ev 157 3 22 [vR 1, vU, vU, vU, vU, vU] [] (SH T, c2) := by
  refine (ev_eq _ _ _ _ _ _).trans ?_
  refine (if_neg h1).trans ?_
  refine (el_call rfl h2).trans ?_
  refine (if_pos h3).trans ?_
  rfl
theorem E_X11_claimant_3 {T : List Shp} {c : Nat → Int → Int} {x1 x2 x3 x4 : Int} {r1 : Int} {c2 : Nat → Int → Int} {r3 : Int} {c4 : Nat → Int → Int} (h1 : ¬ x1 < (-1)) (h2 : cal 177 [vI x2, vI 100] (SH T, c) = some (some (vI r1), (SH T, c2))) (h3 : ¬ r1 = 0) (h4 : cal 180 [vI x4] (SH T, c2) = some (some (vI r3), (SH T, c4))) (h5 : r3 = 0) : cal 157 [vR 1, vI x1, vI x2, vI x3, vI x4] (SH T, c) = ev 157 3 22 [vR 1, vU, vU, vU, vU, vU] [] (SH T, c4) := by
  refine (ev_eq _ _ _ _ _ _).trans ?_
  refine (if_neg h1).trans ?_
  refine (el_call rfl h2).trans ?_
  refine (if_neg h3).trans ?_
  refine (el_call rfl h4).trans ?_
  refine (if_pos h5).trans ?_
  rfl
theorem E_X11_claimant_4 {T : List Shp} {c : Nat → Int → Int} {x1 x2 x3 x4 : Int} {r1 : Int} {c2 : Nat → Int → Int} {r3 : Int} {c4 : Nat → Int → Int} (h1 : ¬ x1 < (-1)) (h2 : cal 177 [vI x2, vI 100] (SH T, c) = some (some (vI r1), (SH T, c2))) (h3 : ¬ r1 = 0) (h4 : cal 180 [vI x4] (SH T, c2) = some (some (vI r3), (SH T, c4))) (h5 : ¬ r3 = 0) (h6 : x2 < x3) (h7 : 150 < x3) : cal 157 [vR 1, vI x1, vI x2, vI x3, vI x4] (SH T, c) = ev 157 3 40 [vR 1, vU, vU, vU, vU, vU] [] (SH T, c4) := by
  refine (ev_eq _ _ _ _ _ _).trans ?_
  refine (if_neg h1).trans ?_
  refine (el_call rfl h2).trans ?_
  refine (if_neg h3).trans ?_
  refine (el_call rfl h4).trans ?_
  refine (if_neg h5).trans ?_
  refine (ev_eq _ _ _ _ _ _).trans ?_
  refine (if_pos h6).trans ?_
  refine (if_pos h7).trans ?_
  rfl
theorem E_X11_claimant_5 {T : List Shp} {c : Nat → Int → Int} {x1 x2 x3 x4 : Int} {r1 : Int} {c2 : Nat → Int → Int} {r3 : Int} {c4 : Nat → Int → Int} {r5 : Int} {c6 : Nat → Int → Int} (h1 : ¬ x1 < (-1)) (h2 : cal 177 [vI x2, vI 100] (SH T, c) = some (some (vI r1), (SH T, c2))) (h3 : ¬ r1 = 0) (h4 : cal 180 [vI x4] (SH T, c2) = some (some (vI r3), (SH T, c4))) (h5 : ¬ r3 = 0) (h6 : x2 < x3) (h7 : ¬ 150 < x3) (h8 : x1 < (c4 1 13)) (h9 : (c4 1 13) < 8) (h10 : 0 ≤ (w32 ((c4 1 13) * 4)) ∧ (w32 ((c4 1 13) * 4)) < 32) (h11 : 0 ≤ (w32 ((w32 ((c4 1 13) * 4)) + 1)) ∧ (w32 ((w32 ((c4 1 13) * 4)) + 1)) < 32) (h12 : 0 ≤ (w32 ((w32 ((c4 1 13) * 4)) + 2)) ∧ (w32 ((w32 ((c4 1 13) * 4)) + 2)) < 32) (h13 : 0 ≤ (w32 ((w32 ((c4 1 13) * 4)) + 3)) ∧ (w32 ((w32 ((c4 1 13) * 4)) + 3)) < 32) (h14 : cal 171 [vR 1, vI (w32 ((w32 ((c4 1 13) + 1)) - 1))] (SH T, (up (up (up (up (up c4 9 (w32 ((c4 1 13) * 4)) x1) 9 (w32 ((w32 ((c4 1 13) * 4)) + 1)) x2) 9 (w32 ((w32 ((c4 1 13) * 4)) + 2)) x3) 9 (w32 ((w32 ((c4 1 13) * 4)) + 3)) x4) 1 13 (w32 ((c4 1 13) + 1)))) = some (some (vI r5), (SH T, c6))) : cal 157 [vR 1, vI x1, vI x2, vI x3, vI x4] (SH T, c) = some (some (vI r5), (SH T, c6)) := by
  refine (ev_eq _ _ _ _ _ _).trans ?_
  refine (if_neg h1).trans ?_
  refine (el_call rfl h2).trans ?_
  refine (if_neg h3).trans ?_
  refine (el_call rfl h4).trans ?_
  refine (if_neg h5).trans ?_
  refine (ev_eq _ _ _ _ _ _).trans ?_
  refine (if_pos h6).trans ?_
  refine (if_neg h7).trans ?_
  refine (ev_eq _ _ _ _ _ _).trans ?_
  refine (if_pos h8).trans ?_
  refine (ev_eq _ _ _ _ _ _).trans ?_
  refine (if_pos h9).trans ?_
  refine (ev_eq _ _ _ _ _ _).trans ?_
  refine (if_pos h10).trans ?_
  refine (if_pos h11).trans ?_
  refine (if_pos h12).trans ?_
  refine (if_pos h13).trans ?_
  refine (el_call rfl h14).trans ?_
  rfl
theorem E_X11_claimant_6 {T : List Shp} {c : Nat → Int → Int} {x1 x2 x3 x4 : Int} {r1 : Int} {c2 : Nat → Int → Int} {r3 : Int} {c4 : Nat → Int → Int} {r5 : Int} {c6 : Nat → Int → Int} (h1 : ¬ x1 < (-1)) (h2 : cal 177 [vI x2, vI 100] (SH T, c) = some (some (vI r1), (SH T, c2))) (h3 : ¬ r1 = 0) (h4 : cal 180 [vI x4] (SH T, c2) = some (some (vI r3), (SH T, c4))) (h5 : ¬ r3 = 0) (h6 : x2 < x3) (h7 : ¬ 150 < x3) (h8 : x1 < (c4 1 13)) (h9 : ¬ (c4 1 13) < 8) (h10 : cal 172 [vR 1, vI (-5)] (SH T, c4) = some (some (vI r5), (SH T, c6))) : cal 157 [vR 1, vI x1, vI x2, vI x3, vI x4] (SH T, c) = some (some (vI r5), (SH T, c6)) := by
  refine (ev_eq _ _ _ _ _ _).trans ?_
  refine (if_neg h1).trans ?_
  refine (el_call rfl h2).trans ?_
  refine (if_neg h3).trans ?_
  refine (el_call rfl h4).trans ?_
  refine (if_neg h5).trans ?_
  refine (ev_eq _ _ _ _ _ _).trans ?_
  refine (if_pos h6).trans ?_
  refine (if_neg h7).trans ?_
  refine (ev_eq _ _ _ _ _ _).trans ?_
  refine (if_pos h8).trans ?_
  refine (ev_eq _ _ _ _ _ _).trans ?_
  refine (if_neg h9).trans ?_
  refine (el_call rfl h10).trans ?_
  rfl
theorem E_X11_claimant_7 {T : List Shp} {c : Nat → Int → Int} {x1 x2 x3 x4 : Int} {r1 : Int} {c2 : Nat → Int → Int} {r3 : Int} {c4 : Nat → Int → Int} {r5 : Int} {c6 : Nat → Int → Int} (h1 : ¬ x1 < (-1)) (h2 : cal 177 [vI x2, vI 100] (SH T, c) = some (some (vI r1), (SH T, c2))) (h3 : ¬ r1 = 0) (h4 : cal 180 [vI x4] (SH T, c2) = some (some (vI r3), (SH T, c4))) (h5 : ¬ r3 = 0) (h6 : x2 < x3) (h7 : ¬ 150 < x3) (h8 : ¬ x1 < (c4 1 13)) (h9 : cal 172 [vR 1, vI (-2)] (SH T, c4) = some (some (vI r5), (SH T, c6))) : cal 157 [vR 1, vI x1, vI x2, vI x3, vI x4] (SH T, c) = some (some (vI r5), (SH T, c6)) := by
  refine (ev_eq _ _ _ _ _ _).trans ?_
  refine (if_neg h1).trans ?_
  refine (el_call rfl h2).trans ?_
  refine (if_neg h3).trans ?_
  refine (el_call rfl h4).trans ?_
  refine (if_neg h5).trans ?_
  refine (ev_eq _ _ _ _ _ _).trans ?_
  refine (if_pos h6).trans ?_
  refine (if_neg h7).trans ?_
  refine (ev_eq _ _ _ _ _ _).trans ?_
  refine (if_neg h8).trans ?_
  refine (el_call rfl h9).trans ?_
  rfl
theorem E_X11_claimant_8 {T : List Shp} {c : Nat → Int → Int} {x1 x2 x3 x4 : Int} {r1 : Int} {c2 : Nat → Int → Int} {r3 : Int} {c4 : Nat → Int → Int} (h1 : ¬ x1 < (-1)) (h2 : cal 177 [vI x2, vI 100] (SH T, c) = some (some (vI r1), (SH T, c2))) (h3 : ¬ r1 = 0) (h4 : cal 180 [vI x4] (SH T, c2) = some (some (vI r3), (SH T, c4))) (h5 : ¬ r3 = 0) (h6 : ¬ x2 < x3) : cal 157 [vR 1, vI x1, vI x2, vI x3, vI x4] (SH T, c) = ev 157 3 40 [vR 1, vU, vU, vU, vU, vU] [] (SH T, c4) := by
  refine (ev_eq _ _ _ _ _ _).trans ?_
  refine (if_neg h1).trans ?_
  refine (el_call rfl h2).trans ?_
  refine (if_neg h3).trans ?_
  refine (el_call rfl h4).trans ?_
  refine (if_neg h5).trans ?_
  refine (ev_eq _ _ _ _ _ _).trans ?_
  refine (if_neg h6).trans ?_
  rfl
theorem B_X11_claimant_22 {T : List Shp} {c : Nat → Int → Int} {r1 : Int} {c2 : Nat → Int → Int} (h1 : cal 172 [vR 1, vI (-1)] (SH T, c) = some (some (vI r1), (SH T, c2))) : ev 157 3 22 [vR 1, vU, vU, vU, vU, vU] [] (SH T, c) = some (some (vI r1), (SH T, c2)) := by
  refine (ev_eq _ _ _ _ _ _).trans ?_
  refine (el_call rfl h1).trans ?_
  rfl
theorem B_X11_claimant_40 {T : List Shp} {c : Nat → Int → Int} {r1 : Int} {c2 : Nat → Int → Int} (h1 : cal 172 [vR 1, vI (-1)] (SH T, c) = some (some (vI r1), (SH T, c2))) : ev 157 3 40 [vR 1, vU, vU, vU, vU, vU] [] (SH T, c) = some (some (vI r1), (SH T, c2)) := by
  refine (ev_eq _ _ _ _ _ _).trans ?_
  refine (el_call rfl h1).trans ?_
  rfl
theorem E_X11_claim_1 {T : List Shp} {c : Nat → Int → Int} {x1 x2 x3 : Int} {r1 : Int} {c2 : Nat → Int → Int} {r3 : Int} {c4 : Nat → Int → Int} (h1 : cal 177 [vI x2, vI 2] (SH T, c) = some (some (vI r1), (SH T, c2))) (h2 : r1 = 0) (h3 : cal 172 [vR 1, vI (-1)] (SH T, c2) = some (some (vI r3), (SH T, c4))) : cal 158 [vR 1, vI x1, vI x2, vI x3] (SH T, c) = some (some (vI r3), (SH T, c4)) := by
  refine (ev_eq _ _ _ _ _ _).trans ?_
  refine (el_call rfl h1).trans ?_
  refine (if_pos h2).trans ?_
  refine (el_call rfl h3).trans ?_
  rfl
theorem E_X11_claim_2 {T : List Shp} {c : Nat → Int → Int} {x1 x2 x3 : Int} {r1 : Int} {c2 : Nat → Int → Int} {r3 : Int} {c4 : Nat → Int → Int} {r5 : Int} {c6 : Nat → Int → Int} (h1 : cal 177 [vI x2, vI 2] (SH T, c) = some (some (vI r1), (SH T, c2))) (h2 : ¬ r1 = 0) (h3 : x2 = 0) (h4 : cal 177 [vI x3, vI 151] (SH T, c2) = some (some (vI r3), (SH T, c4))) (h5 : r3 = 0) (h6 : cal 172 [vR 1, vI (-1)] (SH T, c4) = some (some (vI r5), (SH T, c6))) : cal 158 [vR 1, vI x1, vI x2, vI x3] (SH T, c) = some (some (vI r5), (SH T, c6)) := by
  refine (ev_eq _ _ _ _ _ _).trans ?_
  refine (el_call rfl h1).trans ?_
  refine (if_neg h2).trans ?_
  refine (ev_eq _ _ _ _ _ _).trans ?_
  refine (if_pos h3).trans ?_
  refine (el_call rfl h4).trans ?_
  refine (if_pos h5).trans ?_
  refine (el_call rfl h6).trans ?_
  rfl
theorem E_X11_claim_3 {T : List Shp} {c : Nat → Int → Int} {x1 x2 x3 : Int} {r1 : Int} {c2 : Nat → Int → Int} {r3 : Int} {c4 : Nat → Int → Int} (h1 : cal 177 [vI x2, vI 2] (SH T, c) = some (some (vI r1), (SH T, c2))) (h2 : ¬ r1 = 0) (h3 : x2 = 0) (h4 : cal 177 [vI x3, vI 151] (SH T, c2) = some (some (vI r3), (SH T, c4))) (h5 : ¬ r3 = 0) : cal 158 [vR 1, vI x1, vI x2, vI x3] (SH T, c) = ev 158 3 44 [vR 1, vI x1, vI x2, vI x3, vU, vU] [] (SH T, c4) := by
  refine (ev_eq _ _ _ _ _ _).trans ?_
  refine (el_call rfl h1).trans ?_
  refine (if_neg h2).trans ?_
  refine (ev_eq _ _ _ _ _ _).trans ?_
  refine (if_pos h3).trans ?_
  refine (el_call rfl h4).trans ?_
  refine (if_neg h5).trans ?_
  rfl
theorem E_X11_claim_4 {T : List Shp} {c : Nat → Int → Int} {x1 x2 x3 : Int} {r1 : Int} {c2 : Nat → Int → Int} {r3 : Int} {c4 : Nat → Int → Int} {r5 : Int} {c6 : Nat → Int → Int} (h1 : cal 177 [vI x2, vI 2] (SH T, c) = some (some (vI r1), (SH T, c2))) (h2 : ¬ r1 = 0) (h3 : ¬ x2 = 0) (h4 : cal 180 [vI x3] (SH T, c2) = some (some (vI r3), (SH T, c4))) (h5 : r3 = 0) (h6 : cal 172 [vR 1, vI (-1)] (SH T, c4) = some (some (vI r5), (SH T, c6))) : cal 158 [vR 1, vI x1, vI x2, vI x3] (SH T, c) = some (some (vI r5), (SH T, c6)) := by
  refine (ev_eq _ _ _ _ _ _).trans ?_
  refine (el_call rfl h1).trans ?_
  refine (if_neg h2).trans ?_
  refine (ev_eq _ _ _ _ _ _).trans ?_
  refine (if_neg h3).trans ?_
  refine (ev_eq _ _ _ _ _ _).trans ?_
  refine (el_call rfl h4).trans ?_
  refine (if_pos h5).trans ?_
  refine (el_call rfl h6).trans ?_
  rfl
theorem E_X11_claim_5 {T : List Shp} {c : Nat → Int → Int} {x1 x2 x3 : Int} {r1 : Int} {c2 : Nat → Int → Int} {r3 : Int} {c4 : Nat → Int → Int} (h1 : cal 177 [vI x2, vI 2] (SH T, c) = some (some (vI r1), (SH T, c2))) (h2 : ¬ r1 = 0) (h3 : ¬ x2 = 0) (h4 : cal 180 [vI x3] (SH T, c2) = some (some (vI r3), (SH T, c4))) (h5 : ¬ r3 = 0) : cal 158 [vR 1, vI x1, vI x2, vI x3] (SH T, c) = ev 158 3 44 [vR 1, vI x1, vI x2, vI x3, vU, vU] [] (SH T, c4) := by
  refine (ev_eq _ _ _ _ _ _).trans ?_
  refine (el_call rfl h1).trans ?_
  refine (if_neg h2).trans ?_
  refine (ev_eq _ _ _ _ _ _).trans ?_
  refine (if_neg h3).trans ?_
  refine (ev_eq _ _ _ _ _ _).trans ?_
  refine (el_call rfl h4).trans ?_
  refine (if_neg h5).trans ?_
  rfl
theorem B_X11_claim_44_1 {T : List Shp} {c : Nat → Int → Int} {x1 x2 x3 : Int} {r1 : Int} {c2 : Nat → Int → Int} {r3 : Int} {c4 : Nat → Int → Int} (h1 : cal 68 [vR 2, vI x1] (SH T, c) = some (some (vI r1), (SH T, c2))) (h2 : r1 = 0) (h3 : cal 172 [vR 1, vI (-2)] (SH T, c2) = some (some (vI r3), (SH T, c4))) : ev 158 3 44 [vR 1, vI x1, vI x2, vI x3, vU, vU] [] (SH T, c) = some (some (vI r3), (SH T, c4)) := by
  refine (ev_eq _ _ _ _ _ _).trans ?_
  refine (el_call rfl h1).trans ?_
  refine (if_pos h2).trans ?_
  refine (el_call rfl h3).trans ?_
  rfl
theorem B_X11_claim_44_2 {T : List Shp} {c : Nat → Int → Int} {x1 x2 x3 : Int} {r1 : Int} {c2 : Nat → Int → Int} (h1 : cal 68 [vR 2, vI x1] (SH T, c) = some (some (vI r1), (SH T, c2))) (h2 : ¬ r1 = 0) (h3 : x2 = 0) (h4 : 0 ≤ (w32 ((w32 (x1 * 4)) + 1)) ∧ (w32 ((w32 (x1 * 4)) + 1)) < 32) (h5 : (c2 9 (w32 ((w32 (x1 * 4)) + 1))) < x3) : ev 158 3 44 [vR 1, vI x1, vI x2, vI x3, vU, vU] [] (SH T, c) = ev 158 3 93 [vR 1, vU, vI x2, vI x3, vI (w32 (x1 * 4)), vU] [] (SH T, c2) := by
  refine (ev_eq _ _ _ _ _ _).trans ?_
  refine (el_call rfl h1).trans ?_
  refine (if_neg h2).trans ?_
  refine (ev_eq _ _ _ _ _ _).trans ?_
  refine (if_pos h3).trans ?_
  refine (if_pos h4).trans ?_
  refine (if_pos h5).trans ?_
  rfl
theorem B_X11_claim_44_3 {T : List Shp} {c : Nat → Int → Int} {x1 x2 x3 : Int} {r1 : Int} {c2 : Nat → Int → Int} {r3 : Int} {c4 : Nat → Int → Int} (h1 : cal 68 [vR 2, vI x1] (SH T, c) = some (some (vI r1), (SH T, c2))) (h2 : ¬ r1 = 0) (h3 : x2 = 0) (h4 : 0 ≤ (w32 ((w32 (x1 * 4)) + 1)) ∧ (w32 ((w32 (x1 * 4)) + 1)) < 32) (h5 : ¬ (c2 9 (w32 ((w32 (x1 * 4)) + 1))) < x3) (h6 : cal 172 [vR 1, vI (-1)] (SH T, c2) = some (some (vI r3), (SH T, c4))) : ev 158 3 44 [vR 1, vI x1, vI x2, vI x3, vU, vU] [] (SH T, c) = some (some (vI r3), (SH T, c4)) := by
  refine (ev_eq _ _ _ _ _ _).trans ?_
  refine (el_call rfl h1).trans ?_
  refine (if_neg h2).trans ?_
  refine (ev_eq _ _ _ _ _ _).trans ?_
  refine (if_pos h3).trans ?_
  refine (if_pos h4).trans ?_
  refine (if_neg h5).trans ?_
  refine (el_call rfl h6).trans ?_
  rfl
theorem B_X11_claim_44_4 {T : List Shp} {c : Nat → Int → Int} {x1 x2 x3 : Int} {r1 : Int} {c2 : Nat → Int → Int} (h1 : cal 68 [vR 2, vI x1] (SH T, c) = some (some (vI r1), (SH T, c2))) (h2 : ¬ r1 = 0) (h3 : ¬ x2 = 0) : ev 158 3 44 [vR 1, vI x1, vI x2, vI x3, vU, vU] [] (SH T, c) = ev 158 3 93 [vR 1, vU, vI x2, vI x3, vI (w32 (x1 * 4)), vU] [] (SH T, c2) := by
  refine (ev_eq _ _ _ _ _ _).trans ?_
  refine (el_call rfl h1).trans ?_
  refine (if_neg h2).trans ?_
  refine (ev_eq _ _ _ _ _ _).trans ?_
  refine (if_neg h3).trans ?_
  rfl
theorem B_X11_claim_93 {T : List Shp} {c : Nat → Int → Int} {x2 x3 x4 : Int} {r1 : Int} {c2 : Nat → Int → Int} (h1 : 0 ≤ (w32 ((w32 (x4 + 2)) + x2)) ∧ (w32 ((w32 (x4 + 2)) + x2)) < 32) (h2 : 0 ≤ (w32 ((w32 (x4 + 2)) + x2)) ∧ (w32 ((w32 (x4 + 2)) + x2)) < 32) (h3 : cal 171 [vR 1, vI (c 9 (w32 ((w32 (x4 + 2)) + x2)))] (SH T, (up c 9 (w32 ((w32 (x4 + 2)) + x2)) x3)) = some (some (vI r1), (SH T, c2))) : ev 158 3 93 [vR 1, vU, vI x2, vI x3, vI x4, vU] [] (SH T, c) = some (some (vI r1), (SH T, c2)) := by
  refine (ev_eq _ _ _ _ _ _).trans ?_
  refine (if_pos h1).trans ?_
  refine (if_pos h2).trans ?_
  refine (el_call rfl h3).trans ?_
  rfl
theorem E_X11_born_1 {T : List Shp} {c : Nat → Int → Int} {x1 x2 : Int} {r1 : Int} {c2 : Nat → Int → Int} (h1 : cal 68 [vR 2, vI x1] (SH T, c) = some (some (vI r1), (SH T, c2))) (h2 : r1 = 0) : cal 159 [vR 1, vI x1, vI x2] (SH T, c) = some (some (vI (-1)), (SH T, c2)) := by
  refine (ev_eq _ _ _ _ _ _).trans ?_
  refine (el_call rfl h1).trans ?_
  refine (if_pos h2).trans ?_
  refine (ev_eq _ _ _ _ _ _).trans ?_
  rfl
theorem E_X11_born_2 {T : List Shp} {c : Nat → Int → Int} {x1 x2 : Int} {r1 : Int} {c2 : Nat → Int → Int} {r3 : Int} {c4 : Nat → Int → Int} (h1 : cal 68 [vR 2, vI x1] (SH T, c) = some (some (vI r1), (SH T, c2))) (h2 : ¬ r1 = 0) (h3 : cal 177 [vI x2, vI 4] (SH T, c2) = some (some (vI r3), (SH T, c4))) (h4 : r3 = 0) : cal 159 [vR 1, vI x1, vI x2] (SH T, c) = some (some (vI (-1)), (SH T, c4)) := by
  refine (ev_eq _ _ _ _ _ _).trans ?_
  refine (el_call rfl h1).trans ?_
  refine (if_neg h2).trans ?_
  refine (el_call rfl h3).trans ?_
  refine (if_pos h4).trans ?_
  refine (ev_eq _ _ _ _ _ _).trans ?_
  rfl
theorem E_X11_born_3 {T : List Shp} {c : Nat → Int → Int} {x1 x2 : Int} {r1 : Int} {c2 : Nat → Int → Int} {r3 : Int} {c4 : Nat → Int → Int} (h1 : cal 68 [vR 2, vI x1] (SH T, c) = some (some (vI r1), (SH T, c2))) (h2 : ¬ r1 = 0) (h3 : cal 177 [vI x2, vI 4] (SH T, c2) = some (some (vI r3), (SH T, c4))) (h4 : ¬ r3 = 0) (h5 : 0 ≤ (w32 ((w32 (x1 * 4)) + x2)) ∧ (w32 ((w32 (x1 * 4)) + x2)) < 32) : cal 159 [vR 1, vI x1, vI x2] (SH T, c) = some (some (vI (c4 9 (w32 ((w32 (x1 * 4)) + x2)))), (SH T, c4)) := by
  refine (ev_eq _ _ _ _ _ _).trans ?_
  refine (el_call rfl h1).trans ?_
  refine (if_neg h2).trans ?_
  refine (el_call rfl h3).trans ?_
  refine (if_neg h4).trans ?_
  refine (ev_eq _ _ _ _ _ _).trans ?_
  refine (if_pos h5).trans ?_
  rfl
theorem E_X11_stands_1 {T : List Shp} {c : Nat → Int → Int} {x1 x2 x3 : Int} {r1 : Int} {c2 : Nat → Int → Int} (h1 : cal 68 [vR 2, vI x1] (SH T, c) = some (some (vI r1), (SH T, c2))) (h2 : r1 = 0) : cal 160 [vR 1, vI x1, vI x2, vI x3] (SH T, c) = some (some (vI (-1)), (SH T, c2)) := by
  refine (ev_eq _ _ _ _ _ _).trans ?_
  refine (el_call rfl h1).trans ?_
  refine (if_pos h2).trans ?_
  refine (ev_eq _ _ _ _ _ _).trans ?_
  rfl
theorem E_X11_stands_2 {T : List Shp} {c : Nat → Int → Int} {x1 x2 x3 : Int} {r1 : Int} {c2 : Nat → Int → Int} {r3 : Int} {c4 : Nat → Int → Int} (h1 : cal 68 [vR 2, vI x1] (SH T, c) = some (some (vI r1), (SH T, c2))) (h2 : ¬ r1 = 0) (h3 : cal 177 [vI x2, vI 100] (SH T, c2) = some (some (vI r3), (SH T, c4))) (h4 : r3 = 0) : cal 160 [vR 1, vI x1, vI x2, vI x3] (SH T, c) = some (some (vI (-1)), (SH T, c4)) := by
  refine (ev_eq _ _ _ _ _ _).trans ?_
  refine (el_call rfl h1).trans ?_
  refine (if_neg h2).trans ?_
  refine (el_call rfl h3).trans ?_
  refine (if_pos h4).trans ?_
  refine (ev_eq _ _ _ _ _ _).trans ?_
  rfl
theorem E_X11_stands_3 {T : List Shp} {c : Nat → Int → Int} {x1 x2 x3 : Int} {r1 : Int} {c2 : Nat → Int → Int} {r3 : Int} {c4 : Nat → Int → Int} {r5 : Int} {c6 : Nat → Int → Int} {r7 : Int} {c8 : Nat → Int → Int} (h1 : cal 68 [vR 2, vI x1] (SH T, c) = some (some (vI r1), (SH T, c2))) (h2 : ¬ r1 = 0) (h3 : cal 177 [vI x2, vI 100] (SH T, c2) = some (some (vI r3), (SH T, c4))) (h4 : ¬ r3 = 0) (h5 : x3 = 0) (h6 : cal 74 [vR 2, vI x1, vI x2] (SH T, c4) = some (some (vI r5), (SH T, c6))) (h7 : cal 181 [vI r5] (SH T, c6) = some (some (vI r7), (SH T, c8))) : cal 160 [vR 1, vI x1, vI x2, vI x3] (SH T, c) = some (some (vI r7), (SH T, c8)) := by
  refine (ev_eq _ _ _ _ _ _).trans ?_
  refine (el_call rfl h1).trans ?_
  refine (if_neg h2).trans ?_
  refine (el_call rfl h3).trans ?_
  refine (if_neg h4).trans ?_
  refine (ev_eq _ _ _ _ _ _).trans ?_
  refine (if_pos h5).trans ?_
  refine (ev_eq _ _ _ _ _ _).trans ?_
  refine (el_call rfl h6).trans ?_
  refine (el_call rfl h7).trans ?_
  rfl
theorem E_X11_stands_4 {T : List Shp} {c : Nat → Int → Int} {x1 x2 x3 : Int} {r1 : Int} {c2 : Nat → Int → Int} {r3 : Int} {c4 : Nat → Int → Int} {r5 : Int} {c6 : Nat → Int → Int} (h1 : cal 68 [vR 2, vI x1] (SH T, c) = some (some (vI r1), (SH T, c2))) (h2 : ¬ r1 = 0) (h3 : cal 177 [vI x2, vI 100] (SH T, c2) = some (some (vI r3), (SH T, c4))) (h4 : ¬ r3 = 0) (h5 : x3 = 1) (h6 : cal 27 [vR 15, vI x1, vI x2] (SH T, c4) = some (some (vI r5), (SH T, c6))) : cal 160 [vR 1, vI x1, vI x2, vI x3] (SH T, c) = some (some (vI r5), (SH T, c6)) := by
  refine (ev_eq _ _ _ _ _ _).trans ?_
  refine (el_call rfl h1).trans ?_
  refine (if_neg h2).trans ?_
  refine (el_call rfl h3).trans ?_
  refine (if_neg h4).trans ?_
  refine (ev_eq _ _ _ _ _ _).trans ?_
  refine (if_neg (by omega)).trans ?_
  refine (if_pos h5).trans ?_
  refine (ev_eq _ _ _ _ _ _).trans ?_
  refine (el_call rfl h6).trans ?_
  rfl
theorem E_X11_stands_5 {T : List Shp} {c : Nat → Int → Int} {x1 x2 x3 : Int} {r1 : Int} {c2 : Nat → Int → Int} {r3 : Int} {c4 : Nat → Int → Int} {r5 : Int} {c6 : Nat → Int → Int} {r7 : Int} {c8 : Nat → Int → Int} (h1 : cal 68 [vR 2, vI x1] (SH T, c) = some (some (vI r1), (SH T, c2))) (h2 : ¬ r1 = 0) (h3 : cal 177 [vI x2, vI 100] (SH T, c2) = some (some (vI r3), (SH T, c4))) (h4 : ¬ r3 = 0) (h5 : x3 = 2) (h6 : cal 28 [vR 15, vI x1, vI x2] (SH T, c4) = some (some (vI r5), (SH T, c6))) (h7 : cal 181 [vI r5] (SH T, c6) = some (some (vI r7), (SH T, c8))) : cal 160 [vR 1, vI x1, vI x2, vI x3] (SH T, c) = some (some (vI r7), (SH T, c8)) := by
  refine (ev_eq _ _ _ _ _ _).trans ?_
  refine (el_call rfl h1).trans ?_
  refine (if_neg h2).trans ?_
  refine (el_call rfl h3).trans ?_
  refine (if_neg h4).trans ?_
  refine (ev_eq _ _ _ _ _ _).trans ?_
  refine (if_neg (by omega)).trans ?_
  refine (if_neg (by omega)).trans ?_
  refine (if_pos h5).trans ?_
  refine (ev_eq _ _ _ _ _ _).trans ?_
  refine (el_call rfl h6).trans ?_
  refine (el_call rfl h7).trans ?_
  rfl
theorem E_X11_stands_6 {T : List Shp} {c : Nat → Int → Int} {x1 x2 x3 : Int} {r1 : Int} {c2 : Nat → Int → Int} {r3 : Int} {c4 : Nat → Int → Int} {r5 : Int} {c6 : Nat → Int → Int} (h1 : cal 68 [vR 2, vI x1] (SH T, c) = some (some (vI r1), (SH T, c2))) (h2 : ¬ r1 = 0) (h3 : cal 177 [vI x2, vI 100] (SH T, c2) = some (some (vI r3), (SH T, c4))) (h4 : ¬ r3 = 0) (h5 : x3 = 3) (h6 : cal 75 [vR 2, vI x1, vI x2] (SH T, c4) = some (some (vI r5), (SH T, c6))) : cal 160 [vR 1, vI x1, vI x2, vI x3] (SH T, c) = some (some (vI r5), (SH T, c6)) := by
  refine (ev_eq _ _ _ _ _ _).trans ?_
  refine (el_call rfl h1).trans ?_
  refine (if_neg h2).trans ?_
  refine (el_call rfl h3).trans ?_
  refine (if_neg h4).trans ?_
  refine (ev_eq _ _ _ _ _ _).trans ?_
  refine (if_neg (by omega)).trans ?_
  refine (if_neg (by omega)).trans ?_
  refine (if_neg (by omega)).trans ?_
  refine (if_pos h5).trans ?_
  refine (ev_eq _ _ _ _ _ _).trans ?_
  refine (el_call rfl h6).trans ?_
  rfl
theorem E_X11_stands_7 {T : List Shp} {c : Nat → Int → Int} {x1 x2 x3 : Int} {r1 : Int} {c2 : Nat → Int → Int} {r3 : Int} {c4 : Nat → Int → Int} (h1 : cal 68 [vR 2, vI x1] (SH T, c) = some (some (vI r1), (SH T, c2))) (h2 : ¬ r1 = 0) (h3 : cal 177 [vI x2, vI 100] (SH T, c2) = some (some (vI r3), (SH T, c4))) (h4 : ¬ r3 = 0) (h5 : ¬ x3 = 0 ∧ ¬ x3 = 1 ∧ ¬ x3 = 2 ∧ ¬ x3 = 3) : cal 160 [vR 1, vI x1, vI x2, vI x3] (SH T, c) = some (some (vI (-1)), (SH T, c4)) := by
  refine (ev_eq _ _ _ _ _ _).trans ?_
  refine (el_call rfl h1).trans ?_
  refine (if_neg h2).trans ?_
  refine (el_call rfl h3).trans ?_
  refine (if_neg h4).trans ?_
  refine (ev_eq _ _ _ _ _ _).trans ?_
  refine (if_neg (h5.1)).trans ?_
  refine (if_neg (h5.2.1)).trans ?_
  refine (if_neg (h5.2.2.1)).trans ?_
  refine (if_neg (h5.2.2.2)).trans ?_
  refine (ev_eq _ _ _ _ _ _).trans ?_
  rfl
theorem E_X11_ruler_1 {T : List Shp} {c : Nat → Int → Int} {x1 : Int} {r1 : Int} {c2 : Nat → Int → Int} (h1 : cal 177 [vI x1, vI 100] (SH T, c) = some (some (vI r1), (SH T, c2))) (h2 : r1 = 0) : cal 161 [vR 1, vI x1] (SH T, c) = some (some (vI (-1)), (SH T, c2)) := by
  refine (ev_eq _ _ _ _ _ _).trans ?_
  refine (el_call rfl h1).trans ?_
  refine (if_pos h2).trans ?_
  rfl
theorem E_X11_ruler_2 {T : List Shp} {c : Nat → Int → Int} {x1 : Int} {r1 : Int} {c2 : Nat → Int → Int} {c3 : Nat → Int → Int} (h1 : cal 177 [vI x1, vI 100] (SH T, c) = some (some (vI r1), (SH T, c2))) (h2 : ¬ r1 = 0) (h3 : cal 13 [vR 56, vI x1] (SH T, c2) = some (none, (SH T, c3))) (h4 : 0 ≤ x1 ∧ x1 < 100) : cal 161 [vR 1, vI x1] (SH T, c) = some (some (vI (c3 57 x1)), (SH T, c3)) := by
  refine (ev_eq _ _ _ _ _ _).trans ?_
  refine (el_call rfl h1).trans ?_
  refine (if_neg h2).trans ?_
  refine (ev_eq _ _ _ _ _ _).trans ?_
  refine (el_call rfl h3).trans ?_
  refine (if_pos h4).trans ?_
  rfl
theorem E_X11_reign_1 {T : List Shp} {c : Nat → Int → Int} {x1 x2 : Int} (h1 : x1 < (-1)) : cal 162 [vR 1, vI x1, vI x2] (SH T, c) = some (some (vI (-1)), (SH T, c)) := by
  refine (ev_eq _ _ _ _ _ _).trans ?_
  refine (if_pos h1).trans ?_
  refine (ev_eq _ _ _ _ _ _).trans ?_
  rfl
theorem E_X11_reign_2 {T : List Shp} {c : Nat → Int → Int} {x1 x2 : Int} (h1 : ¬ x1 < (-1)) (h2 : x1 = (-1)) : cal 162 [vR 1, vI x1, vI x2] (SH T, c) = ev 162 7 20 [vR 1, vI x1, vI x2] [] (SH T, c) := by
  refine (ev_eq _ _ _ _ _ _).trans ?_
  refine (if_neg h1).trans ?_
  refine (if_pos h2).trans ?_
  rfl
theorem E_X11_reign_3 {T : List Shp} {c : Nat → Int → Int} {x1 x2 : Int} {r1 : Int} {c2 : Nat → Int → Int} (h1 : ¬ x1 < (-1)) (h2 : ¬ x1 = (-1)) (h3 : cal 177 [vI x2, vI 3] (SH T, c) = some (some (vI r1), (SH T, c2))) (h4 : r1 = 0) : cal 162 [vR 1, vI x1, vI x2] (SH T, c) = some (some (vI (-1)), (SH T, c2)) := by
  refine (ev_eq _ _ _ _ _ _).trans ?_
  refine (if_neg h1).trans ?_
  refine (if_neg h2).trans ?_
  refine (el_call rfl h3).trans ?_
  refine (if_pos h4).trans ?_
  refine (ev_eq _ _ _ _ _ _).trans ?_
  rfl
theorem E_X11_reign_4 {T : List Shp} {c : Nat → Int → Int} {x1 x2 : Int} {r1 : Int} {c2 : Nat → Int → Int} (h1 : ¬ x1 < (-1)) (h2 : ¬ x1 = (-1)) (h3 : cal 177 [vI x2, vI 3] (SH T, c) = some (some (vI r1), (SH T, c2))) (h4 : ¬ r1 = 0) : cal 162 [vR 1, vI x1, vI x2] (SH T, c) = ev 162 7 20 [vR 1, vI x1, vI x2] [] (SH T, c2) := by
  refine (ev_eq _ _ _ _ _ _).trans ?_
  refine (if_neg h1).trans ?_
  refine (if_neg h2).trans ?_
  refine (el_call rfl h3).trans ?_
  refine (if_neg h4).trans ?_
  rfl
theorem B_X11_reign_20_1 {T : List Shp} {c : Nat → Int → Int} {x1 x2 : Int} {c1 : Nat → Int → Int} {r2 : Int} {c3 : Nat → Int → Int} (h1 : cal 13 [vR 56, vI 99] (SH T, c) = some (none, (SH T, c1))) (h2 : x1 = (-1)) (h3 : cal 14 [vR 56] (SH T, c1) = some (some (vI r2), (SH T, c3))) : ev 162 7 20 [vR 1, vI x1, vI x2] [] (SH T, c) = some (some (vI r2), (SH T, c3)) := by
  refine (ev_eq _ _ _ _ _ _).trans ?_
  refine (el_call rfl h1).trans ?_
  refine (if_pos h2).trans ?_
  refine (el_call rfl h3).trans ?_
  rfl
theorem B_X11_reign_20_2 {T : List Shp} {c : Nat → Int → Int} {x1 x2 : Int} {c1 : Nat → Int → Int} {r2 : Int} {c3 : Nat → Int → Int} (h1 : cal 13 [vR 56, vI 99] (SH T, c) = some (none, (SH T, c1))) (h2 : ¬ x1 = (-1)) (h3 : cal 15 [vR 56, vI x1, vI x2] (SH T, c1) = some (some (vI r2), (SH T, c3))) : ev 162 7 20 [vR 1, vI x1, vI x2] [] (SH T, c) = some (some (vI r2), (SH T, c3)) := by
  refine (ev_eq _ _ _ _ _ _).trans ?_
  refine (el_call rfl h1).trans ?_
  refine (if_neg h2).trans ?_
  refine (ev_eq _ _ _ _ _ _).trans ?_
  refine (el_call rfl h3).trans ?_
  rfl
theorem E_X11_vacant {T : List Shp} {c : Nat → Int → Int} {c1 : Nat → Int → Int} (h1 : cal 13 [vR 56, vI 99] (SH T, c) = some (none, (SH T, c1))) : cal 163 [vR 1] (SH T, c) = ev 163 7 13 [vR 1, vI 0, vI 0] [] (SH T, c1) := by
  refine (ev_eq _ _ _ _ _ _).trans ?_
  refine (el_call rfl h1).trans ?_
  rfl
theorem B_X11_vacant_13_1 {T : List Shp} {c : Nat → Int → Int} {x1 x2 : Int} (h1 : x2 < 100) (h2 : 0 ≤ x2 ∧ x2 < 100) (h3 : (c 57 x2) = (-1)) : ev 163 7 13 [vR 1, vI x1, vI x2] [] (SH T, c) = ev 163 7 35 [vR 1, vI (w32 (x1 + 1)), vI x2] [] (SH T, c) := by
  refine (ev_eq _ _ _ _ _ _).trans ?_
  refine (if_pos h1).trans ?_
  refine (if_pos h2).trans ?_
  refine (if_pos h3).trans ?_
  rfl
theorem B_X11_vacant_13_2 {T : List Shp} {c : Nat → Int → Int} {x1 x2 : Int} (h1 : x2 < 100) (h2 : 0 ≤ x2 ∧ x2 < 100) (h3 : ¬ (c 57 x2) = (-1)) : ev 163 7 13 [vR 1, vI x1, vI x2] [] (SH T, c) = ev 163 7 35 [vR 1, vI x1, vI x2] [] (SH T, c) := by
  refine (ev_eq _ _ _ _ _ _).trans ?_
  refine (if_pos h1).trans ?_
  refine (if_pos h2).trans ?_
  refine (if_neg h3).trans ?_
  rfl
theorem B_X11_vacant_13_3 {T : List Shp} {c : Nat → Int → Int} {x1 x2 : Int} (h1 : ¬ x2 < 100) : ev 163 7 13 [vR 1, vI x1, vI x2] [] (SH T, c) = some (some (vI x1), (SH T, c)) := by
  refine (ev_eq _ _ _ _ _ _).trans ?_
  refine (if_neg h1).trans ?_
  refine (ev_eq _ _ _ _ _ _).trans ?_
  rfl
theorem B_X11_vacant_35 {T : List Shp} {c : Nat → Int → Int} {x1 x2 : Int}  : ev 163 7 35 [vR 1, vI x1, vI x2] [] (SH T, c) = ev 163 7 13 [vR 1, vI x1, vI (w32 (x2 + 1))] [] (SH T, c) := by
  refine (ev_eq _ _ _ _ _ _).trans ?_
  rfl
theorem E_X11_line_1 {T : List Shp} {c : Nat → Int → Int} {x1 x2 : Int} {r1 : Int} {c2 : Nat → Int → Int} (h1 : cal 177 [vI x1, vI 100] (SH T, c) = some (some (vI r1), (SH T, c2))) (h2 : r1 = 0) : cal 164 [vR 1, vI x1, vI x2] (SH T, c) = some (some (vI (-1)), (SH T, c2)) := by
  refine (ev_eq _ _ _ _ _ _).trans ?_
  refine (el_call rfl h1).trans ?_
  refine (if_pos h2).trans ?_
  refine (ev_eq _ _ _ _ _ _).trans ?_
  rfl
theorem E_X11_line_2 {T : List Shp} {c : Nat → Int → Int} {x1 x2 : Int} {r1 : Int} {c2 : Nat → Int → Int} (h1 : cal 177 [vI x1, vI 100] (SH T, c) = some (some (vI r1), (SH T, c2))) (h2 : ¬ r1 = 0) (h3 : x2 < (-1)) : cal 164 [vR 1, vI x1, vI x2] (SH T, c) = some (some (vI (-1)), (SH T, c2)) := by
  refine (ev_eq _ _ _ _ _ _).trans ?_
  refine (el_call rfl h1).trans ?_
  refine (if_neg h2).trans ?_
  refine (if_pos h3).trans ?_
  refine (ev_eq _ _ _ _ _ _).trans ?_
  rfl
theorem E_X11_line_3 {T : List Shp} {c : Nat → Int → Int} {x1 x2 : Int} {r1 : Int} {c2 : Nat → Int → Int} {c3 : Nat → Int → Int} (h1 : cal 177 [vI x1, vI 100] (SH T, c) = some (some (vI r1), (SH T, c2))) (h2 : ¬ r1 = 0) (h3 : ¬ x2 < (-1)) (h4 : cal 16 [vR 56, vI x1] (SH T, c2) = some (none, (SH T, c3))) (h5 : x2 = (-1)) : cal 164 [vR 1, vI x1, vI x2] (SH T, c) = some (some (vI (c3 55 5)), (SH T, c3)) := by
  refine (ev_eq _ _ _ _ _ _).trans ?_
  refine (el_call rfl h1).trans ?_
  refine (if_neg h2).trans ?_
  refine (if_neg h3).trans ?_
  refine (ev_eq _ _ _ _ _ _).trans ?_
  refine (el_call rfl h4).trans ?_
  refine (if_pos h5).trans ?_
  rfl
theorem E_X11_line_4 {T : List Shp} {c : Nat → Int → Int} {x1 x2 : Int} {r1 : Int} {c2 : Nat → Int → Int} {c3 : Nat → Int → Int} (h1 : cal 177 [vI x1, vI 100] (SH T, c) = some (some (vI r1), (SH T, c2))) (h2 : ¬ r1 = 0) (h3 : ¬ x2 < (-1)) (h4 : cal 16 [vR 56, vI x1] (SH T, c2) = some (none, (SH T, c3))) (h5 : ¬ x2 = (-1)) (h6 : x2 < (c3 55 5)) (h7 : 0 ≤ x2 ∧ x2 < 8) : cal 164 [vR 1, vI x1, vI x2] (SH T, c) = some (some (vI (c3 58 x2)), (SH T, c3)) := by
  refine (ev_eq _ _ _ _ _ _).trans ?_
  refine (el_call rfl h1).trans ?_
  refine (if_neg h2).trans ?_
  refine (if_neg h3).trans ?_
  refine (ev_eq _ _ _ _ _ _).trans ?_
  refine (el_call rfl h4).trans ?_
  refine (if_neg h5).trans ?_
  refine (ev_eq _ _ _ _ _ _).trans ?_
  refine (if_pos h6).trans ?_
  refine (if_pos h7).trans ?_
  rfl
theorem E_X11_line_5 {T : List Shp} {c : Nat → Int → Int} {x1 x2 : Int} {r1 : Int} {c2 : Nat → Int → Int} {c3 : Nat → Int → Int} (h1 : cal 177 [vI x1, vI 100] (SH T, c) = some (some (vI r1), (SH T, c2))) (h2 : ¬ r1 = 0) (h3 : ¬ x2 < (-1)) (h4 : cal 16 [vR 56, vI x1] (SH T, c2) = some (none, (SH T, c3))) (h5 : ¬ x2 = (-1)) (h6 : ¬ x2 < (c3 55 5)) : cal 164 [vR 1, vI x1, vI x2] (SH T, c) = some (some (vI (-1)), (SH T, c3)) := by
  refine (ev_eq _ _ _ _ _ _).trans ?_
  refine (el_call rfl h1).trans ?_
  refine (if_neg h2).trans ?_
  refine (if_neg h3).trans ?_
  refine (ev_eq _ _ _ _ _ _).trans ?_
  refine (el_call rfl h4).trans ?_
  refine (if_neg h5).trans ?_
  refine (ev_eq _ _ _ _ _ _).trans ?_
  refine (if_neg h6).trans ?_
  refine (ev_eq _ _ _ _ _ _).trans ?_
  rfl
theorem E_X11_century_1 {T : List Shp} {c : Nat → Int → Int} {x1 x2 : Int} (h1 : x1 < 0) : cal 165 [vR 1, vI x1, vI x2] (SH T, c) = ev 165 7 34 [vR 1, vU, vU] [] (SH T, c) := by
  refine (ev_eq _ _ _ _ _ _).trans ?_
  refine (if_pos h1).trans ?_
  rfl
theorem E_X11_century_2 {T : List Shp} {c : Nat → Int → Int} {x1 x2 : Int} (h1 : ¬ x1 < 0) (h2 : 1000000 < x1) : cal 165 [vR 1, vI x1, vI x2] (SH T, c) = ev 165 7 34 [vR 1, vU, vU] [] (SH T, c) := by
  refine (ev_eq _ _ _ _ _ _).trans ?_
  refine (if_neg h1).trans ?_
  refine (if_pos h2).trans ?_
  rfl
theorem E_X11_century_3 {T : List Shp} {c : Nat → Int → Int} {x1 x2 : Int} {r1 : Int} {c2 : Nat → Int → Int} (h1 : ¬ x1 < 0) (h2 : ¬ 1000000 < x1) (h3 : cal 177 [vI x2, vI 41] (SH T, c) = some (some (vI r1), (SH T, c2))) (h4 : r1 = 0) : cal 165 [vR 1, vI x1, vI x2] (SH T, c) = ev 165 7 34 [vR 1, vU, vU] [] (SH T, c2) := by
  refine (ev_eq _ _ _ _ _ _).trans ?_
  refine (if_neg h1).trans ?_
  refine (if_neg h2).trans ?_
  refine (el_call rfl h3).trans ?_
  refine (if_pos h4).trans ?_
  rfl
theorem E_X11_century_4 {T : List Shp} {c : Nat → Int → Int} {x1 x2 : Int} {r1 : Int} {c2 : Nat → Int → Int} {c3 : Nat → Int → Int} {r4 : Int} {c5 : Nat → Int → Int} (h1 : ¬ x1 < 0) (h2 : ¬ 1000000 < x1) (h3 : cal 177 [vI x2, vI 41] (SH T, c) = some (some (vI r1), (SH T, c2))) (h4 : ¬ r1 = 0) (h5 : (w32 ((c2 1 8) + x2)) < 100) (h6 : cal 1 [vR 74, vI x1, vI x2] (SH T, c2) = some (none, (SH T, c3))) (h7 : cal 171 [vR 1, vI (c3 73 6)] (SH T, c3) = some (some (vI r4), (SH T, c5))) : cal 165 [vR 1, vI x1, vI x2] (SH T, c) = some (some (vI r4), (SH T, c5)) := by
  refine (ev_eq _ _ _ _ _ _).trans ?_
  refine (if_neg h1).trans ?_
  refine (if_neg h2).trans ?_
  refine (el_call rfl h3).trans ?_
  refine (if_neg h4).trans ?_
  refine (if_pos h5).trans ?_
  refine (ev_eq _ _ _ _ _ _).trans ?_
  refine (el_call rfl h6).trans ?_
  refine (el_call rfl h7).trans ?_
  rfl
theorem E_X11_century_5 {T : List Shp} {c : Nat → Int → Int} {x1 x2 : Int} {r1 : Int} {c2 : Nat → Int → Int} (h1 : ¬ x1 < 0) (h2 : ¬ 1000000 < x1) (h3 : cal 177 [vI x2, vI 41] (SH T, c) = some (some (vI r1), (SH T, c2))) (h4 : ¬ r1 = 0) (h5 : ¬ (w32 ((c2 1 8) + x2)) < 100) : cal 165 [vR 1, vI x1, vI x2] (SH T, c) = ev 165 7 34 [vR 1, vU, vU] [] (SH T, c2) := by
  refine (ev_eq _ _ _ _ _ _).trans ?_
  refine (if_neg h1).trans ?_
  refine (if_neg h2).trans ?_
  refine (el_call rfl h3).trans ?_
  refine (if_neg h4).trans ?_
  refine (if_neg h5).trans ?_
  rfl
theorem B_X11_century_34 {T : List Shp} {c : Nat → Int → Int} {r1 : Int} {c2 : Nat → Int → Int} (h1 : cal 172 [vR 1, vI (-1)] (SH T, c) = some (some (vI r1), (SH T, c2))) : ev 165 7 34 [vR 1, vU, vU] [] (SH T, c) = some (some (vI r1), (SH T, c2)) := by
  refine (ev_eq _ _ _ _ _ _).trans ?_
  refine (el_call rfl h1).trans ?_
  rfl
theorem E_X11_drawn_1 {T : List Shp} {c : Nat → Int → Int} {x1 : Int} (h1 : (c 73 7) = 0) : cal 166 [vR 1, vI x1] (SH T, c) = some (some (vI (-1)), (SH T, c)) := by
  refine (ev_eq _ _ _ _ _ _).trans ?_
  refine (if_pos h1).trans ?_
  rfl
theorem E_X11_drawn_2 {T : List Shp} {c : Nat → Int → Int} {x1 : Int} {r1 : Int} {c2 : Nat → Int → Int} (h1 : ¬ (c 73 7) = 0) (h2 : cal 178 [vI x1] (SH T, c) = some (some (vI r1), (SH T, c2))) (h3 : r1 = 0) (h4 : x1 < 100) : cal 166 [vR 1, vI x1] (SH T, c) = some (some (vI (-1)), (SH T, c2)) := by
  refine (ev_eq _ _ _ _ _ _).trans ?_
  refine (if_neg h1).trans ?_
  refine (ev_eq _ _ _ _ _ _).trans ?_
  refine (el_call rfl h2).trans ?_
  refine (if_pos h3).trans ?_
  refine (ev_eq _ _ _ _ _ _).trans ?_
  refine (if_pos h4).trans ?_
  refine (ev_eq _ _ _ _ _ _).trans ?_
  rfl
theorem E_X11_drawn_3 {T : List Shp} {c : Nat → Int → Int} {x1 : Int} {r1 : Int} {c2 : Nat → Int → Int} {r3 : Int} {c4 : Nat → Int → Int} (h1 : ¬ (c 73 7) = 0) (h2 : cal 178 [vI x1] (SH T, c) = some (some (vI r1), (SH T, c2))) (h3 : r1 = 0) (h4 : ¬ x1 < 100) (h5 : cal 2 [vR 74, vI (w32 (x1 - 100))] (SH T, c2) = some (some (vI r3), (SH T, c4))) : cal 166 [vR 1, vI x1] (SH T, c) = some (some (vI r3), (SH T, c4)) := by
  refine (ev_eq _ _ _ _ _ _).trans ?_
  refine (if_neg h1).trans ?_
  refine (ev_eq _ _ _ _ _ _).trans ?_
  refine (el_call rfl h2).trans ?_
  refine (if_pos h3).trans ?_
  refine (ev_eq _ _ _ _ _ _).trans ?_
  refine (if_neg h4).trans ?_
  refine (el_call rfl h5).trans ?_
  rfl
theorem E_X11_drawn_4 {T : List Shp} {c : Nat → Int → Int} {x1 : Int} {r1 : Int} {c2 : Nat → Int → Int} (h1 : ¬ (c 73 7) = 0) (h2 : cal 178 [vI x1] (SH T, c) = some (some (vI r1), (SH T, c2))) (h3 : ¬ r1 = 0) (h4 : 0 ≤ x1 ∧ x1 < 12) : cal 166 [vR 1, vI x1] (SH T, c) = some (some (vI (c2 75 x1)), (SH T, c2)) := by
  refine (ev_eq _ _ _ _ _ _).trans ?_
  refine (if_neg h1).trans ?_
  refine (ev_eq _ _ _ _ _ _).trans ?_
  refine (el_call rfl h2).trans ?_
  refine (if_neg h3).trans ?_
  refine (if_pos h4).trans ?_
  rfl
theorem E_X11_image_1 {T : List Shp} {c : Nat → Int → Int} {x1 : Int} {r1 : Int} {c2 : Nat → Int → Int} {r3 : Int} {c4 : Nat → Int → Int} (h1 : cal 177 [vI x1, vI 2] (SH T, c) = some (some (vI r1), (SH T, c2))) (h2 : r1 = 0) (h3 : cal 172 [vR 1, vI (-1)] (SH T, c2) = some (some (vI r3), (SH T, c4))) : cal 167 [vR 1, vI x1] (SH T, c) = some (some (vI r3), (SH T, c4)) := by
  refine (ev_eq _ _ _ _ _ _).trans ?_
  refine (el_call rfl h1).trans ?_
  refine (if_pos h2).trans ?_
  refine (el_call rfl h3).trans ?_
  rfl
theorem E_X11_image_2 {T : List Shp} {c : Nat → Int → Int} {x1 : Int} {r1 : Int} {c2 : Nat → Int → Int} {p3 : Nat} {n4 : Int} {f5 : List Int} {c6 : Nat → Int → Int} {r7 : Int} {c8 : Nat → Int → Int} (h1 : cal 177 [vI x1, vI 2] (SH T, c) = some (some (vI r1), (SH T, c2))) (h2 : ¬ r1 = 0) (h3 : 0 ≤ x1 ∧ x1 < 2) (h4 : drf (SH T) (c2 29 x1) = some (p3, (17, n4, f5))) (h5 : cal 65 [vR (c2 29 x1), vR 2] (SH T, c2) = some (none, (SH T, c6))) (h6 : cal 171 [vR 1, vI 0] (SH T, (up c6 0 2 (ior (c6 0 2) (ishl 1 x1)))) = some (some (vI r7), (SH T, c8))) : cal 167 [vR 1, vI x1] (SH T, c) = some (some (vI r7), (SH T, c8)) := by
  refine (ev_eq _ _ _ _ _ _).trans ?_
  refine (el_call rfl h1).trans ?_
  refine (if_neg h2).trans ?_
  refine (ev_eq _ _ _ _ _ _).trans ?_
  refine (if_pos h3).trans ?_
  refine (el_of h4).trans ?_
  refine (el_call rfl h5).trans ?_
  refine (el_call rfl h6).trans ?_
  rfl
theorem E_X11_back_1 {T : List Shp} {c : Nat → Int → Int} {x1 : Int} {r1 : Int} {c2 : Nat → Int → Int} {r3 : Int} {c4 : Nat → Int → Int} (h1 : cal 177 [vI x1, vI 2] (SH T, c) = some (some (vI r1), (SH T, c2))) (h2 : r1 = 0) (h3 : cal 172 [vR 1, vI (-1)] (SH T, c2) = some (some (vI r3), (SH T, c4))) : cal 168 [vR 1, vI x1] (SH T, c) = some (some (vI r3), (SH T, c4)) := by
  refine (ev_eq _ _ _ _ _ _).trans ?_
  refine (el_call rfl h1).trans ?_
  refine (if_pos h2).trans ?_
  refine (el_call rfl h3).trans ?_
  rfl
theorem E_X11_back_2 {T : List Shp} {c : Nat → Int → Int} {x1 : Int} {r1 : Int} {c2 : Nat → Int → Int} {r3 : Int} {c4 : Nat → Int → Int} (h1 : cal 177 [vI x1, vI 2] (SH T, c) = some (some (vI r1), (SH T, c2))) (h2 : ¬ r1 = 0) (h3 : (iand (ishr (c2 0 2) x1) 1) = 0) (h4 : cal 172 [vR 1, vI (-2)] (SH T, c2) = some (some (vI r3), (SH T, c4))) : cal 168 [vR 1, vI x1] (SH T, c) = some (some (vI r3), (SH T, c4)) := by
  refine (ev_eq _ _ _ _ _ _).trans ?_
  refine (el_call rfl h1).trans ?_
  refine (if_neg h2).trans ?_
  refine (ev_eq _ _ _ _ _ _).trans ?_
  refine (if_pos h3).trans ?_
  refine (el_call rfl h4).trans ?_
  rfl
theorem E_X11_back_3 {T : List Shp} {c : Nat → Int → Int} {x1 : Int} {r1 : Int} {c2 : Nat → Int → Int} {c3 : Nat → Int → Int} {r4 : Int} {c5 : Nat → Int → Int} (h1 : cal 177 [vI x1, vI 2] (SH T, c) = some (some (vI r1), (SH T, c2))) (h2 : ¬ r1 = 0) (h3 : ¬ (iand (ishr (c2 0 2) x1) 1) = 0) (h4 : 0 ≤ x1 ∧ x1 < 2) (h5 : cal 65 [vR 2, vR (c2 29 x1)] (SH T, c2) = some (none, (SH T, c3))) (h6 : cal 171 [vR 1, vI 0] (SH T, c3) = some (some (vI r4), (SH T, c5))) : cal 168 [vR 1, vI x1] (SH T, c) = some (some (vI r4), (SH T, c5)) := by
  refine (ev_eq _ _ _ _ _ _).trans ?_
  refine (el_call rfl h1).trans ?_
  refine (if_neg h2).trans ?_
  refine (ev_eq _ _ _ _ _ _).trans ?_
  refine (if_neg h3).trans ?_
  refine (ev_eq _ _ _ _ _ _).trans ?_
  refine (if_pos h4).trans ?_
  refine (el_call rfl h5).trans ?_
  refine (el_call rfl h6).trans ?_
  rfl
theorem E_X11_count_1 {T : List Shp} {c : Nat → Int → Int} {x1 : Int} (h1 : x1 < 7) : cal 169 [vR 1, vI x1] (SH T, c) = ev 169 1 22 [vR 1, vI x1] [] (SH T, c) := by
  refine (ev_eq _ _ _ _ _ _).trans ?_
  refine (if_pos h1).trans ?_
  rfl
theorem E_X11_count_2 {T : List Shp} {c : Nat → Int → Int} {x1 : Int} (h1 : ¬ x1 < 7) (h2 : 11 < x1) : cal 169 [vR 1, vI x1] (SH T, c) = ev 169 1 22 [vR 1, vI x1] [] (SH T, c) := by
  refine (ev_eq _ _ _ _ _ _).trans ?_
  refine (if_neg h1).trans ?_
  refine (if_pos h2).trans ?_
  rfl
theorem E_X11_count_3 {T : List Shp} {c : Nat → Int → Int} {x1 : Int} (h1 : ¬ x1 < 7) (h2 : ¬ 11 < x1) (h3 : 0 ≤ (w32 (x1 - 7)) ∧ (w32 (x1 - 7)) < 5) : cal 169 [vR 1, vI x1] (SH T, c) = some (some (vI (c 76 (w32 (x1 - 7)))), (SH T, c)) := by
  refine (ev_eq _ _ _ _ _ _).trans ?_
  refine (if_neg h1).trans ?_
  refine (if_neg h2).trans ?_
  refine (if_pos h3).trans ?_
  rfl
theorem B_X11_count_22_1 {T : List Shp} {c : Nat → Int → Int} {x1 : Int} (h1 : x1 < 13) : ev 169 1 22 [vR 1, vI x1] [] (SH T, c) = ev 169 1 47 [vR 1, vI x1] [] (SH T, c) := by
  refine (ev_eq _ _ _ _ _ _).trans ?_
  refine (if_pos h1).trans ?_
  rfl
theorem B_X11_count_22_2 {T : List Shp} {c : Nat → Int → Int} {x1 : Int} (h1 : ¬ x1 < 13) (h2 : 17 < x1) : ev 169 1 22 [vR 1, vI x1] [] (SH T, c) = ev 169 1 47 [vR 1, vI x1] [] (SH T, c) := by
  refine (ev_eq _ _ _ _ _ _).trans ?_
  refine (if_neg h1).trans ?_
  refine (if_pos h2).trans ?_
  rfl
theorem B_X11_count_22_3 {T : List Shp} {c : Nat → Int → Int} {x1 : Int} (h1 : ¬ x1 < 13) (h2 : ¬ 17 < x1) (h3 : 0 ≤ (w32 (x1 - 13)) ∧ (w32 (x1 - 13)) < 5) : ev 169 1 22 [vR 1, vI x1] [] (SH T, c) = some (some (vI (c 4 (w32 (x1 - 13)))), (SH T, c)) := by
  refine (ev_eq _ _ _ _ _ _).trans ?_
  refine (if_neg h1).trans ?_
  refine (if_neg h2).trans ?_
  refine (if_pos h3).trans ?_
  rfl
theorem B_X11_count_47_1 {T : List Shp} {c : Nat → Int → Int} {x1 : Int} (h1 : x1 = 0) : ev 169 1 47 [vR 1, vI x1] [] (SH T, c) = some (some (vI (c 1 0)), (SH T, c)) := by
  refine (ev_eq _ _ _ _ _ _).trans ?_
  refine (if_pos h1).trans ?_
  refine (ev_eq _ _ _ _ _ _).trans ?_
  rfl
theorem B_X11_count_47_2 {T : List Shp} {c : Nat → Int → Int} {x1 : Int} (h1 : x1 = 1) : ev 169 1 47 [vR 1, vI x1] [] (SH T, c) = some (some (vI (c 1 5)), (SH T, c)) := by
  refine (ev_eq _ _ _ _ _ _).trans ?_
  refine (if_neg (by omega)).trans ?_
  refine (if_pos h1).trans ?_
  refine (ev_eq _ _ _ _ _ _).trans ?_
  rfl
theorem B_X11_count_47_3 {T : List Shp} {c : Nat → Int → Int} {x1 : Int} (h1 : x1 = 2) : ev 169 1 47 [vR 1, vI x1] [] (SH T, c) = some (some (vI (c 1 2)), (SH T, c)) := by
  refine (ev_eq _ _ _ _ _ _).trans ?_
  refine (if_neg (by omega)).trans ?_
  refine (if_neg (by omega)).trans ?_
  refine (if_pos h1).trans ?_
  refine (ev_eq _ _ _ _ _ _).trans ?_
  rfl
theorem B_X11_count_47_4 {T : List Shp} {c : Nat → Int → Int} {x1 : Int} (h1 : x1 = 3) : ev 169 1 47 [vR 1, vI x1] [] (SH T, c) = some (some (vI (c 1 8)), (SH T, c)) := by
  refine (ev_eq _ _ _ _ _ _).trans ?_
  refine (if_neg (by omega)).trans ?_
  refine (if_neg (by omega)).trans ?_
  refine (if_neg (by omega)).trans ?_
  refine (if_pos h1).trans ?_
  refine (ev_eq _ _ _ _ _ _).trans ?_
  rfl
theorem B_X11_count_47_5 {T : List Shp} {c : Nat → Int → Int} {x1 : Int} (h1 : x1 = 4) : ev 169 1 47 [vR 1, vI x1] [] (SH T, c) = some (some (vI (c 1 11)), (SH T, c)) := by
  refine (ev_eq _ _ _ _ _ _).trans ?_
  refine (if_neg (by omega)).trans ?_
  refine (if_neg (by omega)).trans ?_
  refine (if_neg (by omega)).trans ?_
  refine (if_neg (by omega)).trans ?_
  refine (if_pos h1).trans ?_
  refine (ev_eq _ _ _ _ _ _).trans ?_
  rfl
theorem B_X11_count_47_6 {T : List Shp} {c : Nat → Int → Int} {x1 : Int} (h1 : x1 = 5) : ev 169 1 47 [vR 1, vI x1] [] (SH T, c) = some (some (vI (c 1 13)), (SH T, c)) := by
  refine (ev_eq _ _ _ _ _ _).trans ?_
  refine (if_neg (by omega)).trans ?_
  refine (if_neg (by omega)).trans ?_
  refine (if_neg (by omega)).trans ?_
  refine (if_neg (by omega)).trans ?_
  refine (if_neg (by omega)).trans ?_
  refine (if_pos h1).trans ?_
  refine (ev_eq _ _ _ _ _ _).trans ?_
  rfl
theorem B_X11_count_47_7 {T : List Shp} {c : Nat → Int → Int} {x1 : Int} (h1 : x1 = 6) : ev 169 1 47 [vR 1, vI x1] [] (SH T, c) = some (some (vI (c 0 4)), (SH T, c)) := by
  refine (ev_eq _ _ _ _ _ _).trans ?_
  refine (if_neg (by omega)).trans ?_
  refine (if_neg (by omega)).trans ?_
  refine (if_neg (by omega)).trans ?_
  refine (if_neg (by omega)).trans ?_
  refine (if_neg (by omega)).trans ?_
  refine (if_neg (by omega)).trans ?_
  refine (if_pos h1).trans ?_
  refine (ev_eq _ _ _ _ _ _).trans ?_
  rfl
theorem B_X11_count_47_8 {T : List Shp} {c : Nat → Int → Int} {x1 : Int} (h1 : x1 = 7) : ev 169 1 47 [vR 1, vI x1] [] (SH T, c) = some (some (vI (-1)), (SH T, c)) := by
  refine (ev_eq _ _ _ _ _ _).trans ?_
  refine (if_neg (by omega)).trans ?_
  refine (if_neg (by omega)).trans ?_
  refine (if_neg (by omega)).trans ?_
  refine (if_neg (by omega)).trans ?_
  refine (if_neg (by omega)).trans ?_
  refine (if_neg (by omega)).trans ?_
  refine (if_neg (by omega)).trans ?_
  refine (if_pos h1).trans ?_
  refine (ev_eq _ _ _ _ _ _).trans ?_
  rfl
theorem B_X11_count_47_9 {T : List Shp} {c : Nat → Int → Int} {x1 : Int} (h1 : x1 = 8) : ev 169 1 47 [vR 1, vI x1] [] (SH T, c) = some (some (vI (-1)), (SH T, c)) := by
  refine (ev_eq _ _ _ _ _ _).trans ?_
  refine (if_neg (by omega)).trans ?_
  refine (if_neg (by omega)).trans ?_
  refine (if_neg (by omega)).trans ?_
  refine (if_neg (by omega)).trans ?_
  refine (if_neg (by omega)).trans ?_
  refine (if_neg (by omega)).trans ?_
  refine (if_neg (by omega)).trans ?_
  refine (if_neg (by omega)).trans ?_
  refine (if_pos h1).trans ?_
  refine (ev_eq _ _ _ _ _ _).trans ?_
  rfl
theorem B_X11_count_47_10 {T : List Shp} {c : Nat → Int → Int} {x1 : Int} (h1 : x1 = 9) : ev 169 1 47 [vR 1, vI x1] [] (SH T, c) = some (some (vI (-1)), (SH T, c)) := by
  refine (ev_eq _ _ _ _ _ _).trans ?_
  refine (if_neg (by omega)).trans ?_
  refine (if_neg (by omega)).trans ?_
  refine (if_neg (by omega)).trans ?_
  refine (if_neg (by omega)).trans ?_
  refine (if_neg (by omega)).trans ?_
  refine (if_neg (by omega)).trans ?_
  refine (if_neg (by omega)).trans ?_
  refine (if_neg (by omega)).trans ?_
  refine (if_neg (by omega)).trans ?_
  refine (if_pos h1).trans ?_
  refine (ev_eq _ _ _ _ _ _).trans ?_
  rfl
theorem B_X11_count_47_11 {T : List Shp} {c : Nat → Int → Int} {x1 : Int} (h1 : x1 = 10) : ev 169 1 47 [vR 1, vI x1] [] (SH T, c) = some (some (vI (-1)), (SH T, c)) := by
  refine (ev_eq _ _ _ _ _ _).trans ?_
  refine (if_neg (by omega)).trans ?_
  refine (if_neg (by omega)).trans ?_
  refine (if_neg (by omega)).trans ?_
  refine (if_neg (by omega)).trans ?_
  refine (if_neg (by omega)).trans ?_
  refine (if_neg (by omega)).trans ?_
  refine (if_neg (by omega)).trans ?_
  refine (if_neg (by omega)).trans ?_
  refine (if_neg (by omega)).trans ?_
  refine (if_neg (by omega)).trans ?_
  refine (if_pos h1).trans ?_
  refine (ev_eq _ _ _ _ _ _).trans ?_
  rfl
theorem B_X11_count_47_12 {T : List Shp} {c : Nat → Int → Int} {x1 : Int} (h1 : x1 = 11) : ev 169 1 47 [vR 1, vI x1] [] (SH T, c) = some (some (vI (-1)), (SH T, c)) := by
  refine (ev_eq _ _ _ _ _ _).trans ?_
  refine (if_neg (by omega)).trans ?_
  refine (if_neg (by omega)).trans ?_
  refine (if_neg (by omega)).trans ?_
  refine (if_neg (by omega)).trans ?_
  refine (if_neg (by omega)).trans ?_
  refine (if_neg (by omega)).trans ?_
  refine (if_neg (by omega)).trans ?_
  refine (if_neg (by omega)).trans ?_
  refine (if_neg (by omega)).trans ?_
  refine (if_neg (by omega)).trans ?_
  refine (if_neg (by omega)).trans ?_
  refine (if_pos h1).trans ?_
  refine (ev_eq _ _ _ _ _ _).trans ?_
  rfl
theorem B_X11_count_47_13 {T : List Shp} {c : Nat → Int → Int} {x1 : Int} (h1 : x1 = 12) : ev 169 1 47 [vR 1, vI x1] [] (SH T, c) = some (some (vI (c 1 7)), (SH T, c)) := by
  refine (ev_eq _ _ _ _ _ _).trans ?_
  refine (if_neg (by omega)).trans ?_
  refine (if_neg (by omega)).trans ?_
  refine (if_neg (by omega)).trans ?_
  refine (if_neg (by omega)).trans ?_
  refine (if_neg (by omega)).trans ?_
  refine (if_neg (by omega)).trans ?_
  refine (if_neg (by omega)).trans ?_
  refine (if_neg (by omega)).trans ?_
  refine (if_neg (by omega)).trans ?_
  refine (if_neg (by omega)).trans ?_
  refine (if_neg (by omega)).trans ?_
  refine (if_neg (by omega)).trans ?_
  refine (if_pos h1).trans ?_
  refine (ev_eq _ _ _ _ _ _).trans ?_
  rfl
theorem B_X11_count_47_14 {T : List Shp} {c : Nat → Int → Int} {x1 : Int} (h1 : ¬ x1 = 0 ∧ ¬ x1 = 1 ∧ ¬ x1 = 2 ∧ ¬ x1 = 3 ∧ ¬ x1 = 4 ∧ ¬ x1 = 5 ∧ ¬ x1 = 6 ∧ ¬ x1 = 7 ∧ ¬ x1 = 8 ∧ ¬ x1 = 9 ∧ ¬ x1 = 10 ∧ ¬ x1 = 11 ∧ ¬ x1 = 12) : ev 169 1 47 [vR 1, vI x1] [] (SH T, c) = some (some (vI (-1)), (SH T, c)) := by
  refine (ev_eq _ _ _ _ _ _).trans ?_
  refine (if_neg (h1.1)).trans ?_
  refine (if_neg (h1.2.1)).trans ?_
  refine (if_neg (h1.2.2.1)).trans ?_
  refine (if_neg (h1.2.2.2.1)).trans ?_
  refine (if_neg (h1.2.2.2.2.1)).trans ?_
  refine (if_neg (h1.2.2.2.2.2.1)).trans ?_
  refine (if_neg (h1.2.2.2.2.2.2.1)).trans ?_
  refine (if_neg (h1.2.2.2.2.2.2.2.1)).trans ?_
  refine (if_neg (h1.2.2.2.2.2.2.2.2.1)).trans ?_
  refine (if_neg (h1.2.2.2.2.2.2.2.2.2.1)).trans ?_
  refine (if_neg (h1.2.2.2.2.2.2.2.2.2.2.1)).trans ?_
  refine (if_neg (h1.2.2.2.2.2.2.2.2.2.2.2.1)).trans ?_
  refine (if_neg (h1.2.2.2.2.2.2.2.2.2.2.2.2)).trans ?_
  refine (ev_eq _ _ _ _ _ _).trans ?_
  rfl
theorem E_X11_status {T : List Shp} {c : Nat → Int → Int}  : cal 170 [vR 1] (SH T, c) = some (some (vI (c 0 17)), (SH T, c)) := by
  refine (ev_eq _ _ _ _ _ _).trans ?_
  rfl
theorem E_X11_answer {T : List Shp} {c : Nat → Int → Int} {x1 : Int}  : cal 171 [vR 1, vI x1] (SH T, c) = some (some (vI x1), (SH T, (up c 0 17 0))) := by
  refine (ev_eq _ _ _ _ _ _).trans ?_
  rfl
theorem E_X11_refuse_1 {T : List Shp} {c : Nat → Int → Int} {x1 : Int} (h1 : x1 < (-3)) : cal 172 [vR 1, vI x1] (SH T, c) = ev 172 2 22 [vR 1, vI x1, vU] [vI (w32 ((w32 (-x1)) - 2))] (SH T, (up c 0 17 x1)) := by
  refine (ev_eq _ _ _ _ _ _).trans ?_
  refine (if_pos h1).trans ?_
  refine (ev_eq _ _ _ _ _ _).trans ?_
  rfl
theorem E_X11_refuse_2 {T : List Shp} {c : Nat → Int → Int} {x1 : Int} (h1 : ¬ x1 < (-3)) : cal 172 [vR 1, vI x1] (SH T, c) = ev 172 2 22 [vR 1, vI x1, vU] [vI (w32 ((w32 (-x1)) - 1))] (SH T, (up c 0 17 x1)) := by
  refine (ev_eq _ _ _ _ _ _).trans ?_
  refine (if_neg h1).trans ?_
  rfl
theorem B_X11_refuse_22_1 {T : List Shp} {c : Nat → Int → Int} {x1 y0 : Int} {r1 : Int} {c2 : Nat → Int → Int} (h1 : cal 177 [vI y0, vI 5] (SH T, c) = some (some (vI r1), (SH T, c2))) (h2 : r1 = 0) : ev 172 2 22 [vR 1, vI x1, vU] [vI y0] (SH T, c) = some (some (vI x1), (SH T, c2)) := by
  refine (ev_eq _ _ _ _ _ _).trans ?_
  refine (el_call rfl h1).trans ?_
  refine (if_pos h2).trans ?_
  refine (ev_eq _ _ _ _ _ _).trans ?_
  rfl
theorem B_X11_refuse_22_2 {T : List Shp} {c : Nat → Int → Int} {x1 y0 : Int} {r1 : Int} {c2 : Nat → Int → Int} (h1 : cal 177 [vI y0, vI 5] (SH T, c) = some (some (vI r1), (SH T, c2))) (h2 : ¬ r1 = 0) (h3 : 0 ≤ y0 ∧ y0 < 5) (h4 : 0 ≤ y0 ∧ y0 < 5) : ev 172 2 22 [vR 1, vI x1, vU] [vI y0] (SH T, c) = some (some (vI x1), (SH T, (up c2 76 y0 (w32 ((c2 76 y0) + 1))))) := by
  refine (ev_eq _ _ _ _ _ _).trans ?_
  refine (el_call rfl h1).trans ?_
  refine (if_neg h2).trans ?_
  refine (if_pos h3).trans ?_
  refine (if_pos h4).trans ?_
  refine (ev_eq _ _ _ _ _ _).trans ?_
  rfl
theorem E_X11_putBytes {T : List Shp} {c : Nat → Int → Int} {x1 : Int}  : cal 173 [vR 1, vI x1] (SH T, c) = ev 173 1 3 [vR 1, vI x1, vI 24] [] (SH T, c) := by
  refine (ev_eq _ _ _ _ _ _).trans ?_
  rfl
theorem B_X11_putBytes_3_1 {T : List Shp} {c : Nat → Int → Int} {x1 x2 : Int} (h1 : x2 < 0) : ev 173 1 3 [vR 1, vI x1, vI x2] [] (SH T, c) = some (none, (SH T, c)) := by
  refine (ev_eq _ _ _ _ _ _).trans ?_
  refine (if_pos h1).trans ?_
  refine (ev_eq _ _ _ _ _ _).trans ?_
  rfl
theorem B_X11_putBytes_3_2 {T : List Shp} {c : Nat → Int → Int} {x1 x2 : Int} (h1 : ¬ x2 < 0) (h2 : (c 0 4) < 400) (h3 : 0 ≤ (c 0 4) ∧ (c 0 4) < 400) : ev 173 1 3 [vR 1, vI x1, vI x2] [] (SH T, c) = ev 173 1 3 [vR 1, vI x1, vI (w32 (x2 + (-8)))] [] (SH T, (up (up c 10 (c 0 4) (iand (ishr x1 x2) 255)) 0 4 (w32 ((c 0 4) + 1)))) := by
  refine (ev_eq _ _ _ _ _ _).trans ?_
  refine (if_neg h1).trans ?_
  refine (if_pos h2).trans ?_
  refine (if_pos h3).trans ?_
  rfl
theorem B_X11_putBytes_3_3 {T : List Shp} {c : Nat → Int → Int} {x1 x2 : Int} (h1 : ¬ x2 < 0) (h2 : ¬ (c 0 4) < 400) : ev 173 1 3 [vR 1, vI x1, vI x2] [] (SH T, c) = some (none, (SH T, c)) := by
  refine (ev_eq _ _ _ _ _ _).trans ?_
  refine (if_neg h1).trans ?_
  refine (if_neg h2).trans ?_
  refine (ev_eq _ _ _ _ _ _).trans ?_
  rfl
theorem E_X11_heirs {T : List Shp} {c : Nat → Int → Int}  : cal 174 [vR 1] (SH T, c) = ev 174 2 7 [vR 1, vI 13, vI 0, vI 0, vU] [] (SH T, c) := by
  refine (ev_eq _ _ _ _ _ _).trans ?_
  rfl
theorem B_X11_heirs_7_1 {T : List Shp} {c : Nat → Int → Int} {x1 x2 x3 : Int} {r1 : Int} {c2 : Nat → Int → Int} (h1 : x3 < (c 1 11)) (h2 : cal 73 [vR 2, vI x3] (SH T, c) = some (some (vI r1), (SH T, c2))) (h3 : r1 < x1) : ev 174 2 7 [vR 1, vI x1, vI x2, vI x3, vU] [] (SH T, c) = ev 174 2 39 [vR 1, vI r1, vI 0, vI x3, vI r1] [] (SH T, c2) := by
  refine (ev_eq _ _ _ _ _ _).trans ?_
  refine (if_pos h1).trans ?_
  refine (el_call rfl h2).trans ?_
  refine (if_pos h3).trans ?_
  rfl
theorem B_X11_heirs_7_2 {T : List Shp} {c : Nat → Int → Int} {x1 x2 x3 : Int} {r1 : Int} {c2 : Nat → Int → Int} (h1 : x3 < (c 1 11)) (h2 : cal 73 [vR 2, vI x3] (SH T, c) = some (some (vI r1), (SH T, c2))) (h3 : ¬ r1 < x1) : ev 174 2 7 [vR 1, vI x1, vI x2, vI x3, vU] [] (SH T, c) = ev 174 2 39 [vR 1, vI x1, vI x2, vI x3, vI r1] [] (SH T, c2) := by
  refine (ev_eq _ _ _ _ _ _).trans ?_
  refine (if_pos h1).trans ?_
  refine (el_call rfl h2).trans ?_
  refine (if_neg h3).trans ?_
  rfl
theorem B_X11_heirs_7_3 {T : List Shp} {c : Nat → Int → Int} {x1 x2 x3 : Int} (h1 : ¬ x3 < (c 1 11)) : ev 174 2 7 [vR 1, vI x1, vI x2, vI x3, vU] [] (SH T, c) = some (some (vI x2), (SH T, c)) := by
  refine (ev_eq _ _ _ _ _ _).trans ?_
  refine (if_neg h1).trans ?_
  refine (ev_eq _ _ _ _ _ _).trans ?_
  rfl
theorem B_X11_heirs_39_1 {T : List Shp} {c : Nat → Int → Int} {x1 x2 x3 x4 : Int} (h1 : x4 = x1) : ev 174 2 39 [vR 1, vI x1, vI x2, vI x3, vI x4] [] (SH T, c) = ev 174 2 51 [vR 1, vI x1, vI (ior x2 (ishl 1 x3)), vI x3, vU] [] (SH T, c) := by
  refine (ev_eq _ _ _ _ _ _).trans ?_
  refine (if_pos h1).trans ?_
  rfl
theorem B_X11_heirs_39_2 {T : List Shp} {c : Nat → Int → Int} {x1 x2 x3 x4 : Int} (h1 : ¬ x4 = x1) : ev 174 2 39 [vR 1, vI x1, vI x2, vI x3, vI x4] [] (SH T, c) = ev 174 2 51 [vR 1, vI x1, vI x2, vI x3, vU] [] (SH T, c) := by
  refine (ev_eq _ _ _ _ _ _).trans ?_
  refine (if_neg h1).trans ?_
  rfl
theorem B_X11_heirs_51 {T : List Shp} {c : Nat → Int → Int} {x1 x2 x3 : Int}  : ev 174 2 51 [vR 1, vI x1, vI x2, vI x3, vU] [] (SH T, c) = ev 174 2 7 [vR 1, vI x1, vI x2, vI (w32 (x3 + 1)), vU] [] (SH T, c) := by
  refine (ev_eq _ _ _ _ _ _).trans ?_
  rfl
theorem E_X11_isRootOrCopy_1 {T : List Shp} {c : Nat → Int → Int} {x1 : Int} (h1 : x1 = (-1)) : cal 175 [vR 1, vI x1] (SH T, c) = some (some (vI 1), (SH T, c)) := by
  refine (ev_eq _ _ _ _ _ _).trans ?_
  refine (if_pos h1).trans ?_
  refine (ev_eq _ _ _ _ _ _).trans ?_
  rfl
theorem E_X11_isRootOrCopy_2 {T : List Shp} {c : Nat → Int → Int} {x1 : Int} {r1 : Int} {c2 : Nat → Int → Int} (h1 : ¬ x1 = (-1)) (h2 : cal 177 [vI x1, vI (c 1 11)] (SH T, c) = some (some (vI r1), (SH T, c2))) (h3 : r1 = 0) : cal 175 [vR 1, vI x1] (SH T, c) = some (some (vI 0), (SH T, c2)) := by
  refine (ev_eq _ _ _ _ _ _).trans ?_
  refine (if_neg h1).trans ?_
  refine (el_call rfl h2).trans ?_
  refine (if_pos h3).trans ?_
  refine (ev_eq _ _ _ _ _ _).trans ?_
  rfl
theorem E_X11_isRootOrCopy_3 {T : List Shp} {c : Nat → Int → Int} {x1 : Int} {r1 : Int} {c2 : Nat → Int → Int} (h1 : ¬ x1 = (-1)) (h2 : cal 177 [vI x1, vI (c 1 11)] (SH T, c) = some (some (vI r1), (SH T, c2))) (h3 : ¬ r1 = 0) : cal 175 [vR 1, vI x1] (SH T, c) = some (some (vI 1), (SH T, c2)) := by
  refine (ev_eq _ _ _ _ _ _).trans ?_
  refine (if_neg h1).trans ?_
  refine (el_call rfl h2).trans ?_
  refine (if_neg h3).trans ?_
  refine (ev_eq _ _ _ _ _ _).trans ?_
  rfl
theorem E_X11_highestTerm_1 {T : List Shp} {c : Nat → Int → Int} {x0 : Int} (h1 : x0 = 0) : cal 176 [vI x0] (SH T, c) = some (some (vI 99), (SH T, c)) := by
  refine (ev_eq _ _ _ _ _ _).trans ?_
  refine (if_pos h1).trans ?_
  refine (ev_eq _ _ _ _ _ _).trans ?_
  rfl
theorem E_X11_highestTerm_2 {T : List Shp} {c : Nat → Int → Int} {x0 : Int} (h1 : x0 = 1) : cal 176 [vI x0] (SH T, c) = some (some (vI 5), (SH T, c)) := by
  refine (ev_eq _ _ _ _ _ _).trans ?_
  refine (if_neg (by omega)).trans ?_
  refine (if_pos h1).trans ?_
  refine (ev_eq _ _ _ _ _ _).trans ?_
  rfl
theorem E_X11_highestTerm_3 {T : List Shp} {c : Nat → Int → Int} {x0 : Int} (h1 : x0 = 2) : cal 176 [vI x0] (SH T, c) = some (some (vI 9), (SH T, c)) := by
  refine (ev_eq _ _ _ _ _ _).trans ?_
  refine (if_neg (by omega)).trans ?_
  refine (if_neg (by omega)).trans ?_
  refine (if_pos h1).trans ?_
  refine (ev_eq _ _ _ _ _ _).trans ?_
  rfl
theorem E_X11_highestTerm_4 {T : List Shp} {c : Nat → Int → Int} {x0 : Int} (h1 : x0 = 3) : cal 176 [vI x0] (SH T, c) = some (some (vI 999), (SH T, c)) := by
  refine (ev_eq _ _ _ _ _ _).trans ?_
  refine (if_neg (by omega)).trans ?_
  refine (if_neg (by omega)).trans ?_
  refine (if_neg (by omega)).trans ?_
  refine (if_pos h1).trans ?_
  refine (ev_eq _ _ _ _ _ _).trans ?_
  rfl
theorem E_X11_highestTerm_5 {T : List Shp} {c : Nat → Int → Int} {x0 : Int} (h1 : ¬ x0 = 0 ∧ ¬ x0 = 1 ∧ ¬ x0 = 2 ∧ ¬ x0 = 3) : cal 176 [vI x0] (SH T, c) = some (some (vI 3), (SH T, c)) := by
  refine (ev_eq _ _ _ _ _ _).trans ?_
  refine (if_neg (h1.1)).trans ?_
  refine (if_neg (h1.2.1)).trans ?_
  refine (if_neg (h1.2.2.1)).trans ?_
  refine (if_neg (h1.2.2.2)).trans ?_
  refine (ev_eq _ _ _ _ _ _).trans ?_
  rfl
theorem E_X11_inside_1 {T : List Shp} {c : Nat → Int → Int} {x0 x1 : Int} (h1 : x0 < 0) : cal 177 [vI x0, vI x1] (SH T, c) = some (some (vI 0), (SH T, c)) := by
  refine (ev_eq _ _ _ _ _ _).trans ?_
  refine (if_pos h1).trans ?_
  refine (ev_eq _ _ _ _ _ _).trans ?_
  rfl
theorem E_X11_inside_2 {T : List Shp} {c : Nat → Int → Int} {x0 x1 : Int} (h1 : ¬ x0 < 0) (h2 : x0 < x1) : cal 177 [vI x0, vI x1] (SH T, c) = some (some (vI 1), (SH T, c)) := by
  refine (ev_eq _ _ _ _ _ _).trans ?_
  refine (if_neg h1).trans ?_
  refine (if_pos h2).trans ?_
  rfl
theorem E_X11_inside_3 {T : List Shp} {c : Nat → Int → Int} {x0 x1 : Int} (h1 : ¬ x0 < 0) (h2 : ¬ x0 < x1) : cal 177 [vI x0, vI x1] (SH T, c) = some (some (vI 0), (SH T, c)) := by
  refine (ev_eq _ _ _ _ _ _).trans ?_
  refine (if_neg h1).trans ?_
  refine (if_neg h2).trans ?_
  refine (ev_eq _ _ _ _ _ _).trans ?_
  rfl
theorem E_X11_isCell_1 {T : List Shp} {c : Nat → Int → Int} {x0 : Int} (h1 : x0 < 0) : cal 178 [vI x0] (SH T, c) = some (some (vI 0), (SH T, c)) := by
  refine (ev_eq _ _ _ _ _ _).trans ?_
  refine (if_pos h1).trans ?_
  refine (ev_eq _ _ _ _ _ _).trans ?_
  rfl
theorem E_X11_isCell_2 {T : List Shp} {c : Nat → Int → Int} {x0 : Int} (h1 : ¬ x0 < 0) (h2 : x0 < 12) : cal 178 [vI x0] (SH T, c) = some (some (vI 1), (SH T, c)) := by
  refine (ev_eq _ _ _ _ _ _).trans ?_
  refine (if_neg h1).trans ?_
  refine (if_pos h2).trans ?_
  rfl
theorem E_X11_isCell_3 {T : List Shp} {c : Nat → Int → Int} {x0 : Int} (h1 : ¬ x0 < 0) (h2 : ¬ x0 < 12) : cal 178 [vI x0] (SH T, c) = some (some (vI 0), (SH T, c)) := by
  refine (ev_eq _ _ _ _ _ _).trans ?_
  refine (if_neg h1).trans ?_
  refine (if_neg h2).trans ?_
  refine (ev_eq _ _ _ _ _ _).trans ?_
  rfl
theorem E_X11_isTone_1 {T : List Shp} {c : Nat → Int → Int} {x0 : Int} (h1 : x0 < 0) : cal 179 [vI x0] (SH T, c) = some (some (vI 0), (SH T, c)) := by
  refine (ev_eq _ _ _ _ _ _).trans ?_
  refine (if_pos h1).trans ?_
  refine (ev_eq _ _ _ _ _ _).trans ?_
  rfl
theorem E_X11_isTone_2 {T : List Shp} {c : Nat → Int → Int} {x0 : Int} (h1 : ¬ x0 < 0) (h2 : x0 < 10) : cal 179 [vI x0] (SH T, c) = some (some (vI 1), (SH T, c)) := by
  refine (ev_eq _ _ _ _ _ _).trans ?_
  refine (if_neg h1).trans ?_
  refine (if_pos h2).trans ?_
  rfl
theorem E_X11_isTone_3 {T : List Shp} {c : Nat → Int → Int} {x0 : Int} (h1 : ¬ x0 < 0) (h2 : ¬ x0 < 10) : cal 179 [vI x0] (SH T, c) = some (some (vI 0), (SH T, c)) := by
  refine (ev_eq _ _ _ _ _ _).trans ?_
  refine (if_neg h1).trans ?_
  refine (if_neg h2).trans ?_
  refine (ev_eq _ _ _ _ _ _).trans ?_
  rfl
theorem E_X11_canBeCopy_1 {T : List Shp} {c : Nat → Int → Int} {x0 : Int} (h1 : x0 < (-1)) : cal 180 [vI x0] (SH T, c) = some (some (vI 0), (SH T, c)) := by
  refine (ev_eq _ _ _ _ _ _).trans ?_
  refine (if_pos h1).trans ?_
  refine (ev_eq _ _ _ _ _ _).trans ?_
  rfl
theorem E_X11_canBeCopy_2 {T : List Shp} {c : Nat → Int → Int} {x0 : Int} (h1 : ¬ x0 < (-1)) (h2 : x0 < 6) : cal 180 [vI x0] (SH T, c) = some (some (vI 1), (SH T, c)) := by
  refine (ev_eq _ _ _ _ _ _).trans ?_
  refine (if_neg h1).trans ?_
  refine (if_pos h2).trans ?_
  rfl
theorem E_X11_canBeCopy_3 {T : List Shp} {c : Nat → Int → Int} {x0 : Int} (h1 : ¬ x0 < (-1)) (h2 : ¬ x0 < 6) : cal 180 [vI x0] (SH T, c) = some (some (vI 0), (SH T, c)) := by
  refine (ev_eq _ _ _ _ _ _).trans ?_
  refine (if_neg h1).trans ?_
  refine (if_neg h2).trans ?_
  refine (ev_eq _ _ _ _ _ _).trans ?_
  rfl
theorem E_X11_bit_1 {T : List Shp} {c : Nat → Int → Int} {x0 : Int} (h1 : x0 = 0) : cal 181 [vI x0] (SH T, c) = some (some (vI 0), (SH T, c)) := by
  refine (ev_eq _ _ _ _ _ _).trans ?_
  refine (if_pos h1).trans ?_
  refine (ev_eq _ _ _ _ _ _).trans ?_
  rfl
theorem E_X11_bit_2 {T : List Shp} {c : Nat → Int → Int} {x0 : Int} (h1 : ¬ x0 = 0) : cal 181 [vI x0] (SH T, c) = some (some (vI 1), (SH T, c)) := by
  refine (ev_eq _ _ _ _ _ _).trans ?_
  refine (if_neg h1).trans ?_
  rfl
theorem E_X11_lowestIn {T : List Shp} {c : Nat → Int → Int} {x0 : Int}  : cal 182 [vI x0] (SH T, c) = ev 182 1 2 [vI x0, vI 0] [] (SH T, c) := by
  refine (ev_eq _ _ _ _ _ _).trans ?_
  rfl
theorem B_X11_lowestIn_2_1 {T : List Shp} {c : Nat → Int → Int} {x0 x1 : Int} (h1 : x1 < 31) (h2 : (iand (ishr x0 x1) 1) = 1) : ev 182 1 2 [vI x0, vI x1] [] (SH T, c) = some (some (vI x1), (SH T, c)) := by
  refine (ev_eq _ _ _ _ _ _).trans ?_
  refine (if_pos h1).trans ?_
  refine (if_pos h2).trans ?_
  rfl
theorem B_X11_lowestIn_2_2 {T : List Shp} {c : Nat → Int → Int} {x0 x1 : Int} (h1 : x1 < 31) (h2 : ¬ (iand (ishr x0 x1) 1) = 1) : ev 182 1 2 [vI x0, vI x1] [] (SH T, c) = ev 182 1 2 [vI x0, vI (w32 (x1 + 1))] [] (SH T, c) := by
  refine (ev_eq _ _ _ _ _ _).trans ?_
  refine (if_pos h1).trans ?_
  refine (if_neg h2).trans ?_
  refine (ev_eq _ _ _ _ _ _).trans ?_
  rfl
theorem B_X11_lowestIn_2_3 {T : List Shp} {c : Nat → Int → Int} {x0 x1 : Int} (h1 : ¬ x1 < 31) : ev 182 1 2 [vI x0, vI x1] [] (SH T, c) = some (some (vI (-1)), (SH T, c)) := by
  refine (ev_eq _ _ _ _ _ _).trans ?_
  refine (if_neg h1).trans ?_
  refine (ev_eq _ _ _ _ _ _).trans ?_
  rfl
theorem E_X11_highestIn {T : List Shp} {c : Nat → Int → Int} {x0 : Int}  : cal 183 [vI x0] (SH T, c) = ev 183 1 3 [vI x0, vI 30] [] (SH T, c) := by
  refine (ev_eq _ _ _ _ _ _).trans ?_
  rfl
theorem B_X11_highestIn_3_1 {T : List Shp} {c : Nat → Int → Int} {x0 x1 : Int} (h1 : x1 < 0) : ev 183 1 3 [vI x0, vI x1] [] (SH T, c) = some (some (vI (-1)), (SH T, c)) := by
  refine (ev_eq _ _ _ _ _ _).trans ?_
  refine (if_pos h1).trans ?_
  refine (ev_eq _ _ _ _ _ _).trans ?_
  rfl
theorem B_X11_highestIn_3_2 {T : List Shp} {c : Nat → Int → Int} {x0 x1 : Int} (h1 : ¬ x1 < 0) (h2 : (iand (ishr x0 x1) 1) = 1) : ev 183 1 3 [vI x0, vI x1] [] (SH T, c) = some (some (vI x1), (SH T, c)) := by
  refine (ev_eq _ _ _ _ _ _).trans ?_
  refine (if_neg h1).trans ?_
  refine (if_pos h2).trans ?_
  rfl
theorem B_X11_highestIn_3_3 {T : List Shp} {c : Nat → Int → Int} {x0 x1 : Int} (h1 : ¬ x1 < 0) (h2 : ¬ (iand (ishr x0 x1) 1) = 1) : ev 183 1 3 [vI x0, vI x1] [] (SH T, c) = ev 183 1 3 [vI x0, vI (w32 (x1 + (-1)))] [] (SH T, c) := by
  refine (ev_eq _ _ _ _ _ _).trans ?_
  refine (if_neg h1).trans ?_
  refine (if_neg h2).trans ?_
  refine (ev_eq _ _ _ _ _ _).trans ?_
  rfl
theorem E_X11_nearest_1 {T : List Shp} {c : Nat → Int → Int} {x0 x1 x2 : Int} (h1 : x0 < x1) : cal 184 [vI x0, vI x1, vI x2] (SH T, c) = some (some (vI x1), (SH T, c)) := by
  refine (ev_eq _ _ _ _ _ _).trans ?_
  refine (if_pos h1).trans ?_
  rfl
theorem E_X11_nearest_2 {T : List Shp} {c : Nat → Int → Int} {x0 x1 x2 : Int} (h1 : ¬ x0 < x1) (h2 : x2 < x0) : cal 184 [vI x0, vI x1, vI x2] (SH T, c) = some (some (vI x2), (SH T, c)) := by
  refine (ev_eq _ _ _ _ _ _).trans ?_
  refine (if_neg h1).trans ?_
  refine (ev_eq _ _ _ _ _ _).trans ?_
  refine (if_pos h2).trans ?_
  rfl
theorem E_X11_nearest_3 {T : List Shp} {c : Nat → Int → Int} {x0 x1 x2 : Int} (h1 : ¬ x0 < x1) (h2 : ¬ x2 < x0) : cal 184 [vI x0, vI x1, vI x2] (SH T, c) = some (some (vI x0), (SH T, c)) := by
  refine (ev_eq _ _ _ _ _ _).trans ?_
  refine (if_neg h1).trans ?_
  refine (ev_eq _ _ _ _ _ _).trans ?_
  refine (if_neg h2).trans ?_
  refine (ev_eq _ _ _ _ _ _).trans ?_
  rfl
theorem E_X12_in_1 {T : List Shp} {c : Nat → Int → Int} {x0 x2 x4 : Int} (h1 : x0 < x2) : cal 186 [vL x0, vL x2, vL x4] (SH T, c) = some (some (vI 0), (SH T, c)) := by
  refine (ev_eq _ _ _ _ _ _).trans ?_
  refine (if_pos h1).trans ?_
  refine (ev_eq _ _ _ _ _ _).trans ?_
  rfl
theorem E_X12_in_2 {T : List Shp} {c : Nat → Int → Int} {x0 x2 x4 : Int} (h1 : x0 = x2) (h2 : x0 < x4) : cal 186 [vL x0, vL x2, vL x4] (SH T, c) = some (some (vI 1), (SH T, c)) := by
  refine (ev_eq _ _ _ _ _ _).trans ?_
  refine (if_neg (by omega)).trans ?_
  refine (if_pos h1).trans ?_
  refine (if_pos h2).trans ?_
  rfl
theorem E_X12_in_3 {T : List Shp} {c : Nat → Int → Int} {x0 x2 x4 : Int} (h1 : x0 = x2) (h2 : x0 = x4) : cal 186 [vL x0, vL x2, vL x4] (SH T, c) = some (some (vI 1), (SH T, c)) := by
  refine (ev_eq _ _ _ _ _ _).trans ?_
  refine (if_neg (by omega)).trans ?_
  refine (if_pos h1).trans ?_
  refine (if_neg (by omega)).trans ?_
  refine (if_pos h2).trans ?_
  rfl
theorem E_X12_in_4 {T : List Shp} {c : Nat → Int → Int} {x0 x2 x4 : Int} (h1 : x0 = x2) (h2 : ¬ x0 < x4 ∧ ¬ x0 = x4) : cal 186 [vL x0, vL x2, vL x4] (SH T, c) = some (some (vI 0), (SH T, c)) := by
  refine (ev_eq _ _ _ _ _ _).trans ?_
  refine (if_neg (by omega)).trans ?_
  refine (if_pos h1).trans ?_
  refine (if_neg h2.1).trans ?_
  refine (if_neg h2.2).trans ?_
  refine (ev_eq _ _ _ _ _ _).trans ?_
  rfl
theorem E_X12_in_5 {T : List Shp} {c : Nat → Int → Int} {x0 x2 x4 : Int} (h1 : ¬ x0 < x2 ∧ ¬ x0 = x2) (h2 : x0 < x4) : cal 186 [vL x0, vL x2, vL x4] (SH T, c) = some (some (vI 1), (SH T, c)) := by
  refine (ev_eq _ _ _ _ _ _).trans ?_
  refine (if_neg h1.1).trans ?_
  refine (if_neg h1.2).trans ?_
  refine (if_pos h2).trans ?_
  rfl
theorem E_X12_in_6 {T : List Shp} {c : Nat → Int → Int} {x0 x2 x4 : Int} (h1 : ¬ x0 < x2 ∧ ¬ x0 = x2) (h2 : x0 = x4) : cal 186 [vL x0, vL x2, vL x4] (SH T, c) = some (some (vI 1), (SH T, c)) := by
  refine (ev_eq _ _ _ _ _ _).trans ?_
  refine (if_neg h1.1).trans ?_
  refine (if_neg h1.2).trans ?_
  refine (if_neg (by omega)).trans ?_
  refine (if_pos h2).trans ?_
  rfl
theorem E_X12_in_7 {T : List Shp} {c : Nat → Int → Int} {x0 x2 x4 : Int} (h1 : ¬ x0 < x2 ∧ ¬ x0 = x2) (h2 : ¬ x0 < x4 ∧ ¬ x0 = x4) : cal 186 [vL x0, vL x2, vL x4] (SH T, c) = some (some (vI 0), (SH T, c)) := by
  refine (ev_eq _ _ _ _ _ _).trans ?_
  refine (if_neg h1.1).trans ?_
  refine (if_neg h1.2).trans ?_
  refine (if_neg h2.1).trans ?_
  refine (if_neg h2.2).trans ?_
  refine (ev_eq _ _ _ _ _ _).trans ?_
  rfl
theorem E_X12_is_1 {T : List Shp} {c : Nat → Int → Int} {x0 x1 : Int} (h1 : (iand (ishr x0 x1) 1) = 1) : cal 187 [vI x0, vI x1] (SH T, c) = some (some (vI 1), (SH T, c)) := by
  refine (ev_eq _ _ _ _ _ _).trans ?_
  refine (if_pos h1).trans ?_
  rfl
theorem E_X12_is_2 {T : List Shp} {c : Nat → Int → Int} {x0 x1 : Int} (h1 : ¬ (iand (ishr x0 x1) 1) = 1) : cal 187 [vI x0, vI x1] (SH T, c) = some (some (vI 0), (SH T, c)) := by
  refine (ev_eq _ _ _ _ _ _).trans ?_
  refine (if_neg h1).trans ?_
  refine (ev_eq _ _ _ _ _ _).trans ?_
  rfl
theorem E_X12_size_1 {T : List Shp} {c : Nat → Int → Int} {x0 : Int} (h1 : x0 < 0) : cal 188 [vI x0] (SH T, c) = some (some (vI (w32 (-x0))), (SH T, c)) := by
  refine (ev_eq _ _ _ _ _ _).trans ?_
  refine (if_pos h1).trans ?_
  rfl
theorem E_X12_size_2 {T : List Shp} {c : Nat → Int → Int} {x0 : Int} (h1 : ¬ x0 < 0) : cal 188 [vI x0] (SH T, c) = some (some (vI x0), (SH T, c)) := by
  refine (ev_eq _ _ _ _ _ _).trans ?_
  refine (if_neg h1).trans ?_
  refine (ev_eq _ _ _ _ _ _).trans ?_
  rfl
theorem E_X12_within_1 {T : List Shp} {c : Nat → Int → Int} {x0 x2 x3 : Int} (h1 : x0 < x2) : cal 189 [vL x0, vI x2, vI x3] (SH T, c) = some (some (vI x2), (SH T, c)) := by
  refine (ev_eq _ _ _ _ _ _).trans ?_
  refine (if_pos h1).trans ?_
  rfl
theorem E_X12_within_2 {T : List Shp} {c : Nat → Int → Int} {x0 x2 x3 : Int} (h1 : x0 = x2) (h2 : x0 < x3) : cal 189 [vL x0, vI x2, vI x3] (SH T, c) = some (some (vI (w32 x0)), (SH T, c)) := by
  refine (ev_eq _ _ _ _ _ _).trans ?_
  refine (if_neg (by omega)).trans ?_
  refine (if_pos h1).trans ?_
  refine (ev_eq _ _ _ _ _ _).trans ?_
  refine (if_pos h2).trans ?_
  refine (ev_eq _ _ _ _ _ _).trans ?_
  rfl
theorem E_X12_within_3 {T : List Shp} {c : Nat → Int → Int} {x0 x2 x3 : Int} (h1 : x0 = x2) (h2 : x0 = x3) : cal 189 [vL x0, vI x2, vI x3] (SH T, c) = some (some (vI (w32 x0)), (SH T, c)) := by
  refine (ev_eq _ _ _ _ _ _).trans ?_
  refine (if_neg (by omega)).trans ?_
  refine (if_pos h1).trans ?_
  refine (ev_eq _ _ _ _ _ _).trans ?_
  refine (if_neg (by omega)).trans ?_
  refine (if_pos h2).trans ?_
  refine (ev_eq _ _ _ _ _ _).trans ?_
  rfl
theorem E_X12_within_4 {T : List Shp} {c : Nat → Int → Int} {x0 x2 x3 : Int} (h1 : x0 = x2) (h2 : ¬ x0 < x3 ∧ ¬ x0 = x3) : cal 189 [vL x0, vI x2, vI x3] (SH T, c) = some (some (vI x3), (SH T, c)) := by
  refine (ev_eq _ _ _ _ _ _).trans ?_
  refine (if_neg (by omega)).trans ?_
  refine (if_pos h1).trans ?_
  refine (ev_eq _ _ _ _ _ _).trans ?_
  refine (if_neg h2.1).trans ?_
  refine (if_neg h2.2).trans ?_
  rfl
theorem E_X12_within_5 {T : List Shp} {c : Nat → Int → Int} {x0 x2 x3 : Int} (h1 : ¬ x0 < x2 ∧ ¬ x0 = x2) (h2 : x0 < x3) : cal 189 [vL x0, vI x2, vI x3] (SH T, c) = some (some (vI (w32 x0)), (SH T, c)) := by
  refine (ev_eq _ _ _ _ _ _).trans ?_
  refine (if_neg h1.1).trans ?_
  refine (if_neg h1.2).trans ?_
  refine (ev_eq _ _ _ _ _ _).trans ?_
  refine (if_pos h2).trans ?_
  refine (ev_eq _ _ _ _ _ _).trans ?_
  rfl
theorem E_X12_within_6 {T : List Shp} {c : Nat → Int → Int} {x0 x2 x3 : Int} (h1 : ¬ x0 < x2 ∧ ¬ x0 = x2) (h2 : x0 = x3) : cal 189 [vL x0, vI x2, vI x3] (SH T, c) = some (some (vI (w32 x0)), (SH T, c)) := by
  refine (ev_eq _ _ _ _ _ _).trans ?_
  refine (if_neg h1.1).trans ?_
  refine (if_neg h1.2).trans ?_
  refine (ev_eq _ _ _ _ _ _).trans ?_
  refine (if_neg (by omega)).trans ?_
  refine (if_pos h2).trans ?_
  refine (ev_eq _ _ _ _ _ _).trans ?_
  rfl
theorem E_X12_within_7 {T : List Shp} {c : Nat → Int → Int} {x0 x2 x3 : Int} (h1 : ¬ x0 < x2 ∧ ¬ x0 = x2) (h2 : ¬ x0 < x3 ∧ ¬ x0 = x3) : cal 189 [vL x0, vI x2, vI x3] (SH T, c) = some (some (vI x3), (SH T, c)) := by
  refine (ev_eq _ _ _ _ _ _).trans ?_
  refine (if_neg h1.1).trans ?_
  refine (if_neg h1.2).trans ?_
  refine (ev_eq _ _ _ _ _ _).trans ?_
  refine (if_neg h2.1).trans ?_
  refine (if_neg h2.2).trans ?_
  rfl
theorem E_X12_tell_1 {T : List Shp} {c : Nat → Int → Int} {x1 : Int} (h1 : x1 < 0) : cal 190 [vR 78, vI x1] (SH T, c) = ev 190 1 10 [vR 78, vI x1] [vI x1, vR 78] (SH T, c) := by
  refine (ev_eq _ _ _ _ _ _).trans ?_
  refine (if_pos h1).trans ?_
  rfl
theorem E_X12_tell_2 {T : List Shp} {c : Nat → Int → Int} {x1 : Int} (h1 : ¬ x1 < 0) : cal 190 [vR 78, vI x1] (SH T, c) = ev 190 1 10 [vR 78, vI x1] [vI 0, vR 78] (SH T, c) := by
  refine (ev_eq _ _ _ _ _ _).trans ?_
  refine (if_neg h1).trans ?_
  refine (ev_eq _ _ _ _ _ _).trans ?_
  rfl
theorem B_X12_tell_10_1 {T : List Shp} {c : Nat → Int → Int} {x1 y0 : Int} (h1 : x1 < 0) (h2 : 0 ≤ (w32 (-x1)) ∧ (w32 (-x1)) < 7) (h3 : 0 ≤ (w32 (-x1)) ∧ (w32 (-x1)) < 7) : ev 190 1 10 [vR 78, vI x1] [vI y0, vR 78] (SH T, c) = some (some (vI x1), (SH T, (up (up c 77 1 y0) 78 (w32 (-x1)) (w32 ((c 78 (w32 (-x1))) + 1))))) := by
  refine (ev_eq _ _ _ _ _ _).trans ?_
  refine (if_pos h1).trans ?_
  refine (if_pos h2).trans ?_
  refine (if_pos h3).trans ?_
  refine (ev_eq _ _ _ _ _ _).trans ?_
  rfl
theorem B_X12_tell_10_2 {T : List Shp} {c : Nat → Int → Int} {x1 y0 : Int} (h1 : ¬ x1 < 0) : ev 190 1 10 [vR 78, vI x1] [vI y0, vR 78] (SH T, c) = some (some (vI x1), (SH T, (up c 77 1 y0))) := by
  refine (ev_eq _ _ _ _ _ _).trans ?_
  refine (if_neg h1).trans ?_
  refine (ev_eq _ _ _ _ _ _).trans ?_
  rfl
theorem E_X12_change {T : List Shp} {c : Nat → Int → Int} {x1 x2 : Int} (h1 : 0 ≤ x1 ∧ x1 < 5780) (h2 : 0 ≤ x1 ∧ x1 < 5780) : cal 191 [vR 78, vI x1, vI x2] (SH T, c) = some (some (vI (c 79 x1)), (SH T, (up (up c 79 x1 x2) 77 1 0))) := by
  refine (ev_eq _ _ _ _ _ _).trans ?_
  refine (if_pos h1).trans ?_
  refine (if_pos h2).trans ?_
  rfl
theorem E_X12_image_1 {T : List Shp} {c : Nat → Int → Int} {x1 : Int} {r1 : Int} {c2 : Nat → Int → Int} {r3 : Int} {c4 : Nat → Int → Int} (h1 : cal 186 [vL x1, vL 0, vL 1] (SH T, (up c 77 0 0)) = some (some (vI r1), (SH T, c2))) (h2 : r1 = 0) (h3 : cal 190 [vR 78, vI (-1)] (SH T, c2) = some (some (vI r3), (SH T, c4))) : cal 192 [vR 78, vI x1] (SH T, c) = some (some (vI r3), (SH T, c4)) := by
  refine (ev_eq _ _ _ _ _ _).trans ?_
  refine (el_call rfl h1).trans ?_
  refine (if_pos h2).trans ?_
  refine (el_call rfl h3).trans ?_
  rfl
theorem E_X12_image_2 {T : List Shp} {c : Nat → Int → Int} {x1 : Int} {r1 : Int} {c2 : Nat → Int → Int} (h1 : cal 186 [vL x1, vL 0, vL 1] (SH T, (up c 77 0 0)) = some (some (vI r1), (SH T, c2))) (h2 : ¬ r1 = 0) : cal 192 [vR 78, vI x1] (SH T, c) = ev 192 2 23 [vR 78, vI x1, vI 0] [] (SH T, c2) := by
  refine (ev_eq _ _ _ _ _ _).trans ?_
  refine (el_call rfl h1).trans ?_
  refine (if_neg h2).trans ?_
  refine (ev_eq _ _ _ _ _ _).trans ?_
  rfl
theorem B_X12_image_23_1 {T : List Shp} {c : Nat → Int → Int} {x1 x2 : Int} (h1 : x2 < 5780) (h2 : 0 ≤ x2 ∧ x2 < 5780) (h3 : 0 ≤ (w32 ((w32 (5780 * x1)) + x2)) ∧ (w32 ((w32 (5780 * x1)) + x2)) < 11560) : ev 192 2 23 [vR 78, vI x1, vI x2] [] (SH T, c) = ev 192 2 23 [vR 78, vI x1, vI (w32 (x2 + 1))] [] (SH T, (up c 80 (w32 ((w32 (5780 * x1)) + x2)) (c 79 x2))) := by
  refine (ev_eq _ _ _ _ _ _).trans ?_
  refine (if_pos h1).trans ?_
  refine (if_pos h2).trans ?_
  refine (if_pos h3).trans ?_
  rfl
theorem B_X12_image_23_2 {T : List Shp} {c : Nat → Int → Int} {x1 x2 : Int} {r1 : Int} {c2 : Nat → Int → Int} (h1 : ¬ x2 < 5780) (h2 : 0 ≤ x1 ∧ x1 < 2) (h3 : cal 190 [vR 78, vI 0] (SH T, (up c 82 x1 1)) = some (some (vI r1), (SH T, c2))) : ev 192 2 23 [vR 78, vI x1, vI x2] [] (SH T, c) = some (some (vI r1), (SH T, c2)) := by
  refine (ev_eq _ _ _ _ _ _).trans ?_
  refine (if_neg h1).trans ?_
  refine (ev_eq _ _ _ _ _ _).trans ?_
  refine (if_pos h2).trans ?_
  refine (el_call rfl h3).trans ?_
  rfl
theorem E_X12_back_1 {T : List Shp} {c : Nat → Int → Int} {x1 : Int} {r1 : Int} {c2 : Nat → Int → Int} {r3 : Int} {c4 : Nat → Int → Int} (h1 : cal 186 [vL x1, vL 0, vL 1] (SH T, (up c 77 0 0)) = some (some (vI r1), (SH T, c2))) (h2 : r1 = 0) (h3 : cal 190 [vR 78, vI (-1)] (SH T, c2) = some (some (vI r3), (SH T, c4))) : cal 193 [vR 78, vI x1] (SH T, c) = some (some (vI r3), (SH T, c4)) := by
  refine (ev_eq _ _ _ _ _ _).trans ?_
  refine (el_call rfl h1).trans ?_
  refine (if_pos h2).trans ?_
  refine (el_call rfl h3).trans ?_
  rfl
theorem E_X12_back_2 {T : List Shp} {c : Nat → Int → Int} {x1 : Int} {r1 : Int} {c2 : Nat → Int → Int} {r3 : Int} {c4 : Nat → Int → Int} (h1 : cal 186 [vL x1, vL 0, vL 1] (SH T, (up c 77 0 0)) = some (some (vI r1), (SH T, c2))) (h2 : ¬ r1 = 0) (h3 : 0 ≤ x1 ∧ x1 < 2) (h4 : (c2 82 x1) = 0) (h5 : cal 190 [vR 78, vI (-2)] (SH T, c2) = some (some (vI r3), (SH T, c4))) : cal 193 [vR 78, vI x1] (SH T, c) = some (some (vI r3), (SH T, c4)) := by
  refine (ev_eq _ _ _ _ _ _).trans ?_
  refine (el_call rfl h1).trans ?_
  refine (if_neg h2).trans ?_
  refine (ev_eq _ _ _ _ _ _).trans ?_
  refine (if_pos h3).trans ?_
  refine (if_pos h4).trans ?_
  refine (el_call rfl h5).trans ?_
  rfl
theorem E_X12_back_3 {T : List Shp} {c : Nat → Int → Int} {x1 : Int} {r1 : Int} {c2 : Nat → Int → Int} (h1 : cal 186 [vL x1, vL 0, vL 1] (SH T, (up c 77 0 0)) = some (some (vI r1), (SH T, c2))) (h2 : ¬ r1 = 0) (h3 : 0 ≤ x1 ∧ x1 < 2) (h4 : ¬ (c2 82 x1) = 0) : cal 193 [vR 78, vI x1] (SH T, c) = ev 193 2 39 [vR 78, vI x1, vI 0] [] (SH T, c2) := by
  refine (ev_eq _ _ _ _ _ _).trans ?_
  refine (el_call rfl h1).trans ?_
  refine (if_neg h2).trans ?_
  refine (ev_eq _ _ _ _ _ _).trans ?_
  refine (if_pos h3).trans ?_
  refine (if_neg h4).trans ?_
  refine (ev_eq _ _ _ _ _ _).trans ?_
  rfl
theorem B_X12_back_39_1 {T : List Shp} {c : Nat → Int → Int} {x1 x2 : Int} (h1 : x2 < 5780) (h2 : 0 ≤ (w32 ((w32 (5780 * x1)) + x2)) ∧ (w32 ((w32 (5780 * x1)) + x2)) < 11560) (h3 : 0 ≤ x2 ∧ x2 < 5780) : ev 193 2 39 [vR 78, vI x1, vI x2] [] (SH T, c) = ev 193 2 39 [vR 78, vI x1, vI (w32 (x2 + 1))] [] (SH T, (up c 79 x2 (c 80 (w32 ((w32 (5780 * x1)) + x2))))) := by
  refine (ev_eq _ _ _ _ _ _).trans ?_
  refine (if_pos h1).trans ?_
  refine (if_pos h2).trans ?_
  refine (if_pos h3).trans ?_
  rfl
theorem B_X12_back_39_2 {T : List Shp} {c : Nat → Int → Int} {x1 x2 : Int} {r1 : Int} {c2 : Nat → Int → Int} (h1 : ¬ x2 < 5780) (h2 : cal 190 [vR 78, vI 0] (SH T, c) = some (some (vI r1), (SH T, c2))) : ev 193 2 39 [vR 78, vI x1, vI x2] [] (SH T, c) = some (some (vI r1), (SH T, c2)) := by
  refine (ev_eq _ _ _ _ _ _).trans ?_
  refine (if_neg h1).trans ?_
  refine (ev_eq _ _ _ _ _ _).trans ?_
  refine (el_call rfl h2).trans ?_
  rfl
theorem E_X12_isCell {T : List Shp} {c : Nat → Int → Int} {x0 : Int} {r1 : Int} {c2 : Nat → Int → Int} (h1 : cal 186 [vL x0, vL 0, vL 11] (SH T, c) = some (some (vI r1), (SH T, c2))) (h2 : r1 = 0 ∨ r1 = 1) : cal 194 [vI x0] (SH T, c) = some (some (vI r1), (SH T, c2)) := by
  refine (ev_eq _ _ _ _ _ _).trans ?_
  refine (el_call rfl h1).trans ?_
  refine (if_pos h2).trans ?_
  rfl
theorem E_X12_isTone {T : List Shp} {c : Nat → Int → Int} {x0 : Int} {r1 : Int} {c2 : Nat → Int → Int} (h1 : cal 186 [vL x0, vL 0, vL 9] (SH T, c) = some (some (vI r1), (SH T, c2))) (h2 : r1 = 0 ∨ r1 = 1) : cal 195 [vI x0] (SH T, c) = some (some (vI r1), (SH T, c2)) := by
  refine (ev_eq _ _ _ _ _ _).trans ?_
  refine (el_call rfl h1).trans ?_
  refine (if_pos h2).trans ?_
  rfl
theorem E_X12_isYear {T : List Shp} {c : Nat → Int → Int} {x0 : Int} {r1 : Int} {c2 : Nat → Int → Int} (h1 : cal 186 [vL x0, vL 0, vL 99] (SH T, c) = some (some (vI r1), (SH T, c2))) (h2 : r1 = 0 ∨ r1 = 1) : cal 196 [vI x0] (SH T, c) = some (some (vI r1), (SH T, c2)) := by
  refine (ev_eq _ _ _ _ _ _).trans ?_
  refine (el_call rfl h1).trans ?_
  refine (if_pos h2).trans ?_
  rfl
theorem E_X12_years {T : List Shp} {c : Nat → Int → Int}  : cal 197 [vR 78] (SH T, c) = some (some (vI (c 79 4)), (SH T, c)) := by
  refine (ev_eq _ _ _ _ _ _).trans ?_
  rfl
theorem E_X12_isLayer {T : List Shp} {c : Nat → Int → Int} {x1 : Int} {r1 : Int} {c2 : Nat → Int → Int} {r3 : Int} {c4 : Nat → Int → Int} (h1 : cal 197 [vR 78] (SH T, c) = some (some (vI r1), (SH T, c2))) (h2 : cal 186 [vL x1, vL 0, vL r1] (SH T, c2) = some (some (vI r3), (SH T, c4))) (h3 : r3 = 0 ∨ r3 = 1) : cal 198 [vR 78, vI x1] (SH T, c) = some (some (vI r3), (SH T, c4)) := by
  refine (ev_eq _ _ _ _ _ _).trans ?_
  refine (el_call rfl h1).trans ?_
  refine (el_call rfl h2).trans ?_
  refine (if_pos h3).trans ?_
  rfl
theorem E_X12_isPainter {T : List Shp} {c : Nat → Int → Int} {x1 : Int} {r1 : Int} {c2 : Nat → Int → Int} (h1 : cal 186 [vL x1, vL 0, vL (w64 ((c 79 0) - 1))] (SH T, c) = some (some (vI r1), (SH T, c2))) (h2 : r1 = 0 ∨ r1 = 1) : cal 199 [vR 78, vI x1] (SH T, c) = some (some (vI r1), (SH T, c2)) := by
  refine (ev_eq _ _ _ _ _ _).trans ?_
  refine (el_call rfl h1).trans ?_
  refine (if_pos h2).trans ?_
  rfl
theorem E_X12_isCopy {T : List Shp} {c : Nat → Int → Int} {x1 : Int} {r1 : Int} {c2 : Nat → Int → Int} (h1 : cal 186 [vL x1, vL 0, vL (w64 ((c 79 5) - 1))] (SH T, c) = some (some (vI r1), (SH T, c2))) (h2 : r1 = 0 ∨ r1 = 1) : cal 200 [vR 78, vI x1] (SH T, c) = some (some (vI r1), (SH T, c2)) := by
  refine (ev_eq _ _ _ _ _ _).trans ?_
  refine (el_call rfl h1).trans ?_
  refine (if_pos h2).trans ?_
  rfl
theorem E_X12_isClaimant {T : List Shp} {c : Nat → Int → Int} {x1 : Int} {r1 : Int} {c2 : Nat → Int → Int} (h1 : cal 186 [vL x1, vL 0, vL (w64 ((c 79 6) - 1))] (SH T, c) = some (some (vI r1), (SH T, c2))) (h2 : r1 = 0 ∨ r1 = 1) : cal 201 [vR 78, vI x1] (SH T, c) = some (some (vI r1), (SH T, c2)) := by
  refine (ev_eq _ _ _ _ _ _).trans ?_
  refine (el_call rfl h1).trans ?_
  refine (if_pos h2).trans ?_
  rfl
theorem E_X12_toneAt {T : List Shp} {c : Nat → Int → Int} {x1 x2 : Int} (h1 : 0 ≤ (w32 ((w32 (12 + (w32 (12 * x1)))) + x2)) ∧ (w32 ((w32 (12 + (w32 (12 * x1)))) + x2)) < 5780) : cal 202 [vR 78, vI x1, vI x2] (SH T, c) = some (some (vI (c 79 (w32 ((w32 (12 + (w32 (12 * x1)))) + x2)))), (SH T, c)) := by
  refine (ev_eq _ _ _ _ _ _).trans ?_
  refine (if_pos h1).trans ?_
  rfl
theorem E_X12_seen {T : List Shp} {c : Nat → Int → Int} {x1 : Int} {r1 : Int} {c2 : Nat → Int → Int} {r3 : Int} {c4 : Nat → Int → Int} (h1 : cal 197 [vR 78] (SH T, c) = some (some (vI r1), (SH T, c2))) (h2 : cal 202 [vR 78, vI r1, vI x1] (SH T, c2) = some (some (vI r3), (SH T, c4))) : cal 203 [vR 78, vI x1] (SH T, c) = some (some (vI r3), (SH T, c4)) := by
  refine (ev_eq _ _ _ _ _ _).trans ?_
  refine (el_call rfl h1).trans ?_
  refine (el_call rfl h2).trans ?_
  rfl
theorem E_X12_first_1 {T : List Shp} {c : Nat → Int → Int} {x1 x2 : Int} {r1 : Int} {c2 : Nat → Int → Int} (h1 : cal 194 [vI x1] (SH T, (up c 77 0 0)) = some (some (vI r1), (SH T, c2))) (h2 : r1 = 0) : cal 204 [vR 78, vI x1, vI x2] (SH T, c) = ev 204 3 19 [vR 78, vU, vU] [] (SH T, c2) := by
  refine (ev_eq _ _ _ _ _ _).trans ?_
  refine (el_call rfl h1).trans ?_
  refine (if_pos h2).trans ?_
  rfl
theorem E_X12_first_2 {T : List Shp} {c : Nat → Int → Int} {x1 x2 : Int} {r1 : Int} {c2 : Nat → Int → Int} {r3 : Int} {c4 : Nat → Int → Int} (h1 : cal 194 [vI x1] (SH T, (up c 77 0 0)) = some (some (vI r1), (SH T, c2))) (h2 : ¬ r1 = 0) (h3 : cal 195 [vI x2] (SH T, c2) = some (some (vI r3), (SH T, c4))) (h4 : r3 = 0) : cal 204 [vR 78, vI x1, vI x2] (SH T, c) = ev 204 3 19 [vR 78, vU, vU] [] (SH T, c4) := by
  refine (ev_eq _ _ _ _ _ _).trans ?_
  refine (el_call rfl h1).trans ?_
  refine (if_neg h2).trans ?_
  refine (el_call rfl h3).trans ?_
  refine (if_pos h4).trans ?_
  rfl
theorem E_X12_first_3 {T : List Shp} {c : Nat → Int → Int} {x1 x2 : Int} {r1 : Int} {c2 : Nat → Int → Int} {r3 : Int} {c4 : Nat → Int → Int} {r5 : Int} {c6 : Nat → Int → Int} (h1 : cal 194 [vI x1] (SH T, (up c 77 0 0)) = some (some (vI r1), (SH T, c2))) (h2 : ¬ r1 = 0) (h3 : cal 195 [vI x2] (SH T, c2) = some (some (vI r3), (SH T, c4))) (h4 : ¬ r3 = 0) (h5 : cal 191 [vR 78, vI (w32 (12 + x1)), vI x2] (SH T, (up c4 79 4 0)) = some (some (vI r5), (SH T, c6))) : cal 204 [vR 78, vI x1, vI x2] (SH T, c) = some (some (vI r5), (SH T, c6)) := by
  refine (ev_eq _ _ _ _ _ _).trans ?_
  refine (el_call rfl h1).trans ?_
  refine (if_neg h2).trans ?_
  refine (el_call rfl h3).trans ?_
  refine (if_neg h4).trans ?_
  refine (ev_eq _ _ _ _ _ _).trans ?_
  refine (el_call rfl h5).trans ?_
  rfl
theorem B_X12_first_19 {T : List Shp} {c : Nat → Int → Int} {r1 : Int} {c2 : Nat → Int → Int} (h1 : cal 190 [vR 78, vI (-1)] (SH T, c) = some (some (vI r1), (SH T, c2))) : ev 204 3 19 [vR 78, vU, vU] [] (SH T, c) = some (some (vI r1), (SH T, c2)) := by
  refine (ev_eq _ _ _ _ _ _).trans ?_
  refine (el_call rfl h1).trans ?_
  rfl
theorem E_X12_painter_1 {T : List Shp} {c : Nat → Int → Int} {x1 x2 : Int} {r1 : Int} {c2 : Nat → Int → Int} (h1 : cal 186 [vL x1, vL 1, vL 9] (SH T, (up c 77 0 0)) = some (some (vI r1), (SH T, c2))) (h2 : r1 = 0) : cal 205 [vR 78, vI x1, vI x2] (SH T, c) = ev 205 2 29 [vR 78, vU, vU, vU, vU, vU] [] (SH T, c2) := by
  refine (ev_eq _ _ _ _ _ _).trans ?_
  refine (el_call rfl h1).trans ?_
  refine (if_pos h2).trans ?_
  rfl
theorem E_X12_painter_2 {T : List Shp} {c : Nat → Int → Int} {x1 x2 : Int} {r1 : Int} {c2 : Nat → Int → Int} {r3 : Int} {c4 : Nat → Int → Int} (h1 : cal 186 [vL x1, vL 1, vL 9] (SH T, (up c 77 0 0)) = some (some (vI r1), (SH T, c2))) (h2 : ¬ r1 = 0) (h3 : cal 186 [vL x2, vL 0, vL 99] (SH T, c2) = some (some (vI r3), (SH T, c4))) (h4 : r3 = 0) : cal 205 [vR 78, vI x1, vI x2] (SH T, c) = ev 205 2 29 [vR 78, vU, vU, vU, vU, vU] [] (SH T, c4) := by
  refine (ev_eq _ _ _ _ _ _).trans ?_
  refine (el_call rfl h1).trans ?_
  refine (if_neg h2).trans ?_
  refine (el_call rfl h3).trans ?_
  refine (if_pos h4).trans ?_
  rfl
theorem E_X12_painter_3 {T : List Shp} {c : Nat → Int → Int} {x1 x2 : Int} {r1 : Int} {c2 : Nat → Int → Int} {r3 : Int} {c4 : Nat → Int → Int} {r5 : Int} {c6 : Nat → Int → Int} (h1 : cal 186 [vL x1, vL 1, vL 9] (SH T, (up c 77 0 0)) = some (some (vI r1), (SH T, c2))) (h2 : ¬ r1 = 0) (h3 : cal 186 [vL x2, vL 0, vL 99] (SH T, c2) = some (some (vI r3), (SH T, c4))) (h4 : ¬ r3 = 0) (h5 : (c4 79 0) = 5) (h6 : cal 190 [vR 78, vI (-5)] (SH T, c4) = some (some (vI r5), (SH T, c6))) : cal 205 [vR 78, vI x1, vI x2] (SH T, c) = some (some (vI r5), (SH T, c6)) := by
  refine (ev_eq _ _ _ _ _ _).trans ?_
  refine (el_call rfl h1).trans ?_
  refine (if_neg h2).trans ?_
  refine (el_call rfl h3).trans ?_
  refine (if_neg h4).trans ?_
  refine (ev_eq _ _ _ _ _ _).trans ?_
  refine (if_pos h5).trans ?_
  refine (el_call rfl h6).trans ?_
  rfl
theorem E_X12_painter_4 {T : List Shp} {c : Nat → Int → Int} {x1 x2 : Int} {r1 : Int} {c2 : Nat → Int → Int} {r3 : Int} {c4 : Nat → Int → Int} (h1 : cal 186 [vL x1, vL 1, vL 9] (SH T, (up c 77 0 0)) = some (some (vI r1), (SH T, c2))) (h2 : ¬ r1 = 0) (h3 : cal 186 [vL x2, vL 0, vL 99] (SH T, c2) = some (some (vI r3), (SH T, c4))) (h4 : ¬ r3 = 0) (h5 : ¬ (c4 79 0) = 5) (h6 : 0 ≤ (w32 (233 + (w32 (5 * (c4 79 0))))) ∧ (w32 (233 + (w32 (5 * (c4 79 0))))) < 5780) (h7 : 0 ≤ (w32 ((w32 (233 + (w32 (5 * (c4 79 0))))) + 1)) ∧ (w32 ((w32 (233 + (w32 (5 * (c4 79 0))))) + 1)) < 5780) : cal 205 [vR 78, vI x1, vI x2] (SH T, c) = ev 205 2 84 [vR 78, vU, vU, vI (c4 79 0), vI (w32 (233 + (w32 (5 * (c4 79 0))))), vI 2] [] (SH T, (up (up c4 79 (w32 (233 + (w32 (5 * (c4 79 0))))) x1) 79 (w32 ((w32 (233 + (w32 (5 * (c4 79 0))))) + 1)) x2)) := by
  refine (ev_eq _ _ _ _ _ _).trans ?_
  refine (el_call rfl h1).trans ?_
  refine (if_neg h2).trans ?_
  refine (el_call rfl h3).trans ?_
  refine (if_neg h4).trans ?_
  refine (ev_eq _ _ _ _ _ _).trans ?_
  refine (if_neg h5).trans ?_
  refine (ev_eq _ _ _ _ _ _).trans ?_
  refine (if_pos h6).trans ?_
  refine (if_pos h7).trans ?_
  rfl
theorem B_X12_painter_29 {T : List Shp} {c : Nat → Int → Int} {r1 : Int} {c2 : Nat → Int → Int} (h1 : cal 190 [vR 78, vI (-1)] (SH T, c) = some (some (vI r1), (SH T, c2))) : ev 205 2 29 [vR 78, vU, vU, vU, vU, vU] [] (SH T, c) = some (some (vI r1), (SH T, c2)) := by
  refine (ev_eq _ _ _ _ _ _).trans ?_
  refine (el_call rfl h1).trans ?_
  rfl
theorem B_X12_painter_84_1 {T : List Shp} {c : Nat → Int → Int} {x3 x4 x5 : Int} (h1 : x5 < 5) (h2 : 0 ≤ (w32 (x4 + x5)) ∧ (w32 (x4 + x5)) < 5780) : ev 205 2 84 [vR 78, vU, vU, vI x3, vI x4, vI x5] [] (SH T, c) = ev 205 2 84 [vR 78, vU, vU, vI x3, vI x4, vI (w32 (x5 + 1))] [] (SH T, (up c 79 (w32 (x4 + x5)) 3)) := by
  refine (ev_eq _ _ _ _ _ _).trans ?_
  refine (if_pos h1).trans ?_
  refine (if_pos h2).trans ?_
  rfl
theorem B_X12_painter_84_2 {T : List Shp} {c : Nat → Int → Int} {x3 x4 x5 : Int} {r1 : Int} {c2 : Nat → Int → Int} (h1 : ¬ x5 < 5) (h2 : cal 190 [vR 78, vI x3] (SH T, (up c 79 0 (w32 ((c 79 0) + 1)))) = some (some (vI r1), (SH T, c2))) : ev 205 2 84 [vR 78, vU, vU, vI x3, vI x4, vI x5] [] (SH T, c) = some (some (vI r1), (SH T, c2)) := by
  refine (ev_eq _ _ _ _ _ _).trans ?_
  refine (if_neg h1).trans ?_
  refine (ev_eq _ _ _ _ _ _).trans ?_
  refine (el_call rfl h2).trans ?_
  rfl
theorem E_X12_err_1 {T : List Shp} {c : Nat → Int → Int} {x1 x2 x3 : Int} {r1 : Int} {c2 : Nat → Int → Int} (h1 : cal 186 [vL x2, vL 0, vL 2] (SH T, (up c 77 0 0)) = some (some (vI r1), (SH T, c2))) (h2 : r1 = 0) : cal 206 [vR 78, vI x1, vI x2, vI x3] (SH T, c) = ev 206 3 29 [vR 78, vU, vU, vU] [] (SH T, c2) := by
  refine (ev_eq _ _ _ _ _ _).trans ?_
  refine (el_call rfl h1).trans ?_
  refine (if_pos h2).trans ?_
  rfl
theorem E_X12_err_2 {T : List Shp} {c : Nat → Int → Int} {x1 x2 x3 : Int} {r1 : Int} {c2 : Nat → Int → Int} {r3 : Int} {c4 : Nat → Int → Int} (h1 : cal 186 [vL x2, vL 0, vL 2] (SH T, (up c 77 0 0)) = some (some (vI r1), (SH T, c2))) (h2 : ¬ r1 = 0) (h3 : cal 186 [vL x3, vL 0, vL 6] (SH T, c2) = some (some (vI r3), (SH T, c4))) (h4 : r3 = 0) : cal 206 [vR 78, vI x1, vI x2, vI x3] (SH T, c) = ev 206 3 29 [vR 78, vU, vU, vU] [] (SH T, c4) := by
  refine (ev_eq _ _ _ _ _ _).trans ?_
  refine (el_call rfl h1).trans ?_
  refine (if_neg h2).trans ?_
  refine (el_call rfl h3).trans ?_
  refine (if_pos h4).trans ?_
  rfl
theorem E_X12_err_3 {T : List Shp} {c : Nat → Int → Int} {x1 x2 x3 : Int} {r1 : Int} {c2 : Nat → Int → Int} {r3 : Int} {c4 : Nat → Int → Int} {r5 : Int} {c6 : Nat → Int → Int} {r7 : Int} {c8 : Nat → Int → Int} (h1 : cal 186 [vL x2, vL 0, vL 2] (SH T, (up c 77 0 0)) = some (some (vI r1), (SH T, c2))) (h2 : ¬ r1 = 0) (h3 : cal 186 [vL x3, vL 0, vL 6] (SH T, c2) = some (some (vI r3), (SH T, c4))) (h4 : ¬ r3 = 0) (h5 : cal 199 [vR 78, vI x1] (SH T, c4) = some (some (vI r5), (SH T, c6))) (h6 : r5 = 0) (h7 : cal 190 [vR 78, vI (-2)] (SH T, c6) = some (some (vI r7), (SH T, c8))) : cal 206 [vR 78, vI x1, vI x2, vI x3] (SH T, c) = some (some (vI r7), (SH T, c8)) := by
  refine (ev_eq _ _ _ _ _ _).trans ?_
  refine (el_call rfl h1).trans ?_
  refine (if_neg h2).trans ?_
  refine (el_call rfl h3).trans ?_
  refine (if_neg h4).trans ?_
  refine (ev_eq _ _ _ _ _ _).trans ?_
  refine (el_call rfl h5).trans ?_
  refine (if_pos h6).trans ?_
  refine (ev_eq _ _ _ _ _ _).trans ?_
  refine (el_call rfl h7).trans ?_
  rfl
theorem E_X12_err_4 {T : List Shp} {c : Nat → Int → Int} {x1 x2 x3 : Int} {r1 : Int} {c2 : Nat → Int → Int} {r3 : Int} {c4 : Nat → Int → Int} {r5 : Int} {c6 : Nat → Int → Int} {r7 : Int} {c8 : Nat → Int → Int} (h1 : cal 186 [vL x2, vL 0, vL 2] (SH T, (up c 77 0 0)) = some (some (vI r1), (SH T, c2))) (h2 : ¬ r1 = 0) (h3 : cal 186 [vL x3, vL 0, vL 6] (SH T, c2) = some (some (vI r3), (SH T, c4))) (h4 : ¬ r3 = 0) (h5 : cal 199 [vR 78, vI x1] (SH T, c4) = some (some (vI r5), (SH T, c6))) (h6 : ¬ r5 = 0) (h7 : cal 191 [vR 78, vI (w32 ((w32 ((w32 (233 + (w32 (5 * x1)))) + 2)) + x2)), vI x3] (SH T, c6) = some (some (vI r7), (SH T, c8))) : cal 206 [vR 78, vI x1, vI x2, vI x3] (SH T, c) = some (some (vI r7), (SH T, c8)) := by
  refine (ev_eq _ _ _ _ _ _).trans ?_
  refine (el_call rfl h1).trans ?_
  refine (if_neg h2).trans ?_
  refine (el_call rfl h3).trans ?_
  refine (if_neg h4).trans ?_
  refine (ev_eq _ _ _ _ _ _).trans ?_
  refine (el_call rfl h5).trans ?_
  refine (if_neg h6).trans ?_
  refine (el_call rfl h7).trans ?_
  rfl
theorem B_X12_err_29 {T : List Shp} {c : Nat → Int → Int} {r1 : Int} {c2 : Nat → Int → Int} (h1 : cal 190 [vR 78, vI (-1)] (SH T, c) = some (some (vI r1), (SH T, c2))) : ev 206 3 29 [vR 78, vU, vU, vU] [] (SH T, c) = some (some (vI r1), (SH T, c2)) := by
  refine (ev_eq _ _ _ _ _ _).trans ?_
  refine (el_call rfl h1).trans ?_
  rfl
theorem E_X12_of_1 {T : List Shp} {c : Nat → Int → Int} {x1 x2 : Int} {r1 : Int} {c2 : Nat → Int → Int} (h1 : cal 199 [vR 78, vI x1] (SH T, (up c 77 0 0)) = some (some (vI r1), (SH T, c2))) (h2 : r1 = 0) : cal 207 [vR 78, vI x1, vI x2] (SH T, c) = some (some (vI (-1)), (SH T, c2)) := by
  refine (ev_eq _ _ _ _ _ _).trans ?_
  refine (el_call rfl h1).trans ?_
  refine (if_pos h2).trans ?_
  refine (ev_eq _ _ _ _ _ _).trans ?_
  rfl
theorem E_X12_of_2 {T : List Shp} {c : Nat → Int → Int} {x1 x2 : Int} {r1 : Int} {c2 : Nat → Int → Int} {r3 : Int} {c4 : Nat → Int → Int} (h1 : cal 199 [vR 78, vI x1] (SH T, (up c 77 0 0)) = some (some (vI r1), (SH T, c2))) (h2 : ¬ r1 = 0) (h3 : cal 186 [vL x2, vL 0, vL 4] (SH T, c2) = some (some (vI r3), (SH T, c4))) (h4 : r3 = 0) : cal 207 [vR 78, vI x1, vI x2] (SH T, c) = some (some (vI (-1)), (SH T, c4)) := by
  refine (ev_eq _ _ _ _ _ _).trans ?_
  refine (el_call rfl h1).trans ?_
  refine (if_neg h2).trans ?_
  refine (el_call rfl h3).trans ?_
  refine (if_pos h4).trans ?_
  refine (ev_eq _ _ _ _ _ _).trans ?_
  rfl
theorem E_X12_of_3 {T : List Shp} {c : Nat → Int → Int} {x1 x2 : Int} {r1 : Int} {c2 : Nat → Int → Int} {r3 : Int} {c4 : Nat → Int → Int} (h1 : cal 199 [vR 78, vI x1] (SH T, (up c 77 0 0)) = some (some (vI r1), (SH T, c2))) (h2 : ¬ r1 = 0) (h3 : cal 186 [vL x2, vL 0, vL 4] (SH T, c2) = some (some (vI r3), (SH T, c4))) (h4 : ¬ r3 = 0) (h5 : 0 ≤ (w32 ((w32 (233 + (w32 (5 * x1)))) + x2)) ∧ (w32 ((w32 (233 + (w32 (5 * x1)))) + x2)) < 5780) : cal 207 [vR 78, vI x1, vI x2] (SH T, c) = some (some (vI (c4 79 (w32 ((w32 (233 + (w32 (5 * x1)))) + x2)))), (SH T, c4)) := by
  refine (ev_eq _ _ _ _ _ _).trans ?_
  refine (el_call rfl h1).trans ?_
  refine (if_neg h2).trans ?_
  refine (el_call rfl h3).trans ?_
  refine (if_neg h4).trans ?_
  refine (if_pos h5).trans ?_
  rfl
theorem E_X12_isTerm_1 {T : List Shp} {c : Nat → Int → Int} {x0 x1 : Int} {r1 : Int} {c2 : Nat → Int → Int} (h1 : x0 = 0) (h2 : cal 186 [vL x1, vL 0, vL 99] (SH T, c) = some (some (vI r1), (SH T, c2))) (h3 : r1 = 0 ∨ r1 = 1) : cal 208 [vI x0, vI x1] (SH T, c) = some (some (vI r1), (SH T, c2)) := by
  refine (ev_eq _ _ _ _ _ _).trans ?_
  refine (if_pos h1).trans ?_
  refine (ev_eq _ _ _ _ _ _).trans ?_
  refine (el_call rfl h2).trans ?_
  refine (if_pos h3).trans ?_
  rfl
theorem E_X12_isTerm_2 {T : List Shp} {c : Nat → Int → Int} {x0 x1 : Int} {r1 : Int} {c2 : Nat → Int → Int} (h1 : x0 = 1) (h2 : cal 186 [vL x1, vL 0, vL 5] (SH T, c) = some (some (vI r1), (SH T, c2))) (h3 : r1 = 0 ∨ r1 = 1) : cal 208 [vI x0, vI x1] (SH T, c) = some (some (vI r1), (SH T, c2)) := by
  refine (ev_eq _ _ _ _ _ _).trans ?_
  refine (if_neg (by omega)).trans ?_
  refine (if_pos h1).trans ?_
  refine (ev_eq _ _ _ _ _ _).trans ?_
  refine (el_call rfl h2).trans ?_
  refine (if_pos h3).trans ?_
  rfl
theorem E_X12_isTerm_3 {T : List Shp} {c : Nat → Int → Int} {x0 x1 : Int} {r1 : Int} {c2 : Nat → Int → Int} (h1 : x0 = 2) (h2 : cal 186 [vL x1, vL 0, vL 9] (SH T, c) = some (some (vI r1), (SH T, c2))) (h3 : r1 = 0 ∨ r1 = 1) : cal 208 [vI x0, vI x1] (SH T, c) = some (some (vI r1), (SH T, c2)) := by
  refine (ev_eq _ _ _ _ _ _).trans ?_
  refine (if_neg (by omega)).trans ?_
  refine (if_neg (by omega)).trans ?_
  refine (if_pos h1).trans ?_
  refine (ev_eq _ _ _ _ _ _).trans ?_
  refine (el_call rfl h2).trans ?_
  refine (if_pos h3).trans ?_
  rfl
theorem E_X12_isTerm_4 {T : List Shp} {c : Nat → Int → Int} {x0 x1 : Int} {r1 : Int} {c2 : Nat → Int → Int} (h1 : x0 = 3) (h2 : cal 186 [vL x1, vL 0, vL 999] (SH T, c) = some (some (vI r1), (SH T, c2))) (h3 : r1 = 0 ∨ r1 = 1) : cal 208 [vI x0, vI x1] (SH T, c) = some (some (vI r1), (SH T, c2)) := by
  refine (ev_eq _ _ _ _ _ _).trans ?_
  refine (if_neg (by omega)).trans ?_
  refine (if_neg (by omega)).trans ?_
  refine (if_neg (by omega)).trans ?_
  refine (if_pos h1).trans ?_
  refine (ev_eq _ _ _ _ _ _).trans ?_
  refine (el_call rfl h2).trans ?_
  refine (if_pos h3).trans ?_
  rfl
theorem E_X12_isTerm_5 {T : List Shp} {c : Nat → Int → Int} {x0 x1 : Int} {r1 : Int} {c2 : Nat → Int → Int} (h1 : x0 = 4) (h2 : cal 186 [vL x1, vL 0, vL 3] (SH T, c) = some (some (vI r1), (SH T, c2))) (h3 : r1 = 0 ∨ r1 = 1) : cal 208 [vI x0, vI x1] (SH T, c) = some (some (vI r1), (SH T, c2)) := by
  refine (ev_eq _ _ _ _ _ _).trans ?_
  refine (if_neg (by omega)).trans ?_
  refine (if_neg (by omega)).trans ?_
  refine (if_neg (by omega)).trans ?_
  refine (if_neg (by omega)).trans ?_
  refine (if_pos h1).trans ?_
  refine (ev_eq _ _ _ _ _ _).trans ?_
  refine (el_call rfl h2).trans ?_
  refine (if_pos h3).trans ?_
  rfl
theorem E_X12_isTerm_6 {T : List Shp} {c : Nat → Int → Int} {x0 x1 : Int} (h1 : ¬ x0 = 0 ∧ ¬ x0 = 1 ∧ ¬ x0 = 2 ∧ ¬ x0 = 3 ∧ ¬ x0 = 4) : cal 208 [vI x0, vI x1] (SH T, c) = some (some (vI 0), (SH T, c)) := by
  refine (ev_eq _ _ _ _ _ _).trans ?_
  refine (if_neg (h1.1)).trans ?_
  refine (if_neg (h1.2.1)).trans ?_
  refine (if_neg (h1.2.2.1)).trans ?_
  refine (if_neg (h1.2.2.2.1)).trans ?_
  refine (if_neg (h1.2.2.2.2)).trans ?_
  refine (ev_eq _ _ _ _ _ _).trans ?_
  rfl

theorem B_X6_readPart_114_2 {T : List Shp} {c : Nat → Int → Int} {nd : Nat} {y0 : Int} {r1 : Int} {c2 : Nat → Int → Int} {c3 : Nat → Int → Int} (h1 : 6 + 1 ≤ nd) (h2 : cal 60 [vR 49, vR y0] (SH T, c) = some (some (vI r1), (SH T, c2))) (h3 : ¬ r1 = (-1)) (h4 : (c2 48 8) < 50) (h5 : 2 + 1 ≤ nd) (h6 : cal 62 [vR 49] (SH T, (up c2 48 8 (w32 ((c2 48 8) + 1)))) = some (none, (SH T, c3))) (h7 : (c3 48 3) = 0) : ev 55 nd 114 [vR 49, vU, vU] [vR y0, vR 49] (SH T, c) = ev 55 nd 191 [vR 49, vU, vI r1] [] (SH T, c3) := by
  refine (ev_eq _ _ _ _ _ _).trans ?_
  refine (el_call (Nat.ble_eq_true_of_le h1) h2).trans ?_
  refine (if_neg h3).trans ?_
  refine (if_pos h4).trans ?_
  refine (ev_eq _ _ _ _ _ _).trans ?_
  refine (el_call (Nat.ble_eq_true_of_le h5) h6).trans ?_
  refine (if_pos h7).trans ?_
  rfl
theorem B_X6_readPart_114_3 {T : List Shp} {c : Nat → Int → Int} {nd : Nat} {y0 : Int} {r1 : Int} {c2 : Nat → Int → Int} {c3 : Nat → Int → Int} {c4 : Nat → Int → Int} (h1 : 6 + 1 ≤ nd) (h2 : cal 60 [vR 49, vR y0] (SH T, c) = some (some (vI r1), (SH T, c2))) (h3 : ¬ r1 = (-1)) (h4 : (c2 48 8) < 50) (h5 : 2 + 1 ≤ nd) (h6 : cal 62 [vR 49] (SH T, (up c2 48 8 (w32 ((c2 48 8) + 1)))) = some (none, (SH T, c3))) (h7 : ¬ (c3 48 3) = 0) (h8 : r1 = 6) (h9 : (c3 48 4) = 1) (h10 : (c3 48 7) < 12) (h11 : 2 + 1 ≤ nd) (h12 : cal 62 [vR 49] (SH T, c3) = some (none, (SH T, c4))) : ev 55 nd 114 [vR 49, vU, vU] [vR y0, vR 49] (SH T, c) = ev 55 nd 191 [vR 49, vU, vI (w32 (r1 + (c3 48 7)))] [] (SH T, c4) := by
  refine (ev_eq _ _ _ _ _ _).trans ?_
  refine (el_call (Nat.ble_eq_true_of_le h1) h2).trans ?_
  refine (if_neg h3).trans ?_
  refine (if_pos h4).trans ?_
  refine (ev_eq _ _ _ _ _ _).trans ?_
  refine (el_call (Nat.ble_eq_true_of_le h5) h6).trans ?_
  refine (if_neg h7).trans ?_
  refine (if_pos h8).trans ?_
  refine (if_pos h9).trans ?_
  refine (if_pos h10).trans ?_
  refine (ev_eq _ _ _ _ _ _).trans ?_
  refine (el_call (Nat.ble_eq_true_of_le h11) h12).trans ?_
  rfl
theorem B_X6_readPart_114_4 {T : List Shp} {c : Nat → Int → Int} {nd : Nat} {y0 : Int} {r1 : Int} {c2 : Nat → Int → Int} {c3 : Nat → Int → Int} (h1 : 6 + 1 ≤ nd) (h2 : cal 60 [vR 49, vR y0] (SH T, c) = some (some (vI r1), (SH T, c2))) (h3 : ¬ r1 = (-1)) (h4 : (c2 48 8) < 50) (h5 : 2 + 1 ≤ nd) (h6 : cal 62 [vR 49] (SH T, (up c2 48 8 (w32 ((c2 48 8) + 1)))) = some (none, (SH T, c3))) (h7 : ¬ (c3 48 3) = 0) (h8 : r1 = 6) (h9 : (c3 48 4) = 1) (h10 : ¬ (c3 48 7) < 12) : ev 55 nd 114 [vR 49, vU, vU] [vR y0, vR 49] (SH T, c) = some (some (vI 0), (SH T, c3)) := by
  refine (ev_eq _ _ _ _ _ _).trans ?_
  refine (el_call (Nat.ble_eq_true_of_le h1) h2).trans ?_
  refine (if_neg h3).trans ?_
  refine (if_pos h4).trans ?_
  refine (ev_eq _ _ _ _ _ _).trans ?_
  refine (el_call (Nat.ble_eq_true_of_le h5) h6).trans ?_
  refine (if_neg h7).trans ?_
  refine (if_pos h8).trans ?_
  refine (if_pos h9).trans ?_
  refine (if_neg h10).trans ?_
  refine (ev_eq _ _ _ _ _ _).trans ?_
  rfl
theorem B_X6_readPart_114_5 {T : List Shp} {c : Nat → Int → Int} {nd : Nat} {y0 : Int} {r1 : Int} {c2 : Nat → Int → Int} {c3 : Nat → Int → Int} (h1 : 6 + 1 ≤ nd) (h2 : cal 60 [vR 49, vR y0] (SH T, c) = some (some (vI r1), (SH T, c2))) (h3 : ¬ r1 = (-1)) (h4 : (c2 48 8) < 50) (h5 : 2 + 1 ≤ nd) (h6 : cal 62 [vR 49] (SH T, (up c2 48 8 (w32 ((c2 48 8) + 1)))) = some (none, (SH T, c3))) (h7 : ¬ (c3 48 3) = 0) (h8 : r1 = 6) (h9 : ¬ (c3 48 4) = 1) : ev 55 nd 114 [vR 49, vU, vU] [vR y0, vR 49] (SH T, c) = some (some (vI 0), (SH T, c3)) := by
  refine (ev_eq _ _ _ _ _ _).trans ?_
  refine (el_call (Nat.ble_eq_true_of_le h1) h2).trans ?_
  refine (if_neg h3).trans ?_
  refine (if_pos h4).trans ?_
  refine (ev_eq _ _ _ _ _ _).trans ?_
  refine (el_call (Nat.ble_eq_true_of_le h5) h6).trans ?_
  refine (if_neg h7).trans ?_
  refine (if_pos h8).trans ?_
  refine (if_neg h9).trans ?_
  refine (ev_eq _ _ _ _ _ _).trans ?_
  rfl
theorem B_X6_readPart_114_6 {T : List Shp} {c : Nat → Int → Int} {nd : Nat} {y0 : Int} {r1 : Int} {c2 : Nat → Int → Int} {c3 : Nat → Int → Int} (h1 : 6 + 1 ≤ nd) (h2 : cal 60 [vR 49, vR y0] (SH T, c) = some (some (vI r1), (SH T, c2))) (h3 : ¬ r1 = (-1)) (h4 : (c2 48 8) < 50) (h5 : 2 + 1 ≤ nd) (h6 : cal 62 [vR 49] (SH T, (up c2 48 8 (w32 ((c2 48 8) + 1)))) = some (none, (SH T, c3))) (h7 : ¬ (c3 48 3) = 0) (h8 : ¬ r1 = 6) : ev 55 nd 114 [vR 49, vU, vU] [vR y0, vR 49] (SH T, c) = ev 55 nd 191 [vR 49, vU, vI r1] [] (SH T, c3) := by
  refine (ev_eq _ _ _ _ _ _).trans ?_
  refine (el_call (Nat.ble_eq_true_of_le h1) h2).trans ?_
  refine (if_neg h3).trans ?_
  refine (if_pos h4).trans ?_
  refine (ev_eq _ _ _ _ _ _).trans ?_
  refine (el_call (Nat.ble_eq_true_of_le h5) h6).trans ?_
  refine (if_neg h7).trans ?_
  refine (if_neg h8).trans ?_
  rfl
theorem B_X6_readPart_114_7 {T : List Shp} {c : Nat → Int → Int} {nd : Nat} {y0 : Int} {r1 : Int} {c2 : Nat → Int → Int} (h1 : 6 + 1 ≤ nd) (h2 : cal 60 [vR 49, vR y0] (SH T, c) = some (some (vI r1), (SH T, c2))) (h3 : ¬ r1 = (-1)) (h4 : ¬ (c2 48 8) < 50) : ev 55 nd 114 [vR 49, vU, vU] [vR y0, vR 49] (SH T, c) = some (some (vI 0), (SH T, c2)) := by
  refine (ev_eq _ _ _ _ _ _).trans ?_
  refine (el_call (Nat.ble_eq_true_of_le h1) h2).trans ?_
  refine (if_neg h3).trans ?_
  refine (if_neg h4).trans ?_
  refine (ev_eq _ _ _ _ _ _).trans ?_
  rfl
theorem B_X6_readPart_191 {T : List Shp} {c : Nat → Int → Int} {nd : Nat} {x2 : Int} {c1 : Nat → Int → Int} (h1 : 1 + 1 ≤ nd) (h2 : cal 110 [vR 12, vI 1, vI x2] (SH T, c) = some (none, (SH T, c1))) : ev 55 nd 191 [vR 49, vU, vI x2] [] (SH T, c) = some (some (vI 1), (SH T, (up c1 11 4 (ior (c1 11 4) (ishl 1 x2))))) := by
  refine (ev_eq _ _ _ _ _ _).trans ?_
  refine (el_call (Nat.ble_eq_true_of_le h1) h2).trans ?_
  rfl
theorem E_X6_opens_1 {T : List Shp} {c : Nat → Int → Int} {x1 : Int} {c1 : Nat → Int → Int} (h1 : x1 < 8) (h2 : cal 62 [vR 49] (SH T, c) = some (none, (SH T, c1))) : cal 56 [vR 49, vI x1] (SH T, c) = some (some (vI 1), (SH T, c1)) := by
  refine (ev_eq _ _ _ _ _ _).trans ?_
  refine (if_pos h1).trans ?_
  refine (ev_eq _ _ _ _ _ _).trans ?_
  refine (el_call rfl h2).trans ?_
  rfl
theorem E_X6_opens_2 {T : List Shp} {c : Nat → Int → Int} {x1 : Int} (h1 : ¬ x1 < 8) : cal 56 [vR 49, vI x1] (SH T, c) = some (some (vI 0), (SH T, c)) := by
  refine (ev_eq _ _ _ _ _ _).trans ?_
  refine (if_neg h1).trans ?_
  rfl
theorem E_X6_isSign_1 {T : List Shp} {c : Nat → Int → Int} {x1 : Int} (h1 : (c 48 4) = 2) (h2 : (c 48 5) < (c 48 1)) (h3 : 0 ≤ (c 48 5) ∧ (c 48 5) < 400) (h4 : (c 10 (c 48 5)) = x1) : cal 57 [vR 49, vI x1] (SH T, c) = some (some (vI 1), (SH T, c)) := by
  refine (ev_eq _ _ _ _ _ _).trans ?_
  refine (if_pos h1).trans ?_
  refine (if_pos h2).trans ?_
  refine (if_pos h3).trans ?_
  refine (if_pos h4).trans ?_
  rfl
theorem E_X6_isSign_2 {T : List Shp} {c : Nat → Int → Int} {x1 : Int} (h1 : (c 48 4) = 2) (h2 : (c 48 5) < (c 48 1)) (h3 : 0 ≤ (c 48 5) ∧ (c 48 5) < 400) (h4 : ¬ (c 10 (c 48 5)) = x1) : cal 57 [vR 49, vI x1] (SH T, c) = some (some (vI 0), (SH T, c)) := by
  refine (ev_eq _ _ _ _ _ _).trans ?_
  refine (if_pos h1).trans ?_
  refine (if_pos h2).trans ?_
  refine (if_pos h3).trans ?_
  refine (if_neg h4).trans ?_
  refine (ev_eq _ _ _ _ _ _).trans ?_
  rfl
theorem E_X6_isSign_3 {T : List Shp} {c : Nat → Int → Int} {x1 : Int} (h1 : (c 48 4) = 2) (h2 : ¬ (c 48 5) < (c 48 1)) : cal 57 [vR 49, vI x1] (SH T, c) = some (some (vI 0), (SH T, c)) := by
  refine (ev_eq _ _ _ _ _ _).trans ?_
  refine (if_pos h1).trans ?_
  refine (if_neg h2).trans ?_
  refine (ev_eq _ _ _ _ _ _).trans ?_
  rfl
theorem E_X6_isSign_4 {T : List Shp} {c : Nat → Int → Int} {x1 : Int} (h1 : ¬ (c 48 4) = 2) : cal 57 [vR 49, vI x1] (SH T, c) = some (some (vI 0), (SH T, c)) := by
  refine (ev_eq _ _ _ _ _ _).trans ?_
  refine (if_neg h1).trans ?_
  refine (ev_eq _ _ _ _ _ _).trans ?_
  rfl
theorem E_X6_takes_1 {T : List Shp} {c : Nat → Int → Int} {x1 : Int} {r1 : Int} {c2 : Nat → Int → Int} (h1 : cal 57 [vR 49, vI x1] (SH T, c) = some (some (vI r1), (SH T, c2))) (h2 : r1 = 0) (h3 : r1 = 0 ∨ r1 = 1) : cal 58 [vR 49, vI x1] (SH T, c) = some (some (vI r1), (SH T, c2)) := by
  refine (ev_eq _ _ _ _ _ _).trans ?_
  refine (el_call rfl h1).trans ?_
  refine (if_pos h2).trans ?_
  refine (ev_eq _ _ _ _ _ _).trans ?_
  refine (if_pos h3).trans ?_
  rfl
theorem E_X6_takes_2 {T : List Shp} {c : Nat → Int → Int} {x1 : Int} {r1 : Int} {c2 : Nat → Int → Int} {c3 : Nat → Int → Int} (h1 : cal 57 [vR 49, vI x1] (SH T, c) = some (some (vI r1), (SH T, c2))) (h2 : ¬ r1 = 0) (h3 : cal 62 [vR 49] (SH T, c2) = some (none, (SH T, c3))) (h4 : r1 = 0 ∨ r1 = 1) : cal 58 [vR 49, vI x1] (SH T, c) = some (some (vI r1), (SH T, c3)) := by
  refine (ev_eq _ _ _ _ _ _).trans ?_
  refine (el_call rfl h1).trans ?_
  refine (if_neg h2).trans ?_
  refine (el_call rfl h3).trans ?_
  refine (ev_eq _ _ _ _ _ _).trans ?_
  refine (if_pos h4).trans ?_
  rfl
theorem E_X6_takesWord_1 {T : List Shp} {c : Nat → Int → Int} {x1 : Int} {n1 : Nat} {r2 : Int} {c3 : Nat → Int → Int} {r4 : Int} {c5 : Nat → Int → Int} (h1 : strOf x1 = some n1) (h2 : cal 345 [vR x1] (SH T, c) = some (some (vI r2), (SH T, c3))) (h3 : cal 61 [vR 49, vR x1, vI 0, vI r2] (SH T, c3) = some (some (vI r4), (SH T, c5))) (h4 : r4 = 0) (h5 : r4 = 0 ∨ r4 = 1) : cal 59 [vR 49, vR x1] (SH T, c) = some (some (vI r4), (SH T, c5)) := by
  refine (ev_eq _ _ _ _ _ _).trans ?_
  refine (el_of h1).trans ?_
  refine (el_call rfl h2).trans ?_
  refine (el_call rfl h3).trans ?_
  refine (if_pos h4).trans ?_
  refine (ev_eq _ _ _ _ _ _).trans ?_
  refine (if_pos h5).trans ?_
  rfl
theorem E_X6_takesWord_2 {T : List Shp} {c : Nat → Int → Int} {x1 : Int} {n1 : Nat} {r2 : Int} {c3 : Nat → Int → Int} {r4 : Int} {c5 : Nat → Int → Int} {c6 : Nat → Int → Int} (h1 : strOf x1 = some n1) (h2 : cal 345 [vR x1] (SH T, c) = some (some (vI r2), (SH T, c3))) (h3 : cal 61 [vR 49, vR x1, vI 0, vI r2] (SH T, c3) = some (some (vI r4), (SH T, c5))) (h4 : ¬ r4 = 0) (h5 : cal 62 [vR 49] (SH T, c5) = some (none, (SH T, c6))) (h6 : r4 = 0 ∨ r4 = 1) : cal 59 [vR 49, vR x1] (SH T, c) = some (some (vI r4), (SH T, c6)) := by
  refine (ev_eq _ _ _ _ _ _).trans ?_
  refine (el_of h1).trans ?_
  refine (el_call rfl h2).trans ?_
  refine (el_call rfl h3).trans ?_
  refine (if_neg h4).trans ?_
  refine (el_call rfl h5).trans ?_
  refine (ev_eq _ _ _ _ _ _).trans ?_
  refine (if_pos h6).trans ?_
  rfl
theorem E_X6_placeIn {T : List Shp} {c : Nat → Int → Int} {x1 : Int}  : cal 60 [vR 49, vR x1] (SH T, c) = ev 60 6 7 [vR 49, vR x1, vI 0, vI 0, vI 0] [] (SH T, c) := by
  refine (ev_eq _ _ _ _ _ _).trans ?_
  rfl
theorem B_X6_placeIn_7_1 {T : List Shp} {c : Nat → Int → Int} {x1 x2 x3 x4 : Int} {n1 : Nat} {r2 : Int} {c3 : Nat → Int → Int} (h1 : strOf x1 = some n1) (h2 : cal 345 [vR x1] (SH T, c) = some (some (vI r2), (SH T, c3))) (h3 : r2 < x4) : ev 60 6 7 [vR 49, vR x1, vI x2, vI x3, vI x4] [] (SH T, c) = some (some (vI (-1)), (SH T, c3)) := by
  refine (ev_eq _ _ _ _ _ _).trans ?_
  refine (el_of h1).trans ?_
  refine (el_call rfl h2).trans ?_
  refine (if_pos h3).trans ?_
  refine (ev_eq _ _ _ _ _ _).trans ?_
  rfl
theorem B_X6_placeIn_7_2 {T : List Shp} {c : Nat → Int → Int} {x1 x2 x3 x4 : Int} {n1 : Nat} {r2 : Int} {c3 : Nat → Int → Int} {n4 : Nat} {r5 : Int} {c6 : Nat → Int → Int} (h1 : strOf x1 = some n1) (h2 : cal 345 [vR x1] (SH T, c) = some (some (vI r2), (SH T, c3))) (h3 : ¬ r2 < x4) (h4 : strOf x1 = some n4) (h5 : cal 345 [vR x1] (SH T, c3) = some (some (vI r5), (SH T, c6))) (h6 : x4 = r5) : ev 60 6 7 [vR 49, vR x1, vI x2, vI x3, vI x4] [] (SH T, c) = ev 60 6 36 [vR 49, vR x1, vI x2, vI x3, vI x4] [] (SH T, c6) := by
  refine (ev_eq _ _ _ _ _ _).trans ?_
  refine (el_of h1).trans ?_
  refine (el_call rfl h2).trans ?_
  refine (if_neg h3).trans ?_
  refine (el_of h4).trans ?_
  refine (el_call rfl h5).trans ?_
  refine (if_pos h6).trans ?_
  rfl
theorem B_X6_placeIn_7_3 {T : List Shp} {c : Nat → Int → Int} {x1 x2 x3 x4 : Int} {n1 : Nat} {r2 : Int} {c3 : Nat → Int → Int} {n4 : Nat} {r5 : Int} {c6 : Nat → Int → Int} {n7 : Nat} {r8 : Int} {c9 : Nat → Int → Int} (h1 : strOf x1 = some n1) (h2 : cal 345 [vR x1] (SH T, c) = some (some (vI r2), (SH T, c3))) (h3 : ¬ r2 < x4) (h4 : strOf x1 = some n4) (h5 : cal 345 [vR x1] (SH T, c3) = some (some (vI r5), (SH T, c6))) (h6 : ¬ x4 = r5) (h7 : strOf x1 = some n7) (h8 : cal 346 [vR x1, vI x4] (SH T, c6) = some (some (vI r8), (SH T, c9))) (h9 : r8 = 32) : ev 60 6 7 [vR 49, vR x1, vI x2, vI x3, vI x4] [] (SH T, c) = ev 60 6 36 [vR 49, vR x1, vI x2, vI x3, vI x4] [] (SH T, c9) := by
  refine (ev_eq _ _ _ _ _ _).trans ?_
  refine (el_of h1).trans ?_
  refine (el_call rfl h2).trans ?_
  refine (if_neg h3).trans ?_
  refine (el_of h4).trans ?_
  refine (el_call rfl h5).trans ?_
  refine (if_neg h6).trans ?_
  refine (el_of h7).trans ?_
  refine (el_call rfl h8).trans ?_
  refine (if_pos h9).trans ?_
  rfl
theorem B_X6_placeIn_7_4 {T : List Shp} {c : Nat → Int → Int} {x1 x2 x3 x4 : Int} {n1 : Nat} {r2 : Int} {c3 : Nat → Int → Int} {n4 : Nat} {r5 : Int} {c6 : Nat → Int → Int} {n7 : Nat} {r8 : Int} {c9 : Nat → Int → Int} (h1 : strOf x1 = some n1) (h2 : cal 345 [vR x1] (SH T, c) = some (some (vI r2), (SH T, c3))) (h3 : ¬ r2 < x4) (h4 : strOf x1 = some n4) (h5 : cal 345 [vR x1] (SH T, c3) = some (some (vI r5), (SH T, c6))) (h6 : ¬ x4 = r5) (h7 : strOf x1 = some n7) (h8 : cal 346 [vR x1, vI x4] (SH T, c6) = some (some (vI r8), (SH T, c9))) (h9 : ¬ r8 = 32) : ev 60 6 7 [vR 49, vR x1, vI x2, vI x3, vI x4] [] (SH T, c) = ev 60 6 57 [vR 49, vR x1, vI x2, vI x3, vI x4] [] (SH T, c9) := by
  refine (ev_eq _ _ _ _ _ _).trans ?_
  refine (el_of h1).trans ?_
  refine (el_call rfl h2).trans ?_
  refine (if_neg h3).trans ?_
  refine (el_of h4).trans ?_
  refine (el_call rfl h5).trans ?_
  refine (if_neg h6).trans ?_
  refine (el_of h7).trans ?_
  refine (el_call rfl h8).trans ?_
  refine (if_neg h9).trans ?_
  rfl
theorem B_X6_placeIn_36_1 {T : List Shp} {c : Nat → Int → Int} {x1 x2 x3 x4 : Int} {r1 : Int} {c2 : Nat → Int → Int} (h1 : cal 61 [vR 49, vR x1, vI x3, vI x4] (SH T, c) = some (some (vI r1), (SH T, c2))) (h2 : r1 = 0) : ev 60 6 36 [vR 49, vR x1, vI x2, vI x3, vI x4] [] (SH T, c) = ev 60 6 57 [vR 49, vR x1, vI (w32 (x2 + 1)), vI (w32 (x4 + 1)), vI x4] [] (SH T, c2) := by
  refine (ev_eq _ _ _ _ _ _).trans ?_
  refine (el_call rfl h1).trans ?_
  refine (if_pos h2).trans ?_
  refine (ev_eq _ _ _ _ _ _).trans ?_
  rfl
theorem B_X6_placeIn_36_2 {T : List Shp} {c : Nat → Int → Int} {x1 x2 x3 x4 : Int} {r1 : Int} {c2 : Nat → Int → Int} (h1 : cal 61 [vR 49, vR x1, vI x3, vI x4] (SH T, c) = some (some (vI r1), (SH T, c2))) (h2 : ¬ r1 = 0) : ev 60 6 36 [vR 49, vR x1, vI x2, vI x3, vI x4] [] (SH T, c) = some (some (vI x2), (SH T, c2)) := by
  refine (ev_eq _ _ _ _ _ _).trans ?_
  refine (el_call rfl h1).trans ?_
  refine (if_neg h2).trans ?_
  rfl
theorem B_X6_placeIn_57 {T : List Shp} {c : Nat → Int → Int} {x1 x2 x3 x4 : Int}  : ev 60 6 57 [vR 49, vR x1, vI x2, vI x3, vI x4] [] (SH T, c) = ev 60 6 7 [vR 49, vR x1, vI x2, vI x3, vI (w32 (x4 + 1))] [] (SH T, c) := by
  refine (ev_eq _ _ _ _ _ _).trans ?_
  rfl
theorem E_X6_isSame_1 {T : List Shp} {c : Nat → Int → Int} {x1 x2 x3 : Int} (h1 : (c 48 4) = 0) (h2 : (w32 (x3 - x2)) = (w32 ((c 48 6) - (c 48 5)))) : cal 61 [vR 49, vR x1, vI x2, vI x3] (SH T, c) = ev 61 5 27 [vR 49, vR x1, vI x2, vI x3, vI 0] [] (SH T, c) := by
  refine (ev_eq _ _ _ _ _ _).trans ?_
  refine (if_pos h1).trans ?_
  refine (if_pos h2).trans ?_
  refine (ev_eq _ _ _ _ _ _).trans ?_
  rfl
theorem E_X6_isSame_2 {T : List Shp} {c : Nat → Int → Int} {x1 x2 x3 : Int} (h1 : (c 48 4) = 0) (h2 : ¬ (w32 (x3 - x2)) = (w32 ((c 48 6) - (c 48 5)))) : cal 61 [vR 49, vR x1, vI x2, vI x3] (SH T, c) = some (some (vI 0), (SH T, c)) := by
  refine (ev_eq _ _ _ _ _ _).trans ?_
  refine (if_pos h1).trans ?_
  refine (if_neg h2).trans ?_
  refine (ev_eq _ _ _ _ _ _).trans ?_
  rfl
theorem E_X6_isSame_3 {T : List Shp} {c : Nat → Int → Int} {x1 x2 x3 : Int} (h1 : ¬ (c 48 4) = 0) : cal 61 [vR 49, vR x1, vI x2, vI x3] (SH T, c) = some (some (vI 0), (SH T, c)) := by
  refine (ev_eq _ _ _ _ _ _).trans ?_
  refine (if_neg h1).trans ?_
  refine (ev_eq _ _ _ _ _ _).trans ?_
  rfl
theorem B_X6_isSame_27_1 {T : List Shp} {c : Nat → Int → Int} {x1 x2 x3 x4 : Int} {n1 : Nat} {r2 : Int} {c3 : Nat → Int → Int} (h1 : x4 < (w32 (x3 - x2))) (h2 : strOf x1 = some n1) (h3 : cal 346 [vR x1, vI (w32 (x2 + x4))] (SH T, c) = some (some (vI r2), (SH T, c3))) (h4 : 0 ≤ (w32 ((c3 48 5) + x4)) ∧ (w32 ((c3 48 5) + x4)) < 400) (h5 : r2 = (c3 10 (w32 ((c3 48 5) + x4)))) : ev 61 5 27 [vR 49, vR x1, vI x2, vI x3, vI x4] [] (SH T, c) = ev 61 5 27 [vR 49, vR x1, vI x2, vI x3, vI (w32 (x4 + 1))] [] (SH T, c3) := by
  refine (ev_eq _ _ _ _ _ _).trans ?_
  refine (if_pos h1).trans ?_
  refine (el_of h2).trans ?_
  refine (el_call rfl h3).trans ?_
  refine (if_pos h4).trans ?_
  refine (if_pos h5).trans ?_
  refine (ev_eq _ _ _ _ _ _).trans ?_
  rfl
theorem B_X6_isSame_27_2 {T : List Shp} {c : Nat → Int → Int} {x1 x2 x3 x4 : Int} {n1 : Nat} {r2 : Int} {c3 : Nat → Int → Int} (h1 : x4 < (w32 (x3 - x2))) (h2 : strOf x1 = some n1) (h3 : cal 346 [vR x1, vI (w32 (x2 + x4))] (SH T, c) = some (some (vI r2), (SH T, c3))) (h4 : 0 ≤ (w32 ((c3 48 5) + x4)) ∧ (w32 ((c3 48 5) + x4)) < 400) (h5 : ¬ r2 = (c3 10 (w32 ((c3 48 5) + x4)))) : ev 61 5 27 [vR 49, vR x1, vI x2, vI x3, vI x4] [] (SH T, c) = some (some (vI 0), (SH T, c3)) := by
  refine (ev_eq _ _ _ _ _ _).trans ?_
  refine (if_pos h1).trans ?_
  refine (el_of h2).trans ?_
  refine (el_call rfl h3).trans ?_
  refine (if_pos h4).trans ?_
  refine (if_neg h5).trans ?_
  rfl
theorem B_X6_isSame_27_3 {T : List Shp} {c : Nat → Int → Int} {x1 x2 x3 x4 : Int} (h1 : ¬ x4 < (w32 (x3 - x2))) : ev 61 5 27 [vR 49, vR x1, vI x2, vI x3, vI x4] [] (SH T, c) = some (some (vI 1), (SH T, c)) := by
  refine (ev_eq _ _ _ _ _ _).trans ?_
  refine (if_neg h1).trans ?_
  refine (ev_eq _ _ _ _ _ _).trans ?_
  rfl
theorem E_X6_next {T : List Shp} {c : Nat → Int → Int}  : cal 62 [vR 49] (SH T, c) = ev 62 2 8 [vR 49] [] (SH T, (up c 48 5 (c 48 6))) := by
  refine (ev_eq _ _ _ _ _ _).trans ?_
  rfl
theorem B_X6_next_8_1 {T : List Shp} {c : Nat → Int → Int} (h1 : (c 48 5) < (c 48 1)) (h2 : 0 ≤ (c 48 5) ∧ (c 48 5) < 400) (h3 : (c 10 (c 48 5)) = 32) : ev 62 2 8 [vR 49] [] (SH T, c) = ev 62 2 8 [vR 49] [] (SH T, (up c 48 5 (w32 ((c 48 5) + 1)))) := by
  refine (ev_eq _ _ _ _ _ _).trans ?_
  refine (if_pos h1).trans ?_
  refine (if_pos h2).trans ?_
  refine (if_pos h3).trans ?_
  rfl
theorem B_X6_next_8_2 {T : List Shp} {c : Nat → Int → Int} (h1 : (c 48 5) < (c 48 1)) (h2 : 0 ≤ (c 48 5) ∧ (c 48 5) < 400) (h3 : ¬ (c 10 (c 48 5)) = 32) : ev 62 2 8 [vR 49] [] (SH T, c) = ev 62 2 46 [vR 49] [] (SH T, c) := by
  refine (ev_eq _ _ _ _ _ _).trans ?_
  refine (if_pos h1).trans ?_
  refine (if_pos h2).trans ?_
  refine (if_neg h3).trans ?_
  rfl
theorem B_X6_next_8_3 {T : List Shp} {c : Nat → Int → Int} (h1 : ¬ (c 48 5) < (c 48 1)) : ev 62 2 8 [vR 49] [] (SH T, c) = ev 62 2 46 [vR 49] [] (SH T, c) := by
  refine (ev_eq _ _ _ _ _ _).trans ?_
  refine (if_neg h1).trans ?_
  rfl
theorem B_X6_next_46_1 {T : List Shp} {c : Nat → Int → Int} {r1 : Int} {c2 : Nat → Int → Int} (h1 : (c 48 5) < (c 48 1)) (h2 : 0 ≤ (c 48 5) ∧ (c 48 5) < 400) (h3 : cal 63 [vI (c 10 (c 48 5))] (SH T, (up (up c 48 6 (c 48 5)) 48 7 0)) = some (some (vI r1), (SH T, c2))) (h4 : r1 = 2) : ev 62 2 46 [vR 49] [] (SH T, c) = some (none, (SH T, (up (up c2 48 4 r1) 48 6 (w32 ((c2 48 6) + 1))))) := by
  refine (ev_eq _ _ _ _ _ _).trans ?_
  refine (if_pos h1).trans ?_
  refine (ev_eq _ _ _ _ _ _).trans ?_
  refine (if_pos h2).trans ?_
  refine (el_call rfl h3).trans ?_
  refine (if_pos h4).trans ?_
  rfl
theorem B_X6_next_46_2 {T : List Shp} {c : Nat → Int → Int} {r1 : Int} {c2 : Nat → Int → Int} (h1 : (c 48 5) < (c 48 1)) (h2 : 0 ≤ (c 48 5) ∧ (c 48 5) < 400) (h3 : cal 63 [vI (c 10 (c 48 5))] (SH T, (up (up c 48 6 (c 48 5)) 48 7 0)) = some (some (vI r1), (SH T, c2))) (h4 : ¬ r1 = 2) : ev 62 2 46 [vR 49] [] (SH T, c) = ev 62 2 111 [vR 49] [] (SH T, (up c2 48 4 r1)) := by
  refine (ev_eq _ _ _ _ _ _).trans ?_
  refine (if_pos h1).trans ?_
  refine (ev_eq _ _ _ _ _ _).trans ?_
  refine (if_pos h2).trans ?_
  refine (el_call rfl h3).trans ?_
  refine (if_neg h4).trans ?_
  rfl
theorem B_X6_next_46_3 {T : List Shp} {c : Nat → Int → Int} (h1 : ¬ (c 48 5) < (c 48 1)) : ev 62 2 46 [vR 49] [] (SH T, c) = some (none, (SH T, (up (up (up c 48 6 (c 48 5)) 48 7 0) 48 4 3))) := by
  refine (ev_eq _ _ _ _ _ _).trans ?_
  refine (if_neg h1).trans ?_
  rfl
theorem B_X6_next_111_1 {T : List Shp} {c : Nat → Int → Int} {r1 : Int} {c2 : Nat → Int → Int} {r3 : Int} {c4 : Nat → Int → Int} (h1 : (c 48 6) < (c 48 1)) (h2 : 0 ≤ (c 48 6) ∧ (c 48 6) < 400) (h3 : cal 63 [vI (c 10 (c 48 6))] (SH T, c) = some (some (vI r1), (SH T, c2))) (h4 : r1 = (c2 48 4)) (h5 : (c2 48 4) = 1) (h6 : 0 ≤ (c2 48 6) ∧ (c2 48 6) < 400) (h7 : cal 344 [vI 10000, vI (w32 ((w32 ((w32 ((c2 48 7) * 10)) + (c2 10 (c2 48 6)))) - 48))] (SH T, c2) = some (some (vI r3), (SH T, c4))) : ev 62 2 111 [vR 49] [] (SH T, c) = ev 62 2 179 [vR 49] [] (SH T, (up c4 48 7 r3)) := by
  refine (ev_eq _ _ _ _ _ _).trans ?_
  refine (if_pos h1).trans ?_
  refine (if_pos h2).trans ?_
  refine (el_call rfl h3).trans ?_
  refine (if_pos h4).trans ?_
  refine (if_pos h5).trans ?_
  refine (if_pos h6).trans ?_
  refine (el_call rfl h7).trans ?_
  rfl
theorem B_X6_next_111_2 {T : List Shp} {c : Nat → Int → Int} {r1 : Int} {c2 : Nat → Int → Int} (h1 : (c 48 6) < (c 48 1)) (h2 : 0 ≤ (c 48 6) ∧ (c 48 6) < 400) (h3 : cal 63 [vI (c 10 (c 48 6))] (SH T, c) = some (some (vI r1), (SH T, c2))) (h4 : r1 = (c2 48 4)) (h5 : ¬ (c2 48 4) = 1) : ev 62 2 111 [vR 49] [] (SH T, c) = ev 62 2 179 [vR 49] [] (SH T, c2) := by
  refine (ev_eq _ _ _ _ _ _).trans ?_
  refine (if_pos h1).trans ?_
  refine (if_pos h2).trans ?_
  refine (el_call rfl h3).trans ?_
  refine (if_pos h4).trans ?_
  refine (if_neg h5).trans ?_
  rfl
theorem B_X6_next_111_3 {T : List Shp} {c : Nat → Int → Int} {r1 : Int} {c2 : Nat → Int → Int} (h1 : (c 48 6) < (c 48 1)) (h2 : 0 ≤ (c 48 6) ∧ (c 48 6) < 400) (h3 : cal 63 [vI (c 10 (c 48 6))] (SH T, c) = some (some (vI r1), (SH T, c2))) (h4 : ¬ r1 = (c2 48 4)) : ev 62 2 111 [vR 49] [] (SH T, c) = some (none, (SH T, c2)) := by
  refine (ev_eq _ _ _ _ _ _).trans ?_
  refine (if_pos h1).trans ?_
  refine (if_pos h2).trans ?_
  refine (el_call rfl h3).trans ?_
  refine (if_neg h4).trans ?_
  refine (ev_eq _ _ _ _ _ _).trans ?_
  rfl
theorem B_X6_next_111_4 {T : List Shp} {c : Nat → Int → Int} (h1 : ¬ (c 48 6) < (c 48 1)) : ev 62 2 111 [vR 49] [] (SH T, c) = some (none, (SH T, c)) := by
  refine (ev_eq _ _ _ _ _ _).trans ?_
  refine (if_neg h1).trans ?_
  refine (ev_eq _ _ _ _ _ _).trans ?_
  rfl
theorem B_X6_next_179 {T : List Shp} {c : Nat → Int → Int}  : ev 62 2 179 [vR 49] [] (SH T, c) = ev 62 2 111 [vR 49] [] (SH T, (up c 48 6 (w32 ((c 48 6) + 1)))) := by
  refine (ev_eq _ _ _ _ _ _).trans ?_
  rfl
theorem E_X6_kindOf_1 {T : List Shp} {c : Nat → Int → Int} {x0 : Int} (h1 : x0 < 97) : cal 63 [vI x0] (SH T, c) = ev 63 1 14 [vI x0] [] (SH T, c) := by
  refine (ev_eq _ _ _ _ _ _).trans ?_
  refine (if_pos h1).trans ?_
  rfl
theorem E_X6_kindOf_2 {T : List Shp} {c : Nat → Int → Int} {x0 : Int} (h1 : ¬ x0 < 97) (h2 : 122 < x0) : cal 63 [vI x0] (SH T, c) = ev 63 1 14 [vI x0] [] (SH T, c) := by
  refine (ev_eq _ _ _ _ _ _).trans ?_
  refine (if_neg h1).trans ?_
  refine (if_pos h2).trans ?_
  rfl
theorem E_X6_kindOf_3 {T : List Shp} {c : Nat → Int → Int} {x0 : Int} (h1 : ¬ x0 < 97) (h2 : ¬ 122 < x0) : cal 63 [vI x0] (SH T, c) = some (some (vI 0), (SH T, c)) := by
  refine (ev_eq _ _ _ _ _ _).trans ?_
  refine (if_neg h1).trans ?_
  refine (if_neg h2).trans ?_
  rfl
theorem B_X6_kindOf_14_1 {T : List Shp} {c : Nat → Int → Int} {x0 : Int} (h1 : x0 < 48) : ev 63 1 14 [vI x0] [] (SH T, c) = some (some (vI 2), (SH T, c)) := by
  refine (ev_eq _ _ _ _ _ _).trans ?_
  refine (if_pos h1).trans ?_
  refine (ev_eq _ _ _ _ _ _).trans ?_
  rfl
theorem B_X6_kindOf_14_2 {T : List Shp} {c : Nat → Int → Int} {x0 : Int} (h1 : ¬ x0 < 48) (h2 : 57 < x0) : ev 63 1 14 [vI x0] [] (SH T, c) = some (some (vI 2), (SH T, c)) := by
  refine (ev_eq _ _ _ _ _ _).trans ?_
  refine (if_neg h1).trans ?_
  refine (if_pos h2).trans ?_
  refine (ev_eq _ _ _ _ _ _).trans ?_
  rfl
theorem B_X6_kindOf_14_3 {T : List Shp} {c : Nat → Int → Int} {x0 : Int} (h1 : ¬ x0 < 48) (h2 : ¬ 57 < x0) : ev 63 1 14 [vI x0] [] (SH T, c) = some (some (vI 1), (SH T, c)) := by
  refine (ev_eq _ _ _ _ _ _).trans ?_
  refine (if_neg h1).trans ?_
  refine (if_neg h2).trans ?_
  rfl
theorem E_X11_first_1 {T : List Shp} {c : Nat → Int → Int} {x1 x2 : Int} {r1 : Int} {c2 : Nat → Int → Int} (h1 : cal 178 [vI x1] (SH T, c) = some (some (vI r1), (SH T, c2))) (h2 : r1 = 0) : cal 114 [vR 1, vI x1, vI x2] (SH T, c) = ev 114 3 14 [vR 1, vU, vU, vU] [] (SH T, c2) := by
  refine (ev_eq _ _ _ _ _ _).trans ?_
  refine (el_call rfl h1).trans ?_
  refine (if_pos h2).trans ?_
  rfl
theorem E_X11_first_2 {T : List Shp} {c : Nat → Int → Int} {x1 x2 : Int} {r1 : Int} {c2 : Nat → Int → Int} {r3 : Int} {c4 : Nat → Int → Int} (h1 : cal 178 [vI x1] (SH T, c) = some (some (vI r1), (SH T, c2))) (h2 : ¬ r1 = 0) (h3 : cal 179 [vI x2] (SH T, c2) = some (some (vI r3), (SH T, c4))) (h4 : r3 = 0) : cal 114 [vR 1, vI x1, vI x2] (SH T, c) = ev 114 3 14 [vR 1, vU, vU, vU] [] (SH T, c4) := by
  refine (ev_eq _ _ _ _ _ _).trans ?_
  refine (el_call rfl h1).trans ?_
  refine (if_neg h2).trans ?_
  refine (el_call rfl h3).trans ?_
  refine (if_pos h4).trans ?_
  rfl
theorem E_X11_first_3 {T : List Shp} {c : Nat → Int → Int} {x1 x2 : Int} {r1 : Int} {c2 : Nat → Int → Int} {r3 : Int} {c4 : Nat → Int → Int} {r5 : Int} {c6 : Nat → Int → Int} (h1 : cal 178 [vI x1] (SH T, c) = some (some (vI r1), (SH T, c2))) (h2 : ¬ r1 = 0) (h3 : cal 179 [vI x2] (SH T, c2) = some (some (vI r3), (SH T, c4))) (h4 : ¬ r3 = 0) (h5 : 0 ≤ x1 ∧ x1 < 204) (h6 : 0 ≤ x1 ∧ x1 < 204) (h7 : cal 171 [vR 1, vI (c4 7 x1)] (SH T, (up (up c4 7 x1 x2) 1 8 0)) = some (some (vI r5), (SH T, c6))) : cal 114 [vR 1, vI x1, vI x2] (SH T, c) = some (some (vI r5), (SH T, c6)) := by
  refine (ev_eq _ _ _ _ _ _).trans ?_
  refine (el_call rfl h1).trans ?_
  refine (if_neg h2).trans ?_
  refine (el_call rfl h3).trans ?_
  refine (if_neg h4).trans ?_
  refine (ev_eq _ _ _ _ _ _).trans ?_
  refine (if_pos h5).trans ?_
  refine (if_pos h6).trans ?_
  refine (el_call rfl h7).trans ?_
  rfl
theorem B_X11_first_14 {T : List Shp} {c : Nat → Int → Int} {r1 : Int} {c2 : Nat → Int → Int} (h1 : cal 172 [vR 1, vI (-1)] (SH T, c) = some (some (vI r1), (SH T, c2))) : ev 114 3 14 [vR 1, vU, vU, vU] [] (SH T, c) = some (some (vI r1), (SH T, c2)) := by
  refine (ev_eq _ _ _ _ _ _).trans ?_
  refine (el_call rfl h1).trans ?_
  rfl
theorem E_X11_painter_1 {T : List Shp} {c : Nat → Int → Int} {x1 x2 : Int} (h1 : x1 < 1) : cal 115 [vR 1, vI x1, vI x2] (SH T, c) = ev 115 3 20 [vR 1, vU, vU, vU, vU] [] (SH T, c) := by
  refine (ev_eq _ _ _ _ _ _).trans ?_
  refine (if_pos h1).trans ?_
  rfl
theorem E_X11_painter_2 {T : List Shp} {c : Nat → Int → Int} {x1 x2 : Int} (h1 : ¬ x1 < 1) (h2 : 9 < x1) : cal 115 [vR 1, vI x1, vI x2] (SH T, c) = ev 115 3 20 [vR 1, vU, vU, vU, vU] [] (SH T, c) := by
  refine (ev_eq _ _ _ _ _ _).trans ?_
  refine (if_neg h1).trans ?_
  refine (if_pos h2).trans ?_
  rfl
theorem E_X11_painter_3 {T : List Shp} {c : Nat → Int → Int} {x1 x2 : Int} {r1 : Int} {c2 : Nat → Int → Int} (h1 : ¬ x1 < 1) (h2 : ¬ 9 < x1) (h3 : cal 177 [vI x2, vI 100] (SH T, c) = some (some (vI r1), (SH T, c2))) (h4 : r1 = 0) : cal 115 [vR 1, vI x1, vI x2] (SH T, c) = ev 115 3 20 [vR 1, vU, vU, vU, vU] [] (SH T, c2) := by
  refine (ev_eq _ _ _ _ _ _).trans ?_
  refine (if_neg h1).trans ?_
  refine (if_neg h2).trans ?_
  refine (el_call rfl h3).trans ?_
  refine (if_pos h4).trans ?_
  rfl
theorem E_X11_painter_4 {T : List Shp} {c : Nat → Int → Int} {x1 x2 : Int} {r1 : Int} {c2 : Nat → Int → Int} (h1 : ¬ x1 < 1) (h2 : ¬ 9 < x1) (h3 : cal 177 [vI x2, vI 100] (SH T, c) = some (some (vI r1), (SH T, c2))) (h4 : ¬ r1 = 0) (h5 : (c2 1 0) < 5) (h6 : 0 ≤ (w32 ((c2 1 0) * 5)) ∧ (w32 ((c2 1 0) * 5)) < 25) (h7 : 0 ≤ (w32 ((w32 ((c2 1 0) * 5)) + 1)) ∧ (w32 ((w32 ((c2 1 0) * 5)) + 1)) < 25) : cal 115 [vR 1, vI x1, vI x2] (SH T, c) = ev 115 3 79 [vR 1, vU, vU, vI (w32 ((c2 1 0) * 5)), vI 0] [] (SH T, (up (up c2 2 (w32 ((c2 1 0) * 5)) x1) 2 (w32 ((w32 ((c2 1 0) * 5)) + 1)) x2)) := by
  refine (ev_eq _ _ _ _ _ _).trans ?_
  refine (if_neg h1).trans ?_
  refine (if_neg h2).trans ?_
  refine (el_call rfl h3).trans ?_
  refine (if_neg h4).trans ?_
  refine (ev_eq _ _ _ _ _ _).trans ?_
  refine (if_pos h5).trans ?_
  refine (ev_eq _ _ _ _ _ _).trans ?_
  refine (if_pos h6).trans ?_
  refine (if_pos h7).trans ?_
  rfl
theorem E_X11_painter_5 {T : List Shp} {c : Nat → Int → Int} {x1 x2 : Int} {r1 : Int} {c2 : Nat → Int → Int} {r3 : Int} {c4 : Nat → Int → Int} (h1 : ¬ x1 < 1) (h2 : ¬ 9 < x1) (h3 : cal 177 [vI x2, vI 100] (SH T, c) = some (some (vI r1), (SH T, c2))) (h4 : ¬ r1 = 0) (h5 : ¬ (c2 1 0) < 5) (h6 : cal 172 [vR 1, vI (-5)] (SH T, c2) = some (some (vI r3), (SH T, c4))) : cal 115 [vR 1, vI x1, vI x2] (SH T, c) = some (some (vI r3), (SH T, c4)) := by
  refine (ev_eq _ _ _ _ _ _).trans ?_
  refine (if_neg h1).trans ?_
  refine (if_neg h2).trans ?_
  refine (el_call rfl h3).trans ?_
  refine (if_neg h4).trans ?_
  refine (ev_eq _ _ _ _ _ _).trans ?_
  refine (if_neg h5).trans ?_
  refine (el_call rfl h6).trans ?_
  rfl
theorem B_X11_painter_20 {T : List Shp} {c : Nat → Int → Int} {r1 : Int} {c2 : Nat → Int → Int} (h1 : cal 172 [vR 1, vI (-1)] (SH T, c) = some (some (vI r1), (SH T, c2))) : ev 115 3 20 [vR 1, vU, vU, vU, vU] [] (SH T, c) = some (some (vI r1), (SH T, c2)) := by
  refine (ev_eq _ _ _ _ _ _).trans ?_
  refine (el_call rfl h1).trans ?_
  rfl
theorem B_X11_painter_79_1 {T : List Shp} {c : Nat → Int → Int} {x3 x4 : Int} (h1 : x4 < 3) (h2 : 0 ≤ (w32 ((w32 (x3 + 2)) + x4)) ∧ (w32 ((w32 (x3 + 2)) + x4)) < 25) : ev 115 3 79 [vR 1, vU, vU, vI x3, vI x4] [] (SH T, c) = ev 115 3 79 [vR 1, vU, vU, vI x3, vI (w32 (x4 + 1))] [] (SH T, (up c 2 (w32 ((w32 (x3 + 2)) + x4)) 3)) := by
  refine (ev_eq _ _ _ _ _ _).trans ?_
  refine (if_pos h1).trans ?_
  refine (if_pos h2).trans ?_
  rfl
theorem B_X11_painter_79_2 {T : List Shp} {c : Nat → Int → Int} {x3 x4 : Int} {r1 : Int} {c2 : Nat → Int → Int} (h1 : ¬ x4 < 3) (h2 : cal 171 [vR 1, vI (w32 ((w32 ((c 1 0) + 1)) - 1))] (SH T, (up c 1 0 (w32 ((c 1 0) + 1)))) = some (some (vI r1), (SH T, c2))) : ev 115 3 79 [vR 1, vU, vU, vI x3, vI x4] [] (SH T, c) = some (some (vI r1), (SH T, c2)) := by
  refine (ev_eq _ _ _ _ _ _).trans ?_
  refine (if_neg h1).trans ?_
  refine (ev_eq _ _ _ _ _ _).trans ?_
  refine (el_call rfl h2).trans ?_
  rfl
theorem E_X11_err_1 {T : List Shp} {c : Nat → Int → Int} {x1 x2 x3 : Int} {r1 : Int} {c2 : Nat → Int → Int} (h1 : cal 177 [vI x2, vI 3] (SH T, c) = some (some (vI r1), (SH T, c2))) (h2 : r1 = 0) : cal 116 [vR 1, vI x1, vI x2, vI x3] (SH T, c) = ev 116 3 17 [vR 1, vU, vU, vU, vU, vU] [] (SH T, c2) := by
  refine (ev_eq _ _ _ _ _ _).trans ?_
  refine (el_call rfl h1).trans ?_
  refine (if_pos h2).trans ?_
  rfl
theorem E_X11_err_2 {T : List Shp} {c : Nat → Int → Int} {x1 x2 x3 : Int} {r1 : Int} {c2 : Nat → Int → Int} {r3 : Int} {c4 : Nat → Int → Int} (h1 : cal 177 [vI x2, vI 3] (SH T, c) = some (some (vI r1), (SH T, c2))) (h2 : ¬ r1 = 0) (h3 : cal 177 [vI x3, vI 7] (SH T, c2) = some (some (vI r3), (SH T, c4))) (h4 : r3 = 0) : cal 116 [vR 1, vI x1, vI x2, vI x3] (SH T, c) = ev 116 3 17 [vR 1, vU, vU, vU, vU, vU] [] (SH T, c4) := by
  refine (ev_eq _ _ _ _ _ _).trans ?_
  refine (el_call rfl h1).trans ?_
  refine (if_neg h2).trans ?_
  refine (el_call rfl h3).trans ?_
  refine (if_pos h4).trans ?_
  rfl
theorem E_X11_err_3 {T : List Shp} {c : Nat → Int → Int} {x1 x2 x3 : Int} {r1 : Int} {c2 : Nat → Int → Int} {r3 : Int} {c4 : Nat → Int → Int} {r5 : Int} {c6 : Nat → Int → Int} {r7 : Int} {c8 : Nat → Int → Int} (h1 : cal 177 [vI x2, vI 3] (SH T, c) = some (some (vI r1), (SH T, c2))) (h2 : ¬ r1 = 0) (h3 : cal 177 [vI x3, vI 7] (SH T, c2) = some (some (vI r3), (SH T, c4))) (h4 : ¬ r3 = 0) (h5 : cal 66 [vR 2, vI x1] (SH T, c4) = some (some (vI r5), (SH T, c6))) (h6 : r5 = 0) (h7 : cal 172 [vR 1, vI (-2)] (SH T, c6) = some (some (vI r7), (SH T, c8))) : cal 116 [vR 1, vI x1, vI x2, vI x3] (SH T, c) = some (some (vI r7), (SH T, c8)) := by
  refine (ev_eq _ _ _ _ _ _).trans ?_
  refine (el_call rfl h1).trans ?_
  refine (if_neg h2).trans ?_
  refine (el_call rfl h3).trans ?_
  refine (if_neg h4).trans ?_
  refine (ev_eq _ _ _ _ _ _).trans ?_
  refine (el_call rfl h5).trans ?_
  refine (if_pos h6).trans ?_
  refine (el_call rfl h7).trans ?_
  rfl
theorem E_X11_err_4 {T : List Shp} {c : Nat → Int → Int} {x1 x2 x3 : Int} {r1 : Int} {c2 : Nat → Int → Int} {r3 : Int} {c4 : Nat → Int → Int} {r5 : Int} {c6 : Nat → Int → Int} {r7 : Int} {c8 : Nat → Int → Int} (h1 : cal 177 [vI x2, vI 3] (SH T, c) = some (some (vI r1), (SH T, c2))) (h2 : ¬ r1 = 0) (h3 : cal 177 [vI x3, vI 7] (SH T, c2) = some (some (vI r3), (SH T, c4))) (h4 : ¬ r3 = 0) (h5 : cal 66 [vR 2, vI x1] (SH T, c4) = some (some (vI r5), (SH T, c6))) (h6 : ¬ r5 = 0) (h7 : 0 ≤ (w32 ((w32 ((w32 (x1 * 5)) + 2)) + x2)) ∧ (w32 ((w32 ((w32 (x1 * 5)) + 2)) + x2)) < 25) (h8 : 0 ≤ (w32 ((w32 ((w32 (x1 * 5)) + 2)) + x2)) ∧ (w32 ((w32 ((w32 (x1 * 5)) + 2)) + x2)) < 25) (h9 : cal 171 [vR 1, vI (c6 2 (w32 ((w32 ((w32 (x1 * 5)) + 2)) + x2)))] (SH T, (up c6 2 (w32 ((w32 ((w32 (x1 * 5)) + 2)) + x2)) x3)) = some (some (vI r7), (SH T, c8))) : cal 116 [vR 1, vI x1, vI x2, vI x3] (SH T, c) = some (some (vI r7), (SH T, c8)) := by
  refine (ev_eq _ _ _ _ _ _).trans ?_
  refine (el_call rfl h1).trans ?_
  refine (if_neg h2).trans ?_
  refine (el_call rfl h3).trans ?_
  refine (if_neg h4).trans ?_
  refine (ev_eq _ _ _ _ _ _).trans ?_
  refine (el_call rfl h5).trans ?_
  refine (if_neg h6).trans ?_
  refine (ev_eq _ _ _ _ _ _).trans ?_
  refine (if_pos h7).trans ?_
  refine (if_pos h8).trans ?_
  refine (el_call rfl h9).trans ?_
  rfl
theorem B_X11_err_17 {T : List Shp} {c : Nat → Int → Int} {r1 : Int} {c2 : Nat → Int → Int} (h1 : cal 172 [vR 1, vI (-1)] (SH T, c) = some (some (vI r1), (SH T, c2))) : ev 116 3 17 [vR 1, vU, vU, vU, vU, vU] [] (SH T, c) = some (some (vI r1), (SH T, c2)) := by
  refine (ev_eq _ _ _ _ _ _).trans ?_
  refine (el_call rfl h1).trans ?_
  rfl
theorem E_X11_of_1 {T : List Shp} {c : Nat → Int → Int} {x1 x2 : Int} {r1 : Int} {c2 : Nat → Int → Int} (h1 : cal 66 [vR 2, vI x1] (SH T, c) = some (some (vI r1), (SH T, c2))) (h2 : r1 = 0) : cal 117 [vR 1, vI x1, vI x2] (SH T, c) = some (some (vI (-1)), (SH T, c2)) := by
  refine (ev_eq _ _ _ _ _ _).trans ?_
  refine (el_call rfl h1).trans ?_
  refine (if_pos h2).trans ?_
  refine (ev_eq _ _ _ _ _ _).trans ?_
  rfl
theorem E_X11_of_2 {T : List Shp} {c : Nat → Int → Int} {x1 x2 : Int} {r1 : Int} {c2 : Nat → Int → Int} {r3 : Int} {c4 : Nat → Int → Int} (h1 : cal 66 [vR 2, vI x1] (SH T, c) = some (some (vI r1), (SH T, c2))) (h2 : ¬ r1 = 0) (h3 : cal 177 [vI x2, vI 5] (SH T, c2) = some (some (vI r3), (SH T, c4))) (h4 : r3 = 0) : cal 117 [vR 1, vI x1, vI x2] (SH T, c) = some (some (vI (-1)), (SH T, c4)) := by
  refine (ev_eq _ _ _ _ _ _).trans ?_
  refine (el_call rfl h1).trans ?_
  refine (if_neg h2).trans ?_
  refine (el_call rfl h3).trans ?_
  refine (if_pos h4).trans ?_
  refine (ev_eq _ _ _ _ _ _).trans ?_
  rfl
theorem E_X11_of_3 {T : List Shp} {c : Nat → Int → Int} {x1 x2 : Int} {r1 : Int} {c2 : Nat → Int → Int} {r3 : Int} {c4 : Nat → Int → Int} (h1 : cal 66 [vR 2, vI x1] (SH T, c) = some (some (vI r1), (SH T, c2))) (h2 : ¬ r1 = 0) (h3 : cal 177 [vI x2, vI 5] (SH T, c2) = some (some (vI r3), (SH T, c4))) (h4 : ¬ r3 = 0) (h5 : 0 ≤ (w32 ((w32 (x1 * 5)) + x2)) ∧ (w32 ((w32 (x1 * 5)) + x2)) < 25) : cal 117 [vR 1, vI x1, vI x2] (SH T, c) = some (some (vI (c4 2 (w32 ((w32 (x1 * 5)) + x2)))), (SH T, c4)) := by
  refine (ev_eq _ _ _ _ _ _).trans ?_
  refine (el_call rfl h1).trans ?_
  refine (if_neg h2).trans ?_
  refine (el_call rfl h3).trans ?_
  refine (if_neg h4).trans ?_
  refine (ev_eq _ _ _ _ _ _).trans ?_
  refine (if_pos h5).trans ?_
  rfl
theorem E_X11_terms_1 {T : List Shp} {c : Nat → Int → Int} {x1 x2 : Int} {r1 : Int} {c2 : Nat → Int → Int} (h1 : cal 177 [vI x1, vI 5] (SH T, c) = some (some (vI r1), (SH T, c2))) (h2 : r1 = 0) : cal 118 [vR 1, vI x1, vI x2] (SH T, c) = ev 118 3 20 [vR 1, vU, vU, vU] [] (SH T, c2) := by
  refine (ev_eq _ _ _ _ _ _).trans ?_
  refine (el_call rfl h1).trans ?_
  refine (if_pos h2).trans ?_
  rfl
theorem E_X11_terms_2 {T : List Shp} {c : Nat → Int → Int} {x1 x2 : Int} {r1 : Int} {c2 : Nat → Int → Int} (h1 : cal 177 [vI x1, vI 5] (SH T, c) = some (some (vI r1), (SH T, c2))) (h2 : ¬ r1 = 0) (h3 : x2 < 0) : cal 118 [vR 1, vI x1, vI x2] (SH T, c) = ev 118 3 20 [vR 1, vU, vU, vU] [] (SH T, c2) := by
  refine (ev_eq _ _ _ _ _ _).trans ?_
  refine (el_call rfl h1).trans ?_
  refine (if_neg h2).trans ?_
  refine (if_pos h3).trans ?_
  rfl
theorem E_X11_terms_3 {T : List Shp} {c : Nat → Int → Int} {x1 x2 : Int} {r1 : Int} {c2 : Nat → Int → Int} {r3 : Int} {c4 : Nat → Int → Int} (h1 : cal 177 [vI x1, vI 5] (SH T, c) = some (some (vI r1), (SH T, c2))) (h2 : ¬ r1 = 0) (h3 : ¬ x2 < 0) (h4 : cal 176 [vI x1] (SH T, c2) = some (some (vI r3), (SH T, c4))) (h5 : r3 < x2) : cal 118 [vR 1, vI x1, vI x2] (SH T, c) = ev 118 3 20 [vR 1, vU, vU, vU] [] (SH T, c4) := by
  refine (ev_eq _ _ _ _ _ _).trans ?_
  refine (el_call rfl h1).trans ?_
  refine (if_neg h2).trans ?_
  refine (if_neg h3).trans ?_
  refine (el_call rfl h4).trans ?_
  refine (if_pos h5).trans ?_
  rfl
theorem E_X11_terms_4 {T : List Shp} {c : Nat → Int → Int} {x1 x2 : Int} {r1 : Int} {c2 : Nat → Int → Int} {r3 : Int} {c4 : Nat → Int → Int} {r5 : Int} {c6 : Nat → Int → Int} (h1 : cal 177 [vI x1, vI 5] (SH T, c) = some (some (vI r1), (SH T, c2))) (h2 : ¬ r1 = 0) (h3 : ¬ x2 < 0) (h4 : cal 176 [vI x1] (SH T, c2) = some (some (vI r3), (SH T, c4))) (h5 : ¬ r3 < x2) (h6 : 0 ≤ x1 ∧ x1 < 5) (h7 : 0 ≤ x1 ∧ x1 < 5) (h8 : cal 171 [vR 1, vI (c4 4 x1)] (SH T, (up c4 4 x1 x2)) = some (some (vI r5), (SH T, c6))) : cal 118 [vR 1, vI x1, vI x2] (SH T, c) = some (some (vI r5), (SH T, c6)) := by
  refine (ev_eq _ _ _ _ _ _).trans ?_
  refine (el_call rfl h1).trans ?_
  refine (if_neg h2).trans ?_
  refine (if_neg h3).trans ?_
  refine (el_call rfl h4).trans ?_
  refine (if_neg h5).trans ?_
  refine (ev_eq _ _ _ _ _ _).trans ?_
  refine (if_pos h6).trans ?_
  refine (if_pos h7).trans ?_
  refine (el_call rfl h8).trans ?_
  rfl
theorem B_X11_terms_20 {T : List Shp} {c : Nat → Int → Int} {r1 : Int} {c2 : Nat → Int → Int} (h1 : cal 172 [vR 1, vI (-1)] (SH T, c) = some (some (vI r1), (SH T, c2))) : ev 118 3 20 [vR 1, vU, vU, vU] [] (SH T, c) = some (some (vI r1), (SH T, c2)) := by
  refine (ev_eq _ _ _ _ _ _).trans ?_
  refine (el_call rfl h1).trans ?_
  rfl
theorem E_X11_scar_1 {T : List Shp} {c : Nat → Int → Int} {x1 x2 x3 : Int} {r1 : Int} {c2 : Nat → Int → Int} (h1 : cal 178 [vI x1] (SH T, c) = some (some (vI r1), (SH T, c2))) (h2 : r1 = 0) : cal 119 [vR 1, vI x1, vI x2, vI x3] (SH T, c) = ev 119 3 23 [vR 1, vU, vU, vU, vU] [] (SH T, c2) := by
  refine (ev_eq _ _ _ _ _ _).trans ?_
  refine (el_call rfl h1).trans ?_
  refine (if_pos h2).trans ?_
  rfl
theorem E_X11_scar_2 {T : List Shp} {c : Nat → Int → Int} {x1 x2 x3 : Int} {r1 : Int} {c2 : Nat → Int → Int} {r3 : Int} {c4 : Nat → Int → Int} (h1 : cal 178 [vI x1] (SH T, c) = some (some (vI r1), (SH T, c2))) (h2 : ¬ r1 = 0) (h3 : cal 177 [vI x2, vI 100] (SH T, c2) = some (some (vI r3), (SH T, c4))) (h4 : r3 = 0) : cal 119 [vR 1, vI x1, vI x2, vI x3] (SH T, c) = ev 119 3 23 [vR 1, vU, vU, vU, vU] [] (SH T, c4) := by
  refine (ev_eq _ _ _ _ _ _).trans ?_
  refine (el_call rfl h1).trans ?_
  refine (if_neg h2).trans ?_
  refine (el_call rfl h3).trans ?_
  refine (if_pos h4).trans ?_
  rfl
theorem E_X11_scar_3 {T : List Shp} {c : Nat → Int → Int} {x1 x2 x3 : Int} {r1 : Int} {c2 : Nat → Int → Int} {r3 : Int} {c4 : Nat → Int → Int} {r5 : Int} {c6 : Nat → Int → Int} (h1 : cal 178 [vI x1] (SH T, c) = some (some (vI r1), (SH T, c2))) (h2 : ¬ r1 = 0) (h3 : cal 177 [vI x2, vI 100] (SH T, c2) = some (some (vI r3), (SH T, c4))) (h4 : ¬ r3 = 0) (h5 : cal 179 [vI x3] (SH T, c4) = some (some (vI r5), (SH T, c6))) (h6 : r5 = 0) : cal 119 [vR 1, vI x1, vI x2, vI x3] (SH T, c) = ev 119 3 23 [vR 1, vU, vU, vU, vU] [] (SH T, c6) := by
  refine (ev_eq _ _ _ _ _ _).trans ?_
  refine (el_call rfl h1).trans ?_
  refine (if_neg h2).trans ?_
  refine (el_call rfl h3).trans ?_
  refine (if_neg h4).trans ?_
  refine (el_call rfl h5).trans ?_
  refine (if_pos h6).trans ?_
  rfl
theorem E_X11_scar_4 {T : List Shp} {c : Nat → Int → Int} {x1 x2 x3 : Int} {r1 : Int} {c2 : Nat → Int → Int} {r3 : Int} {c4 : Nat → Int → Int} {r5 : Int} {c6 : Nat → Int → Int} {r7 : Int} {c8 : Nat → Int → Int} (h1 : cal 178 [vI x1] (SH T, c) = some (some (vI r1), (SH T, c2))) (h2 : ¬ r1 = 0) (h3 : cal 177 [vI x2, vI 100] (SH T, c2) = some (some (vI r3), (SH T, c4))) (h4 : ¬ r3 = 0) (h5 : cal 179 [vI x3] (SH T, c4) = some (some (vI r5), (SH T, c6))) (h6 : ¬ r5 = 0) (h7 : (c6 1 2) < 6) (h8 : 0 ≤ (w32 ((c6 1 2) * 3)) ∧ (w32 ((c6 1 2) * 3)) < 18) (h9 : 0 ≤ (w32 ((w32 ((c6 1 2) * 3)) + 1)) ∧ (w32 ((w32 ((c6 1 2) * 3)) + 1)) < 18) (h10 : 0 ≤ (w32 ((w32 ((c6 1 2) * 3)) + 2)) ∧ (w32 ((w32 ((c6 1 2) * 3)) + 2)) < 18) (h11 : cal 171 [vR 1, vI (w32 ((w32 ((c6 1 2) + 1)) - 1))] (SH T, (up (up (up (up c6 3 (w32 ((c6 1 2) * 3)) x1) 3 (w32 ((w32 ((c6 1 2) * 3)) + 1)) x2) 3 (w32 ((w32 ((c6 1 2) * 3)) + 2)) x3) 1 2 (w32 ((c6 1 2) + 1)))) = some (some (vI r7), (SH T, c8))) : cal 119 [vR 1, vI x1, vI x2, vI x3] (SH T, c) = some (some (vI r7), (SH T, c8)) := by
  refine (ev_eq _ _ _ _ _ _).trans ?_
  refine (el_call rfl h1).trans ?_
  refine (if_neg h2).trans ?_
  refine (el_call rfl h3).trans ?_
  refine (if_neg h4).trans ?_
  refine (el_call rfl h5).trans ?_
  refine (if_neg h6).trans ?_
  refine (ev_eq _ _ _ _ _ _).trans ?_
  refine (if_pos h7).trans ?_
  refine (ev_eq _ _ _ _ _ _).trans ?_
  refine (if_pos h8).trans ?_
  refine (if_pos h9).trans ?_
  refine (if_pos h10).trans ?_
  refine (el_call rfl h11).trans ?_
  rfl
theorem E_X11_scar_5 {T : List Shp} {c : Nat → Int → Int} {x1 x2 x3 : Int} {r1 : Int} {c2 : Nat → Int → Int} {r3 : Int} {c4 : Nat → Int → Int} {r5 : Int} {c6 : Nat → Int → Int} {r7 : Int} {c8 : Nat → Int → Int} (h1 : cal 178 [vI x1] (SH T, c) = some (some (vI r1), (SH T, c2))) (h2 : ¬ r1 = 0) (h3 : cal 177 [vI x2, vI 100] (SH T, c2) = some (some (vI r3), (SH T, c4))) (h4 : ¬ r3 = 0) (h5 : cal 179 [vI x3] (SH T, c4) = some (some (vI r5), (SH T, c6))) (h6 : ¬ r5 = 0) (h7 : ¬ (c6 1 2) < 6) (h8 : cal 172 [vR 1, vI (-5)] (SH T, c6) = some (some (vI r7), (SH T, c8))) : cal 119 [vR 1, vI x1, vI x2, vI x3] (SH T, c) = some (some (vI r7), (SH T, c8)) := by
  refine (ev_eq _ _ _ _ _ _).trans ?_
  refine (el_call rfl h1).trans ?_
  refine (if_neg h2).trans ?_
  refine (el_call rfl h3).trans ?_
  refine (if_neg h4).trans ?_
  refine (el_call rfl h5).trans ?_
  refine (if_neg h6).trans ?_
  refine (ev_eq _ _ _ _ _ _).trans ?_
  refine (if_neg h7).trans ?_
  refine (el_call rfl h8).trans ?_
  rfl
theorem B_X11_scar_23 {T : List Shp} {c : Nat → Int → Int} {r1 : Int} {c2 : Nat → Int → Int} (h1 : cal 172 [vR 1, vI (-1)] (SH T, c) = some (some (vI r1), (SH T, c2))) : ev 119 3 23 [vR 1, vU, vU, vU, vU] [] (SH T, c) = some (some (vI r1), (SH T, c2)) := by
  refine (ev_eq _ _ _ _ _ _).trans ?_
  refine (el_call rfl h1).trans ?_
  rfl
theorem E_X11_heal_1 {T : List Shp} {c : Nat → Int → Int} {x1 : Int} {r1 : Int} {c2 : Nat → Int → Int} {r3 : Int} {c4 : Nat → Int → Int} (h1 : cal 177 [vI x1, vI (c 1 2)] (SH T, c) = some (some (vI r1), (SH T, c2))) (h2 : r1 = 0) (h3 : cal 172 [vR 1, vI (-2)] (SH T, c2) = some (some (vI r3), (SH T, c4))) : cal 120 [vR 1, vI x1] (SH T, c) = some (some (vI r3), (SH T, c4)) := by
  refine (ev_eq _ _ _ _ _ _).trans ?_
  refine (el_call rfl h1).trans ?_
  refine (if_pos h2).trans ?_
  refine (el_call rfl h3).trans ?_
  rfl
theorem E_X11_heal_2 {T : List Shp} {c : Nat → Int → Int} {x1 : Int} {r1 : Int} {c2 : Nat → Int → Int} (h1 : cal 177 [vI x1, vI (c 1 2)] (SH T, c) = some (some (vI r1), (SH T, c2))) (h2 : ¬ r1 = 0) : cal 120 [vR 1, vI x1] (SH T, c) = ev 120 3 27 [vR 1, vU, vI (w32 ((w32 (x1 + 1)) * 3))] [] (SH T, c2) := by
  refine (ev_eq _ _ _ _ _ _).trans ?_
  refine (el_call rfl h1).trans ?_
  refine (if_neg h2).trans ?_
  refine (ev_eq _ _ _ _ _ _).trans ?_
  rfl
theorem B_X11_heal_27_1 {T : List Shp} {c : Nat → Int → Int} {x2 : Int} (h1 : x2 < (w32 ((c 1 2) * 3))) (h2 : 0 ≤ x2 ∧ x2 < 18) (h3 : 0 ≤ (w32 (x2 - 3)) ∧ (w32 (x2 - 3)) < 18) : ev 120 3 27 [vR 1, vU, vI x2] [] (SH T, c) = ev 120 3 27 [vR 1, vU, vI (w32 (x2 + 1))] [] (SH T, (up c 3 (w32 (x2 - 3)) (c 3 x2))) := by
  refine (ev_eq _ _ _ _ _ _).trans ?_
  refine (if_pos h1).trans ?_
  refine (if_pos h2).trans ?_
  refine (if_pos h3).trans ?_
  rfl
theorem B_X11_heal_27_2 {T : List Shp} {c : Nat → Int → Int} {x2 : Int} {r1 : Int} {c2 : Nat → Int → Int} (h1 : ¬ x2 < (w32 ((c 1 2) * 3))) (h2 : cal 171 [vR 1, vI (w32 ((c 1 2) - 1))] (SH T, (up c 1 2 (w32 ((c 1 2) - 1)))) = some (some (vI r1), (SH T, c2))) : ev 120 3 27 [vR 1, vU, vI x2] [] (SH T, c) = some (some (vI r1), (SH T, c2)) := by
  refine (ev_eq _ _ _ _ _ _).trans ?_
  refine (if_neg h1).trans ?_
  refine (ev_eq _ _ _ _ _ _).trans ?_
  refine (el_call rfl h2).trans ?_
  rfl
theorem E_X11_feed_1 {T : List Shp} {c : Nat → Int → Int} {x1 x2 x3 x4 x5 : Int} (h1 : 400 < (w32 ((c 0 4) + 20))) : cal 121 [vR 1, vI x1, vI x2, vI x3, vI x4, vI x5] (SH T, c) = some (some (vI (-1)), (SH T, c)) := by
  refine (ev_eq _ _ _ _ _ _).trans ?_
  refine (if_pos h1).trans ?_
  rfl
theorem E_X11_feed_2 {T : List Shp} {c : Nat → Int → Int} {x1 x2 x3 x4 x5 : Int} {c1 : Nat → Int → Int} {c2 : Nat → Int → Int} {c3 : Nat → Int → Int} {c4 : Nat → Int → Int} {c5 : Nat → Int → Int} (h1 : ¬ 400 < (w32 ((c 0 4) + 20))) (h2 : cal 173 [vR 1, vI x1] (SH T, c) = some (none, (SH T, c1))) (h3 : cal 173 [vR 1, vI x2] (SH T, c1) = some (none, (SH T, c2))) (h4 : cal 173 [vR 1, vI x3] (SH T, c2) = some (none, (SH T, c3))) (h5 : cal 173 [vR 1, vI x4] (SH T, c3) = some (none, (SH T, c4))) (h6 : cal 173 [vR 1, vI x5] (SH T, c4) = some (none, (SH T, c5))) : cal 121 [vR 1, vI x1, vI x2, vI x3, vI x4, vI x5] (SH T, c) = some (some (vI (c5 0 4)), (SH T, c5)) := by
  refine (ev_eq _ _ _ _ _ _).trans ?_
  refine (if_neg h1).trans ?_
  refine (ev_eq _ _ _ _ _ _).trans ?_
  refine (el_call rfl h2).trans ?_
  refine (el_call rfl h3).trans ?_
  refine (el_call rfl h4).trans ?_
  refine (el_call rfl h5).trans ?_
  refine (el_call rfl h6).trans ?_
  rfl
theorem E_X11_end_1 {T : List Shp} {c : Nat → Int → Int} {x1 : Int} (h1 : x1 < 0) : cal 122 [vR 1, vI x1] (SH T, c) = some (some (vI (-1)), (SH T, c)) := by
  refine (ev_eq _ _ _ _ _ _).trans ?_
  refine (if_pos h1).trans ?_
  refine (ev_eq _ _ _ _ _ _).trans ?_
  rfl
theorem E_X11_end_2 {T : List Shp} {c : Nat → Int → Int} {x1 : Int} (h1 : ¬ x1 < 0) (h2 : (c 0 4) < x1) : cal 122 [vR 1, vI x1] (SH T, c) = some (some (vI (-1)), (SH T, c)) := by
  refine (ev_eq _ _ _ _ _ _).trans ?_
  refine (if_neg h1).trans ?_
  refine (if_pos h2).trans ?_
  refine (ev_eq _ _ _ _ _ _).trans ?_
  rfl
theorem E_X11_end_3 {T : List Shp} {c : Nat → Int → Int} {x1 : Int} (h1 : ¬ x1 < 0) (h2 : ¬ (c 0 4) < x1) : cal 122 [vR 1, vI x1] (SH T, c) = some (some (vI x1), (SH T, (up c 0 4 x1))) := by
  refine (ev_eq _ _ _ _ _ _).trans ?_
  refine (if_neg h1).trans ?_
  refine (if_neg h2).trans ?_
  refine (ev_eq _ _ _ _ _ _).trans ?_
  rfl
theorem E_X11_row_1 {T : List Shp} {c : Nat → Int → Int} {r1 : Int} {c2 : Nat → Int → Int} (h1 : (c 0 4) = 0) (h2 : cal 172 [vR 1, vI (-6)] (SH T, c) = some (some (vI r1), (SH T, c2))) : cal 123 [vR 1] (SH T, c) = some (some (vI r1), (SH T, c2)) := by
  refine (ev_eq _ _ _ _ _ _).trans ?_
  refine (if_pos h1).trans ?_
  refine (el_call rfl h2).trans ?_
  rfl
theorem E_X11_row_2 {T : List Shp} {c : Nat → Int → Int} (h1 : ¬ (c 0 4) = 0) : cal 123 [vR 1] (SH T, c) = ev 123 3 18 [vR 1, vI 0, vI 0] [] (SH T, c) := by
  refine (ev_eq _ _ _ _ _ _).trans ?_
  refine (if_neg h1).trans ?_
  refine (ev_eq _ _ _ _ _ _).trans ?_
  rfl
theorem B_X11_row_18_1 {T : List Shp} {c : Nat → Int → Int} {x1 x2 : Int} (h1 : x2 < (c 0 4)) (h2 : x2 < 12) (h3 : 0 ≤ x2 ∧ x2 < 400) (h4 : (c 10 x2) < 10) (h5 : 0 ≤ x2 ∧ x2 < 400) (h6 : 0 ≤ x2 ∧ x2 < 204) : ev 123 3 18 [vR 1, vI x1, vI x2] [] (SH T, c) = ev 123 3 61 [vR 1, vI (w32 (x1 + 1)), vI x2] [] (SH T, (up c 7 x2 (c 10 x2))) := by
  refine (ev_eq _ _ _ _ _ _).trans ?_
  refine (if_pos h1).trans ?_
  refine (if_pos h2).trans ?_
  refine (if_pos h3).trans ?_
  refine (if_pos h4).trans ?_
  refine (if_pos h5).trans ?_
  refine (if_pos h6).trans ?_
  rfl
theorem B_X11_row_18_2 {T : List Shp} {c : Nat → Int → Int} {x1 x2 : Int} (h1 : x2 < (c 0 4)) (h2 : x2 < 12) (h3 : 0 ≤ x2 ∧ x2 < 400) (h4 : ¬ (c 10 x2) < 10) : ev 123 3 18 [vR 1, vI x1, vI x2] [] (SH T, c) = ev 123 3 61 [vR 1, vI x1, vI x2] [] (SH T, c) := by
  refine (ev_eq _ _ _ _ _ _).trans ?_
  refine (if_pos h1).trans ?_
  refine (if_pos h2).trans ?_
  refine (if_pos h3).trans ?_
  refine (if_neg h4).trans ?_
  rfl
theorem B_X11_row_18_3 {T : List Shp} {c : Nat → Int → Int} {x1 x2 : Int} (h1 : x2 < (c 0 4)) (h2 : ¬ x2 < 12) : ev 123 3 18 [vR 1, vI x1, vI x2] [] (SH T, c) = ev 123 3 67 [vR 1, vI x1, vU] [] (SH T, c) := by
  refine (ev_eq _ _ _ _ _ _).trans ?_
  refine (if_pos h1).trans ?_
  refine (if_neg h2).trans ?_
  rfl
theorem B_X11_row_18_4 {T : List Shp} {c : Nat → Int → Int} {x1 x2 : Int} (h1 : ¬ x2 < (c 0 4)) : ev 123 3 18 [vR 1, vI x1, vI x2] [] (SH T, c) = ev 123 3 67 [vR 1, vI x1, vU] [] (SH T, c) := by
  refine (ev_eq _ _ _ _ _ _).trans ?_
  refine (if_neg h1).trans ?_
  rfl
theorem B_X11_row_61 {T : List Shp} {c : Nat → Int → Int} {x1 x2 : Int}  : ev 123 3 61 [vR 1, vI x1, vI x2] [] (SH T, c) = ev 123 3 18 [vR 1, vI x1, vI (w32 (x2 + 1))] [] (SH T, c) := by
  refine (ev_eq _ _ _ _ _ _).trans ?_
  rfl
theorem B_X11_row_67 {T : List Shp} {c : Nat → Int → Int} {x1 : Int} {r1 : Int} {c2 : Nat → Int → Int} (h1 : cal 171 [vR 1, vI x1] (SH T, (up (up (up c 0 15 (w32 ((c 0 4) - x1))) 1 8 0) 0 4 0)) = some (some (vI r1), (SH T, c2))) : ev 123 3 67 [vR 1, vI x1, vU] [] (SH T, c) = some (some (vI r1), (SH T, c2)) := by
  refine (ev_eq _ _ _ _ _ _).trans ?_
  refine (el_call rfl h1).trans ?_
  rfl
theorem E_X11_flakes {T : List Shp} {c : Nat → Int → Int}  : cal 124 [vR 1] (SH T, c) = some (some (vI (c 0 15)), (SH T, c)) := by
  refine (ev_eq _ _ _ _ _ _).trans ?_
  rfl
theorem E_X11_law_1 {T : List Shp} {c : Nat → Int → Int} {r1 : Int} {c2 : Nat → Int → Int} {r3 : Int} {c4 : Nat → Int → Int} {p5 : Nat} {n6 : Int} {f7 : List Int} {r8 : Int} {c9 : Nat → Int → Int} (h1 : (c 1 5) < 6) (h2 : cal 43 [vR 49, vI (c 0 4), vI 0] (SH T, (up c 0 4 0)) = some (some (vI r1), (SH T, c2))) (h3 : r1 = (-1)) (h4 : cal 112 [vR 12] (SH T, (up c2 0 14 r1)) = some (some (vR r3), (SH T, c4))) (h5 : 0 ≤ (c2 1 5) ∧ (c2 1 5) < 6) (h6 : drf (SH T) r3 = some (p5, (20, n6, f7))) (h7 : cal 171 [vR 1, vI (w32 ((w32 ((c4 1 5) + 1)) - 1))] (SH T, (up (up c4 5 (c2 1 5) r3) 1 5 (w32 ((c4 1 5) + 1)))) = some (some (vI r8), (SH T, c9))) : cal 125 [vR 1] (SH T, c) = some (some (vI r8), (SH T, c9)) := by
  refine (ev_eq _ _ _ _ _ _).trans ?_
  refine (if_pos h1).trans ?_
  refine (ev_eq _ _ _ _ _ _).trans ?_
  refine (el_call rfl h2).trans ?_
  refine (if_pos h3).trans ?_
  refine (ev_eq _ _ _ _ _ _).trans ?_
  refine (el_call rfl h4).trans ?_
  refine (if_pos h5).trans ?_
  refine (el_of h6).trans ?_
  refine (el_call rfl h7).trans ?_
  rfl
theorem E_X11_law_2 {T : List Shp} {c : Nat → Int → Int} {r1 : Int} {c2 : Nat → Int → Int} {r3 : Int} {c4 : Nat → Int → Int} (h1 : (c 1 5) < 6) (h2 : cal 43 [vR 49, vI (c 0 4), vI 0] (SH T, (up c 0 4 0)) = some (some (vI r1), (SH T, c2))) (h3 : ¬ r1 = (-1)) (h4 : cal 172 [vR 1, vI (-6)] (SH T, (up c2 0 14 r1)) = some (some (vI r3), (SH T, c4))) : cal 125 [vR 1] (SH T, c) = some (some (vI r3), (SH T, c4)) := by
  refine (ev_eq _ _ _ _ _ _).trans ?_
  refine (if_pos h1).trans ?_
  refine (ev_eq _ _ _ _ _ _).trans ?_
  refine (el_call rfl h2).trans ?_
  refine (if_neg h3).trans ?_
  refine (el_call rfl h4).trans ?_
  rfl
theorem E_X11_law_3 {T : List Shp} {c : Nat → Int → Int} {r1 : Int} {c2 : Nat → Int → Int} (h1 : ¬ (c 1 5) < 6) (h2 : cal 172 [vR 1, vI (-5)] (SH T, (up c 0 4 0)) = some (some (vI r1), (SH T, c2))) : cal 125 [vR 1] (SH T, c) = some (some (vI r1), (SH T, c2)) := by
  refine (ev_eq _ _ _ _ _ _).trans ?_
  refine (if_neg h1).trans ?_
  refine (el_call rfl h2).trans ?_
  rfl
theorem E_X11_orders_1 {T : List Shp} {c : Nat → Int → Int} {r1 : Int} {c2 : Nat → Int → Int} {r3 : Int} {c4 : Nat → Int → Int} {r5 : Int} {c6 : Nat → Int → Int} (h1 : cal 43 [vR 49, vI (c 0 4), vI 1] (SH T, (up (up c 0 4 0) 0 16 (-1))) = some (some (vI r1), (SH T, c2))) (h2 : r1 = (-1)) (h3 : cal 6 [vR 60, vR 12] (SH T, (up c2 0 14 r1)) = some (some (vI r3), (SH T, c4))) (h4 : r3 = 0) (h5 : cal 171 [vR 1, vI (c4 59 9)] (SH T, c4) = some (some (vI r5), (SH T, c6))) : cal 126 [vR 1] (SH T, c) = some (some (vI r5), (SH T, c6)) := by
  refine (ev_eq _ _ _ _ _ _).trans ?_
  refine (el_call rfl h1).trans ?_
  refine (if_pos h2).trans ?_
  refine (ev_eq _ _ _ _ _ _).trans ?_
  refine (el_call rfl h3).trans ?_
  refine (if_pos h4).trans ?_
  refine (ev_eq _ _ _ _ _ _).trans ?_
  refine (el_call rfl h5).trans ?_
  rfl
theorem E_X11_orders_2 {T : List Shp} {c : Nat → Int → Int} {r1 : Int} {c2 : Nat → Int → Int} {r3 : Int} {c4 : Nat → Int → Int} {r5 : Int} {c6 : Nat → Int → Int} (h1 : cal 43 [vR 49, vI (c 0 4), vI 1] (SH T, (up (up c 0 4 0) 0 16 (-1))) = some (some (vI r1), (SH T, c2))) (h2 : r1 = (-1)) (h3 : cal 6 [vR 60, vR 12] (SH T, (up c2 0 14 r1)) = some (some (vI r3), (SH T, c4))) (h4 : ¬ r3 = 0) (h5 : cal 172 [vR 1, vI r3] (SH T, (up c4 0 16 (c4 59 8))) = some (some (vI r5), (SH T, c6))) : cal 126 [vR 1] (SH T, c) = some (some (vI r5), (SH T, c6)) := by
  refine (ev_eq _ _ _ _ _ _).trans ?_
  refine (el_call rfl h1).trans ?_
  refine (if_pos h2).trans ?_
  refine (ev_eq _ _ _ _ _ _).trans ?_
  refine (el_call rfl h3).trans ?_
  refine (if_neg h4).trans ?_
  refine (el_call rfl h5).trans ?_
  rfl
theorem E_X11_orders_3 {T : List Shp} {c : Nat → Int → Int} {r1 : Int} {c2 : Nat → Int → Int} {r3 : Int} {c4 : Nat → Int → Int} (h1 : cal 43 [vR 49, vI (c 0 4), vI 1] (SH T, (up (up c 0 4 0) 0 16 (-1))) = some (some (vI r1), (SH T, c2))) (h2 : ¬ r1 = (-1)) (h3 : cal 172 [vR 1, vI (-6)] (SH T, (up c2 0 14 r1)) = some (some (vI r3), (SH T, c4))) : cal 126 [vR 1] (SH T, c) = some (some (vI r3), (SH T, c4)) := by
  refine (ev_eq _ _ _ _ _ _).trans ?_
  refine (el_call rfl h1).trans ?_
  refine (if_neg h2).trans ?_
  refine (el_call rfl h3).trans ?_
  rfl
theorem E_X11_fault {T : List Shp} {c : Nat → Int → Int}  : cal 127 [vR 1] (SH T, c) = some (some (vI (c 0 14)), (SH T, c)) := by
  refine (ev_eq _ _ _ _ _ _).trans ?_
  rfl
theorem E_X11_stopped {T : List Shp} {c : Nat → Int → Int}  : cal 128 [vR 1] (SH T, c) = some (some (vI (c 0 16)), (SH T, c)) := by
  refine (ev_eq _ _ _ _ _ _).trans ?_
  rfl
theorem E_X11_force_1 {T : List Shp} {c : Nat → Int → Int} {x1 : Int} (h1 : x1 = (-1)) : cal 129 [vR 1, vI x1] (SH T, c) = ev 129 3 26 [vR 1, vI x1, vU] [] (SH T, c) := by
  refine (ev_eq _ _ _ _ _ _).trans ?_
  refine (if_pos h1).trans ?_
  rfl
theorem E_X11_force_2 {T : List Shp} {c : Nat → Int → Int} {x1 : Int} {r1 : Int} {c2 : Nat → Int → Int} {r3 : Int} {c4 : Nat → Int → Int} (h1 : ¬ x1 = (-1)) (h2 : cal 177 [vI x1, vI (c 1 5)] (SH T, c) = some (some (vI r1), (SH T, c2))) (h3 : r1 = 0) (h4 : cal 172 [vR 1, vI (-2)] (SH T, c2) = some (some (vI r3), (SH T, c4))) : cal 129 [vR 1, vI x1] (SH T, c) = some (some (vI r3), (SH T, c4)) := by
  refine (ev_eq _ _ _ _ _ _).trans ?_
  refine (if_neg h1).trans ?_
  refine (el_call rfl h2).trans ?_
  refine (if_pos h3).trans ?_
  refine (el_call rfl h4).trans ?_
  rfl
theorem E_X11_force_3 {T : List Shp} {c : Nat → Int → Int} {x1 : Int} {r1 : Int} {c2 : Nat → Int → Int} (h1 : ¬ x1 = (-1)) (h2 : cal 177 [vI x1, vI (c 1 5)] (SH T, c) = some (some (vI r1), (SH T, c2))) (h3 : ¬ r1 = 0) : cal 129 [vR 1, vI x1] (SH T, c) = ev 129 3 26 [vR 1, vI x1, vU] [] (SH T, c2) := by
  refine (ev_eq _ _ _ _ _ _).trans ?_
  refine (if_neg h1).trans ?_
  refine (el_call rfl h2).trans ?_
  refine (if_neg h3).trans ?_
  rfl
theorem B_X11_force_26 {T : List Shp} {c : Nat → Int → Int} {x1 : Int} {r1 : Int} {c2 : Nat → Int → Int} (h1 : cal 171 [vR 1, vI (c 1 7)] (SH T, (up c 1 7 x1)) = some (some (vI r1), (SH T, c2))) : ev 129 3 26 [vR 1, vI x1, vU] [] (SH T, c) = some (some (vI r1), (SH T, c2)) := by
  refine (ev_eq _ _ _ _ _ _).trans ?_
  refine (el_call rfl h1).trans ?_
  rfl
theorem E_X11_looks_1 {T : List Shp} {c : Nat → Int → Int} {x1 x2 x3 : Int} {r1 : Int} {c2 : Nat → Int → Int} (h1 : cal 177 [vI x2, vI 100] (SH T, c) = some (some (vI r1), (SH T, c2))) (h2 : r1 = 0) : cal 130 [vR 1, vI x1, vI x2, vI x3] (SH T, c) = some (some (vI (-1)), (SH T, c2)) := by
  refine (ev_eq _ _ _ _ _ _).trans ?_
  refine (el_call rfl h1).trans ?_
  refine (if_pos h2).trans ?_
  rfl
theorem E_X11_looks_2 {T : List Shp} {c : Nat → Int → Int} {x1 x2 x3 : Int} {r1 : Int} {c2 : Nat → Int → Int} {r3 : Int} {c4 : Nat → Int → Int} (h1 : cal 177 [vI x2, vI 100] (SH T, c) = some (some (vI r1), (SH T, c2))) (h2 : ¬ r1 = 0) (h3 : x1 = (-1)) (h4 : cal 69 [vR 2, vI x2] (SH T, c2) = some (some (vI r3), (SH T, c4))) : cal 130 [vR 1, vI x1, vI x2, vI x3] (SH T, c) = some (some (vI r3), (SH T, c4)) := by
  refine (ev_eq _ _ _ _ _ _).trans ?_
  refine (el_call rfl h1).trans ?_
  refine (if_neg h2).trans ?_
  refine (ev_eq _ _ _ _ _ _).trans ?_
  refine (if_pos h3).trans ?_
  refine (el_call rfl h4).trans ?_
  rfl
theorem E_X11_looks_3 {T : List Shp} {c : Nat → Int → Int} {x1 x2 x3 : Int} {r1 : Int} {c2 : Nat → Int → Int} {r3 : Int} {c4 : Nat → Int → Int} (h1 : cal 177 [vI x2, vI 100] (SH T, c) = some (some (vI r1), (SH T, c2))) (h2 : ¬ r1 = 0) (h3 : ¬ x1 = (-1)) (h4 : cal 178 [vI x1] (SH T, c2) = some (some (vI r3), (SH T, c4))) (h5 : r3 = 0) : cal 130 [vR 1, vI x1, vI x2, vI x3] (SH T, c) = some (some (vI (-1)), (SH T, c4)) := by
  refine (ev_eq _ _ _ _ _ _).trans ?_
  refine (el_call rfl h1).trans ?_
  refine (if_neg h2).trans ?_
  refine (ev_eq _ _ _ _ _ _).trans ?_
  refine (if_neg h3).trans ?_
  refine (ev_eq _ _ _ _ _ _).trans ?_
  refine (el_call rfl h4).trans ?_
  refine (if_pos h5).trans ?_
  refine (ev_eq _ _ _ _ _ _).trans ?_
  rfl
theorem E_X11_looks_4 {T : List Shp} {c : Nat → Int → Int} {x1 x2 x3 : Int} {r1 : Int} {c2 : Nat → Int → Int} {r3 : Int} {c4 : Nat → Int → Int} {r5 : Int} {c6 : Nat → Int → Int} (h1 : cal 177 [vI x2, vI 100] (SH T, c) = some (some (vI r1), (SH T, c2))) (h2 : ¬ r1 = 0) (h3 : ¬ x1 = (-1)) (h4 : cal 178 [vI x1] (SH T, c2) = some (some (vI r3), (SH T, c4))) (h5 : ¬ r3 = 0) (h6 : cal 177 [vI x3, vI 2] (SH T, c4) = some (some (vI r5), (SH T, c6))) (h7 : r5 = 0) : cal 130 [vR 1, vI x1, vI x2, vI x3] (SH T, c) = some (some (vI (-1)), (SH T, c6)) := by
  refine (ev_eq _ _ _ _ _ _).trans ?_
  refine (el_call rfl h1).trans ?_
  refine (if_neg h2).trans ?_
  refine (ev_eq _ _ _ _ _ _).trans ?_
  refine (if_neg h3).trans ?_
  refine (ev_eq _ _ _ _ _ _).trans ?_
  refine (el_call rfl h4).trans ?_
  refine (if_neg h5).trans ?_
  refine (el_call rfl h6).trans ?_
  refine (if_pos h7).trans ?_
  refine (ev_eq _ _ _ _ _ _).trans ?_
  rfl
theorem E_X11_looks_5 {T : List Shp} {c : Nat → Int → Int} {x1 x2 x3 : Int} {r1 : Int} {c2 : Nat → Int → Int} {r3 : Int} {c4 : Nat → Int → Int} {r5 : Int} {c6 : Nat → Int → Int} {r7 : Int} {c8 : Nat → Int → Int} (h1 : cal 177 [vI x2, vI 100] (SH T, c) = some (some (vI r1), (SH T, c2))) (h2 : ¬ r1 = 0) (h3 : ¬ x1 = (-1)) (h4 : cal 178 [vI x1] (SH T, c2) = some (some (vI r3), (SH T, c4))) (h5 : ¬ r3 = 0) (h6 : cal 177 [vI x3, vI 2] (SH T, c4) = some (some (vI r5), (SH T, c6))) (h7 : ¬ r5 = 0) (h8 : x3 = 0) (h9 : cal 23 [vR 15, vI x1, vI x2] (SH T, c6) = some (some (vI r7), (SH T, c8))) : cal 130 [vR 1, vI x1, vI x2, vI x3] (SH T, c) = some (some (vI r7), (SH T, c8)) := by
  refine (ev_eq _ _ _ _ _ _).trans ?_
  refine (el_call rfl h1).trans ?_
  refine (if_neg h2).trans ?_
  refine (ev_eq _ _ _ _ _ _).trans ?_
  refine (if_neg h3).trans ?_
  refine (ev_eq _ _ _ _ _ _).trans ?_
  refine (el_call rfl h4).trans ?_
  refine (if_neg h5).trans ?_
  refine (el_call rfl h6).trans ?_
  refine (if_neg h7).trans ?_
  refine (ev_eq _ _ _ _ _ _).trans ?_
  refine (if_pos h8).trans ?_
  refine (el_call rfl h9).trans ?_
  rfl
theorem E_X11_looks_6 {T : List Shp} {c : Nat → Int → Int} {x1 x2 x3 : Int} {r1 : Int} {c2 : Nat → Int → Int} {r3 : Int} {c4 : Nat → Int → Int} {r5 : Int} {c6 : Nat → Int → Int} {r7 : Int} {c8 : Nat → Int → Int} (h1 : cal 177 [vI x2, vI 100] (SH T, c) = some (some (vI r1), (SH T, c2))) (h2 : ¬ r1 = 0) (h3 : ¬ x1 = (-1)) (h4 : cal 178 [vI x1] (SH T, c2) = some (some (vI r3), (SH T, c4))) (h5 : ¬ r3 = 0) (h6 : cal 177 [vI x3, vI 2] (SH T, c4) = some (some (vI r5), (SH T, c6))) (h7 : ¬ r5 = 0) (h8 : ¬ x3 = 0) (h9 : cal 24 [vR 15, vI x1, vI x2] (SH T, c6) = some (some (vI r7), (SH T, c8))) : cal 130 [vR 1, vI x1, vI x2, vI x3] (SH T, c) = some (some (vI r7), (SH T, c8)) := by
  refine (ev_eq _ _ _ _ _ _).trans ?_
  refine (el_call rfl h1).trans ?_
  refine (if_neg h2).trans ?_
  refine (ev_eq _ _ _ _ _ _).trans ?_
  refine (if_neg h3).trans ?_
  refine (ev_eq _ _ _ _ _ _).trans ?_
  refine (el_call rfl h4).trans ?_
  refine (if_neg h5).trans ?_
  refine (el_call rfl h6).trans ?_
  refine (if_neg h7).trans ?_
  refine (ev_eq _ _ _ _ _ _).trans ?_
  refine (if_neg h8).trans ?_
  refine (ev_eq _ _ _ _ _ _).trans ?_
  refine (el_call rfl h9).trans ?_
  rfl
theorem E_X11_asks_1 {T : List Shp} {c : Nat → Int → Int} {x1 x2 x3 : Int} {r1 : Int} {c2 : Nat → Int → Int} (h1 : cal 66 [vR 2, vI x1] (SH T, c) = some (some (vI r1), (SH T, c2))) (h2 : r1 = 0) : cal 131 [vR 1, vI x1, vI x2, vI x3] (SH T, c) = some (some (vI (-1)), (SH T, c2)) := by
  refine (ev_eq _ _ _ _ _ _).trans ?_
  refine (el_call rfl h1).trans ?_
  refine (if_pos h2).trans ?_
  refine (ev_eq _ _ _ _ _ _).trans ?_
  rfl
theorem E_X11_asks_2 {T : List Shp} {c : Nat → Int → Int} {x1 x2 x3 : Int} {r1 : Int} {c2 : Nat → Int → Int} {r3 : Int} {c4 : Nat → Int → Int} (h1 : cal 66 [vR 2, vI x1] (SH T, c) = some (some (vI r1), (SH T, c2))) (h2 : ¬ r1 = 0) (h3 : cal 177 [vI x2, vI 100] (SH T, c2) = some (some (vI r3), (SH T, c4))) (h4 : r3 = 0) : cal 131 [vR 1, vI x1, vI x2, vI x3] (SH T, c) = some (some (vI (-1)), (SH T, c4)) := by
  refine (ev_eq _ _ _ _ _ _).trans ?_
  refine (el_call rfl h1).trans ?_
  refine (if_neg h2).trans ?_
  refine (el_call rfl h3).trans ?_
  refine (if_pos h4).trans ?_
  refine (ev_eq _ _ _ _ _ _).trans ?_
  rfl
theorem E_X11_asks_3 {T : List Shp} {c : Nat → Int → Int} {x1 x2 x3 : Int} {r1 : Int} {c2 : Nat → Int → Int} {r3 : Int} {c4 : Nat → Int → Int} {r5 : Int} {c6 : Nat → Int → Int} (h1 : cal 66 [vR 2, vI x1] (SH T, c) = some (some (vI r1), (SH T, c2))) (h2 : ¬ r1 = 0) (h3 : cal 177 [vI x2, vI 100] (SH T, c2) = some (some (vI r3), (SH T, c4))) (h4 : ¬ r3 = 0) (h5 : cal 177 [vI x3, vI 2] (SH T, c4) = some (some (vI r5), (SH T, c6))) (h6 : r5 = 0) : cal 131 [vR 1, vI x1, vI x2, vI x3] (SH T, c) = some (some (vI (-1)), (SH T, c6)) := by
  refine (ev_eq _ _ _ _ _ _).trans ?_
  refine (el_call rfl h1).trans ?_
  refine (if_neg h2).trans ?_
  refine (el_call rfl h3).trans ?_
  refine (if_neg h4).trans ?_
  refine (el_call rfl h5).trans ?_
  refine (if_pos h6).trans ?_
  refine (ev_eq _ _ _ _ _ _).trans ?_
  rfl
theorem E_X11_asks_4 {T : List Shp} {c : Nat → Int → Int} {x1 x2 x3 : Int} {r1 : Int} {c2 : Nat → Int → Int} {r3 : Int} {c4 : Nat → Int → Int} {r5 : Int} {c6 : Nat → Int → Int} {r7 : Int} {c8 : Nat → Int → Int} (h1 : cal 66 [vR 2, vI x1] (SH T, c) = some (some (vI r1), (SH T, c2))) (h2 : ¬ r1 = 0) (h3 : cal 177 [vI x2, vI 100] (SH T, c2) = some (some (vI r3), (SH T, c4))) (h4 : ¬ r3 = 0) (h5 : cal 177 [vI x3, vI 2] (SH T, c4) = some (some (vI r5), (SH T, c6))) (h6 : ¬ r5 = 0) (h7 : x3 = 0) (h8 : cal 25 [vR 15, vI x1, vI x2] (SH T, c6) = some (some (vI r7), (SH T, c8))) : cal 131 [vR 1, vI x1, vI x2, vI x3] (SH T, c) = some (some (vI r7), (SH T, c8)) := by
  refine (ev_eq _ _ _ _ _ _).trans ?_
  refine (el_call rfl h1).trans ?_
  refine (if_neg h2).trans ?_
  refine (el_call rfl h3).trans ?_
  refine (if_neg h4).trans ?_
  refine (el_call rfl h5).trans ?_
  refine (if_neg h6).trans ?_
  refine (ev_eq _ _ _ _ _ _).trans ?_
  refine (if_pos h7).trans ?_
  refine (el_call rfl h8).trans ?_
  rfl
theorem E_X11_asks_5 {T : List Shp} {c : Nat → Int → Int} {x1 x2 x3 : Int} {r1 : Int} {c2 : Nat → Int → Int} {r3 : Int} {c4 : Nat → Int → Int} {r5 : Int} {c6 : Nat → Int → Int} {r7 : Int} {c8 : Nat → Int → Int} {r9 : Int} {c10 : Nat → Int → Int} (h1 : cal 66 [vR 2, vI x1] (SH T, c) = some (some (vI r1), (SH T, c2))) (h2 : ¬ r1 = 0) (h3 : cal 177 [vI x2, vI 100] (SH T, c2) = some (some (vI r3), (SH T, c4))) (h4 : ¬ r3 = 0) (h5 : cal 177 [vI x3, vI 2] (SH T, c4) = some (some (vI r5), (SH T, c6))) (h6 : ¬ r5 = 0) (h7 : ¬ x3 = 0) (h8 : cal 26 [vR 15, vI x1, vI x2] (SH T, c6) = some (some (vI r7), (SH T, c8))) (h9 : cal 181 [vI r7] (SH T, c8) = some (some (vI r9), (SH T, c10))) : cal 131 [vR 1, vI x1, vI x2, vI x3] (SH T, c) = some (some (vI r9), (SH T, c10)) := by
  refine (ev_eq _ _ _ _ _ _).trans ?_
  refine (el_call rfl h1).trans ?_
  refine (if_neg h2).trans ?_
  refine (el_call rfl h3).trans ?_
  refine (if_neg h4).trans ?_
  refine (el_call rfl h5).trans ?_
  refine (if_neg h6).trans ?_
  refine (ev_eq _ _ _ _ _ _).trans ?_
  refine (if_neg h7).trans ?_
  refine (ev_eq _ _ _ _ _ _).trans ?_
  refine (el_call rfl h8).trans ?_
  refine (el_call rfl h9).trans ?_
  rfl
theorem E_X11_paint_1 {T : List Shp} {c : Nat → Int → Int} {x1 : Int} {r1 : Int} {c2 : Nat → Int → Int} {r3 : Int} {c4 : Nat → Int → Int} (h1 : cal 66 [vR 2, vI x1] (SH T, c) = some (some (vI r1), (SH T, c2))) (h2 : r1 = 0) (h3 : cal 172 [vR 1, vI (-2)] (SH T, c2) = some (some (vI r3), (SH T, c4))) : cal 132 [vR 1, vI x1] (SH T, c) = some (some (vI r3), (SH T, c4)) := by
  refine (ev_eq _ _ _ _ _ _).trans ?_
  refine (el_call rfl h1).trans ?_
  refine (if_pos h2).trans ?_
  refine (el_call rfl h3).trans ?_
  rfl
theorem E_X11_paint_2 {T : List Shp} {c : Nat → Int → Int} {x1 : Int} {r1 : Int} {c2 : Nat → Int → Int} {r3 : Int} {c4 : Nat → Int → Int} {r5 : Int} {c6 : Nat → Int → Int} {c7 : Nat → Int → Int} {r8 : Int} {c9 : Nat → Int → Int} {r10 : Int} {c11 : Nat → Int → Int} (h1 : cal 66 [vR 2, vI x1] (SH T, c) = some (some (vI r1), (SH T, c2))) (h2 : ¬ r1 = 0) (h3 : cal 26 [vR 15, vI x1, vI (w32 ((c2 1 8) + 1))] (SH T, c2) = some (some (vI r3), (SH T, c4))) (h4 : r3 = 0) (h5 : cal 70 [vR 2, vI x1, vI (w32 ((c2 1 8) + 1))] (SH T, c4) = some (some (vI r5), (SH T, c6))) (h6 : r5 = 0) (h7 : (c6 1 8) < 16) (h8 : cal 95 [vR 19, vI x1] (SH T, c6) = some (none, (SH T, c7))) (h9 : cal 96 [vR 19, vI (c7 1 8)] (SH T, c7) = some (some (vI r8), (SH T, c9))) (h10 : cal 171 [vR 1, vI r8] (SH T, c9) = some (some (vI r10), (SH T, c11))) : cal 132 [vR 1, vI x1] (SH T, c) = some (some (vI r10), (SH T, c11)) := by
  refine (ev_eq _ _ _ _ _ _).trans ?_
  refine (el_call rfl h1).trans ?_
  refine (if_neg h2).trans ?_
  refine (ev_eq _ _ _ _ _ _).trans ?_
  refine (el_call rfl h3).trans ?_
  refine (if_pos h4).trans ?_
  refine (el_call rfl h5).trans ?_
  refine (if_pos h6).trans ?_
  refine (ev_eq _ _ _ _ _ _).trans ?_
  refine (if_pos h7).trans ?_
  refine (ev_eq _ _ _ _ _ _).trans ?_
  refine (el_call rfl h8).trans ?_
  refine (el_call rfl h9).trans ?_
  refine (el_call rfl h10).trans ?_
  rfl
theorem E_X11_paint_3 {T : List Shp} {c : Nat → Int → Int} {x1 : Int} {r1 : Int} {c2 : Nat → Int → Int} {r3 : Int} {c4 : Nat → Int → Int} {r5 : Int} {c6 : Nat → Int → Int} {r7 : Int} {c8 : Nat → Int → Int} (h1 : cal 66 [vR 2, vI x1] (SH T, c) = some (some (vI r1), (SH T, c2))) (h2 : ¬ r1 = 0) (h3 : cal 26 [vR 15, vI x1, vI (w32 ((c2 1 8) + 1))] (SH T, c2) = some (some (vI r3), (SH T, c4))) (h4 : r3 = 0) (h5 : cal 70 [vR 2, vI x1, vI (w32 ((c2 1 8) + 1))] (SH T, c4) = some (some (vI r5), (SH T, c6))) (h6 : r5 = 0) (h7 : ¬ (c6 1 8) < 16) (h8 : cal 172 [vR 1, vI (-5)] (SH T, c6) = some (some (vI r7), (SH T, c8))) : cal 132 [vR 1, vI x1] (SH T, c) = some (some (vI r7), (SH T, c8)) := by
  refine (ev_eq _ _ _ _ _ _).trans ?_
  refine (el_call rfl h1).trans ?_
  refine (if_neg h2).trans ?_
  refine (ev_eq _ _ _ _ _ _).trans ?_
  refine (el_call rfl h3).trans ?_
  refine (if_pos h4).trans ?_
  refine (el_call rfl h5).trans ?_
  refine (if_pos h6).trans ?_
  refine (ev_eq _ _ _ _ _ _).trans ?_
  refine (if_neg h7).trans ?_
  refine (el_call rfl h8).trans ?_
  rfl
theorem E_X11_paint_4 {T : List Shp} {c : Nat → Int → Int} {x1 : Int} {r1 : Int} {c2 : Nat → Int → Int} {r3 : Int} {c4 : Nat → Int → Int} {r5 : Int} {c6 : Nat → Int → Int} (h1 : cal 66 [vR 2, vI x1] (SH T, c) = some (some (vI r1), (SH T, c2))) (h2 : ¬ r1 = 0) (h3 : cal 26 [vR 15, vI x1, vI (w32 ((c2 1 8) + 1))] (SH T, c2) = some (some (vI r3), (SH T, c4))) (h4 : r3 = 0) (h5 : cal 70 [vR 2, vI x1, vI (w32 ((c2 1 8) + 1))] (SH T, c4) = some (some (vI r5), (SH T, c6))) (h6 : ¬ r5 = 0) : cal 132 [vR 1, vI x1] (SH T, c) = ev 132 6 52 [vR 1, vU, vU] [] (SH T, c6) := by
  refine (ev_eq _ _ _ _ _ _).trans ?_
  refine (el_call rfl h1).trans ?_
  refine (if_neg h2).trans ?_
  refine (ev_eq _ _ _ _ _ _).trans ?_
  refine (el_call rfl h3).trans ?_
  refine (if_pos h4).trans ?_
  refine (el_call rfl h5).trans ?_
  refine (if_neg h6).trans ?_
  rfl
theorem E_X11_paint_5 {T : List Shp} {c : Nat → Int → Int} {x1 : Int} {r1 : Int} {c2 : Nat → Int → Int} {r3 : Int} {c4 : Nat → Int → Int} (h1 : cal 66 [vR 2, vI x1] (SH T, c) = some (some (vI r1), (SH T, c2))) (h2 : ¬ r1 = 0) (h3 : cal 26 [vR 15, vI x1, vI (w32 ((c2 1 8) + 1))] (SH T, c2) = some (some (vI r3), (SH T, c4))) (h4 : ¬ r3 = 0) : cal 132 [vR 1, vI x1] (SH T, c) = ev 132 6 52 [vR 1, vU, vU] [] (SH T, c4) := by
  refine (ev_eq _ _ _ _ _ _).trans ?_
  refine (el_call rfl h1).trans ?_
  refine (if_neg h2).trans ?_
  refine (ev_eq _ _ _ _ _ _).trans ?_
  refine (el_call rfl h3).trans ?_
  refine (if_neg h4).trans ?_
  rfl
theorem B_X11_paint_52 {T : List Shp} {c : Nat → Int → Int} {r1 : Int} {c2 : Nat → Int → Int} (h1 : cal 172 [vR 1, vI (-3)] (SH T, c) = some (some (vI r1), (SH T, c2))) : ev 132 6 52 [vR 1, vU, vU] [] (SH T, c) = some (some (vI r1), (SH T, c2)) := by
  refine (ev_eq _ _ _ _ _ _).trans ?_
  refine (el_call rfl h1).trans ?_
  rfl
theorem E_X11_scrape_1 {T : List Shp} {c : Nat → Int → Int} {r1 : Int} {c2 : Nat → Int → Int} (h1 : (c 1 8) = 0) (h2 : cal 172 [vR 1, vI (-3)] (SH T, c) = some (some (vI r1), (SH T, c2))) : cal 133 [vR 1] (SH T, c) = some (some (vI r1), (SH T, c2)) := by
  refine (ev_eq _ _ _ _ _ _).trans ?_
  refine (if_pos h1).trans ?_
  refine (el_call rfl h2).trans ?_
  rfl
theorem E_X11_scrape_2 {T : List Shp} {c : Nat → Int → Int} {r1 : Int} {c2 : Nat → Int → Int} (h1 : ¬ (c 1 8) = 0) (h2 : 0 ≤ (w32 ((w32 ((c 1 8) - 1)) + 1)) ∧ (w32 ((w32 ((c 1 8) - 1)) + 1)) < 17) (h3 : cal 171 [vR 1, vI (c 6 (w32 ((w32 ((c 1 8) - 1)) + 1)))] (SH T, (up c 1 8 (w32 ((c 1 8) - 1)))) = some (some (vI r1), (SH T, c2))) : cal 133 [vR 1] (SH T, c) = some (some (vI r1), (SH T, c2)) := by
  refine (ev_eq _ _ _ _ _ _).trans ?_
  refine (if_neg h1).trans ?_
  refine (ev_eq _ _ _ _ _ _).trans ?_
  refine (if_pos h2).trans ?_
  refine (el_call rfl h3).trans ?_
  rfl
theorem E_X11_tone_1 {T : List Shp} {c : Nat → Int → Int} {x1 x2 : Int} {r1 : Int} {c2 : Nat → Int → Int} (h1 : cal 67 [vR 2, vI x1] (SH T, c) = some (some (vI r1), (SH T, c2))) (h2 : r1 = 0) : cal 134 [vR 1, vI x1, vI x2] (SH T, c) = some (some (vI (-1)), (SH T, c2)) := by
  refine (ev_eq _ _ _ _ _ _).trans ?_
  refine (el_call rfl h1).trans ?_
  refine (if_pos h2).trans ?_
  refine (ev_eq _ _ _ _ _ _).trans ?_
  rfl
theorem E_X11_tone_2 {T : List Shp} {c : Nat → Int → Int} {x1 x2 : Int} {r1 : Int} {c2 : Nat → Int → Int} {r3 : Int} {c4 : Nat → Int → Int} (h1 : cal 67 [vR 2, vI x1] (SH T, c) = some (some (vI r1), (SH T, c2))) (h2 : ¬ r1 = 0) (h3 : cal 178 [vI x2] (SH T, c2) = some (some (vI r3), (SH T, c4))) (h4 : r3 = 0) : cal 134 [vR 1, vI x1, vI x2] (SH T, c) = some (some (vI (-1)), (SH T, c4)) := by
  refine (ev_eq _ _ _ _ _ _).trans ?_
  refine (el_call rfl h1).trans ?_
  refine (if_neg h2).trans ?_
  refine (el_call rfl h3).trans ?_
  refine (if_pos h4).trans ?_
  refine (ev_eq _ _ _ _ _ _).trans ?_
  rfl
theorem E_X11_tone_3 {T : List Shp} {c : Nat → Int → Int} {x1 x2 : Int} {r1 : Int} {c2 : Nat → Int → Int} {r3 : Int} {c4 : Nat → Int → Int} (h1 : cal 67 [vR 2, vI x1] (SH T, c) = some (some (vI r1), (SH T, c2))) (h2 : ¬ r1 = 0) (h3 : cal 178 [vI x2] (SH T, c2) = some (some (vI r3), (SH T, c4))) (h4 : ¬ r3 = 0) (h5 : 0 ≤ (w32 ((w32 (x1 * 12)) + x2)) ∧ (w32 ((w32 (x1 * 12)) + x2)) < 204) : cal 134 [vR 1, vI x1, vI x2] (SH T, c) = some (some (vI (c4 7 (w32 ((w32 (x1 * 12)) + x2)))), (SH T, c4)) := by
  refine (ev_eq _ _ _ _ _ _).trans ?_
  refine (el_call rfl h1).trans ?_
  refine (if_neg h2).trans ?_
  refine (el_call rfl h3).trans ?_
  refine (if_neg h4).trans ?_
  refine (ev_eq _ _ _ _ _ _).trans ?_
  refine (if_pos h5).trans ?_
  rfl
theorem E_X11_layer_1 {T : List Shp} {c : Nat → Int → Int} {x1 x2 : Int} {r1 : Int} {c2 : Nat → Int → Int} (h1 : cal 67 [vR 2, vI x1] (SH T, c) = some (some (vI r1), (SH T, c2))) (h2 : r1 = 0) : cal 135 [vR 1, vI x1, vI x2] (SH T, c) = some (some (vI (-1)), (SH T, c2)) := by
  refine (ev_eq _ _ _ _ _ _).trans ?_
  refine (el_call rfl h1).trans ?_
  refine (if_pos h2).trans ?_
  rfl
theorem E_X11_layer_2 {T : List Shp} {c : Nat → Int → Int} {x1 x2 : Int} {r1 : Int} {c2 : Nat → Int → Int} {r3 : Int} {c4 : Nat → Int → Int} (h1 : cal 67 [vR 2, vI x1] (SH T, c) = some (some (vI r1), (SH T, c2))) (h2 : ¬ r1 = 0) (h3 : x2 = 0) (h4 : cal 96 [vR 19, vI x1] (SH T, c2) = some (some (vI r3), (SH T, c4))) : cal 135 [vR 1, vI x1, vI x2] (SH T, c) = some (some (vI r3), (SH T, c4)) := by
  refine (ev_eq _ _ _ _ _ _).trans ?_
  refine (el_call rfl h1).trans ?_
  refine (if_neg h2).trans ?_
  refine (ev_eq _ _ _ _ _ _).trans ?_
  refine (if_pos h3).trans ?_
  refine (ev_eq _ _ _ _ _ _).trans ?_
  refine (el_call rfl h4).trans ?_
  rfl
theorem E_X11_layer_3 {T : List Shp} {c : Nat → Int → Int} {x1 x2 : Int} {r1 : Int} {c2 : Nat → Int → Int} (h1 : cal 67 [vR 2, vI x1] (SH T, c) = some (some (vI r1), (SH T, c2))) (h2 : ¬ r1 = 0) (h3 : x2 = 1) (h4 : x1 = 0) : cal 135 [vR 1, vI x1, vI x2] (SH T, c) = some (some (vI (-1)), (SH T, c2)) := by
  refine (ev_eq _ _ _ _ _ _).trans ?_
  refine (el_call rfl h1).trans ?_
  refine (if_neg h2).trans ?_
  refine (ev_eq _ _ _ _ _ _).trans ?_
  refine (if_neg (by omega)).trans ?_
  refine (if_pos h3).trans ?_
  refine (ev_eq _ _ _ _ _ _).trans ?_
  refine (if_pos h4).trans ?_
  rfl
theorem E_X11_layer_4 {T : List Shp} {c : Nat → Int → Int} {x1 x2 : Int} {r1 : Int} {c2 : Nat → Int → Int} (h1 : cal 67 [vR 2, vI x1] (SH T, c) = some (some (vI r1), (SH T, c2))) (h2 : ¬ r1 = 0) (h3 : x2 = 1) (h4 : ¬ x1 = 0) (h5 : 0 ≤ x1 ∧ x1 < 17) : cal 135 [vR 1, vI x1, vI x2] (SH T, c) = some (some (vI (c2 6 x1)), (SH T, c2)) := by
  refine (ev_eq _ _ _ _ _ _).trans ?_
  refine (el_call rfl h1).trans ?_
  refine (if_neg h2).trans ?_
  refine (ev_eq _ _ _ _ _ _).trans ?_
  refine (if_neg (by omega)).trans ?_
  refine (if_pos h3).trans ?_
  refine (ev_eq _ _ _ _ _ _).trans ?_
  refine (if_neg h4).trans ?_
  refine (ev_eq _ _ _ _ _ _).trans ?_
  refine (if_pos h5).trans ?_
  rfl
theorem E_X11_layer_5 {T : List Shp} {c : Nat → Int → Int} {x1 x2 : Int} {r1 : Int} {c2 : Nat → Int → Int} (h1 : cal 67 [vR 2, vI x1] (SH T, c) = some (some (vI r1), (SH T, c2))) (h2 : ¬ r1 = 0) (h3 : x2 = 2) (h4 : x1 = 0) : cal 135 [vR 1, vI x1, vI x2] (SH T, c) = some (some (vI 0), (SH T, c2)) := by
  refine (ev_eq _ _ _ _ _ _).trans ?_
  refine (el_call rfl h1).trans ?_
  refine (if_neg h2).trans ?_
  refine (ev_eq _ _ _ _ _ _).trans ?_
  refine (if_neg (by omega)).trans ?_
  refine (if_neg (by omega)).trans ?_
  refine (if_pos h3).trans ?_
  refine (ev_eq _ _ _ _ _ _).trans ?_
  refine (if_pos h4).trans ?_
  rfl
theorem E_X11_layer_6 {T : List Shp} {c : Nat → Int → Int} {x1 x2 : Int} {r1 : Int} {c2 : Nat → Int → Int} {r3 : Int} {c4 : Nat → Int → Int} (h1 : cal 67 [vR 2, vI x1] (SH T, c) = some (some (vI r1), (SH T, c2))) (h2 : ¬ r1 = 0) (h3 : x2 = 2) (h4 : ¬ x1 = 0) (h5 : 0 ≤ x1 ∧ x1 < 17) (h6 : cal 25 [vR 15, vI (c2 6 x1), vI x1] (SH T, c2) = some (some (vI r3), (SH T, c4))) : cal 135 [vR 1, vI x1, vI x2] (SH T, c) = some (some (vI r3), (SH T, c4)) := by
  refine (ev_eq _ _ _ _ _ _).trans ?_
  refine (el_call rfl h1).trans ?_
  refine (if_neg h2).trans ?_
  refine (ev_eq _ _ _ _ _ _).trans ?_
  refine (if_neg (by omega)).trans ?_
  refine (if_neg (by omega)).trans ?_
  refine (if_pos h3).trans ?_
  refine (ev_eq _ _ _ _ _ _).trans ?_
  refine (if_neg h4).trans ?_
  refine (ev_eq _ _ _ _ _ _).trans ?_
  refine (if_pos h5).trans ?_
  refine (el_call rfl h6).trans ?_
  rfl
theorem E_X11_layer_7 {T : List Shp} {c : Nat → Int → Int} {x1 x2 : Int} {r1 : Int} {c2 : Nat → Int → Int} {r3 : Int} {c4 : Nat → Int → Int} (h1 : cal 67 [vR 2, vI x1] (SH T, c) = some (some (vI r1), (SH T, c2))) (h2 : ¬ r1 = 0) (h3 : x2 = 3) (h4 : cal 97 [vR 19, vI x1] (SH T, c2) = some (some (vI r3), (SH T, c4))) : cal 135 [vR 1, vI x1, vI x2] (SH T, c) = some (some (vI r3), (SH T, c4)) := by
  refine (ev_eq _ _ _ _ _ _).trans ?_
  refine (el_call rfl h1).trans ?_
  refine (if_neg h2).trans ?_
  refine (ev_eq _ _ _ _ _ _).trans ?_
  refine (if_neg (by omega)).trans ?_
  refine (if_neg (by omega)).trans ?_
  refine (if_neg (by omega)).trans ?_
  refine (if_pos h3).trans ?_
  refine (ev_eq _ _ _ _ _ _).trans ?_
  refine (el_call rfl h4).trans ?_
  rfl
theorem E_X11_layer_8 {T : List Shp} {c : Nat → Int → Int} {x1 x2 : Int} {r1 : Int} {c2 : Nat → Int → Int} (h1 : cal 67 [vR 2, vI x1] (SH T, c) = some (some (vI r1), (SH T, c2))) (h2 : ¬ r1 = 0) (h3 : ¬ x2 = 0 ∧ ¬ x2 = 1 ∧ ¬ x2 = 2 ∧ ¬ x2 = 3) : cal 135 [vR 1, vI x1, vI x2] (SH T, c) = some (some (vI (-1)), (SH T, c2)) := by
  refine (ev_eq _ _ _ _ _ _).trans ?_
  refine (el_call rfl h1).trans ?_
  refine (if_neg h2).trans ?_
  refine (ev_eq _ _ _ _ _ _).trans ?_
  refine (if_neg (h3.1)).trans ?_
  refine (if_neg (h3.2.1)).trans ?_
  refine (if_neg (h3.2.2.1)).trans ?_
  refine (if_neg (h3.2.2.2)).trans ?_
  refine (ev_eq _ _ _ _ _ _).trans ?_
  rfl
theorem E_X11_unlawful {T : List Shp} {c : Nat → Int → Int}  : cal 136 [vR 1] (SH T, c) = ev 136 6 2 [vR 1, vI 0] [] (SH T, c) := by
  refine (ev_eq _ _ _ _ _ _).trans ?_
  rfl
theorem B_X11_unlawful_2_1 {T : List Shp} {c : Nat → Int → Int} {x1 : Int} (h1 : (c 1 8) < x1) : ev 136 6 2 [vR 1, vI x1] [] (SH T, c) = some (some (vI (-1)), (SH T, c)) := by
  refine (ev_eq _ _ _ _ _ _).trans ?_
  refine (if_pos h1).trans ?_
  refine (ev_eq _ _ _ _ _ _).trans ?_
  rfl
theorem B_X11_unlawful_2_2 {T : List Shp} {c : Nat → Int → Int} {x1 : Int} {r1 : Int} {c2 : Nat → Int → Int} (h1 : ¬ (c 1 8) < x1) (h2 : cal 97 [vR 19, vI x1] (SH T, c) = some (some (vI r1), (SH T, c2))) (h3 : r1 = (-1)) : ev 136 6 2 [vR 1, vI x1] [] (SH T, c) = ev 136 6 2 [vR 1, vI (w32 (x1 + 1))] [] (SH T, c2) := by
  refine (ev_eq _ _ _ _ _ _).trans ?_
  refine (if_neg h1).trans ?_
  refine (el_call rfl h2).trans ?_
  refine (if_pos h3).trans ?_
  refine (ev_eq _ _ _ _ _ _).trans ?_
  rfl
theorem B_X11_unlawful_2_3 {T : List Shp} {c : Nat → Int → Int} {x1 : Int} {r1 : Int} {c2 : Nat → Int → Int} (h1 : ¬ (c 1 8) < x1) (h2 : cal 97 [vR 19, vI x1] (SH T, c) = some (some (vI r1), (SH T, c2))) (h3 : ¬ r1 = (-1)) : ev 136 6 2 [vR 1, vI x1] [] (SH T, c) = some (some (vI x1), (SH T, c2)) := by
  refine (ev_eq _ _ _ _ _ _).trans ?_
  refine (if_neg h1).trans ?_
  refine (el_call rfl h2).trans ?_
  refine (if_neg h3).trans ?_
  rfl
theorem E_X11_money_1 {T : List Shp} {c : Nat → Int → Int} {x1 : Int} {r1 : Int} {c2 : Nat → Int → Int} (h1 : cal 67 [vR 2, vI x1] (SH T, c) = some (some (vI r1), (SH T, c2))) (h2 : r1 = 0) : cal 137 [vR 1, vI x1] (SH T, c) = some (some (vI (-1000000)), (SH T, c2)) := by
  refine (ev_eq _ _ _ _ _ _).trans ?_
  refine (el_call rfl h1).trans ?_
  refine (if_pos h2).trans ?_
  refine (ev_eq _ _ _ _ _ _).trans ?_
  rfl
theorem E_X11_money_2 {T : List Shp} {c : Nat → Int → Int} {x1 : Int} {r1 : Int} {c2 : Nat → Int → Int} {r3 : Int} {c4 : Nat → Int → Int} (h1 : cal 67 [vR 2, vI x1] (SH T, c) = some (some (vI r1), (SH T, c2))) (h2 : ¬ r1 = 0) (h3 : cal 98 [vR 19, vI x1] (SH T, c2) = some (some (vI r3), (SH T, c4))) : cal 137 [vR 1, vI x1] (SH T, c) = some (some (vI r3), (SH T, c4)) := by
  refine (ev_eq _ _ _ _ _ _).trans ?_
  refine (el_call rfl h1).trans ?_
  refine (if_neg h2).trans ?_
  refine (el_call rfl h3).trans ?_
  rfl
theorem E_X11_broke {T : List Shp} {c : Nat → Int → Int}  : cal 138 [vR 1] (SH T, c) = ev 138 6 2 [vR 1, vI 0] [] (SH T, c) := by
  refine (ev_eq _ _ _ _ _ _).trans ?_
  rfl
theorem B_X11_broke_2_1 {T : List Shp} {c : Nat → Int → Int} {x1 : Int} (h1 : (c 1 8) < x1) : ev 138 6 2 [vR 1, vI x1] [] (SH T, c) = some (some (vI (-1)), (SH T, c)) := by
  refine (ev_eq _ _ _ _ _ _).trans ?_
  refine (if_pos h1).trans ?_
  refine (ev_eq _ _ _ _ _ _).trans ?_
  rfl
theorem B_X11_broke_2_2 {T : List Shp} {c : Nat → Int → Int} {x1 : Int} {r1 : Int} {c2 : Nat → Int → Int} (h1 : ¬ (c 1 8) < x1) (h2 : cal 98 [vR 19, vI x1] (SH T, c) = some (some (vI r1), (SH T, c2))) (h3 : r1 < 0) : ev 138 6 2 [vR 1, vI x1] [] (SH T, c) = some (some (vI x1), (SH T, c2)) := by
  refine (ev_eq _ _ _ _ _ _).trans ?_
  refine (if_neg h1).trans ?_
  refine (el_call rfl h2).trans ?_
  refine (if_pos h3).trans ?_
  rfl
theorem B_X11_broke_2_3 {T : List Shp} {c : Nat → Int → Int} {x1 : Int} {r1 : Int} {c2 : Nat → Int → Int} (h1 : ¬ (c 1 8) < x1) (h2 : cal 98 [vR 19, vI x1] (SH T, c) = some (some (vI r1), (SH T, c2))) (h3 : ¬ r1 < 0) : ev 138 6 2 [vR 1, vI x1] [] (SH T, c) = ev 138 6 2 [vR 1, vI (w32 (x1 + 1))] [] (SH T, c2) := by
  refine (ev_eq _ _ _ _ _ _).trans ?_
  refine (if_neg h1).trans ?_
  refine (el_call rfl h2).trans ?_
  refine (if_neg h3).trans ?_
  refine (ev_eq _ _ _ _ _ _).trans ?_
  rfl
theorem E_X11_plan_1 {T : List Shp} {c : Nat → Int → Int} {x1 x2 x3 : Int} (h1 : x1 < 0) : cal 139 [vR 1, vI x1, vI x2, vI x3] (SH T, c) = some (some (vI (-1)), (SH T, c)) := by
  refine (ev_eq _ _ _ _ _ _).trans ?_
  refine (if_pos h1).trans ?_
  refine (ev_eq _ _ _ _ _ _).trans ?_
  rfl
theorem E_X11_plan_2 {T : List Shp} {c : Nat → Int → Int} {x1 x2 x3 : Int} (h1 : ¬ x1 < 0) (h2 : 2 < x1) : cal 139 [vR 1, vI x1, vI x2, vI x3] (SH T, c) = some (some (vI (-1)), (SH T, c)) := by
  refine (ev_eq _ _ _ _ _ _).trans ?_
  refine (if_neg h1).trans ?_
  refine (if_pos h2).trans ?_
  refine (ev_eq _ _ _ _ _ _).trans ?_
  rfl
theorem E_X11_plan_3 {T : List Shp} {c : Nat → Int → Int} {x1 x2 x3 : Int} {r1 : Int} {c2 : Nat → Int → Int} (h1 : ¬ x1 < 0) (h2 : ¬ 2 < x1) (h3 : cal 177 [vI x2, vI 6] (SH T, c) = some (some (vI r1), (SH T, c2))) (h4 : r1 = 0) : cal 139 [vR 1, vI x1, vI x2, vI x3] (SH T, c) = some (some (vI (-1)), (SH T, c2)) := by
  refine (ev_eq _ _ _ _ _ _).trans ?_
  refine (if_neg h1).trans ?_
  refine (if_neg h2).trans ?_
  refine (el_call rfl h3).trans ?_
  refine (if_pos h4).trans ?_
  refine (ev_eq _ _ _ _ _ _).trans ?_
  rfl
theorem E_X11_plan_4 {T : List Shp} {c : Nat → Int → Int} {x1 x2 x3 : Int} {r1 : Int} {c2 : Nat → Int → Int} (h1 : ¬ x1 < 0) (h2 : ¬ 2 < x1) (h3 : cal 177 [vI x2, vI 6] (SH T, c) = some (some (vI r1), (SH T, c2))) (h4 : ¬ r1 = 0) (h5 : x3 < 0) : cal 139 [vR 1, vI x1, vI x2, vI x3] (SH T, c) = some (some (vI (-1)), (SH T, c2)) := by
  refine (ev_eq _ _ _ _ _ _).trans ?_
  refine (if_neg h1).trans ?_
  refine (if_neg h2).trans ?_
  refine (el_call rfl h3).trans ?_
  refine (if_neg h4).trans ?_
  refine (ev_eq _ _ _ _ _ _).trans ?_
  refine (if_pos h5).trans ?_
  refine (ev_eq _ _ _ _ _ _).trans ?_
  rfl
theorem E_X11_plan_5 {T : List Shp} {c : Nat → Int → Int} {x1 x2 x3 : Int} {r1 : Int} {c2 : Nat → Int → Int} {c3 : Nat → Int → Int} (h1 : ¬ x1 < 0) (h2 : ¬ 2 < x1) (h3 : cal 177 [vI x2, vI 6] (SH T, c) = some (some (vI r1), (SH T, c2))) (h4 : ¬ r1 = 0) (h5 : ¬ x3 < 0) (h6 : x3 < (w32 (3 + x2))) (h7 : cal 35 [vR 22, vI x1, vI x2] (SH T, c2) = some (none, (SH T, c3))) (h8 : x3 = 2) : cal 139 [vR 1, vI x1, vI x2, vI x3] (SH T, c) = some (some (vI (c3 21 14)), (SH T, c3)) := by
  refine (ev_eq _ _ _ _ _ _).trans ?_
  refine (if_neg h1).trans ?_
  refine (if_neg h2).trans ?_
  refine (el_call rfl h3).trans ?_
  refine (if_neg h4).trans ?_
  refine (ev_eq _ _ _ _ _ _).trans ?_
  refine (if_neg h5).trans ?_
  refine (if_pos h6).trans ?_
  refine (ev_eq _ _ _ _ _ _).trans ?_
  refine (el_call rfl h7).trans ?_
  refine (if_pos h8).trans ?_
  rfl
theorem E_X11_plan_6 {T : List Shp} {c : Nat → Int → Int} {x1 x2 x3 : Int} {r1 : Int} {c2 : Nat → Int → Int} {c3 : Nat → Int → Int} (h1 : ¬ x1 < 0) (h2 : ¬ 2 < x1) (h3 : cal 177 [vI x2, vI 6] (SH T, c) = some (some (vI r1), (SH T, c2))) (h4 : ¬ r1 = 0) (h5 : ¬ x3 < 0) (h6 : x3 < (w32 (3 + x2))) (h7 : cal 35 [vR 22, vI x1, vI x2] (SH T, c2) = some (none, (SH T, c3))) (h8 : ¬ x3 = 2) (h9 : (c3 21 14) = 0) : cal 139 [vR 1, vI x1, vI x2, vI x3] (SH T, c) = some (some (vI (-1)), (SH T, c3)) := by
  refine (ev_eq _ _ _ _ _ _).trans ?_
  refine (if_neg h1).trans ?_
  refine (if_neg h2).trans ?_
  refine (el_call rfl h3).trans ?_
  refine (if_neg h4).trans ?_
  refine (ev_eq _ _ _ _ _ _).trans ?_
  refine (if_neg h5).trans ?_
  refine (if_pos h6).trans ?_
  refine (ev_eq _ _ _ _ _ _).trans ?_
  refine (el_call rfl h7).trans ?_
  refine (if_neg h8).trans ?_
  refine (ev_eq _ _ _ _ _ _).trans ?_
  refine (if_pos h9).trans ?_
  rfl
theorem E_X11_plan_7 {T : List Shp} {c : Nat → Int → Int} {x1 x2 x3 : Int} {r1 : Int} {c2 : Nat → Int → Int} {c3 : Nat → Int → Int} (h1 : ¬ x1 < 0) (h2 : ¬ 2 < x1) (h3 : cal 177 [vI x2, vI 6] (SH T, c) = some (some (vI r1), (SH T, c2))) (h4 : ¬ r1 = 0) (h5 : ¬ x3 < 0) (h6 : x3 < (w32 (3 + x2))) (h7 : cal 35 [vR 22, vI x1, vI x2] (SH T, c2) = some (none, (SH T, c3))) (h8 : ¬ x3 = 2) (h9 : ¬ (c3 21 14) = 0) (h10 : x3 = 0) : cal 139 [vR 1, vI x1, vI x2, vI x3] (SH T, c) = some (some (vI (c3 21 12)), (SH T, c3)) := by
  refine (ev_eq _ _ _ _ _ _).trans ?_
  refine (if_neg h1).trans ?_
  refine (if_neg h2).trans ?_
  refine (el_call rfl h3).trans ?_
  refine (if_neg h4).trans ?_
  refine (ev_eq _ _ _ _ _ _).trans ?_
  refine (if_neg h5).trans ?_
  refine (if_pos h6).trans ?_
  refine (ev_eq _ _ _ _ _ _).trans ?_
  refine (el_call rfl h7).trans ?_
  refine (if_neg h8).trans ?_
  refine (ev_eq _ _ _ _ _ _).trans ?_
  refine (if_neg h9).trans ?_
  refine (ev_eq _ _ _ _ _ _).trans ?_
  refine (if_pos h10).trans ?_
  rfl
theorem E_X11_plan_8 {T : List Shp} {c : Nat → Int → Int} {x1 x2 x3 : Int} {r1 : Int} {c2 : Nat → Int → Int} {c3 : Nat → Int → Int} (h1 : ¬ x1 < 0) (h2 : ¬ 2 < x1) (h3 : cal 177 [vI x2, vI 6] (SH T, c) = some (some (vI r1), (SH T, c2))) (h4 : ¬ r1 = 0) (h5 : ¬ x3 < 0) (h6 : x3 < (w32 (3 + x2))) (h7 : cal 35 [vR 22, vI x1, vI x2] (SH T, c2) = some (none, (SH T, c3))) (h8 : ¬ x3 = 2) (h9 : ¬ (c3 21 14) = 0) (h10 : ¬ x3 = 0) (h11 : x3 = 1) : cal 139 [vR 1, vI x1, vI x2, vI x3] (SH T, c) = some (some (vI (c3 21 13)), (SH T, c3)) := by
  refine (ev_eq _ _ _ _ _ _).trans ?_
  refine (if_neg h1).trans ?_
  refine (if_neg h2).trans ?_
  refine (el_call rfl h3).trans ?_
  refine (if_neg h4).trans ?_
  refine (ev_eq _ _ _ _ _ _).trans ?_
  refine (if_neg h5).trans ?_
  refine (if_pos h6).trans ?_
  refine (ev_eq _ _ _ _ _ _).trans ?_
  refine (el_call rfl h7).trans ?_
  refine (if_neg h8).trans ?_
  refine (ev_eq _ _ _ _ _ _).trans ?_
  refine (if_neg h9).trans ?_
  refine (ev_eq _ _ _ _ _ _).trans ?_
  refine (if_neg h10).trans ?_
  refine (ev_eq _ _ _ _ _ _).trans ?_
  refine (if_pos h11).trans ?_
  rfl
theorem E_X11_plan_9 {T : List Shp} {c : Nat → Int → Int} {x1 x2 x3 : Int} {r1 : Int} {c2 : Nat → Int → Int} {c3 : Nat → Int → Int} (h1 : ¬ x1 < 0) (h2 : ¬ 2 < x1) (h3 : cal 177 [vI x2, vI 6] (SH T, c) = some (some (vI r1), (SH T, c2))) (h4 : ¬ r1 = 0) (h5 : ¬ x3 < 0) (h6 : x3 < (w32 (3 + x2))) (h7 : cal 35 [vR 22, vI x1, vI x2] (SH T, c2) = some (none, (SH T, c3))) (h8 : ¬ x3 = 2) (h9 : ¬ (c3 21 14) = 0) (h10 : ¬ x3 = 0) (h11 : ¬ x3 = 1) (h12 : 0 ≤ (w32 (x3 - 3)) ∧ (w32 (x3 - 3)) < 5) : cal 139 [vR 1, vI x1, vI x2, vI x3] (SH T, c) = some (some (vI (c3 28 (w32 (x3 - 3)))), (SH T, c3)) := by
  refine (ev_eq _ _ _ _ _ _).trans ?_
  refine (if_neg h1).trans ?_
  refine (if_neg h2).trans ?_
  refine (el_call rfl h3).trans ?_
  refine (if_neg h4).trans ?_
  refine (ev_eq _ _ _ _ _ _).trans ?_
  refine (if_neg h5).trans ?_
  refine (if_pos h6).trans ?_
  refine (ev_eq _ _ _ _ _ _).trans ?_
  refine (el_call rfl h7).trans ?_
  refine (if_neg h8).trans ?_
  refine (ev_eq _ _ _ _ _ _).trans ?_
  refine (if_neg h9).trans ?_
  refine (ev_eq _ _ _ _ _ _).trans ?_
  refine (if_neg h10).trans ?_
  refine (ev_eq _ _ _ _ _ _).trans ?_
  refine (if_neg h11).trans ?_
  refine (ev_eq _ _ _ _ _ _).trans ?_
  refine (if_pos h12).trans ?_
  rfl
theorem E_X11_plan_10 {T : List Shp} {c : Nat → Int → Int} {x1 x2 x3 : Int} {r1 : Int} {c2 : Nat → Int → Int} (h1 : ¬ x1 < 0) (h2 : ¬ 2 < x1) (h3 : cal 177 [vI x2, vI 6] (SH T, c) = some (some (vI r1), (SH T, c2))) (h4 : ¬ r1 = 0) (h5 : ¬ x3 < 0) (h6 : ¬ x3 < (w32 (3 + x2))) : cal 139 [vR 1, vI x1, vI x2, vI x3] (SH T, c) = some (some (vI (-1)), (SH T, c2)) := by
  refine (ev_eq _ _ _ _ _ _).trans ?_
  refine (if_neg h1).trans ?_
  refine (if_neg h2).trans ?_
  refine (el_call rfl h3).trans ?_
  refine (if_neg h4).trans ?_
  refine (ev_eq _ _ _ _ _ _).trans ?_
  refine (if_neg h5).trans ?_
  refine (if_neg h6).trans ?_
  refine (ev_eq _ _ _ _ _ _).trans ?_
  rfl
theorem E_X11_drift_1 {T : List Shp} {c : Nat → Int → Int} {x1 x2 x3 : Int} {r1 : Int} {c2 : Nat → Int → Int} (h1 : cal 178 [vI x1] (SH T, c) = some (some (vI r1), (SH T, c2))) (h2 : r1 = 0) : cal 140 [vR 1, vI x1, vI x2, vI x3] (SH T, c) = some (some (vI (-1)), (SH T, c2)) := by
  refine (ev_eq _ _ _ _ _ _).trans ?_
  refine (el_call rfl h1).trans ?_
  refine (if_pos h2).trans ?_
  refine (ev_eq _ _ _ _ _ _).trans ?_
  rfl
theorem E_X11_drift_2 {T : List Shp} {c : Nat → Int → Int} {x1 x2 x3 : Int} {r1 : Int} {c2 : Nat → Int → Int} {r3 : Int} {c4 : Nat → Int → Int} (h1 : cal 178 [vI x1] (SH T, c) = some (some (vI r1), (SH T, c2))) (h2 : ¬ r1 = 0) (h3 : cal 177 [vI x2, vI 11] (SH T, c2) = some (some (vI r3), (SH T, c4))) (h4 : r3 = 0) : cal 140 [vR 1, vI x1, vI x2, vI x3] (SH T, c) = some (some (vI (-1)), (SH T, c4)) := by
  refine (ev_eq _ _ _ _ _ _).trans ?_
  refine (el_call rfl h1).trans ?_
  refine (if_neg h2).trans ?_
  refine (el_call rfl h3).trans ?_
  refine (if_pos h4).trans ?_
  refine (ev_eq _ _ _ _ _ _).trans ?_
  rfl
theorem E_X11_drift_3 {T : List Shp} {c : Nat → Int → Int} {x1 x2 x3 : Int} {r1 : Int} {c2 : Nat → Int → Int} {r3 : Int} {c4 : Nat → Int → Int} {r5 : Int} {c6 : Nat → Int → Int} (h1 : cal 178 [vI x1] (SH T, c) = some (some (vI r1), (SH T, c2))) (h2 : ¬ r1 = 0) (h3 : cal 177 [vI x2, vI 11] (SH T, c2) = some (some (vI r3), (SH T, c4))) (h4 : ¬ r3 = 0) (h5 : cal 177 [vI x3, vI 3] (SH T, c4) = some (some (vI r5), (SH T, c6))) (h6 : r5 = 0) : cal 140 [vR 1, vI x1, vI x2, vI x3] (SH T, c) = some (some (vI (-1)), (SH T, c6)) := by
  refine (ev_eq _ _ _ _ _ _).trans ?_
  refine (el_call rfl h1).trans ?_
  refine (if_neg h2).trans ?_
  refine (el_call rfl h3).trans ?_
  refine (if_neg h4).trans ?_
  refine (el_call rfl h5).trans ?_
  refine (if_pos h6).trans ?_
  refine (ev_eq _ _ _ _ _ _).trans ?_
  rfl
theorem E_X11_drift_4 {T : List Shp} {c : Nat → Int → Int} {x1 x2 x3 : Int} {r1 : Int} {c2 : Nat → Int → Int} {r3 : Int} {c4 : Nat → Int → Int} {r5 : Int} {c6 : Nat → Int → Int} {r7 : Int} {c8 : Nat → Int → Int} (h1 : cal 178 [vI x1] (SH T, c) = some (some (vI r1), (SH T, c2))) (h2 : ¬ r1 = 0) (h3 : cal 177 [vI x2, vI 11] (SH T, c2) = some (some (vI r3), (SH T, c4))) (h4 : ¬ r3 = 0) (h5 : cal 177 [vI x3, vI 3] (SH T, c4) = some (some (vI r5), (SH T, c6))) (h6 : ¬ r5 = 0) (h7 : cal 101 [vR 19, vI x1, vI x2] (SH T, c6) = some (some (vI r7), (SH T, c8))) (h8 : x3 = 2) : cal 140 [vR 1, vI x1, vI x2, vI x3] (SH T, c) = some (some (vI r7), (SH T, c8)) := by
  refine (ev_eq _ _ _ _ _ _).trans ?_
  refine (el_call rfl h1).trans ?_
  refine (if_neg h2).trans ?_
  refine (el_call rfl h3).trans ?_
  refine (if_neg h4).trans ?_
  refine (el_call rfl h5).trans ?_
  refine (if_neg h6).trans ?_
  refine (ev_eq _ _ _ _ _ _).trans ?_
  refine (el_call rfl h7).trans ?_
  refine (if_pos h8).trans ?_
  rfl
theorem E_X11_drift_5 {T : List Shp} {c : Nat → Int → Int} {x1 x2 x3 : Int} {r1 : Int} {c2 : Nat → Int → Int} {r3 : Int} {c4 : Nat → Int → Int} {r5 : Int} {c6 : Nat → Int → Int} {r7 : Int} {c8 : Nat → Int → Int} (h1 : cal 178 [vI x1] (SH T, c) = some (some (vI r1), (SH T, c2))) (h2 : ¬ r1 = 0) (h3 : cal 177 [vI x2, vI 11] (SH T, c2) = some (some (vI r3), (SH T, c4))) (h4 : ¬ r3 = 0) (h5 : cal 177 [vI x3, vI 3] (SH T, c4) = some (some (vI r5), (SH T, c6))) (h6 : ¬ r5 = 0) (h7 : cal 101 [vR 19, vI x1, vI x2] (SH T, c6) = some (some (vI r7), (SH T, c8))) (h8 : ¬ x3 = 2) (h9 : r7 = 0) : cal 140 [vR 1, vI x1, vI x2, vI x3] (SH T, c) = some (some (vI (-1)), (SH T, c8)) := by
  refine (ev_eq _ _ _ _ _ _).trans ?_
  refine (el_call rfl h1).trans ?_
  refine (if_neg h2).trans ?_
  refine (el_call rfl h3).trans ?_
  refine (if_neg h4).trans ?_
  refine (el_call rfl h5).trans ?_
  refine (if_neg h6).trans ?_
  refine (ev_eq _ _ _ _ _ _).trans ?_
  refine (el_call rfl h7).trans ?_
  refine (if_neg h8).trans ?_
  refine (ev_eq _ _ _ _ _ _).trans ?_
  refine (if_pos h9).trans ?_
  rfl
theorem E_X11_drift_6 {T : List Shp} {c : Nat → Int → Int} {x1 x2 x3 : Int} {r1 : Int} {c2 : Nat → Int → Int} {r3 : Int} {c4 : Nat → Int → Int} {r5 : Int} {c6 : Nat → Int → Int} {r7 : Int} {c8 : Nat → Int → Int} {r9 : Int} {c10 : Nat → Int → Int} (h1 : cal 178 [vI x1] (SH T, c) = some (some (vI r1), (SH T, c2))) (h2 : ¬ r1 = 0) (h3 : cal 177 [vI x2, vI 11] (SH T, c2) = some (some (vI r3), (SH T, c4))) (h4 : ¬ r3 = 0) (h5 : cal 177 [vI x3, vI 3] (SH T, c4) = some (some (vI r5), (SH T, c6))) (h6 : ¬ r5 = 0) (h7 : cal 101 [vR 19, vI x1, vI x2] (SH T, c6) = some (some (vI r7), (SH T, c8))) (h8 : ¬ x3 = 2) (h9 : ¬ r7 = 0) (h10 : x3 = 0) (h11 : cal 182 [vI r7] (SH T, c8) = some (some (vI r9), (SH T, c10))) : cal 140 [vR 1, vI x1, vI x2, vI x3] (SH T, c) = some (some (vI r9), (SH T, c10)) := by
  refine (ev_eq _ _ _ _ _ _).trans ?_
  refine (el_call rfl h1).trans ?_
  refine (if_neg h2).trans ?_
  refine (el_call rfl h3).trans ?_
  refine (if_neg h4).trans ?_
  refine (el_call rfl h5).trans ?_
  refine (if_neg h6).trans ?_
  refine (ev_eq _ _ _ _ _ _).trans ?_
  refine (el_call rfl h7).trans ?_
  refine (if_neg h8).trans ?_
  refine (ev_eq _ _ _ _ _ _).trans ?_
  refine (if_neg h9).trans ?_
  refine (ev_eq _ _ _ _ _ _).trans ?_
  refine (if_pos h10).trans ?_
  refine (el_call rfl h11).trans ?_
  rfl
theorem E_X11_drift_7 {T : List Shp} {c : Nat → Int → Int} {x1 x2 x3 : Int} {r1 : Int} {c2 : Nat → Int → Int} {r3 : Int} {c4 : Nat → Int → Int} {r5 : Int} {c6 : Nat → Int → Int} {r7 : Int} {c8 : Nat → Int → Int} {r9 : Int} {c10 : Nat → Int → Int} (h1 : cal 178 [vI x1] (SH T, c) = some (some (vI r1), (SH T, c2))) (h2 : ¬ r1 = 0) (h3 : cal 177 [vI x2, vI 11] (SH T, c2) = some (some (vI r3), (SH T, c4))) (h4 : ¬ r3 = 0) (h5 : cal 177 [vI x3, vI 3] (SH T, c4) = some (some (vI r5), (SH T, c6))) (h6 : ¬ r5 = 0) (h7 : cal 101 [vR 19, vI x1, vI x2] (SH T, c6) = some (some (vI r7), (SH T, c8))) (h8 : ¬ x3 = 2) (h9 : ¬ r7 = 0) (h10 : ¬ x3 = 0) (h11 : cal 183 [vI r7] (SH T, c8) = some (some (vI r9), (SH T, c10))) : cal 140 [vR 1, vI x1, vI x2, vI x3] (SH T, c) = some (some (vI r9), (SH T, c10)) := by
  refine (ev_eq _ _ _ _ _ _).trans ?_
  refine (el_call rfl h1).trans ?_
  refine (if_neg h2).trans ?_
  refine (el_call rfl h3).trans ?_
  refine (if_neg h4).trans ?_
  refine (el_call rfl h5).trans ?_
  refine (if_neg h6).trans ?_
  refine (ev_eq _ _ _ _ _ _).trans ?_
  refine (el_call rfl h7).trans ?_
  refine (if_neg h8).trans ?_
  refine (ev_eq _ _ _ _ _ _).trans ?_
  refine (if_neg h9).trans ?_
  refine (ev_eq _ _ _ _ _ _).trans ?_
  refine (if_neg h10).trans ?_
  refine (ev_eq _ _ _ _ _ _).trans ?_
  refine (el_call rfl h11).trans ?_
  rfl
theorem E_X11_undoing_1 {T : List Shp} {c : Nat → Int → Int} {x1 : Int} (h1 : x1 < (-1)) : cal 141 [vR 1, vI x1] (SH T, c) = some (some (vI (-1)), (SH T, c)) := by
  refine (ev_eq _ _ _ _ _ _).trans ?_
  refine (if_pos h1).trans ?_
  rfl
theorem E_X11_undoing_2 {T : List Shp} {c : Nat → Int → Int} {x1 : Int} {r1 : Int} {c2 : Nat → Int → Int} (h1 : ¬ x1 < (-1)) (h2 : cal 102 [vR 19, vI x1] (SH T, c) = some (some (vI r1), (SH T, c2))) : cal 141 [vR 1, vI x1] (SH T, c) = some (some (vI r1), (SH T, c2)) := by
  refine (ev_eq _ _ _ _ _ _).trans ?_
  refine (if_neg h1).trans ?_
  refine (ev_eq _ _ _ _ _ _).trans ?_
  refine (el_call rfl h2).trans ?_
  rfl
theorem E_X11_copy_1 {T : List Shp} {c : Nat → Int → Int} {c1 : Nat → Int → Int} {r2 : Int} {c3 : Nat → Int → Int} (h1 : (c 1 11) < 6) (h2 : cal 72 [vR 2] (SH T, c) = some (none, (SH T, c1))) (h3 : cal 171 [vR 1, vI (w32 ((c1 1 11) - 1))] (SH T, c1) = some (some (vI r2), (SH T, c3))) : cal 142 [vR 1] (SH T, c) = some (some (vI r2), (SH T, c3)) := by
  refine (ev_eq _ _ _ _ _ _).trans ?_
  refine (if_pos h1).trans ?_
  refine (ev_eq _ _ _ _ _ _).trans ?_
  refine (el_call rfl h2).trans ?_
  refine (el_call rfl h3).trans ?_
  rfl
theorem E_X11_copy_2 {T : List Shp} {c : Nat → Int → Int} {r1 : Int} {c2 : Nat → Int → Int} (h1 : ¬ (c 1 11) < 6) (h2 : cal 172 [vR 1, vI (-5)] (SH T, c) = some (some (vI r1), (SH T, c2))) : cal 142 [vR 1] (SH T, c) = some (some (vI r1), (SH T, c2)) := by
  refine (ev_eq _ _ _ _ _ _).trans ?_
  refine (if_neg h1).trans ?_
  refine (el_call rfl h2).trans ?_
  rfl
theorem E_X11_touch_1 {T : List Shp} {c : Nat → Int → Int} {x1 x2 x3 : Int} {r1 : Int} {c2 : Nat → Int → Int} (h1 : cal 178 [vI x2] (SH T, c) = some (some (vI r1), (SH T, c2))) (h2 : r1 = 0) : cal 143 [vR 1, vI x1, vI x2, vI x3] (SH T, c) = ev 143 3 14 [vR 1, vU, vU, vU, vU] [] (SH T, c2) := by
  refine (ev_eq _ _ _ _ _ _).trans ?_
  refine (el_call rfl h1).trans ?_
  refine (if_pos h2).trans ?_
  rfl
theorem E_X11_touch_2 {T : List Shp} {c : Nat → Int → Int} {x1 x2 x3 : Int} {r1 : Int} {c2 : Nat → Int → Int} {r3 : Int} {c4 : Nat → Int → Int} (h1 : cal 178 [vI x2] (SH T, c) = some (some (vI r1), (SH T, c2))) (h2 : ¬ r1 = 0) (h3 : cal 179 [vI x3] (SH T, c2) = some (some (vI r3), (SH T, c4))) (h4 : r3 = 0) : cal 143 [vR 1, vI x1, vI x2, vI x3] (SH T, c) = ev 143 3 14 [vR 1, vU, vU, vU, vU] [] (SH T, c4) := by
  refine (ev_eq _ _ _ _ _ _).trans ?_
  refine (el_call rfl h1).trans ?_
  refine (if_neg h2).trans ?_
  refine (el_call rfl h3).trans ?_
  refine (if_pos h4).trans ?_
  rfl
theorem E_X11_touch_3 {T : List Shp} {c : Nat → Int → Int} {x1 x2 x3 : Int} {r1 : Int} {c2 : Nat → Int → Int} {r3 : Int} {c4 : Nat → Int → Int} {r5 : Int} {c6 : Nat → Int → Int} {r7 : Int} {c8 : Nat → Int → Int} (h1 : cal 178 [vI x2] (SH T, c) = some (some (vI r1), (SH T, c2))) (h2 : ¬ r1 = 0) (h3 : cal 179 [vI x3] (SH T, c2) = some (some (vI r3), (SH T, c4))) (h4 : ¬ r3 = 0) (h5 : cal 177 [vI x1, vI (c4 1 11)] (SH T, c4) = some (some (vI r5), (SH T, c6))) (h6 : r5 = 0) (h7 : cal 172 [vR 1, vI (-2)] (SH T, c6) = some (some (vI r7), (SH T, c8))) : cal 143 [vR 1, vI x1, vI x2, vI x3] (SH T, c) = some (some (vI r7), (SH T, c8)) := by
  refine (ev_eq _ _ _ _ _ _).trans ?_
  refine (el_call rfl h1).trans ?_
  refine (if_neg h2).trans ?_
  refine (el_call rfl h3).trans ?_
  refine (if_neg h4).trans ?_
  refine (ev_eq _ _ _ _ _ _).trans ?_
  refine (el_call rfl h5).trans ?_
  refine (if_pos h6).trans ?_
  refine (el_call rfl h7).trans ?_
  rfl
theorem E_X11_touch_4 {T : List Shp} {c : Nat → Int → Int} {x1 x2 x3 : Int} {r1 : Int} {c2 : Nat → Int → Int} {r3 : Int} {c4 : Nat → Int → Int} {r5 : Int} {c6 : Nat → Int → Int} {r7 : Int} {c8 : Nat → Int → Int} (h1 : cal 178 [vI x2] (SH T, c) = some (some (vI r1), (SH T, c2))) (h2 : ¬ r1 = 0) (h3 : cal 179 [vI x3] (SH T, c2) = some (some (vI r3), (SH T, c4))) (h4 : ¬ r3 = 0) (h5 : cal 177 [vI x1, vI (c4 1 11)] (SH T, c4) = some (some (vI r5), (SH T, c6))) (h6 : ¬ r5 = 0) (h7 : 0 ≤ (w32 ((w32 (x1 * 12)) + x2)) ∧ (w32 ((w32 (x1 * 12)) + x2)) < 72) (h8 : 0 ≤ (w32 ((w32 (x1 * 12)) + x2)) ∧ (w32 ((w32 (x1 * 12)) + x2)) < 72) (h9 : cal 171 [vR 1, vI (c6 8 (w32 ((w32 (x1 * 12)) + x2)))] (SH T, (up c6 8 (w32 ((w32 (x1 * 12)) + x2)) x3)) = some (some (vI r7), (SH T, c8))) : cal 143 [vR 1, vI x1, vI x2, vI x3] (SH T, c) = some (some (vI r7), (SH T, c8)) := by
  refine (ev_eq _ _ _ _ _ _).trans ?_
  refine (el_call rfl h1).trans ?_
  refine (if_neg h2).trans ?_
  refine (el_call rfl h3).trans ?_
  refine (if_neg h4).trans ?_
  refine (ev_eq _ _ _ _ _ _).trans ?_
  refine (el_call rfl h5).trans ?_
  refine (if_neg h6).trans ?_
  refine (ev_eq _ _ _ _ _ _).trans ?_
  refine (if_pos h7).trans ?_
  refine (if_pos h8).trans ?_
  refine (el_call rfl h9).trans ?_
  rfl
theorem B_X11_touch_14 {T : List Shp} {c : Nat → Int → Int} {r1 : Int} {c2 : Nat → Int → Int} (h1 : cal 172 [vR 1, vI (-1)] (SH T, c) = some (some (vI r1), (SH T, c2))) : ev 143 3 14 [vR 1, vU, vU, vU, vU] [] (SH T, c) = some (some (vI r1), (SH T, c2)) := by
  refine (ev_eq _ _ _ _ _ _).trans ?_
  refine (el_call rfl h1).trans ?_
  rfl
theorem E_X11_burn {T : List Shp} {c : Nat → Int → Int}  : cal 144 [vR 1] (SH T, c) = some (some (vI (c 1 11)), (SH T, (up c 1 11 0))) := by
  refine (ev_eq _ _ _ _ _ _).trans ?_
  rfl
theorem E_X11_near_1 {T : List Shp} {c : Nat → Int → Int} {x1 : Int} {r1 : Int} {c2 : Nat → Int → Int} (h1 : x1 = (-1)) (h2 : cal 174 [vR 1] (SH T, c) = some (some (vI r1), (SH T, c2))) : cal 145 [vR 1, vI x1] (SH T, c) = some (some (vI r1), (SH T, c2)) := by
  refine (ev_eq _ _ _ _ _ _).trans ?_
  refine (if_pos h1).trans ?_
  refine (el_call rfl h2).trans ?_
  rfl
theorem E_X11_near_2 {T : List Shp} {c : Nat → Int → Int} {x1 : Int} {r1 : Int} {c2 : Nat → Int → Int} (h1 : ¬ x1 = (-1)) (h2 : cal 177 [vI x1, vI (c 1 11)] (SH T, c) = some (some (vI r1), (SH T, c2))) (h3 : r1 = 0) : cal 145 [vR 1, vI x1] (SH T, c) = some (some (vI (-1)), (SH T, c2)) := by
  refine (ev_eq _ _ _ _ _ _).trans ?_
  refine (if_neg h1).trans ?_
  refine (ev_eq _ _ _ _ _ _).trans ?_
  refine (el_call rfl h2).trans ?_
  refine (if_pos h3).trans ?_
  refine (ev_eq _ _ _ _ _ _).trans ?_
  rfl
theorem E_X11_near_3 {T : List Shp} {c : Nat → Int → Int} {x1 : Int} {r1 : Int} {c2 : Nat → Int → Int} {r3 : Int} {c4 : Nat → Int → Int} (h1 : ¬ x1 = (-1)) (h2 : cal 177 [vI x1, vI (c 1 11)] (SH T, c) = some (some (vI r1), (SH T, c2))) (h3 : ¬ r1 = 0) (h4 : cal 73 [vR 2, vI x1] (SH T, c2) = some (some (vI r3), (SH T, c4))) : cal 145 [vR 1, vI x1] (SH T, c) = some (some (vI r3), (SH T, c4)) := by
  refine (ev_eq _ _ _ _ _ _).trans ?_
  refine (if_neg h1).trans ?_
  refine (ev_eq _ _ _ _ _ _).trans ?_
  refine (el_call rfl h2).trans ?_
  refine (if_neg h3).trans ?_
  refine (el_call rfl h4).trans ?_
  rfl
theorem E_X11_like_1 {T : List Shp} {c : Nat → Int → Int} {x1 x2 : Int} {r1 : Int} {c2 : Nat → Int → Int} (h1 : cal 175 [vR 1, vI x1] (SH T, c) = some (some (vI r1), (SH T, c2))) (h2 : r1 = 0) : cal 146 [vR 1, vI x1, vI x2] (SH T, c) = some (some (vI (-1)), (SH T, c2)) := by
  refine (ev_eq _ _ _ _ _ _).trans ?_
  refine (el_call rfl h1).trans ?_
  refine (if_pos h2).trans ?_
  refine (ev_eq _ _ _ _ _ _).trans ?_
  rfl
theorem E_X11_like_2 {T : List Shp} {c : Nat → Int → Int} {x1 x2 : Int} {r1 : Int} {c2 : Nat → Int → Int} {r3 : Int} {c4 : Nat → Int → Int} (h1 : cal 175 [vR 1, vI x1] (SH T, c) = some (some (vI r1), (SH T, c2))) (h2 : ¬ r1 = 0) (h3 : cal 175 [vR 1, vI x2] (SH T, c2) = some (some (vI r3), (SH T, c4))) (h4 : r3 = 0) : cal 146 [vR 1, vI x1, vI x2] (SH T, c) = some (some (vI (-1)), (SH T, c4)) := by
  refine (ev_eq _ _ _ _ _ _).trans ?_
  refine (el_call rfl h1).trans ?_
  refine (if_neg h2).trans ?_
  refine (el_call rfl h3).trans ?_
  refine (if_pos h4).trans ?_
  refine (ev_eq _ _ _ _ _ _).trans ?_
  rfl
theorem E_X11_like_3 {T : List Shp} {c : Nat → Int → Int} {x1 x2 : Int} {r1 : Int} {c2 : Nat → Int → Int} {r3 : Int} {c4 : Nat → Int → Int} {r5 : Int} {c6 : Nat → Int → Int} (h1 : cal 175 [vR 1, vI x1] (SH T, c) = some (some (vI r1), (SH T, c2))) (h2 : ¬ r1 = 0) (h3 : cal 175 [vR 1, vI x2] (SH T, c2) = some (some (vI r3), (SH T, c4))) (h4 : ¬ r3 = 0) (h5 : cal 78 [vR 50, vI (w32 (x1 + 1)), vI (w32 (x2 + 1))] (SH T, c4) = some (some (vI r5), (SH T, c6))) : cal 146 [vR 1, vI x1, vI x2] (SH T, c) = some (some (vI r5), (SH T, c6)) := by
  refine (ev_eq _ _ _ _ _ _).trans ?_
  refine (el_call rfl h1).trans ?_
  refine (if_neg h2).trans ?_
  refine (el_call rfl h3).trans ?_
  refine (if_neg h4).trans ?_
  refine (ev_eq _ _ _ _ _ _).trans ?_
  refine (el_call rfl h5).trans ?_
  rfl
theorem E_X11_tree_1 {T : List Shp} {c : Nat → Int → Int} {x1 : Int} (h1 : x1 < 0) : cal 147 [vR 1, vI x1] (SH T, c) = some (some (vI (-1)), (SH T, c)) := by
  refine (ev_eq _ _ _ _ _ _).trans ?_
  refine (if_pos h1).trans ?_
  refine (ev_eq _ _ _ _ _ _).trans ?_
  rfl
theorem E_X11_tree_2 {T : List Shp} {c : Nat → Int → Int} {x1 : Int} (h1 : ¬ x1 < 0) (h2 : (c 1 11) < x1) : cal 147 [vR 1, vI x1] (SH T, c) = some (some (vI (-1)), (SH T, c)) := by
  refine (ev_eq _ _ _ _ _ _).trans ?_
  refine (if_neg h1).trans ?_
  refine (if_pos h2).trans ?_
  refine (ev_eq _ _ _ _ _ _).trans ?_
  rfl
theorem E_X11_tree_3 {T : List Shp} {c : Nat → Int → Int} {x1 : Int} {c1 : Nat → Int → Int} {r2 : Int} {c3 : Nat → Int → Int} (h1 : ¬ x1 < 0) (h2 : ¬ (c 1 11) < x1) (h3 : cal 79 [vR 50] (SH T, c) = some (none, (SH T, c1))) (h4 : x1 = 0) (h5 : cal 80 [vR 50] (SH T, c1) = some (some (vI r2), (SH T, c3))) : cal 147 [vR 1, vI x1] (SH T, c) = some (some (vI r2), (SH T, c3)) := by
  refine (ev_eq _ _ _ _ _ _).trans ?_
  refine (if_neg h1).trans ?_
  refine (if_neg h2).trans ?_
  refine (ev_eq _ _ _ _ _ _).trans ?_
  refine (el_call rfl h3).trans ?_
  refine (if_pos h4).trans ?_
  refine (el_call rfl h5).trans ?_
  rfl
theorem E_X11_tree_4 {T : List Shp} {c : Nat → Int → Int} {x1 : Int} {c1 : Nat → Int → Int} {r2 : Int} {c3 : Nat → Int → Int} (h1 : ¬ x1 < 0) (h2 : ¬ (c 1 11) < x1) (h3 : cal 79 [vR 50] (SH T, c) = some (none, (SH T, c1))) (h4 : ¬ x1 = 0) (h5 : cal 82 [vR 50, vI x1] (SH T, c1) = some (some (vI r2), (SH T, c3))) (h6 : r2 = 0) : cal 147 [vR 1, vI x1] (SH T, c) = some (some (vI 100), (SH T, c3)) := by
  refine (ev_eq _ _ _ _ _ _).trans ?_
  refine (if_neg h1).trans ?_
  refine (if_neg h2).trans ?_
  refine (ev_eq _ _ _ _ _ _).trans ?_
  refine (el_call rfl h3).trans ?_
  refine (if_neg h4).trans ?_
  refine (ev_eq _ _ _ _ _ _).trans ?_
  refine (el_call rfl h5).trans ?_
  refine (if_pos h6).trans ?_
  rfl
theorem E_X11_tree_5 {T : List Shp} {c : Nat → Int → Int} {x1 : Int} {c1 : Nat → Int → Int} {r2 : Int} {c3 : Nat → Int → Int} (h1 : ¬ x1 < 0) (h2 : ¬ (c 1 11) < x1) (h3 : cal 79 [vR 50] (SH T, c) = some (none, (SH T, c1))) (h4 : ¬ x1 = 0) (h5 : cal 82 [vR 50, vI x1] (SH T, c1) = some (some (vI r2), (SH T, c3))) (h6 : ¬ r2 = 0) : cal 147 [vR 1, vI x1] (SH T, c) = some (some (vI (w32 (r2 - 1))), (SH T, c3)) := by
  refine (ev_eq _ _ _ _ _ _).trans ?_
  refine (if_neg h1).trans ?_
  refine (if_neg h2).trans ?_
  refine (ev_eq _ _ _ _ _ _).trans ?_
  refine (el_call rfl h3).trans ?_
  refine (if_neg h4).trans ?_
  refine (ev_eq _ _ _ _ _ _).trans ?_
  refine (el_call rfl h5).trans ?_
  refine (if_neg h6).trans ?_
  refine (ev_eq _ _ _ _ _ _).trans ?_
  rfl
theorem E_X11_trees {T : List Shp} {c : Nat → Int → Int} {c1 : Nat → Int → Int} {r2 : Int} {c3 : Nat → Int → Int} (h1 : cal 79 [vR 50] (SH T, c) = some (none, (SH T, c1))) (h2 : cal 81 [vR 50] (SH T, c1) = some (some (vI r2), (SH T, c3))) : cal 148 [vR 1] (SH T, c) = some (some (vI r2), (SH T, c3)) := by
  refine (ev_eq _ _ _ _ _ _).trans ?_
  refine (el_call rfl h1).trans ?_
  refine (el_call rfl h2).trans ?_
  rfl
theorem E_X11_dated_1 {T : List Shp} {c : Nat → Int → Int} {x1 x2 : Int} {r1 : Int} {c2 : Nat → Int → Int} (h1 : cal 177 [vI x1, vI (c 1 11)] (SH T, c) = some (some (vI r1), (SH T, c2))) (h2 : r1 = 0) : cal 149 [vR 1, vI x1, vI x2] (SH T, c) = some (some (vI (-1)), (SH T, c2)) := by
  refine (ev_eq _ _ _ _ _ _).trans ?_
  refine (el_call rfl h1).trans ?_
  refine (if_pos h2).trans ?_
  refine (ev_eq _ _ _ _ _ _).trans ?_
  rfl
theorem E_X11_dated_2 {T : List Shp} {c : Nat → Int → Int} {x1 x2 : Int} {r1 : Int} {c2 : Nat → Int → Int} {r3 : Int} {c4 : Nat → Int → Int} (h1 : cal 177 [vI x1, vI (c 1 11)] (SH T, c) = some (some (vI r1), (SH T, c2))) (h2 : ¬ r1 = 0) (h3 : cal 177 [vI x2, vI 4] (SH T, c2) = some (some (vI r3), (SH T, c4))) (h4 : r3 = 0) : cal 149 [vR 1, vI x1, vI x2] (SH T, c) = some (some (vI (-1)), (SH T, c4)) := by
  refine (ev_eq _ _ _ _ _ _).trans ?_
  refine (el_call rfl h1).trans ?_
  refine (if_neg h2).trans ?_
  refine (el_call rfl h3).trans ?_
  refine (if_pos h4).trans ?_
  refine (ev_eq _ _ _ _ _ _).trans ?_
  rfl
theorem E_X11_dated_3 {T : List Shp} {c : Nat → Int → Int} {x1 x2 : Int} {r1 : Int} {c2 : Nat → Int → Int} {r3 : Int} {c4 : Nat → Int → Int} {r5 : Int} {c6 : Nat → Int → Int} (h1 : cal 177 [vI x1, vI (c 1 11)] (SH T, c) = some (some (vI r1), (SH T, c2))) (h2 : ¬ r1 = 0) (h3 : cal 177 [vI x2, vI 4] (SH T, c2) = some (some (vI r3), (SH T, c4))) (h4 : ¬ r3 = 0) (h5 : cal 83 [vR 50, vI x1, vI x2] (SH T, c4) = some (some (vI r5), (SH T, c6))) : cal 149 [vR 1, vI x1, vI x2] (SH T, c) = some (some (vI r5), (SH T, c6)) := by
  refine (ev_eq _ _ _ _ _ _).trans ?_
  refine (el_call rfl h1).trans ?_
  refine (if_neg h2).trans ?_
  refine (el_call rfl h3).trans ?_
  refine (if_neg h4).trans ?_
  refine (ev_eq _ _ _ _ _ _).trans ?_
  refine (el_call rfl h5).trans ?_
  rfl
theorem E_X11_know_1 {T : List Shp} {c : Nat → Int → Int} {x1 : Int} {r1 : Int} {c2 : Nat → Int → Int} (h1 : cal 177 [vI x1, vI 2] (SH T, c) = some (some (vI r1), (SH T, c2))) (h2 : r1 = 0) : cal 150 [vR 1, vI x1] (SH T, c) = some (some (vI (-1)), (SH T, c2)) := by
  refine (ev_eq _ _ _ _ _ _).trans ?_
  refine (el_call rfl h1).trans ?_
  refine (if_pos h2).trans ?_
  refine (ev_eq _ _ _ _ _ _).trans ?_
  rfl
theorem E_X11_know_2 {T : List Shp} {c : Nat → Int → Int} {x1 : Int} {r1 : Int} {c2 : Nat → Int → Int} (h1 : cal 177 [vI x1, vI 2] (SH T, c) = some (some (vI r1), (SH T, c2))) (h2 : ¬ r1 = 0) (h3 : (c2 1 11) = 0) : cal 150 [vR 1, vI x1] (SH T, c) = some (some (vI (-1)), (SH T, c2)) := by
  refine (ev_eq _ _ _ _ _ _).trans ?_
  refine (el_call rfl h1).trans ?_
  refine (if_neg h2).trans ?_
  refine (if_pos h3).trans ?_
  refine (ev_eq _ _ _ _ _ _).trans ?_
  rfl
theorem E_X11_know_3 {T : List Shp} {c : Nat → Int → Int} {x1 : Int} {r1 : Int} {c2 : Nat → Int → Int} {c3 : Nat → Int → Int} (h1 : cal 177 [vI x1, vI 2] (SH T, c) = some (some (vI r1), (SH T, c2))) (h2 : ¬ r1 = 0) (h3 : ¬ (c2 1 11) = 0) (h4 : cal 84 [vR 50] (SH T, c2) = some (none, (SH T, c3))) (h5 : x1 = 0) : cal 150 [vR 1, vI x1] (SH T, c) = some (some (vI (c3 49 7)), (SH T, c3)) := by
  refine (ev_eq _ _ _ _ _ _).trans ?_
  refine (el_call rfl h1).trans ?_
  refine (if_neg h2).trans ?_
  refine (if_neg h3).trans ?_
  refine (ev_eq _ _ _ _ _ _).trans ?_
  refine (el_call rfl h4).trans ?_
  refine (if_pos h5).trans ?_
  rfl
theorem E_X11_know_4 {T : List Shp} {c : Nat → Int → Int} {x1 : Int} {r1 : Int} {c2 : Nat → Int → Int} {c3 : Nat → Int → Int} (h1 : cal 177 [vI x1, vI 2] (SH T, c) = some (some (vI r1), (SH T, c2))) (h2 : ¬ r1 = 0) (h3 : ¬ (c2 1 11) = 0) (h4 : cal 84 [vR 50] (SH T, c2) = some (none, (SH T, c3))) (h5 : ¬ x1 = 0) : cal 150 [vR 1, vI x1] (SH T, c) = some (some (vI (c3 49 8)), (SH T, c3)) := by
  refine (ev_eq _ _ _ _ _ _).trans ?_
  refine (el_call rfl h1).trans ?_
  refine (if_neg h2).trans ?_
  refine (if_neg h3).trans ?_
  refine (ev_eq _ _ _ _ _ _).trans ?_
  refine (el_call rfl h4).trans ?_
  refine (if_neg h5).trans ?_
  refine (ev_eq _ _ _ _ _ _).trans ?_
  rfl
theorem E_X11_who_1 {T : List Shp} {c : Nat → Int → Int} {x1 : Int} {r1 : Int} {c2 : Nat → Int → Int} (h1 : 0 < x1) (h2 : cal 67 [vR 2, vI x1] (SH T, c) = some (some (vI r1), (SH T, c2))) (h3 : r1 = 0) : cal 151 [vR 1, vI x1] (SH T, c) = some (some (vI (-1)), (SH T, c2)) := by
  refine (ev_eq _ _ _ _ _ _).trans ?_
  refine (if_pos h1).trans ?_
  refine (el_call rfl h2).trans ?_
  refine (if_pos h3).trans ?_
  refine (ev_eq _ _ _ _ _ _).trans ?_
  rfl
theorem E_X11_who_2 {T : List Shp} {c : Nat → Int → Int} {x1 : Int} {r1 : Int} {c2 : Nat → Int → Int} {r3 : Int} {c4 : Nat → Int → Int} (h1 : 0 < x1) (h2 : cal 67 [vR 2, vI x1] (SH T, c) = some (some (vI r1), (SH T, c2))) (h3 : ¬ r1 = 0) (h4 : cal 99 [vR 19, vI x1] (SH T, c2) = some (some (vI r3), (SH T, c4))) : cal 151 [vR 1, vI x1] (SH T, c) = some (some (vI r3), (SH T, c4)) := by
  refine (ev_eq _ _ _ _ _ _).trans ?_
  refine (if_pos h1).trans ?_
  refine (el_call rfl h2).trans ?_
  refine (if_neg h3).trans ?_
  refine (el_call rfl h4).trans ?_
  rfl
theorem E_X11_who_3 {T : List Shp} {c : Nat → Int → Int} {x1 : Int} (h1 : ¬ 0 < x1) : cal 151 [vR 1, vI x1] (SH T, c) = some (some (vI (-1)), (SH T, c)) := by
  refine (ev_eq _ _ _ _ _ _).trans ?_
  refine (if_neg h1).trans ?_
  refine (ev_eq _ _ _ _ _ _).trans ?_
  rfl
theorem E_X11_forge_1 {T : List Shp} {c : Nat → Int → Int} {x1 x2 x3 : Int} {r1 : Int} {c2 : Nat → Int → Int} (h1 : cal 178 [vI x2] (SH T, c) = some (some (vI r1), (SH T, c2))) (h2 : r1 = 0) : cal 152 [vR 1, vI x1, vI x2, vI x3] (SH T, c) = ev 152 3 14 [vR 1, vU, vU, vU, vU] [] (SH T, c2) := by
  refine (ev_eq _ _ _ _ _ _).trans ?_
  refine (el_call rfl h1).trans ?_
  refine (if_pos h2).trans ?_
  rfl
theorem E_X11_forge_2 {T : List Shp} {c : Nat → Int → Int} {x1 x2 x3 : Int} {r1 : Int} {c2 : Nat → Int → Int} {r3 : Int} {c4 : Nat → Int → Int} (h1 : cal 178 [vI x2] (SH T, c) = some (some (vI r1), (SH T, c2))) (h2 : ¬ r1 = 0) (h3 : cal 179 [vI x3] (SH T, c2) = some (some (vI r3), (SH T, c4))) (h4 : r3 = 0) : cal 152 [vR 1, vI x1, vI x2, vI x3] (SH T, c) = ev 152 3 14 [vR 1, vU, vU, vU, vU] [] (SH T, c4) := by
  refine (ev_eq _ _ _ _ _ _).trans ?_
  refine (el_call rfl h1).trans ?_
  refine (if_neg h2).trans ?_
  refine (el_call rfl h3).trans ?_
  refine (if_pos h4).trans ?_
  rfl
theorem E_X11_forge_3 {T : List Shp} {c : Nat → Int → Int} {x1 x2 x3 : Int} {r1 : Int} {c2 : Nat → Int → Int} {r3 : Int} {c4 : Nat → Int → Int} (h1 : cal 178 [vI x2] (SH T, c) = some (some (vI r1), (SH T, c2))) (h2 : ¬ r1 = 0) (h3 : cal 179 [vI x3] (SH T, c2) = some (some (vI r3), (SH T, c4))) (h4 : ¬ r3 = 0) (h5 : x1 < 1) : cal 152 [vR 1, vI x1, vI x2, vI x3] (SH T, c) = ev 152 3 36 [vR 1, vU, vU, vU, vU] [] (SH T, c4) := by
  refine (ev_eq _ _ _ _ _ _).trans ?_
  refine (el_call rfl h1).trans ?_
  refine (if_neg h2).trans ?_
  refine (el_call rfl h3).trans ?_
  refine (if_neg h4).trans ?_
  refine (ev_eq _ _ _ _ _ _).trans ?_
  refine (if_pos h5).trans ?_
  rfl
theorem E_X11_forge_4 {T : List Shp} {c : Nat → Int → Int} {x1 x2 x3 : Int} {r1 : Int} {c2 : Nat → Int → Int} {r3 : Int} {c4 : Nat → Int → Int} {r5 : Int} {c6 : Nat → Int → Int} (h1 : cal 178 [vI x2] (SH T, c) = some (some (vI r1), (SH T, c2))) (h2 : ¬ r1 = 0) (h3 : cal 179 [vI x3] (SH T, c2) = some (some (vI r3), (SH T, c4))) (h4 : ¬ r3 = 0) (h5 : ¬ x1 < 1) (h6 : cal 67 [vR 2, vI x1] (SH T, c4) = some (some (vI r5), (SH T, c6))) (h7 : r5 = 0) : cal 152 [vR 1, vI x1, vI x2, vI x3] (SH T, c) = ev 152 3 36 [vR 1, vU, vU, vU, vU] [] (SH T, c6) := by
  refine (ev_eq _ _ _ _ _ _).trans ?_
  refine (el_call rfl h1).trans ?_
  refine (if_neg h2).trans ?_
  refine (el_call rfl h3).trans ?_
  refine (if_neg h4).trans ?_
  refine (ev_eq _ _ _ _ _ _).trans ?_
  refine (if_neg h5).trans ?_
  refine (el_call rfl h6).trans ?_
  refine (if_pos h7).trans ?_
  rfl
theorem E_X11_forge_5 {T : List Shp} {c : Nat → Int → Int} {x1 x2 x3 : Int} {r1 : Int} {c2 : Nat → Int → Int} {r3 : Int} {c4 : Nat → Int → Int} {r5 : Int} {c6 : Nat → Int → Int} {r7 : Int} {c8 : Nat → Int → Int} (h1 : cal 178 [vI x2] (SH T, c) = some (some (vI r1), (SH T, c2))) (h2 : ¬ r1 = 0) (h3 : cal 179 [vI x3] (SH T, c2) = some (some (vI r3), (SH T, c4))) (h4 : ¬ r3 = 0) (h5 : ¬ x1 < 1) (h6 : cal 67 [vR 2, vI x1] (SH T, c4) = some (some (vI r5), (SH T, c6))) (h7 : ¬ r5 = 0) (h8 : 0 ≤ (w32 ((w32 (x1 * 12)) + x2)) ∧ (w32 ((w32 (x1 * 12)) + x2)) < 204) (h9 : 0 ≤ (w32 ((w32 (x1 * 12)) + x2)) ∧ (w32 ((w32 (x1 * 12)) + x2)) < 204) (h10 : cal 171 [vR 1, vI (c6 7 (w32 ((w32 (x1 * 12)) + x2)))] (SH T, (up c6 7 (w32 ((w32 (x1 * 12)) + x2)) x3)) = some (some (vI r7), (SH T, c8))) : cal 152 [vR 1, vI x1, vI x2, vI x3] (SH T, c) = some (some (vI r7), (SH T, c8)) := by
  refine (ev_eq _ _ _ _ _ _).trans ?_
  refine (el_call rfl h1).trans ?_
  refine (if_neg h2).trans ?_
  refine (el_call rfl h3).trans ?_
  refine (if_neg h4).trans ?_
  refine (ev_eq _ _ _ _ _ _).trans ?_
  refine (if_neg h5).trans ?_
  refine (el_call rfl h6).trans ?_
  refine (if_neg h7).trans ?_
  refine (ev_eq _ _ _ _ _ _).trans ?_
  refine (if_pos h8).trans ?_
  refine (if_pos h9).trans ?_
  refine (el_call rfl h10).trans ?_
  rfl
theorem B_X11_forge_14 {T : List Shp} {c : Nat → Int → Int} {r1 : Int} {c2 : Nat → Int → Int} (h1 : cal 172 [vR 1, vI (-1)] (SH T, c) = some (some (vI r1), (SH T, c2))) : ev 152 3 14 [vR 1, vU, vU, vU, vU] [] (SH T, c) = some (some (vI r1), (SH T, c2)) := by
  refine (ev_eq _ _ _ _ _ _).trans ?_
  refine (el_call rfl h1).trans ?_
  rfl
theorem B_X11_forge_36 {T : List Shp} {c : Nat → Int → Int} {r1 : Int} {c2 : Nat → Int → Int} (h1 : cal 172 [vR 1, vI (-2)] (SH T, c) = some (some (vI r1), (SH T, c2))) : ev 152 3 36 [vR 1, vU, vU, vU, vU] [] (SH T, c) = some (some (vI r1), (SH T, c2)) := by
  refine (ev_eq _ _ _ _ _ _).trans ?_
  refine (el_call rfl h1).trans ?_
  rfl
theorem E_X11_skipped {T : List Shp} {c : Nat → Int → Int}  : cal 153 [vR 1] (SH T, c) = ev 153 7 2 [vR 1, vI 1] [] (SH T, c) := by
  refine (ev_eq _ _ _ _ _ _).trans ?_
  rfl
theorem B_X11_skipped_2_1 {T : List Shp} {c : Nat → Int → Int} {x1 : Int} (h1 : (c 1 8) < x1) : ev 153 7 2 [vR 1, vI x1] [] (SH T, c) = some (some (vI (-1)), (SH T, c)) := by
  refine (ev_eq _ _ _ _ _ _).trans ?_
  refine (if_pos h1).trans ?_
  refine (ev_eq _ _ _ _ _ _).trans ?_
  rfl
theorem B_X11_skipped_2_2 {T : List Shp} {c : Nat → Int → Int} {x1 : Int} {r1 : Int} {c2 : Nat → Int → Int} (h1 : ¬ (c 1 8) < x1) (h2 : cal 99 [vR 19, vI x1] (SH T, c) = some (some (vI r1), (SH T, c2))) (h3 : r1 = 0) : ev 153 7 2 [vR 1, vI x1] [] (SH T, c) = some (some (vI x1), (SH T, c2)) := by
  refine (ev_eq _ _ _ _ _ _).trans ?_
  refine (if_neg h1).trans ?_
  refine (el_call rfl h2).trans ?_
  refine (if_pos h3).trans ?_
  rfl
theorem B_X11_skipped_2_3 {T : List Shp} {c : Nat → Int → Int} {x1 : Int} {r1 : Int} {c2 : Nat → Int → Int} (h1 : ¬ (c 1 8) < x1) (h2 : cal 99 [vR 19, vI x1] (SH T, c) = some (some (vI r1), (SH T, c2))) (h3 : ¬ r1 = 0) : ev 153 7 2 [vR 1, vI x1] [] (SH T, c) = ev 153 7 2 [vR 1, vI (w32 (x1 + 1))] [] (SH T, c2) := by
  refine (ev_eq _ _ _ _ _ _).trans ?_
  refine (if_neg h1).trans ?_
  refine (el_call rfl h2).trans ?_
  refine (if_neg h3).trans ?_
  refine (ev_eq _ _ _ _ _ _).trans ?_
  rfl

theorem E_J6_bitCount_0f7a4 {T : List Shp} {c : Nat → Int → Int} {x0 : Int}  : cal 341 [vI x0] (SH T, c) = some (some (vI (iand (w32 ((w32 ((iand (w32 ((w32 ((iand (w32 (x0 - (iand (iushr x0 1) 1431655765))) 858993459) + (iand (iushr (w32 (x0 - (iand (iushr x0 1) 1431655765))) 2) 858993459))) + (iushr (w32 ((iand (w32 (x0 - (iand (iushr x0 1) 1431655765))) 858993459) + (iand (iushr (w32 (x0 - (iand (iushr x0 1) 1431655765))) 2) 858993459))) 4))) 252645135) + (iushr (iand (w32 ((w32 ((iand (w32 (x0 - (iand (iushr x0 1) 1431655765))) 858993459) + (iand (iushr (w32 (x0 - (iand (iushr x0 1) 1431655765))) 2) 858993459))) + (iushr (w32 ((iand (w32 (x0 - (iand (iushr x0 1) 1431655765))) 858993459) + (iand (iushr (w32 (x0 - (iand (iushr x0 1) 1431655765))) 2) 858993459))) 4))) 252645135) 8))) + (iushr (w32 ((iand (w32 ((w32 ((iand (w32 (x0 - (iand (iushr x0 1) 1431655765))) 858993459) + (iand (iushr (w32 (x0 - (iand (iushr x0 1) 1431655765))) 2) 858993459))) + (iushr (w32 ((iand (w32 (x0 - (iand (iushr x0 1) 1431655765))) 858993459) + (iand (iushr (w32 (x0 - (iand (iushr x0 1) 1431655765))) 2) 858993459))) 4))) 252645135) + (iushr (iand (w32 ((w32 ((iand (w32 (x0 - (iand (iushr x0 1) 1431655765))) 858993459) + (iand (iushr (w32 (x0 - (iand (iushr x0 1) 1431655765))) 2) 858993459))) + (iushr (w32 ((iand (w32 (x0 - (iand (iushr x0 1) 1431655765))) 858993459) + (iand (iushr (w32 (x0 - (iand (iushr x0 1) 1431655765))) 2) 858993459))) 4))) 252645135) 8))) 16))) 63)), (SH T, c)) := by
  refine (ev_eq _ _ _ _ _ _).trans ?_
  rfl
theorem E_J9_abs_0f7a4_1 {T : List Shp} {c : Nat → Int → Int} {x0 : Int} (h1 : x0 < 0) : cal 342 [vI x0] (SH T, c) = some (some (vI (w32 (-x0))), (SH T, c)) := by
  refine (ev_eq _ _ _ _ _ _).trans ?_
  refine (if_pos h1).trans ?_
  rfl
theorem E_J9_abs_0f7a4_2 {T : List Shp} {c : Nat → Int → Int} {x0 : Int} (h1 : ¬ x0 < 0) : cal 342 [vI x0] (SH T, c) = some (some (vI x0), (SH T, c)) := by
  refine (ev_eq _ _ _ _ _ _).trans ?_
  refine (if_neg h1).trans ?_
  refine (ev_eq _ _ _ _ _ _).trans ?_
  rfl
theorem E_J9_max_7cf53_1 {T : List Shp} {c : Nat → Int → Int} {x0 x1 : Int} (h1 : x0 < x1) : cal 343 [vI x0, vI x1] (SH T, c) = some (some (vI x1), (SH T, c)) := by
  refine (ev_eq _ _ _ _ _ _).trans ?_
  refine (if_pos h1).trans ?_
  refine (ev_eq _ _ _ _ _ _).trans ?_
  rfl
theorem E_J9_max_7cf53_2 {T : List Shp} {c : Nat → Int → Int} {x0 x1 : Int} (h1 : ¬ x0 < x1) : cal 343 [vI x0, vI x1] (SH T, c) = some (some (vI x0), (SH T, c)) := by
  refine (ev_eq _ _ _ _ _ _).trans ?_
  refine (if_neg h1).trans ?_
  rfl
theorem E_J9_min_7cf53_1 {T : List Shp} {c : Nat → Int → Int} {x0 x1 : Int} (h1 : x1 < x0) : cal 344 [vI x0, vI x1] (SH T, c) = some (some (vI x1), (SH T, c)) := by
  refine (ev_eq _ _ _ _ _ _).trans ?_
  refine (if_pos h1).trans ?_
  refine (ev_eq _ _ _ _ _ _).trans ?_
  rfl
theorem E_J9_min_7cf53_2 {T : List Shp} {c : Nat → Int → Int} {x0 x1 : Int} (h1 : ¬ x1 < x0) : cal 344 [vI x0, vI x1] (SH T, c) = some (some (vI x0), (SH T, c)) := by
  refine (ev_eq _ _ _ _ _ _).trans ?_
  refine (if_neg h1).trans ?_
  rfl
theorem E_J0_length_8abf5 {T : List Shp} {c : Nat → Int → Int} {x0 : Int} {n1 : Nat} {n2 : Nat} {n3 : Nat} {r4 : Int} {c5 : Nat → Int → Int} (h1 : strOf x0 = some n1) (h2 : bytOf (x0 - 100) = some n2) (h3 : strOf x0 = some n3) (h4 : cal 347 [vR x0] (SH T, c) = some (some (vI r4), (SH T, c5))) : cal 345 [vR x0] (SH T, c) = some (some (vI (ishr ((strb n2).length : Int) r4)), (SH T, c5)) := by
  refine (ev_eq _ _ _ _ _ _).trans ?_
  refine (el_of h1).trans ?_
  refine (el_of h2).trans ?_
  refine (el_of h3).trans ?_
  refine (el_call rfl h4).trans ?_
  rfl
theorem E_J0_charAt_5068e {T : List Shp} {c : Nat → Int → Int} {x0 x1 : Int} {n1 : Nat} {r2 : Int} {c3 : Nat → Int → Int} {n4 : Nat} {r5 : Int} {c6 : Nat → Int → Int} (h1 : strOf x0 = some n1) (h2 : cal 348 [vR x0] (SH T, c) = some (some (vI r2), (SH T, c3))) (h3 : ¬ r2 = 0) (h4 : strOf x0 = some n4) (h5 : cal 350 [vR (x0 - 100), vI x1] (SH T, c3) = some (some (vI r5), (SH T, c6))) (h6 : 0 ≤ r5 ∧ r5 < 65536) : cal 346 [vR x0, vI x1] (SH T, c) = some (some (vI r5), (SH T, c6)) := by
  refine (ev_eq _ _ _ _ _ _).trans ?_
  refine (el_of h1).trans ?_
  refine (el_call rfl h2).trans ?_
  refine (if_neg h3).trans ?_
  refine (el_of h4).trans ?_
  refine (el_call rfl h5).trans ?_
  refine (if_pos h6).trans ?_
  rfl
theorem E_J0_coder_7d493 {T : List Shp} {c : Nat → Int → Int} {x0 : Int} {n1 : Nat} (h1 : strOf x0 = some n1) : cal 347 [vR x0] (SH T, c) = some (some (vI 0), (SH T, c)) := by
  refine (ev_eq _ _ _ _ _ _).trans ?_
  refine (el_of h1).trans ?_
  rfl
theorem E_J0_isLatin1_aae02 {T : List Shp} {c : Nat → Int → Int} {x0 : Int} {n1 : Nat} (h1 : strOf x0 = some n1) : cal 348 [vR x0] (SH T, c) = some (some (vI 1), (SH T, c)) := by
  refine (ev_eq _ _ _ _ _ _).trans ?_
  refine (el_of h1).trans ?_
  rfl
theorem E_J0_checkIndex_df160 {T : List Shp} {c : Nat → Int → Int} {x0 x1 : Int} {r1 : Int} {c2 : Nat → Int → Int} (h1 : cal 355 [vI x0, vI x1, vR (-5)] (SH T, c) = some (some (vI r1), (SH T, c2))) : cal 349 [vI x0, vI x1] (SH T, c) = some (none, (SH T, c2)) := by
  refine (ev_eq _ _ _ _ _ _).trans ?_
  refine (el_call rfl h1).trans ?_
  rfl
theorem E_J1_charAt_3b067 {T : List Shp} {c : Nat → Int → Int} {x0 x1 : Int} {n1 : Nat} {c2 : Nat → Int → Int} {n3 : Nat} (h1 : bytOf x0 = some n1) (h2 : cal 349 [vI x1, vI ((strb n1).length : Int)] (SH T, c) = some (none, (SH T, c2))) (h3 : bytOf x0 = some n3) (h4 : 0 ≤ x1 ∧ x1 < ((strb n3).length : Int)) (h5 : 0 ≤ ((iand ((strb n3).getD x1.toNat 0) 255) % 65536) ∧ ((iand ((strb n3).getD x1.toNat 0) 255) % 65536) < 65536) : cal 350 [vR x0, vI x1] (SH T, c) = some (some (vI ((iand ((strb n3).getD x1.toNat 0) 255) % 65536)), (SH T, c2)) := by
  refine (ev_eq _ _ _ _ _ _).trans ?_
  refine (el_of h1).trans ?_
  refine (el_call rfl h2).trans ?_
  refine (el_of h3).trans ?_
  refine (if_pos h4).trans ?_
  refine (if_pos h5).trans ?_
  rfl
theorem E_J3_checkIndex_8e157 {T : List Shp} {c : Nat → Int → Int} {x0 x1 x2 : Int} (h1 : ¬ x0 < 0) (h2 : x0 < x1) : cal 355 [vI x0, vI x1, vR x2] (SH T, c) = some (some (vI x0), (SH T, c)) := by
  refine (ev_eq _ _ _ _ _ _).trans ?_
  refine (if_neg h1).trans ?_
  refine (if_pos h2).trans ?_
  refine (ev_eq _ _ _ _ _ _).trans ?_
  rfl
theorem E_X7_takeFromin {T : List Shp} {c : Nat → Int → Int}  : cal 65 [vR 31, vR 2] (SH T, c) = ev 65 1 80 [vR 31, vR 2, vI 0] [] (SH T, (up (cpy (cpy (up (cpy (up c 30 0 (c 1 0)) 2 0 31 0 25) 30 2 ((cpy (up c 30 0 (c 1 0)) 2 0 31 0 25) 1 2)) 3 0 32 0 18) 4 0 33 0 5) 30 5 ((cpy (cpy (up (cpy (up c 30 0 (c 1 0)) 2 0 31 0 25) 30 2 ((cpy (up c 30 0 (c 1 0)) 2 0 31 0 25) 1 2)) 3 0 32 0 18) 4 0 33 0 5) 1 5))) := by
  refine (ev_eq _ _ _ _ _ _).trans ?_
  rfl
theorem B_X7_takeFromin_80_1 {T : List Shp} {c : Nat → Int → Int} {x2 : Int} {p1 : Nat} {n2 : Int} {f3 : List Int} (h1 : x2 < 6) (h2 : 0 ≤ x2 ∧ x2 < 6) (h3 : 0 ≤ x2 ∧ x2 < 6) (h4 : drf (SH T) (c 5 x2) = some (p1, (20, n2, f3))) : ev 65 1 80 [vR 31, vR 2, vI x2] [] (SH T, c) = ev 65 1 80 [vR 31, vR 2, vI (w32 (x2 + 1))] [] (SH T, (up c 34 x2 (c 5 x2))) := by
  refine (ev_eq _ _ _ _ _ _).trans ?_
  refine (if_pos h1).trans ?_
  refine (if_pos h2).trans ?_
  refine (if_pos h3).trans ?_
  refine (el_of h4).trans ?_
  rfl
theorem B_X7_takeFromin_80_2 {T : List Shp} {c : Nat → Int → Int} {x2 : Int} (h1 : ¬ x2 < 6) : ev 65 1 80 [vR 31, vR 2, vI x2] [] (SH T, c) = some (none, (SH T, (cpy (up (cpy (up (cpy (cpy (up (up c 30 7 (c 1 7)) 30 8 (c 1 8)) 6 0 35 0 17) 7 0 36 0 204) 30 11 ((cpy (cpy (up (up c 30 7 (c 1 7)) 30 8 (c 1 8)) 6 0 35 0 17) 7 0 36 0 204) 1 11)) 8 0 37 0 72) 30 13 ((cpy (up (cpy (cpy (up (up c 30 7 (c 1 7)) 30 8 (c 1 8)) 6 0 35 0 17) 7 0 36 0 204) 30 11 ((cpy (cpy (up (up c 30 7 (c 1 7)) 30 8 (c 1 8)) 6 0 35 0 17) 7 0 36 0 204) 1 11)) 8 0 37 0 72) 1 13)) 9 0 38 0 32))) := by
  refine (ev_eq _ _ _ _ _ _).trans ?_
  refine (if_neg h1).trans ?_
  refine (ev_eq _ _ _ _ _ _).trans ?_
  rfl
theorem E_X7_takeFromjn {T : List Shp} {c : Nat → Int → Int}  : cal 65 [vR 40, vR 2] (SH T, c) = ev 65 1 80 [vR 40, vR 2, vI 0] [] (SH T, (up (cpy (cpy (up (cpy (up c 39 0 (c 1 0)) 2 0 40 0 25) 39 2 ((cpy (up c 39 0 (c 1 0)) 2 0 40 0 25) 1 2)) 3 0 41 0 18) 4 0 42 0 5) 39 5 ((cpy (cpy (up (cpy (up c 39 0 (c 1 0)) 2 0 40 0 25) 39 2 ((cpy (up c 39 0 (c 1 0)) 2 0 40 0 25) 1 2)) 3 0 41 0 18) 4 0 42 0 5) 1 5))) := by
  refine (ev_eq _ _ _ _ _ _).trans ?_
  rfl
theorem B_X7_takeFromjn_80_1 {T : List Shp} {c : Nat → Int → Int} {x2 : Int} {p1 : Nat} {n2 : Int} {f3 : List Int} (h1 : x2 < 6) (h2 : 0 ≤ x2 ∧ x2 < 6) (h3 : 0 ≤ x2 ∧ x2 < 6) (h4 : drf (SH T) (c 5 x2) = some (p1, (20, n2, f3))) : ev 65 1 80 [vR 40, vR 2, vI x2] [] (SH T, c) = ev 65 1 80 [vR 40, vR 2, vI (w32 (x2 + 1))] [] (SH T, (up c 43 x2 (c 5 x2))) := by
  refine (ev_eq _ _ _ _ _ _).trans ?_
  refine (if_pos h1).trans ?_
  refine (if_pos h2).trans ?_
  refine (if_pos h3).trans ?_
  refine (el_of h4).trans ?_
  rfl
theorem B_X7_takeFromjn_80_2 {T : List Shp} {c : Nat → Int → Int} {x2 : Int} (h1 : ¬ x2 < 6) : ev 65 1 80 [vR 40, vR 2, vI x2] [] (SH T, c) = some (none, (SH T, (cpy (up (cpy (up (cpy (cpy (up (up c 39 7 (c 1 7)) 39 8 (c 1 8)) 6 0 44 0 17) 7 0 45 0 204) 39 11 ((cpy (cpy (up (up c 39 7 (c 1 7)) 39 8 (c 1 8)) 6 0 44 0 17) 7 0 45 0 204) 1 11)) 8 0 46 0 72) 39 13 ((cpy (up (cpy (cpy (up (up c 39 7 (c 1 7)) 39 8 (c 1 8)) 6 0 44 0 17) 7 0 45 0 204) 39 11 ((cpy (cpy (up (up c 39 7 (c 1 7)) 39 8 (c 1 8)) 6 0 44 0 17) 7 0 45 0 204) 1 11)) 8 0 46 0 72) 1 13)) 9 0 47 0 32))) := by
  refine (ev_eq _ _ _ _ _ _).trans ?_
  refine (if_neg h1).trans ?_
  refine (ev_eq _ _ _ _ _ _).trans ?_
  rfl
theorem E_X7_takeFromni {T : List Shp} {c : Nat → Int → Int}  : cal 65 [vR 2, vR 31] (SH T, c) = ev 65 1 80 [vR 2, vR 31, vI 0] [] (SH T, (up (cpy (cpy (up (cpy (up c 1 0 (c 30 0)) 31 0 2 0 25) 1 2 ((cpy (up c 1 0 (c 30 0)) 31 0 2 0 25) 30 2)) 32 0 3 0 18) 33 0 4 0 5) 1 5 ((cpy (cpy (up (cpy (up c 1 0 (c 30 0)) 31 0 2 0 25) 1 2 ((cpy (up c 1 0 (c 30 0)) 31 0 2 0 25) 30 2)) 32 0 3 0 18) 33 0 4 0 5) 30 5))) := by
  refine (ev_eq _ _ _ _ _ _).trans ?_
  rfl
theorem B_X7_takeFromni_80_1 {T : List Shp} {c : Nat → Int → Int} {x2 : Int} {p1 : Nat} {n2 : Int} {f3 : List Int} (h1 : x2 < 6) (h2 : 0 ≤ x2 ∧ x2 < 6) (h3 : 0 ≤ x2 ∧ x2 < 6) (h4 : drf (SH T) (c 34 x2) = some (p1, (20, n2, f3))) : ev 65 1 80 [vR 2, vR 31, vI x2] [] (SH T, c) = ev 65 1 80 [vR 2, vR 31, vI (w32 (x2 + 1))] [] (SH T, (up c 5 x2 (c 34 x2))) := by
  refine (ev_eq _ _ _ _ _ _).trans ?_
  refine (if_pos h1).trans ?_
  refine (if_pos h2).trans ?_
  refine (if_pos h3).trans ?_
  refine (el_of h4).trans ?_
  rfl
theorem B_X7_takeFromni_80_2 {T : List Shp} {c : Nat → Int → Int} {x2 : Int} (h1 : ¬ x2 < 6) : ev 65 1 80 [vR 2, vR 31, vI x2] [] (SH T, c) = some (none, (SH T, (cpy (up (cpy (up (cpy (cpy (up (up c 1 7 (c 30 7)) 1 8 (c 30 8)) 35 0 6 0 17) 36 0 7 0 204) 1 11 ((cpy (cpy (up (up c 1 7 (c 30 7)) 1 8 (c 30 8)) 35 0 6 0 17) 36 0 7 0 204) 30 11)) 37 0 8 0 72) 1 13 ((cpy (up (cpy (cpy (up (up c 1 7 (c 30 7)) 1 8 (c 30 8)) 35 0 6 0 17) 36 0 7 0 204) 1 11 ((cpy (cpy (up (up c 1 7 (c 30 7)) 1 8 (c 30 8)) 35 0 6 0 17) 36 0 7 0 204) 30 11)) 37 0 8 0 72) 30 13)) 38 0 9 0 32))) := by
  refine (ev_eq _ _ _ _ _ _).trans ?_
  refine (if_neg h1).trans ?_
  refine (ev_eq _ _ _ _ _ _).trans ?_
  rfl
theorem E_X7_takeFromnj {T : List Shp} {c : Nat → Int → Int}  : cal 65 [vR 2, vR 40] (SH T, c) = ev 65 1 80 [vR 2, vR 40, vI 0] [] (SH T, (up (cpy (cpy (up (cpy (up c 1 0 (c 39 0)) 40 0 2 0 25) 1 2 ((cpy (up c 1 0 (c 39 0)) 40 0 2 0 25) 39 2)) 41 0 3 0 18) 42 0 4 0 5) 1 5 ((cpy (cpy (up (cpy (up c 1 0 (c 39 0)) 40 0 2 0 25) 1 2 ((cpy (up c 1 0 (c 39 0)) 40 0 2 0 25) 39 2)) 41 0 3 0 18) 42 0 4 0 5) 39 5))) := by
  refine (ev_eq _ _ _ _ _ _).trans ?_
  rfl
theorem B_X7_takeFromnj_80_1 {T : List Shp} {c : Nat → Int → Int} {x2 : Int} {p1 : Nat} {n2 : Int} {f3 : List Int} (h1 : x2 < 6) (h2 : 0 ≤ x2 ∧ x2 < 6) (h3 : 0 ≤ x2 ∧ x2 < 6) (h4 : drf (SH T) (c 43 x2) = some (p1, (20, n2, f3))) : ev 65 1 80 [vR 2, vR 40, vI x2] [] (SH T, c) = ev 65 1 80 [vR 2, vR 40, vI (w32 (x2 + 1))] [] (SH T, (up c 5 x2 (c 43 x2))) := by
  refine (ev_eq _ _ _ _ _ _).trans ?_
  refine (if_pos h1).trans ?_
  refine (if_pos h2).trans ?_
  refine (if_pos h3).trans ?_
  refine (el_of h4).trans ?_
  rfl
theorem B_X7_takeFromnj_80_2 {T : List Shp} {c : Nat → Int → Int} {x2 : Int} (h1 : ¬ x2 < 6) : ev 65 1 80 [vR 2, vR 40, vI x2] [] (SH T, c) = some (none, (SH T, (cpy (up (cpy (up (cpy (cpy (up (up c 1 7 (c 39 7)) 1 8 (c 39 8)) 44 0 6 0 17) 45 0 7 0 204) 1 11 ((cpy (cpy (up (up c 1 7 (c 39 7)) 1 8 (c 39 8)) 44 0 6 0 17) 45 0 7 0 204) 39 11)) 46 0 8 0 72) 1 13 ((cpy (up (cpy (cpy (up (up c 1 7 (c 39 7)) 1 8 (c 39 8)) 44 0 6 0 17) 45 0 7 0 204) 1 11 ((cpy (cpy (up (up c 1 7 (c 39 7)) 1 8 (c 39 8)) 44 0 6 0 17) 45 0 7 0 204) 39 11)) 46 0 8 0 72) 39 13)) 47 0 9 0 32))) := by
  refine (ev_eq _ _ _ _ _ _).trans ?_
  refine (if_neg h1).trans ?_
  refine (ev_eq _ _ _ _ _ _).trans ?_
  rfl
theorem E_X7_takeFrombn {T : List Shp} {c : Nat → Int → Int}  : cal 65 [vR 61, vR 2] (SH T, c) = ev 65 1 80 [vR 61, vR 2, vI 0] [] (SH T, (up (cpy (cpy (up (cpy (up c 60 0 (c 1 0)) 2 0 61 0 25) 60 2 ((cpy (up c 60 0 (c 1 0)) 2 0 61 0 25) 1 2)) 3 0 62 0 18) 4 0 63 0 5) 60 5 ((cpy (cpy (up (cpy (up c 60 0 (c 1 0)) 2 0 61 0 25) 60 2 ((cpy (up c 60 0 (c 1 0)) 2 0 61 0 25) 1 2)) 3 0 62 0 18) 4 0 63 0 5) 1 5))) := by
  refine (ev_eq _ _ _ _ _ _).trans ?_
  rfl
theorem B_X7_takeFrombn_80_1 {T : List Shp} {c : Nat → Int → Int} {x2 : Int} {p1 : Nat} {n2 : Int} {f3 : List Int} (h1 : x2 < 6) (h2 : 0 ≤ x2 ∧ x2 < 6) (h3 : 0 ≤ x2 ∧ x2 < 6) (h4 : drf (SH T) (c 5 x2) = some (p1, (20, n2, f3))) : ev 65 1 80 [vR 61, vR 2, vI x2] [] (SH T, c) = ev 65 1 80 [vR 61, vR 2, vI (w32 (x2 + 1))] [] (SH T, (up c 64 x2 (c 5 x2))) := by
  refine (ev_eq _ _ _ _ _ _).trans ?_
  refine (if_pos h1).trans ?_
  refine (if_pos h2).trans ?_
  refine (if_pos h3).trans ?_
  refine (el_of h4).trans ?_
  rfl
theorem B_X7_takeFrombn_80_2 {T : List Shp} {c : Nat → Int → Int} {x2 : Int} (h1 : ¬ x2 < 6) : ev 65 1 80 [vR 61, vR 2, vI x2] [] (SH T, c) = some (none, (SH T, (cpy (up (cpy (up (cpy (cpy (up (up c 60 7 (c 1 7)) 60 8 (c 1 8)) 6 0 65 0 17) 7 0 66 0 204) 60 11 ((cpy (cpy (up (up c 60 7 (c 1 7)) 60 8 (c 1 8)) 6 0 65 0 17) 7 0 66 0 204) 1 11)) 8 0 67 0 72) 60 13 ((cpy (up (cpy (cpy (up (up c 60 7 (c 1 7)) 60 8 (c 1 8)) 6 0 65 0 17) 7 0 66 0 204) 60 11 ((cpy (cpy (up (up c 60 7 (c 1 7)) 60 8 (c 1 8)) 6 0 65 0 17) 7 0 66 0 204) 1 11)) 8 0 67 0 72) 1 13)) 9 0 68 0 32))) := by
  refine (ev_eq _ _ _ _ _ _).trans ?_
  refine (if_neg h1).trans ?_
  refine (ev_eq _ _ _ _ _ _).trans ?_
  rfl
theorem E_X7_takeFromnb {T : List Shp} {c : Nat → Int → Int}  : cal 65 [vR 2, vR 61] (SH T, c) = ev 65 1 80 [vR 2, vR 61, vI 0] [] (SH T, (up (cpy (cpy (up (cpy (up c 1 0 (c 60 0)) 61 0 2 0 25) 1 2 ((cpy (up c 1 0 (c 60 0)) 61 0 2 0 25) 60 2)) 62 0 3 0 18) 63 0 4 0 5) 1 5 ((cpy (cpy (up (cpy (up c 1 0 (c 60 0)) 61 0 2 0 25) 1 2 ((cpy (up c 1 0 (c 60 0)) 61 0 2 0 25) 60 2)) 62 0 3 0 18) 63 0 4 0 5) 60 5))) := by
  refine (ev_eq _ _ _ _ _ _).trans ?_
  rfl
theorem B_X7_takeFromnb_80_1 {T : List Shp} {c : Nat → Int → Int} {x2 : Int} {p1 : Nat} {n2 : Int} {f3 : List Int} (h1 : x2 < 6) (h2 : 0 ≤ x2 ∧ x2 < 6) (h3 : 0 ≤ x2 ∧ x2 < 6) (h4 : drf (SH T) (c 64 x2) = some (p1, (20, n2, f3))) : ev 65 1 80 [vR 2, vR 61, vI x2] [] (SH T, c) = ev 65 1 80 [vR 2, vR 61, vI (w32 (x2 + 1))] [] (SH T, (up c 5 x2 (c 64 x2))) := by
  refine (ev_eq _ _ _ _ _ _).trans ?_
  refine (if_pos h1).trans ?_
  refine (if_pos h2).trans ?_
  refine (if_pos h3).trans ?_
  refine (el_of h4).trans ?_
  rfl
theorem B_X7_takeFromnb_80_2 {T : List Shp} {c : Nat → Int → Int} {x2 : Int} (h1 : ¬ x2 < 6) : ev 65 1 80 [vR 2, vR 61, vI x2] [] (SH T, c) = some (none, (SH T, (cpy (up (cpy (up (cpy (cpy (up (up c 1 7 (c 60 7)) 1 8 (c 60 8)) 65 0 6 0 17) 66 0 7 0 204) 1 11 ((cpy (cpy (up (up c 1 7 (c 60 7)) 1 8 (c 60 8)) 65 0 6 0 17) 66 0 7 0 204) 60 11)) 67 0 8 0 72) 1 13 ((cpy (up (cpy (cpy (up (up c 1 7 (c 60 7)) 1 8 (c 60 8)) 65 0 6 0 17) 66 0 7 0 204) 1 11 ((cpy (cpy (up (up c 1 7 (c 60 7)) 1 8 (c 60 8)) 65 0 6 0 17) 66 0 7 0 204) 60 11)) 67 0 8 0 72) 60 13)) 68 0 9 0 32))) := by
  refine (ev_eq _ _ _ _ _ _).trans ?_
  refine (if_neg h1).trans ?_
  refine (ev_eq _ _ _ _ _ _).trans ?_
  rfl
theorem E_X7_hasPainter {T : List Shp} {c : Nat → Int → Int} {x1 : Int} {r1 : Int} {c2 : Nat → Int → Int} (h1 : cal 177 [vI x1, vI (c 1 0)] (SH T, c) = some (some (vI r1), (SH T, c2))) (h2 : r1 = 0 ∨ r1 = 1) : cal 66 [vR 2, vI x1] (SH T, c) = some (some (vI r1), (SH T, c2)) := by
  refine (ev_eq _ _ _ _ _ _).trans ?_
  refine (el_call rfl h1).trans ?_
  refine (if_pos h2).trans ?_
  rfl
theorem E_X7_hasLayer {T : List Shp} {c : Nat → Int → Int} {x1 : Int} {r1 : Int} {c2 : Nat → Int → Int} (h1 : cal 177 [vI x1, vI (w32 ((c 1 8) + 1))] (SH T, c) = some (some (vI r1), (SH T, c2))) (h2 : r1 = 0 ∨ r1 = 1) : cal 67 [vR 2, vI x1] (SH T, c) = some (some (vI r1), (SH T, c2)) := by
  refine (ev_eq _ _ _ _ _ _).trans ?_
  refine (el_call rfl h1).trans ?_
  refine (if_pos h2).trans ?_
  rfl
theorem E_X7_hasClaimant {T : List Shp} {c : Nat → Int → Int} {x1 : Int} {r1 : Int} {c2 : Nat → Int → Int} (h1 : cal 177 [vI x1, vI (c 1 13)] (SH T, c) = some (some (vI r1), (SH T, c2))) (h2 : r1 = 0 ∨ r1 = 1) : cal 68 [vR 2, vI x1] (SH T, c) = some (some (vI r1), (SH T, c2)) := by
  refine (ev_eq _ _ _ _ _ _).trans ?_
  refine (el_call rfl h1).trans ?_
  refine (if_pos h2).trans ?_
  rfl
theorem E_X7_ageIn_1 {T : List Shp} {c : Nat → Int → Int} {x1 : Int} (h1 : (w32 ((c 4 0) + (w32 ((w32 ((c 4 1) - 2)) * x1)))) < 0) : cal 69 [vR 2, vI x1] (SH T, c) = some (some (vI 0), (SH T, c)) := by
  refine (ev_eq _ _ _ _ _ _).trans ?_
  refine (if_pos h1).trans ?_
  rfl
theorem E_X7_ageIn_2 {T : List Shp} {c : Nat → Int → Int} {x1 : Int} (h1 : ¬ (w32 ((c 4 0) + (w32 ((w32 ((c 4 1) - 2)) * x1)))) < 0) (h2 : 199 < (w32 ((c 4 0) + (w32 ((w32 ((c 4 1) - 2)) * x1))))) : cal 69 [vR 2, vI x1] (SH T, c) = some (some (vI 199), (SH T, c)) := by
  refine (ev_eq _ _ _ _ _ _).trans ?_
  refine (if_neg h1).trans ?_
  refine (ev_eq _ _ _ _ _ _).trans ?_
  refine (if_pos h2).trans ?_
  rfl
theorem E_X7_ageIn_3 {T : List Shp} {c : Nat → Int → Int} {x1 : Int} (h1 : ¬ (w32 ((c 4 0) + (w32 ((w32 ((c 4 1) - 2)) * x1)))) < 0) (h2 : ¬ 199 < (w32 ((c 4 0) + (w32 ((w32 ((c 4 1) - 2)) * x1))))) : cal 69 [vR 2, vI x1] (SH T, c) = some (some (vI (w32 ((c 4 0) + (w32 ((w32 ((c 4 1) - 2)) * x1))))), (SH T, c)) := by
  refine (ev_eq _ _ _ _ _ _).trans ?_
  refine (if_neg h1).trans ?_
  refine (ev_eq _ _ _ _ _ _).trans ?_
  refine (if_neg h2).trans ?_
  refine (ev_eq _ _ _ _ _ _).trans ?_
  rfl
theorem E_X7_rests {T : List Shp} {c : Nat → Int → Int} {x1 x2 : Int}  : cal 70 [vR 2, vI x1, vI x2] (SH T, c) = ev 70 1 2 [vR 2, vI x1, vI x2, vI 1, vU] [] (SH T, c) := by
  refine (ev_eq _ _ _ _ _ _).trans ?_
  rfl
theorem B_X7_rests_2_1 {T : List Shp} {c : Nat → Int → Int} {x1 x2 x3 : Int} (h1 : (c 4 4) < x3) : ev 70 1 2 [vR 2, vI x1, vI x2, vI x3, vU] [] (SH T, c) = some (some (vI 0), (SH T, c)) := by
  refine (ev_eq _ _ _ _ _ _).trans ?_
  refine (if_pos h1).trans ?_
  refine (ev_eq _ _ _ _ _ _).trans ?_
  rfl
theorem B_X7_rests_2_2 {T : List Shp} {c : Nat → Int → Int} {x1 x2 x3 : Int} (h1 : ¬ (c 4 4) < x3) (h2 : (w32 (x2 - x3)) < 1) : ev 70 1 2 [vR 2, vI x1, vI x2, vI x3, vU] [] (SH T, c) = ev 70 1 45 [vR 2, vI x1, vI x2, vI x3, vU] [] (SH T, c) := by
  refine (ev_eq _ _ _ _ _ _).trans ?_
  refine (if_neg h1).trans ?_
  refine (if_pos h2).trans ?_
  rfl
theorem B_X7_rests_2_3 {T : List Shp} {c : Nat → Int → Int} {x1 x2 x3 : Int} (h1 : ¬ (c 4 4) < x3) (h2 : ¬ (w32 (x2 - x3)) < 1) (h3 : (c 1 8) < (w32 (x2 - x3))) : ev 70 1 2 [vR 2, vI x1, vI x2, vI x3, vU] [] (SH T, c) = ev 70 1 45 [vR 2, vI x1, vI x2, vI x3, vU] [] (SH T, c) := by
  refine (ev_eq _ _ _ _ _ _).trans ?_
  refine (if_neg h1).trans ?_
  refine (if_neg h2).trans ?_
  refine (if_pos h3).trans ?_
  rfl
theorem B_X7_rests_2_4 {T : List Shp} {c : Nat → Int → Int} {x1 x2 x3 : Int} (h1 : ¬ (c 4 4) < x3) (h2 : ¬ (w32 (x2 - x3)) < 1) (h3 : ¬ (c 1 8) < (w32 (x2 - x3))) (h4 : 0 ≤ (w32 (x2 - x3)) ∧ (w32 (x2 - x3)) < 17) (h5 : (c 6 (w32 (x2 - x3))) = x1) : ev 70 1 2 [vR 2, vI x1, vI x2, vI x3, vU] [] (SH T, c) = some (some (vI 1), (SH T, c)) := by
  refine (ev_eq _ _ _ _ _ _).trans ?_
  refine (if_neg h1).trans ?_
  refine (if_neg h2).trans ?_
  refine (if_neg h3).trans ?_
  refine (if_pos h4).trans ?_
  refine (if_pos h5).trans ?_
  rfl
theorem B_X7_rests_2_5 {T : List Shp} {c : Nat → Int → Int} {x1 x2 x3 : Int} (h1 : ¬ (c 4 4) < x3) (h2 : ¬ (w32 (x2 - x3)) < 1) (h3 : ¬ (c 1 8) < (w32 (x2 - x3))) (h4 : 0 ≤ (w32 (x2 - x3)) ∧ (w32 (x2 - x3)) < 17) (h5 : ¬ (c 6 (w32 (x2 - x3))) = x1) : ev 70 1 2 [vR 2, vI x1, vI x2, vI x3, vU] [] (SH T, c) = ev 70 1 45 [vR 2, vI x1, vI x2, vI x3, vU] [] (SH T, c) := by
  refine (ev_eq _ _ _ _ _ _).trans ?_
  refine (if_neg h1).trans ?_
  refine (if_neg h2).trans ?_
  refine (if_neg h3).trans ?_
  refine (if_pos h4).trans ?_
  refine (if_neg h5).trans ?_
  rfl
theorem B_X7_rests_45 {T : List Shp} {c : Nat → Int → Int} {x1 x2 x3 : Int}  : ev 70 1 45 [vR 2, vI x1, vI x2, vI x3, vU] [] (SH T, c) = ev 70 1 2 [vR 2, vI x1, vI x2, vI (w32 (x3 + 1)), vU] [] (SH T, c) := by
  refine (ev_eq _ _ _ _ _ _).trans ?_
  rfl
theorem E_X7_seenAt {T : List Shp} {c : Nat → Int → Int} {x1 : Int} (h1 : 0 ≤ (w32 ((w32 ((c 1 8) * 12)) + x1)) ∧ (w32 ((w32 ((c 1 8) * 12)) + x1)) < 204) : cal 71 [vR 2, vI x1] (SH T, c) = some (some (vI (c 7 (w32 ((w32 ((c 1 8) * 12)) + x1)))), (SH T, c)) := by
  refine (ev_eq _ _ _ _ _ _).trans ?_
  refine (if_pos h1).trans ?_
  rfl
theorem E_X7_addCopy {T : List Shp} {c : Nat → Int → Int} (h1 : (0 ≤ (w32 ((c 1 8) * 12)) ∧ 0 ≤ (w32 ((c 1 11) * 12)) ∧ 0 ≤ 12) ∧ (w32 ((c 1 8) * 12)) + 12 ≤ 204 ∧ (w32 ((c 1 11) * 12)) + 12 ≤ 72) : cal 72 [vR 2] (SH T, c) = some (none, (SH T, (up (cpy c 7 (w32 ((c 1 8) * 12)) 8 (w32 ((c 1 11) * 12)) 12) 1 11 (w32 (((cpy c 7 (w32 ((c 1 8) * 12)) 8 (w32 ((c 1 11) * 12)) 12) 1 11) + 1))))) := by
  refine (ev_eq _ _ _ _ _ _).trans ?_
  refine (if_pos h1).trans ?_
  rfl
theorem E_X7_nearOf {T : List Shp} {c : Nat → Int → Int} {x1 : Int}  : cal 73 [vR 2, vI x1] (SH T, c) = ev 73 1 4 [vR 2, vI x1, vI 0, vI 0] [] (SH T, c) := by
  refine (ev_eq _ _ _ _ _ _).trans ?_
  rfl
theorem B_X7_nearOf_4_1 {T : List Shp} {c : Nat → Int → Int} {x1 x2 x3 : Int} (h1 : x3 < 12) (h2 : 0 ≤ (w32 ((w32 (x1 * 12)) + x3)) ∧ (w32 ((w32 (x1 * 12)) + x3)) < 72) (h3 : 0 ≤ (w32 ((w32 ((c 1 8) * 12)) + x3)) ∧ (w32 ((w32 ((c 1 8) * 12)) + x3)) < 204) (h4 : (c 8 (w32 ((w32 (x1 * 12)) + x3))) = (c 7 (w32 ((w32 ((c 1 8) * 12)) + x3)))) : ev 73 1 4 [vR 2, vI x1, vI x2, vI x3] [] (SH T, c) = ev 73 1 41 [vR 2, vI x1, vI x2, vI x3] [] (SH T, c) := by
  refine (ev_eq _ _ _ _ _ _).trans ?_
  refine (if_pos h1).trans ?_
  refine (if_pos h2).trans ?_
  refine (if_pos h3).trans ?_
  refine (if_pos h4).trans ?_
  rfl
theorem B_X7_nearOf_4_2 {T : List Shp} {c : Nat → Int → Int} {x1 x2 x3 : Int} (h1 : x3 < 12) (h2 : 0 ≤ (w32 ((w32 (x1 * 12)) + x3)) ∧ (w32 ((w32 (x1 * 12)) + x3)) < 72) (h3 : 0 ≤ (w32 ((w32 ((c 1 8) * 12)) + x3)) ∧ (w32 ((w32 ((c 1 8) * 12)) + x3)) < 204) (h4 : ¬ (c 8 (w32 ((w32 (x1 * 12)) + x3))) = (c 7 (w32 ((w32 ((c 1 8) * 12)) + x3)))) : ev 73 1 4 [vR 2, vI x1, vI x2, vI x3] [] (SH T, c) = ev 73 1 41 [vR 2, vI x1, vI (w32 (x2 + 1)), vI x3] [] (SH T, c) := by
  refine (ev_eq _ _ _ _ _ _).trans ?_
  refine (if_pos h1).trans ?_
  refine (if_pos h2).trans ?_
  refine (if_pos h3).trans ?_
  refine (if_neg h4).trans ?_
  rfl
theorem B_X7_nearOf_4_3 {T : List Shp} {c : Nat → Int → Int} {x1 x2 x3 : Int} (h1 : ¬ x3 < 12) : ev 73 1 4 [vR 2, vI x1, vI x2, vI x3] [] (SH T, c) = some (some (vI x2), (SH T, c)) := by
  refine (ev_eq _ _ _ _ _ _).trans ?_
  refine (if_neg h1).trans ?_
  refine (ev_eq _ _ _ _ _ _).trans ?_
  rfl
theorem B_X7_nearOf_41 {T : List Shp} {c : Nat → Int → Int} {x1 x2 x3 : Int}  : ev 73 1 41 [vR 2, vI x1, vI x2, vI x3] [] (SH T, c) = ev 73 1 4 [vR 2, vI x1, vI x2, vI (w32 (x3 + 1))] [] (SH T, c) := by
  refine (ev_eq _ _ _ _ _ _).trans ?_
  rfl
theorem E_X7_isAlive_1 {T : List Shp} {c : Nat → Int → Int} {x1 x2 : Int} (h1 : 0 ≤ (w32 ((w32 (x1 * 4)) + 1)) ∧ (w32 ((w32 (x1 * 4)) + 1)) < 32) (h2 : x2 < (c 9 (w32 ((w32 (x1 * 4)) + 1)))) : cal 74 [vR 2, vI x1, vI x2] (SH T, c) = some (some (vI 0), (SH T, c)) := by
  refine (ev_eq _ _ _ _ _ _).trans ?_
  refine (if_pos h1).trans ?_
  refine (if_pos h2).trans ?_
  refine (ev_eq _ _ _ _ _ _).trans ?_
  rfl
theorem E_X7_isAlive_2 {T : List Shp} {c : Nat → Int → Int} {x1 x2 : Int} (h1 : 0 ≤ (w32 ((w32 (x1 * 4)) + 1)) ∧ (w32 ((w32 (x1 * 4)) + 1)) < 32) (h2 : ¬ x2 < (c 9 (w32 ((w32 (x1 * 4)) + 1)))) (h3 : 0 ≤ (w32 ((w32 (x1 * 4)) + 2)) ∧ (w32 ((w32 (x1 * 4)) + 2)) < 32) (h4 : x2 < (c 9 (w32 ((w32 (x1 * 4)) + 2)))) : cal 74 [vR 2, vI x1, vI x2] (SH T, c) = some (some (vI 1), (SH T, c)) := by
  refine (ev_eq _ _ _ _ _ _).trans ?_
  refine (if_pos h1).trans ?_
  refine (if_neg h2).trans ?_
  refine (if_pos h3).trans ?_
  refine (if_pos h4).trans ?_
  rfl
theorem E_X7_isAlive_3 {T : List Shp} {c : Nat → Int → Int} {x1 x2 : Int} (h1 : 0 ≤ (w32 ((w32 (x1 * 4)) + 1)) ∧ (w32 ((w32 (x1 * 4)) + 1)) < 32) (h2 : ¬ x2 < (c 9 (w32 ((w32 (x1 * 4)) + 1)))) (h3 : 0 ≤ (w32 ((w32 (x1 * 4)) + 2)) ∧ (w32 ((w32 (x1 * 4)) + 2)) < 32) (h4 : ¬ x2 < (c 9 (w32 ((w32 (x1 * 4)) + 2)))) : cal 74 [vR 2, vI x1, vI x2] (SH T, c) = some (some (vI 0), (SH T, c)) := by
  refine (ev_eq _ _ _ _ _ _).trans ?_
  refine (if_pos h1).trans ?_
  refine (if_neg h2).trans ?_
  refine (if_pos h3).trans ?_
  refine (if_neg h4).trans ?_
  refine (ev_eq _ _ _ _ _ _).trans ?_
  rfl
theorem E_X7_childrenOf {T : List Shp} {c : Nat → Int → Int} {x1 x2 : Int}  : cal 75 [vR 2, vI x1, vI x2] (SH T, c) = ev 75 2 5 [vR 2, vI x1, vI x2, vI 0, vI 0] [] (SH T, c) := by
  refine (ev_eq _ _ _ _ _ _).trans ?_
  rfl
theorem B_X7_childrenOf_5_1 {T : List Shp} {c : Nat → Int → Int} {x1 x2 x3 x4 : Int} {r1 : Int} {c2 : Nat → Int → Int} (h1 : x4 < (c 1 13)) (h2 : 0 ≤ (w32 (x4 * 4)) ∧ (w32 (x4 * 4)) < 32) (h3 : (c 9 (w32 (x4 * 4))) = x1) (h4 : cal 74 [vR 2, vI x4, vI x2] (SH T, c) = some (some (vI r1), (SH T, c2))) (h5 : r1 = 0) : ev 75 2 5 [vR 2, vI x1, vI x2, vI x3, vI x4] [] (SH T, c) = ev 75 2 40 [vR 2, vI x1, vI x2, vI x3, vI x4] [] (SH T, c2) := by
  refine (ev_eq _ _ _ _ _ _).trans ?_
  refine (if_pos h1).trans ?_
  refine (if_pos h2).trans ?_
  refine (if_pos h3).trans ?_
  refine (el_call rfl h4).trans ?_
  refine (if_pos h5).trans ?_
  rfl
theorem B_X7_childrenOf_5_2 {T : List Shp} {c : Nat → Int → Int} {x1 x2 x3 x4 : Int} {r1 : Int} {c2 : Nat → Int → Int} (h1 : x4 < (c 1 13)) (h2 : 0 ≤ (w32 (x4 * 4)) ∧ (w32 (x4 * 4)) < 32) (h3 : (c 9 (w32 (x4 * 4))) = x1) (h4 : cal 74 [vR 2, vI x4, vI x2] (SH T, c) = some (some (vI r1), (SH T, c2))) (h5 : ¬ r1 = 0) : ev 75 2 5 [vR 2, vI x1, vI x2, vI x3, vI x4] [] (SH T, c) = ev 75 2 40 [vR 2, vI x1, vI x2, vI (w32 (x3 + 1)), vI x4] [] (SH T, c2) := by
  refine (ev_eq _ _ _ _ _ _).trans ?_
  refine (if_pos h1).trans ?_
  refine (if_pos h2).trans ?_
  refine (if_pos h3).trans ?_
  refine (el_call rfl h4).trans ?_
  refine (if_neg h5).trans ?_
  rfl
theorem B_X7_childrenOf_5_3 {T : List Shp} {c : Nat → Int → Int} {x1 x2 x3 x4 : Int} (h1 : x4 < (c 1 13)) (h2 : 0 ≤ (w32 (x4 * 4)) ∧ (w32 (x4 * 4)) < 32) (h3 : ¬ (c 9 (w32 (x4 * 4))) = x1) : ev 75 2 5 [vR 2, vI x1, vI x2, vI x3, vI x4] [] (SH T, c) = ev 75 2 40 [vR 2, vI x1, vI x2, vI x3, vI x4] [] (SH T, c) := by
  refine (ev_eq _ _ _ _ _ _).trans ?_
  refine (if_pos h1).trans ?_
  refine (if_pos h2).trans ?_
  refine (if_neg h3).trans ?_
  rfl
theorem B_X7_childrenOf_5_4 {T : List Shp} {c : Nat → Int → Int} {x1 x2 x3 x4 : Int} (h1 : ¬ x4 < (c 1 13)) : ev 75 2 5 [vR 2, vI x1, vI x2, vI x3, vI x4] [] (SH T, c) = some (some (vI x3), (SH T, c)) := by
  refine (ev_eq _ _ _ _ _ _).trans ?_
  refine (if_neg h1).trans ?_
  refine (ev_eq _ _ _ _ _ _).trans ?_
  rfl
theorem B_X7_childrenOf_40 {T : List Shp} {c : Nat → Int → Int} {x1 x2 x3 x4 : Int}  : ev 75 2 40 [vR 2, vI x1, vI x2, vI x3, vI x4] [] (SH T, c) = ev 75 2 5 [vR 2, vI x1, vI x2, vI x3, vI (w32 (x4 + 1))] [] (SH T, c) := by
  refine (ev_eq _ _ _ _ _ _).trans ?_
  rfl
theorem E_X7_brushed {T : List Shp} {c : Nat → Int → Int} {x1 x2 x3 x4 : Int} {r1 : Int} {c2 : Nat → Int → Int} {r3 : Int} {c4 : Nat → Int → Int} (h1 : 0 ≤ (w32 (x1 * 5)) ∧ (w32 (x1 * 5)) < 25) (h2 : cal 184 [vI (w32 (x4 - x3)), vI (w32 (-(c 2 (w32 (x1 * 5))))), vI (c 2 (w32 (x1 * 5)))] (SH T, c) = some (some (vI r1), (SH T, c2))) (h3 : 0 ≤ (w32 ((w32 ((w32 (x1 * 5)) + 2)) + (w32 (Int.tmod x2 3)))) ∧ (w32 ((w32 ((w32 (x1 * 5)) + 2)) + (w32 (Int.tmod x2 3)))) < 25) (h4 : cal 184 [vI (w32 ((w32 ((w32 (x3 + r1)) + (c2 2 (w32 ((w32 ((w32 (x1 * 5)) + 2)) + (w32 (Int.tmod x2 3))))))) - 3)), vI 0, vI 9] (SH T, c2) = some (some (vI r3), (SH T, c4))) : cal 76 [vR 2, vI x1, vI x2, vI x3, vI x4] (SH T, c) = some (some (vI r3), (SH T, c4)) := by
  refine (ev_eq _ _ _ _ _ _).trans ?_
  refine (if_pos h1).trans ?_
  refine (el_call rfl h2).trans ?_
  refine (if_pos h3).trans ?_
  refine (el_call rfl h4).trans ?_
  rfl
theorem E_X3_worksa {T : List Shp} {c : Nat → Int → Int} {x1 x2 : Int}  : cal 20 [vR 16, vR x1, vI x2, vR 18] (SH T, c) = ev 20 2 11 [vR 16, vR x1, vU, vR 18, vI x2, vI 0, vU, vU] [] (SH T, (up c 15 1 0)) := by
  refine (ev_eq _ _ _ _ _ _).trans ?_
  rfl
theorem B_X3_worksa_11_1 {T : List Shp} {c : Nat → Int → Int} {x1 x4 x5 : Int} {p1 : Nat} {n2 : Int} {f3 : List Int} {r4 : Int} {c5 : Nat → Int → Int} (h1 : x5 < 450) (h2 : drf (SH T) x1 = some (p1, (20, n2, f3))) (h3 : cal 177 [vI x4, vI (c p1 3)] (SH T, c) = some (some (vI r4), (SH T, c5))) (h4 : r4 = 0) : ev 20 2 11 [vR 16, vR x1, vU, vR 18, vI x4, vI x5, vU, vU] [] (SH T, c) = some (some (vI 0), (SH T, c5)) := by
  refine (ev_eq _ _ _ _ _ _).trans ?_
  refine (if_pos h1).trans ?_
  refine (el_of h2).trans ?_
  refine (el_call rfl h3).trans ?_
  refine (if_pos h4).trans ?_
  refine (ev_eq _ _ _ _ _ _).trans ?_
  rfl
theorem B_X3_worksa_11_2 {T : List Shp} {c : Nat → Int → Int} {x1 x4 x5 : Int} {p1 : Nat} {n2 : Int} {f3 : List Int} {r4 : Int} {c5 : Nat → Int → Int} {p6 : Nat} {n7 : Int} {f8 : List Int} (h1 : x5 < 450) (h2 : drf (SH T) x1 = some (p1, (20, n2, f3))) (h3 : cal 177 [vI x4, vI (c p1 3)] (SH T, c) = some (some (vI r4), (SH T, c5))) (h4 : ¬ r4 = 0) (h5 : drf (SH T) (f3.getD 1 0) = some (p6, (0, n7, f8))) (h6 : 0 ≤ x4 ∧ x4 < n7) (h7 : 0 ≤ x4 ∧ x4 < n7) (h8 : (iand (c5 p6 x4) 15) = 0) : ev 20 2 11 [vR 16, vR x1, vU, vR 18, vI x4, vI x5, vU, vU] [] (SH T, c) = ev 20 2 68 [vR 16, vR x1, vU, vR 18, vI (w32 (x4 + 1)), vI x5, vI (iand (c5 p6 x4) 15), vI (ishr (c5 p6 x4) 4)] [] (SH T, c5) := by
  refine (ev_eq _ _ _ _ _ _).trans ?_
  refine (if_pos h1).trans ?_
  refine (el_of h2).trans ?_
  refine (el_call rfl h3).trans ?_
  refine (if_neg h4).trans ?_
  refine (el_of h2).trans ?_
  refine (el_of h5).trans ?_
  refine (if_pos h6).trans ?_
  refine (el_of h2).trans ?_
  refine (el_of h5).trans ?_
  refine (if_pos h7).trans ?_
  refine (if_pos h8).trans ?_
  rfl
theorem B_X3_worksa_11_3 {T : List Shp} {c : Nat → Int → Int} {x1 x4 x5 : Int} {p1 : Nat} {n2 : Int} {f3 : List Int} {r4 : Int} {c5 : Nat → Int → Int} {p6 : Nat} {n7 : Int} {f8 : List Int} (h1 : x5 < 450) (h2 : drf (SH T) x1 = some (p1, (20, n2, f3))) (h3 : cal 177 [vI x4, vI (c p1 3)] (SH T, c) = some (some (vI r4), (SH T, c5))) (h4 : ¬ r4 = 0) (h5 : drf (SH T) (f3.getD 1 0) = some (p6, (0, n7, f8))) (h6 : 0 ≤ x4 ∧ x4 < n7) (h7 : 0 ≤ x4 ∧ x4 < n7) (h8 : ¬ (iand (c5 p6 x4) 15) = 0) (h9 : (iand (c5 p6 x4) 15) = 1) : ev 20 2 11 [vR 16, vR x1, vU, vR 18, vI x4, vI x5, vU, vU] [] (SH T, c) = ev 20 2 68 [vR 16, vR x1, vU, vR 18, vI (w32 (x4 + 1)), vI x5, vI (iand (c5 p6 x4) 15), vI (ishr (c5 p6 x4) 4)] [] (SH T, c5) := by
  refine (ev_eq _ _ _ _ _ _).trans ?_
  refine (if_pos h1).trans ?_
  refine (el_of h2).trans ?_
  refine (el_call rfl h3).trans ?_
  refine (if_neg h4).trans ?_
  refine (el_of h2).trans ?_
  refine (el_of h5).trans ?_
  refine (if_pos h6).trans ?_
  refine (el_of h2).trans ?_
  refine (el_of h5).trans ?_
  refine (if_pos h7).trans ?_
  refine (if_neg h8).trans ?_
  refine (if_pos h9).trans ?_
  rfl
theorem B_X3_worksa_11_4 {T : List Shp} {c : Nat → Int → Int} {x1 x4 x5 : Int} {p1 : Nat} {n2 : Int} {f3 : List Int} {r4 : Int} {c5 : Nat → Int → Int} {p6 : Nat} {n7 : Int} {f8 : List Int} (h1 : x5 < 450) (h2 : drf (SH T) x1 = some (p1, (20, n2, f3))) (h3 : cal 177 [vI x4, vI (c p1 3)] (SH T, c) = some (some (vI r4), (SH T, c5))) (h4 : ¬ r4 = 0) (h5 : drf (SH T) (f3.getD 1 0) = some (p6, (0, n7, f8))) (h6 : 0 ≤ x4 ∧ x4 < n7) (h7 : 0 ≤ x4 ∧ x4 < n7) (h8 : ¬ (iand (c5 p6 x4) 15) = 0) (h9 : ¬ (iand (c5 p6 x4) 15) = 1) (h10 : (c5 15 1) < 1) : ev 20 2 11 [vR 16, vR x1, vU, vR 18, vI x4, vI x5, vU, vU] [] (SH T, c) = some (some (vI 0), (SH T, c5)) := by
  refine (ev_eq _ _ _ _ _ _).trans ?_
  refine (if_pos h1).trans ?_
  refine (el_of h2).trans ?_
  refine (el_call rfl h3).trans ?_
  refine (if_neg h4).trans ?_
  refine (el_of h2).trans ?_
  refine (el_of h5).trans ?_
  refine (if_pos h6).trans ?_
  refine (el_of h2).trans ?_
  refine (el_of h5).trans ?_
  refine (if_pos h7).trans ?_
  refine (if_neg h8).trans ?_
  refine (if_neg h9).trans ?_
  refine (ev_eq _ _ _ _ _ _).trans ?_
  refine (if_pos h10).trans ?_
  rfl
theorem B_X3_worksa_11_5 {T : List Shp} {c : Nat → Int → Int} {x1 x4 x5 : Int} {p1 : Nat} {n2 : Int} {f3 : List Int} {r4 : Int} {c5 : Nat → Int → Int} {p6 : Nat} {n7 : Int} {f8 : List Int} (h1 : x5 < 450) (h2 : drf (SH T) x1 = some (p1, (20, n2, f3))) (h3 : cal 177 [vI x4, vI (c p1 3)] (SH T, c) = some (some (vI r4), (SH T, c5))) (h4 : ¬ r4 = 0) (h5 : drf (SH T) (f3.getD 1 0) = some (p6, (0, n7, f8))) (h6 : 0 ≤ x4 ∧ x4 < n7) (h7 : 0 ≤ x4 ∧ x4 < n7) (h8 : ¬ (iand (c5 p6 x4) 15) = 0) (h9 : ¬ (iand (c5 p6 x4) 15) = 1) (h10 : ¬ (c5 15 1) < 1) (h11 : (iand (c5 p6 x4) 15) = 12) : ev 20 2 11 [vR 16, vR x1, vU, vR 18, vI x4, vI x5, vU, vU] [] (SH T, c) = some (some (vI 1), (SH T, (up c5 15 2 (c5 16 0)))) := by
  refine (ev_eq _ _ _ _ _ _).trans ?_
  refine (if_pos h1).trans ?_
  refine (el_of h2).trans ?_
  refine (el_call rfl h3).trans ?_
  refine (if_neg h4).trans ?_
  refine (el_of h2).trans ?_
  refine (el_of h5).trans ?_
  refine (if_pos h6).trans ?_
  refine (el_of h2).trans ?_
  refine (el_of h5).trans ?_
  refine (if_pos h7).trans ?_
  refine (if_neg h8).trans ?_
  refine (if_neg h9).trans ?_
  refine (ev_eq _ _ _ _ _ _).trans ?_
  refine (if_neg h10).trans ?_
  refine (ev_eq _ _ _ _ _ _).trans ?_
  refine (if_pos h11).trans ?_
  rfl
theorem B_X3_worksa_11_6 {T : List Shp} {c : Nat → Int → Int} {x1 x4 x5 : Int} {p1 : Nat} {n2 : Int} {f3 : List Int} {r4 : Int} {c5 : Nat → Int → Int} {p6 : Nat} {n7 : Int} {f8 : List Int} (h1 : x5 < 450) (h2 : drf (SH T) x1 = some (p1, (20, n2, f3))) (h3 : cal 177 [vI x4, vI (c p1 3)] (SH T, c) = some (some (vI r4), (SH T, c5))) (h4 : ¬ r4 = 0) (h5 : drf (SH T) (f3.getD 1 0) = some (p6, (0, n7, f8))) (h6 : 0 ≤ x4 ∧ x4 < n7) (h7 : 0 ≤ x4 ∧ x4 < n7) (h8 : ¬ (iand (c5 p6 x4) 15) = 0) (h9 : ¬ (iand (c5 p6 x4) 15) = 1) (h10 : ¬ (c5 15 1) < 1) (h11 : ¬ (iand (c5 p6 x4) 15) = 12) (h12 : (iand (c5 p6 x4) 15) = 9) (h13 : 0 ≤ (w32 ((c5 15 1) - 1)) ∧ (w32 ((c5 15 1) - 1)) < 100) (h14 : 0 ≤ (w32 ((c5 15 1) - 1)) ∧ (w32 ((c5 15 1) - 1)) < 100) : ev 20 2 11 [vR 16, vR x1, vU, vR 18, vI x4, vI x5, vU, vU] [] (SH T, c) = ev 20 2 265 [vR 16, vR x1, vU, vR 18, vI (w32 (x4 + 1)), vI x5, vU, vU] [] (SH T, (up c5 16 (w32 ((c5 15 1) - 1)) (w32 (1 - (c5 16 (w32 ((c5 15 1) - 1))))))) := by
  refine (ev_eq _ _ _ _ _ _).trans ?_
  refine (if_pos h1).trans ?_
  refine (el_of h2).trans ?_
  refine (el_call rfl h3).trans ?_
  refine (if_neg h4).trans ?_
  refine (el_of h2).trans ?_
  refine (el_of h5).trans ?_
  refine (if_pos h6).trans ?_
  refine (el_of h2).trans ?_
  refine (el_of h5).trans ?_
  refine (if_pos h7).trans ?_
  refine (if_neg h8).trans ?_
  refine (if_neg h9).trans ?_
  refine (ev_eq _ _ _ _ _ _).trans ?_
  refine (if_neg h10).trans ?_
  refine (ev_eq _ _ _ _ _ _).trans ?_
  refine (if_neg h11).trans ?_
  refine (ev_eq _ _ _ _ _ _).trans ?_
  refine (if_pos h12).trans ?_
  refine (if_pos h13).trans ?_
  refine (if_pos h14).trans ?_
  rfl
theorem B_X3_worksa_11_7 {T : List Shp} {c : Nat → Int → Int} {x1 x4 x5 : Int} {p1 : Nat} {n2 : Int} {f3 : List Int} {r4 : Int} {c5 : Nat → Int → Int} {p6 : Nat} {n7 : Int} {f8 : List Int} (h1 : x5 < 450) (h2 : drf (SH T) x1 = some (p1, (20, n2, f3))) (h3 : cal 177 [vI x4, vI (c p1 3)] (SH T, c) = some (some (vI r4), (SH T, c5))) (h4 : ¬ r4 = 0) (h5 : drf (SH T) (f3.getD 1 0) = some (p6, (0, n7, f8))) (h6 : 0 ≤ x4 ∧ x4 < n7) (h7 : 0 ≤ x4 ∧ x4 < n7) (h8 : ¬ (iand (c5 p6 x4) 15) = 0) (h9 : ¬ (iand (c5 p6 x4) 15) = 1) (h10 : ¬ (c5 15 1) < 1) (h11 : ¬ (iand (c5 p6 x4) 15) = 12) (h12 : ¬ (iand (c5 p6 x4) 15) = 9) (h13 : (iand (c5 p6 x4) 15) = 10) : ev 20 2 11 [vR 16, vR x1, vU, vR 18, vI x4, vI x5, vU, vU] [] (SH T, c) = ev 20 2 208 [vR 16, vR x1, vU, vR 18, vI (w32 (x4 + 1)), vI x5, vI (iand (c5 p6 x4) 15), vI (ishr (c5 p6 x4) 4)] [] (SH T, c5) := by
  refine (ev_eq _ _ _ _ _ _).trans ?_
  refine (if_pos h1).trans ?_
  refine (el_of h2).trans ?_
  refine (el_call rfl h3).trans ?_
  refine (if_neg h4).trans ?_
  refine (el_of h2).trans ?_
  refine (el_of h5).trans ?_
  refine (if_pos h6).trans ?_
  refine (el_of h2).trans ?_
  refine (el_of h5).trans ?_
  refine (if_pos h7).trans ?_
  refine (if_neg h8).trans ?_
  refine (if_neg h9).trans ?_
  refine (ev_eq _ _ _ _ _ _).trans ?_
  refine (if_neg h10).trans ?_
  refine (ev_eq _ _ _ _ _ _).trans ?_
  refine (if_neg h11).trans ?_
  refine (ev_eq _ _ _ _ _ _).trans ?_
  refine (if_neg h12).trans ?_
  refine (ev_eq _ _ _ _ _ _).trans ?_
  refine (if_pos h13).trans ?_
  rfl
theorem B_X3_worksa_11_8 {T : List Shp} {c : Nat → Int → Int} {x1 x4 x5 : Int} {p1 : Nat} {n2 : Int} {f3 : List Int} {r4 : Int} {c5 : Nat → Int → Int} {p6 : Nat} {n7 : Int} {f8 : List Int} (h1 : x5 < 450) (h2 : drf (SH T) x1 = some (p1, (20, n2, f3))) (h3 : cal 177 [vI x4, vI (c p1 3)] (SH T, c) = some (some (vI r4), (SH T, c5))) (h4 : ¬ r4 = 0) (h5 : drf (SH T) (f3.getD 1 0) = some (p6, (0, n7, f8))) (h6 : 0 ≤ x4 ∧ x4 < n7) (h7 : 0 ≤ x4 ∧ x4 < n7) (h8 : ¬ (iand (c5 p6 x4) 15) = 0) (h9 : ¬ (iand (c5 p6 x4) 15) = 1) (h10 : ¬ (c5 15 1) < 1) (h11 : ¬ (iand (c5 p6 x4) 15) = 12) (h12 : ¬ (iand (c5 p6 x4) 15) = 9) (h13 : ¬ (iand (c5 p6 x4) 15) = 10) (h14 : (iand (c5 p6 x4) 15) = 11) : ev 20 2 11 [vR 16, vR x1, vU, vR 18, vI x4, vI x5, vU, vU] [] (SH T, c) = ev 20 2 208 [vR 16, vR x1, vU, vR 18, vI (w32 (x4 + 1)), vI x5, vI (iand (c5 p6 x4) 15), vI (ishr (c5 p6 x4) 4)] [] (SH T, c5) := by
  refine (ev_eq _ _ _ _ _ _).trans ?_
  refine (if_pos h1).trans ?_
  refine (el_of h2).trans ?_
  refine (el_call rfl h3).trans ?_
  refine (if_neg h4).trans ?_
  refine (el_of h2).trans ?_
  refine (el_of h5).trans ?_
  refine (if_pos h6).trans ?_
  refine (el_of h2).trans ?_
  refine (el_of h5).trans ?_
  refine (if_pos h7).trans ?_
  refine (if_neg h8).trans ?_
  refine (if_neg h9).trans ?_
  refine (ev_eq _ _ _ _ _ _).trans ?_
  refine (if_neg h10).trans ?_
  refine (ev_eq _ _ _ _ _ _).trans ?_
  refine (if_neg h11).trans ?_
  refine (ev_eq _ _ _ _ _ _).trans ?_
  refine (if_neg h12).trans ?_
  refine (ev_eq _ _ _ _ _ _).trans ?_
  refine (if_neg h13).trans ?_
  refine (if_pos h14).trans ?_
  rfl
theorem B_X3_worksa_11_9 {T : List Shp} {c : Nat → Int → Int} {x1 x4 x5 : Int} {p1 : Nat} {n2 : Int} {f3 : List Int} {r4 : Int} {c5 : Nat → Int → Int} {p6 : Nat} {n7 : Int} {f8 : List Int} {r9 : Int} {c10 : Nat → Int → Int} (h1 : x5 < 450) (h2 : drf (SH T) x1 = some (p1, (20, n2, f3))) (h3 : cal 177 [vI x4, vI (c p1 3)] (SH T, c) = some (some (vI r4), (SH T, c5))) (h4 : ¬ r4 = 0) (h5 : drf (SH T) (f3.getD 1 0) = some (p6, (0, n7, f8))) (h6 : 0 ≤ x4 ∧ x4 < n7) (h7 : 0 ≤ x4 ∧ x4 < n7) (h8 : ¬ (iand (c5 p6 x4) 15) = 0) (h9 : ¬ (iand (c5 p6 x4) 15) = 1) (h10 : ¬ (c5 15 1) < 1) (h11 : ¬ (iand (c5 p6 x4) 15) = 12) (h12 : ¬ (iand (c5 p6 x4) 15) = 9) (h13 : ¬ (iand (c5 p6 x4) 15) = 10) (h14 : ¬ (iand (c5 p6 x4) 15) = 11) (h15 : cal 21 [vR 16, vI (iand (c5 p6 x4) 15)] (SH T, c5) = some (some (vI r9), (SH T, c10))) (h16 : r9 = 0) : ev 20 2 11 [vR 16, vR x1, vU, vR 18, vI x4, vI x5, vU, vU] [] (SH T, c) = some (some (vI 0), (SH T, c10)) := by
  refine (ev_eq _ _ _ _ _ _).trans ?_
  refine (if_pos h1).trans ?_
  refine (el_of h2).trans ?_
  refine (el_call rfl h3).trans ?_
  refine (if_neg h4).trans ?_
  refine (el_of h2).trans ?_
  refine (el_of h5).trans ?_
  refine (if_pos h6).trans ?_
  refine (el_of h2).trans ?_
  refine (el_of h5).trans ?_
  refine (if_pos h7).trans ?_
  refine (if_neg h8).trans ?_
  refine (if_neg h9).trans ?_
  refine (ev_eq _ _ _ _ _ _).trans ?_
  refine (if_neg h10).trans ?_
  refine (ev_eq _ _ _ _ _ _).trans ?_
  refine (if_neg h11).trans ?_
  refine (ev_eq _ _ _ _ _ _).trans ?_
  refine (if_neg h12).trans ?_
  refine (ev_eq _ _ _ _ _ _).trans ?_
  refine (if_neg h13).trans ?_
  refine (if_neg h14).trans ?_
  refine (ev_eq _ _ _ _ _ _).trans ?_
  refine (el_call rfl h15).trans ?_
  refine (if_pos h16).trans ?_
  rfl
theorem B_X3_worksa_11_10 {T : List Shp} {c : Nat → Int → Int} {x1 x4 x5 : Int} {p1 : Nat} {n2 : Int} {f3 : List Int} {r4 : Int} {c5 : Nat → Int → Int} {p6 : Nat} {n7 : Int} {f8 : List Int} {r9 : Int} {c10 : Nat → Int → Int} (h1 : x5 < 450) (h2 : drf (SH T) x1 = some (p1, (20, n2, f3))) (h3 : cal 177 [vI x4, vI (c p1 3)] (SH T, c) = some (some (vI r4), (SH T, c5))) (h4 : ¬ r4 = 0) (h5 : drf (SH T) (f3.getD 1 0) = some (p6, (0, n7, f8))) (h6 : 0 ≤ x4 ∧ x4 < n7) (h7 : 0 ≤ x4 ∧ x4 < n7) (h8 : ¬ (iand (c5 p6 x4) 15) = 0) (h9 : ¬ (iand (c5 p6 x4) 15) = 1) (h10 : ¬ (c5 15 1) < 1) (h11 : ¬ (iand (c5 p6 x4) 15) = 12) (h12 : ¬ (iand (c5 p6 x4) 15) = 9) (h13 : ¬ (iand (c5 p6 x4) 15) = 10) (h14 : ¬ (iand (c5 p6 x4) 15) = 11) (h15 : cal 21 [vR 16, vI (iand (c5 p6 x4) 15)] (SH T, c5) = some (some (vI r9), (SH T, c10))) (h16 : ¬ r9 = 0) : ev 20 2 11 [vR 16, vR x1, vU, vR 18, vI x4, vI x5, vU, vU] [] (SH T, c) = ev 20 2 265 [vR 16, vR x1, vU, vR 18, vI (w32 (x4 + 1)), vI x5, vU, vU] [] (SH T, c10) := by
  refine (ev_eq _ _ _ _ _ _).trans ?_
  refine (if_pos h1).trans ?_
  refine (el_of h2).trans ?_
  refine (el_call rfl h3).trans ?_
  refine (if_neg h4).trans ?_
  refine (el_of h2).trans ?_
  refine (el_of h5).trans ?_
  refine (if_pos h6).trans ?_
  refine (el_of h2).trans ?_
  refine (el_of h5).trans ?_
  refine (if_pos h7).trans ?_
  refine (if_neg h8).trans ?_
  refine (if_neg h9).trans ?_
  refine (ev_eq _ _ _ _ _ _).trans ?_
  refine (if_neg h10).trans ?_
  refine (ev_eq _ _ _ _ _ _).trans ?_
  refine (if_neg h11).trans ?_
  refine (ev_eq _ _ _ _ _ _).trans ?_
  refine (if_neg h12).trans ?_
  refine (ev_eq _ _ _ _ _ _).trans ?_
  refine (if_neg h13).trans ?_
  refine (if_neg h14).trans ?_
  refine (ev_eq _ _ _ _ _ _).trans ?_
  refine (el_call rfl h15).trans ?_
  refine (if_neg h16).trans ?_
  rfl
theorem B_X3_worksa_11_11 {T : List Shp} {c : Nat → Int → Int} {x1 x4 x5 : Int} (h1 : ¬ x5 < 450) : ev 20 2 11 [vR 16, vR x1, vU, vR 18, vI x4, vI x5, vU, vU] [] (SH T, c) = some (some (vI 0), (SH T, c)) := by
  refine (ev_eq _ _ _ _ _ _).trans ?_
  refine (if_neg h1).trans ?_
  refine (ev_eq _ _ _ _ _ _).trans ?_
  rfl
theorem B_X3_worksa_68_1 {T : List Shp} {c : Nat → Int → Int} {x1 x4 x5 x6 x7 : Int} (h1 : (c 15 1) < 100) (h2 : x6 = 1) (h3 : x7 < 10) : ev 20 2 68 [vR 16, vR x1, vU, vR 18, vI x4, vI x5, vI x6, vI x7] [] (SH T, c) = ev 20 2 95 [vR 16, vR x1, vU, vR 18, vI x4, vI x5, vI x6, vI x7] [] (SH T, c) := by
  refine (ev_eq _ _ _ _ _ _).trans ?_
  refine (if_pos h1).trans ?_
  refine (if_pos h2).trans ?_
  refine (if_pos h3).trans ?_
  rfl
theorem B_X3_worksa_68_2 {T : List Shp} {c : Nat → Int → Int} {x1 x4 x5 x6 x7 : Int} (h1 : (c 15 1) < 100) (h2 : x6 = 1) (h3 : ¬ x7 < 10) : ev 20 2 68 [vR 16, vR x1, vU, vR 18, vI x4, vI x5, vI x6, vI x7] [] (SH T, c) = some (some (vI 0), (SH T, c)) := by
  refine (ev_eq _ _ _ _ _ _).trans ?_
  refine (if_pos h1).trans ?_
  refine (if_pos h2).trans ?_
  refine (if_neg h3).trans ?_
  refine (ev_eq _ _ _ _ _ _).trans ?_
  rfl
theorem B_X3_worksa_68_3 {T : List Shp} {c : Nat → Int → Int} {x1 x4 x5 x6 x7 : Int} (h1 : (c 15 1) < 100) (h2 : ¬ x6 = 1) : ev 20 2 68 [vR 16, vR x1, vU, vR 18, vI x4, vI x5, vI x6, vI x7] [] (SH T, c) = ev 20 2 95 [vR 16, vR x1, vU, vR 18, vI x4, vI x5, vI x6, vI x7] [] (SH T, c) := by
  refine (ev_eq _ _ _ _ _ _).trans ?_
  refine (if_pos h1).trans ?_
  refine (if_neg h2).trans ?_
  rfl
theorem B_X3_worksa_68_4 {T : List Shp} {c : Nat → Int → Int} {x1 x4 x5 x6 x7 : Int} (h1 : ¬ (c 15 1) < 100) : ev 20 2 68 [vR 16, vR x1, vU, vR 18, vI x4, vI x5, vI x6, vI x7] [] (SH T, c) = some (some (vI 0), (SH T, c)) := by
  refine (ev_eq _ _ _ _ _ _).trans ?_
  refine (if_neg h1).trans ?_
  refine (ev_eq _ _ _ _ _ _).trans ?_
  rfl
theorem B_X3_worksa_95_1 {T : List Shp} {c : Nat → Int → Int} {x1 x4 x5 x6 x7 : Int} (h1 : x6 = 0) : ev 20 2 95 [vR 16, vR x1, vU, vR 18, vI x4, vI x5, vI x6, vI x7] [] (SH T, c) = ev 20 2 117 [vR 16, vR x1, vU, vR 18, vI x4, vI x5, vU, vU] [vI x7, vI (c 15 1), vR 17] (SH T, c) := by
  refine (ev_eq _ _ _ _ _ _).trans ?_
  refine (if_pos h1).trans ?_
  rfl
theorem B_X3_worksa_95_2 {T : List Shp} {c : Nat → Int → Int} {x1 x4 x5 x6 x7 : Int} (h1 : ¬ x6 = 0) (h2 : 0 ≤ x7 ∧ x7 < 10) : ev 20 2 95 [vR 16, vR x1, vU, vR 18, vI x4, vI x5, vI x6, vI x7] [] (SH T, c) = ev 20 2 117 [vR 16, vR x1, vU, vR 18, vI x4, vI x5, vU, vU] [vI (c 17 x7), vI (c 15 1), vR 17] (SH T, c) := by
  refine (ev_eq _ _ _ _ _ _).trans ?_
  refine (if_neg h1).trans ?_
  refine (ev_eq _ _ _ _ _ _).trans ?_
  refine (if_pos h2).trans ?_
  rfl
theorem B_X3_worksa_117 {T : List Shp} {c : Nat → Int → Int} {x1 x4 x5 y0 y1 : Int} (h1 : 0 ≤ y1 ∧ y1 < 100) : ev 20 2 117 [vR 16, vR x1, vU, vR 18, vI x4, vI x5, vU, vU] [vI y0, vI y1, vR 17] (SH T, c) = ev 20 2 265 [vR 16, vR x1, vU, vR 18, vI x4, vI x5, vU, vU] [] (SH T, (up (up c 16 y1 y0) 15 1 (w32 ((c 15 1) + 1)))) := by
  refine (ev_eq _ _ _ _ _ _).trans ?_
  refine (if_pos h1).trans ?_
  rfl
theorem B_X3_worksa_208_1 {T : List Shp} {c : Nat → Int → Int} {x1 x4 x5 x6 x7 : Int} (h1 : 0 ≤ (w32 ((c 15 1) - 1)) ∧ (w32 ((c 15 1) - 1)) < 100) (h2 : x6 = 10) : ev 20 2 208 [vR 16, vR x1, vU, vR 18, vI x4, vI x5, vI x6, vI x7] [] (SH T, c) = ev 20 2 231 [vR 16, vR x1, vU, vR 18, vI x4, vI x5, vU, vI x7] [vI 1, vI (c 16 (w32 ((c 15 1) - 1)))] (SH T, c) := by
  refine (ev_eq _ _ _ _ _ _).trans ?_
  refine (if_pos h1).trans ?_
  refine (if_pos h2).trans ?_
  rfl
theorem B_X3_worksa_208_2 {T : List Shp} {c : Nat → Int → Int} {x1 x4 x5 x6 x7 : Int} (h1 : 0 ≤ (w32 ((c 15 1) - 1)) ∧ (w32 ((c 15 1) - 1)) < 100) (h2 : ¬ x6 = 10) : ev 20 2 208 [vR 16, vR x1, vU, vR 18, vI x4, vI x5, vI x6, vI x7] [] (SH T, c) = ev 20 2 231 [vR 16, vR x1, vU, vR 18, vI x4, vI x5, vU, vI x7] [vI 0, vI (c 16 (w32 ((c 15 1) - 1)))] (SH T, c) := by
  refine (ev_eq _ _ _ _ _ _).trans ?_
  refine (if_pos h1).trans ?_
  refine (if_neg h2).trans ?_
  refine (ev_eq _ _ _ _ _ _).trans ?_
  rfl
theorem B_X3_worksa_231_1 {T : List Shp} {c : Nat → Int → Int} {x1 x4 x5 x7 y0 y1 : Int} (h1 : y1 = y0) : ev 20 2 231 [vR 16, vR x1, vU, vR 18, vI x4, vI x5, vU, vI x7] [vI y0, vI y1] (SH T, c) = ev 20 2 265 [vR 16, vR x1, vU, vR 18, vI x7, vI x5, vU, vU] [] (SH T, c) := by
  refine (ev_eq _ _ _ _ _ _).trans ?_
  refine (if_pos h1).trans ?_
  rfl
theorem B_X3_worksa_231_2 {T : List Shp} {c : Nat → Int → Int} {x1 x4 x5 x7 y0 y1 : Int} (h1 : ¬ y1 = y0) : ev 20 2 231 [vR 16, vR x1, vU, vR 18, vI x4, vI x5, vU, vI x7] [vI y0, vI y1] (SH T, c) = ev 20 2 265 [vR 16, vR x1, vU, vR 18, vI x4, vI x5, vU, vU] [] (SH T, (up c 15 1 (w32 ((c 15 1) - 1)))) := by
  refine (ev_eq _ _ _ _ _ _).trans ?_
  refine (if_neg h1).trans ?_
  refine (ev_eq _ _ _ _ _ _).trans ?_
  rfl
theorem B_X3_worksa_265 {T : List Shp} {c : Nat → Int → Int} {x1 x4 x5 : Int}  : ev 20 2 265 [vR 16, vR x1, vU, vR 18, vI x4, vI x5, vU, vU] [] (SH T, c) = ev 20 2 11 [vR 16, vR x1, vU, vR 18, vI x4, vI (w32 (x5 + 1)), vU, vU] [] (SH T, c) := by
  refine (ev_eq _ _ _ _ _ _).trans ?_
  rfl
theorem E_X3_worksb {T : List Shp} {c : Nat → Int → Int} {x2 : Int}  : cal 20 [vR 70, vR 12, vI x2, vR 72] (SH T, c) = ev 20 2 11 [vR 70, vR 12, vU, vR 72, vI x2, vI 0, vU, vU] [] (SH T, (up c 69 1 0)) := by
  refine (ev_eq _ _ _ _ _ _).trans ?_
  rfl
theorem B_X3_worksb_11_1 {T : List Shp} {c : Nat → Int → Int} {x4 x5 : Int} {r1 : Int} {c2 : Nat → Int → Int} (h1 : x5 < 450) (h2 : cal 177 [vI x4, vI (c 11 3)] (SH T, c) = some (some (vI r1), (SH T, c2))) (h3 : r1 = 0) : ev 20 2 11 [vR 70, vR 12, vU, vR 72, vI x4, vI x5, vU, vU] [] (SH T, c) = some (some (vI 0), (SH T, c2)) := by
  refine (ev_eq _ _ _ _ _ _).trans ?_
  refine (if_pos h1).trans ?_
  refine (el_call rfl h2).trans ?_
  refine (if_pos h3).trans ?_
  refine (ev_eq _ _ _ _ _ _).trans ?_
  rfl
theorem B_X3_worksb_11_2 {T : List Shp} {c : Nat → Int → Int} {x4 x5 : Int} {r1 : Int} {c2 : Nat → Int → Int} (h1 : x5 < 450) (h2 : cal 177 [vI x4, vI (c 11 3)] (SH T, c) = some (some (vI r1), (SH T, c2))) (h3 : ¬ r1 = 0) (h4 : 0 ≤ x4 ∧ x4 < 450) (h5 : 0 ≤ x4 ∧ x4 < 450) (h6 : (iand (c2 13 x4) 15) = 0) : ev 20 2 11 [vR 70, vR 12, vU, vR 72, vI x4, vI x5, vU, vU] [] (SH T, c) = ev 20 2 68 [vR 70, vR 12, vU, vR 72, vI (w32 (x4 + 1)), vI x5, vI (iand (c2 13 x4) 15), vI (ishr (c2 13 x4) 4)] [] (SH T, c2) := by
  refine (ev_eq _ _ _ _ _ _).trans ?_
  refine (if_pos h1).trans ?_
  refine (el_call rfl h2).trans ?_
  refine (if_neg h3).trans ?_
  refine (if_pos h4).trans ?_
  refine (if_pos h5).trans ?_
  refine (if_pos h6).trans ?_
  rfl
theorem B_X3_worksb_11_3 {T : List Shp} {c : Nat → Int → Int} {x4 x5 : Int} {r1 : Int} {c2 : Nat → Int → Int} (h1 : x5 < 450) (h2 : cal 177 [vI x4, vI (c 11 3)] (SH T, c) = some (some (vI r1), (SH T, c2))) (h3 : ¬ r1 = 0) (h4 : 0 ≤ x4 ∧ x4 < 450) (h5 : 0 ≤ x4 ∧ x4 < 450) (h6 : ¬ (iand (c2 13 x4) 15) = 0) (h7 : (iand (c2 13 x4) 15) = 1) : ev 20 2 11 [vR 70, vR 12, vU, vR 72, vI x4, vI x5, vU, vU] [] (SH T, c) = ev 20 2 68 [vR 70, vR 12, vU, vR 72, vI (w32 (x4 + 1)), vI x5, vI (iand (c2 13 x4) 15), vI (ishr (c2 13 x4) 4)] [] (SH T, c2) := by
  refine (ev_eq _ _ _ _ _ _).trans ?_
  refine (if_pos h1).trans ?_
  refine (el_call rfl h2).trans ?_
  refine (if_neg h3).trans ?_
  refine (if_pos h4).trans ?_
  refine (if_pos h5).trans ?_
  refine (if_neg h6).trans ?_
  refine (if_pos h7).trans ?_
  rfl
theorem B_X3_worksb_11_4 {T : List Shp} {c : Nat → Int → Int} {x4 x5 : Int} {r1 : Int} {c2 : Nat → Int → Int} (h1 : x5 < 450) (h2 : cal 177 [vI x4, vI (c 11 3)] (SH T, c) = some (some (vI r1), (SH T, c2))) (h3 : ¬ r1 = 0) (h4 : 0 ≤ x4 ∧ x4 < 450) (h5 : 0 ≤ x4 ∧ x4 < 450) (h6 : ¬ (iand (c2 13 x4) 15) = 0) (h7 : ¬ (iand (c2 13 x4) 15) = 1) (h8 : (c2 69 1) < 1) : ev 20 2 11 [vR 70, vR 12, vU, vR 72, vI x4, vI x5, vU, vU] [] (SH T, c) = some (some (vI 0), (SH T, c2)) := by
  refine (ev_eq _ _ _ _ _ _).trans ?_
  refine (if_pos h1).trans ?_
  refine (el_call rfl h2).trans ?_
  refine (if_neg h3).trans ?_
  refine (if_pos h4).trans ?_
  refine (if_pos h5).trans ?_
  refine (if_neg h6).trans ?_
  refine (if_neg h7).trans ?_
  refine (ev_eq _ _ _ _ _ _).trans ?_
  refine (if_pos h8).trans ?_
  rfl
theorem B_X3_worksb_11_5 {T : List Shp} {c : Nat → Int → Int} {x4 x5 : Int} {r1 : Int} {c2 : Nat → Int → Int} (h1 : x5 < 450) (h2 : cal 177 [vI x4, vI (c 11 3)] (SH T, c) = some (some (vI r1), (SH T, c2))) (h3 : ¬ r1 = 0) (h4 : 0 ≤ x4 ∧ x4 < 450) (h5 : 0 ≤ x4 ∧ x4 < 450) (h6 : ¬ (iand (c2 13 x4) 15) = 0) (h7 : ¬ (iand (c2 13 x4) 15) = 1) (h8 : ¬ (c2 69 1) < 1) (h9 : (iand (c2 13 x4) 15) = 12) : ev 20 2 11 [vR 70, vR 12, vU, vR 72, vI x4, vI x5, vU, vU] [] (SH T, c) = some (some (vI 1), (SH T, (up c2 69 2 (c2 70 0)))) := by
  refine (ev_eq _ _ _ _ _ _).trans ?_
  refine (if_pos h1).trans ?_
  refine (el_call rfl h2).trans ?_
  refine (if_neg h3).trans ?_
  refine (if_pos h4).trans ?_
  refine (if_pos h5).trans ?_
  refine (if_neg h6).trans ?_
  refine (if_neg h7).trans ?_
  refine (ev_eq _ _ _ _ _ _).trans ?_
  refine (if_neg h8).trans ?_
  refine (ev_eq _ _ _ _ _ _).trans ?_
  refine (if_pos h9).trans ?_
  rfl
theorem B_X3_worksb_11_6 {T : List Shp} {c : Nat → Int → Int} {x4 x5 : Int} {r1 : Int} {c2 : Nat → Int → Int} (h1 : x5 < 450) (h2 : cal 177 [vI x4, vI (c 11 3)] (SH T, c) = some (some (vI r1), (SH T, c2))) (h3 : ¬ r1 = 0) (h4 : 0 ≤ x4 ∧ x4 < 450) (h5 : 0 ≤ x4 ∧ x4 < 450) (h6 : ¬ (iand (c2 13 x4) 15) = 0) (h7 : ¬ (iand (c2 13 x4) 15) = 1) (h8 : ¬ (c2 69 1) < 1) (h9 : ¬ (iand (c2 13 x4) 15) = 12) (h10 : (iand (c2 13 x4) 15) = 9) (h11 : 0 ≤ (w32 ((c2 69 1) - 1)) ∧ (w32 ((c2 69 1) - 1)) < 100) (h12 : 0 ≤ (w32 ((c2 69 1) - 1)) ∧ (w32 ((c2 69 1) - 1)) < 100) : ev 20 2 11 [vR 70, vR 12, vU, vR 72, vI x4, vI x5, vU, vU] [] (SH T, c) = ev 20 2 265 [vR 70, vR 12, vU, vR 72, vI (w32 (x4 + 1)), vI x5, vU, vU] [] (SH T, (up c2 70 (w32 ((c2 69 1) - 1)) (w32 (1 - (c2 70 (w32 ((c2 69 1) - 1))))))) := by
  refine (ev_eq _ _ _ _ _ _).trans ?_
  refine (if_pos h1).trans ?_
  refine (el_call rfl h2).trans ?_
  refine (if_neg h3).trans ?_
  refine (if_pos h4).trans ?_
  refine (if_pos h5).trans ?_
  refine (if_neg h6).trans ?_
  refine (if_neg h7).trans ?_
  refine (ev_eq _ _ _ _ _ _).trans ?_
  refine (if_neg h8).trans ?_
  refine (ev_eq _ _ _ _ _ _).trans ?_
  refine (if_neg h9).trans ?_
  refine (ev_eq _ _ _ _ _ _).trans ?_
  refine (if_pos h10).trans ?_
  refine (if_pos h11).trans ?_
  refine (if_pos h12).trans ?_
  rfl
theorem B_X3_worksb_11_7 {T : List Shp} {c : Nat → Int → Int} {x4 x5 : Int} {r1 : Int} {c2 : Nat → Int → Int} (h1 : x5 < 450) (h2 : cal 177 [vI x4, vI (c 11 3)] (SH T, c) = some (some (vI r1), (SH T, c2))) (h3 : ¬ r1 = 0) (h4 : 0 ≤ x4 ∧ x4 < 450) (h5 : 0 ≤ x4 ∧ x4 < 450) (h6 : ¬ (iand (c2 13 x4) 15) = 0) (h7 : ¬ (iand (c2 13 x4) 15) = 1) (h8 : ¬ (c2 69 1) < 1) (h9 : ¬ (iand (c2 13 x4) 15) = 12) (h10 : ¬ (iand (c2 13 x4) 15) = 9) (h11 : (iand (c2 13 x4) 15) = 10) : ev 20 2 11 [vR 70, vR 12, vU, vR 72, vI x4, vI x5, vU, vU] [] (SH T, c) = ev 20 2 208 [vR 70, vR 12, vU, vR 72, vI (w32 (x4 + 1)), vI x5, vI (iand (c2 13 x4) 15), vI (ishr (c2 13 x4) 4)] [] (SH T, c2) := by
  refine (ev_eq _ _ _ _ _ _).trans ?_
  refine (if_pos h1).trans ?_
  refine (el_call rfl h2).trans ?_
  refine (if_neg h3).trans ?_
  refine (if_pos h4).trans ?_
  refine (if_pos h5).trans ?_
  refine (if_neg h6).trans ?_
  refine (if_neg h7).trans ?_
  refine (ev_eq _ _ _ _ _ _).trans ?_
  refine (if_neg h8).trans ?_
  refine (ev_eq _ _ _ _ _ _).trans ?_
  refine (if_neg h9).trans ?_
  refine (ev_eq _ _ _ _ _ _).trans ?_
  refine (if_neg h10).trans ?_
  refine (ev_eq _ _ _ _ _ _).trans ?_
  refine (if_pos h11).trans ?_
  rfl
theorem B_X3_worksb_11_8 {T : List Shp} {c : Nat → Int → Int} {x4 x5 : Int} {r1 : Int} {c2 : Nat → Int → Int} (h1 : x5 < 450) (h2 : cal 177 [vI x4, vI (c 11 3)] (SH T, c) = some (some (vI r1), (SH T, c2))) (h3 : ¬ r1 = 0) (h4 : 0 ≤ x4 ∧ x4 < 450) (h5 : 0 ≤ x4 ∧ x4 < 450) (h6 : ¬ (iand (c2 13 x4) 15) = 0) (h7 : ¬ (iand (c2 13 x4) 15) = 1) (h8 : ¬ (c2 69 1) < 1) (h9 : ¬ (iand (c2 13 x4) 15) = 12) (h10 : ¬ (iand (c2 13 x4) 15) = 9) (h11 : ¬ (iand (c2 13 x4) 15) = 10) (h12 : (iand (c2 13 x4) 15) = 11) : ev 20 2 11 [vR 70, vR 12, vU, vR 72, vI x4, vI x5, vU, vU] [] (SH T, c) = ev 20 2 208 [vR 70, vR 12, vU, vR 72, vI (w32 (x4 + 1)), vI x5, vI (iand (c2 13 x4) 15), vI (ishr (c2 13 x4) 4)] [] (SH T, c2) := by
  refine (ev_eq _ _ _ _ _ _).trans ?_
  refine (if_pos h1).trans ?_
  refine (el_call rfl h2).trans ?_
  refine (if_neg h3).trans ?_
  refine (if_pos h4).trans ?_
  refine (if_pos h5).trans ?_
  refine (if_neg h6).trans ?_
  refine (if_neg h7).trans ?_
  refine (ev_eq _ _ _ _ _ _).trans ?_
  refine (if_neg h8).trans ?_
  refine (ev_eq _ _ _ _ _ _).trans ?_
  refine (if_neg h9).trans ?_
  refine (ev_eq _ _ _ _ _ _).trans ?_
  refine (if_neg h10).trans ?_
  refine (ev_eq _ _ _ _ _ _).trans ?_
  refine (if_neg h11).trans ?_
  refine (if_pos h12).trans ?_
  rfl
theorem B_X3_worksb_11_9 {T : List Shp} {c : Nat → Int → Int} {x4 x5 : Int} {r1 : Int} {c2 : Nat → Int → Int} {r3 : Int} {c4 : Nat → Int → Int} (h1 : x5 < 450) (h2 : cal 177 [vI x4, vI (c 11 3)] (SH T, c) = some (some (vI r1), (SH T, c2))) (h3 : ¬ r1 = 0) (h4 : 0 ≤ x4 ∧ x4 < 450) (h5 : 0 ≤ x4 ∧ x4 < 450) (h6 : ¬ (iand (c2 13 x4) 15) = 0) (h7 : ¬ (iand (c2 13 x4) 15) = 1) (h8 : ¬ (c2 69 1) < 1) (h9 : ¬ (iand (c2 13 x4) 15) = 12) (h10 : ¬ (iand (c2 13 x4) 15) = 9) (h11 : ¬ (iand (c2 13 x4) 15) = 10) (h12 : ¬ (iand (c2 13 x4) 15) = 11) (h13 : cal 21 [vR 70, vI (iand (c2 13 x4) 15)] (SH T, c2) = some (some (vI r3), (SH T, c4))) (h14 : r3 = 0) : ev 20 2 11 [vR 70, vR 12, vU, vR 72, vI x4, vI x5, vU, vU] [] (SH T, c) = some (some (vI 0), (SH T, c4)) := by
  refine (ev_eq _ _ _ _ _ _).trans ?_
  refine (if_pos h1).trans ?_
  refine (el_call rfl h2).trans ?_
  refine (if_neg h3).trans ?_
  refine (if_pos h4).trans ?_
  refine (if_pos h5).trans ?_
  refine (if_neg h6).trans ?_
  refine (if_neg h7).trans ?_
  refine (ev_eq _ _ _ _ _ _).trans ?_
  refine (if_neg h8).trans ?_
  refine (ev_eq _ _ _ _ _ _).trans ?_
  refine (if_neg h9).trans ?_
  refine (ev_eq _ _ _ _ _ _).trans ?_
  refine (if_neg h10).trans ?_
  refine (ev_eq _ _ _ _ _ _).trans ?_
  refine (if_neg h11).trans ?_
  refine (if_neg h12).trans ?_
  refine (ev_eq _ _ _ _ _ _).trans ?_
  refine (el_call rfl h13).trans ?_
  refine (if_pos h14).trans ?_
  rfl
theorem B_X3_worksb_11_10 {T : List Shp} {c : Nat → Int → Int} {x4 x5 : Int} {r1 : Int} {c2 : Nat → Int → Int} {r3 : Int} {c4 : Nat → Int → Int} (h1 : x5 < 450) (h2 : cal 177 [vI x4, vI (c 11 3)] (SH T, c) = some (some (vI r1), (SH T, c2))) (h3 : ¬ r1 = 0) (h4 : 0 ≤ x4 ∧ x4 < 450) (h5 : 0 ≤ x4 ∧ x4 < 450) (h6 : ¬ (iand (c2 13 x4) 15) = 0) (h7 : ¬ (iand (c2 13 x4) 15) = 1) (h8 : ¬ (c2 69 1) < 1) (h9 : ¬ (iand (c2 13 x4) 15) = 12) (h10 : ¬ (iand (c2 13 x4) 15) = 9) (h11 : ¬ (iand (c2 13 x4) 15) = 10) (h12 : ¬ (iand (c2 13 x4) 15) = 11) (h13 : cal 21 [vR 70, vI (iand (c2 13 x4) 15)] (SH T, c2) = some (some (vI r3), (SH T, c4))) (h14 : ¬ r3 = 0) : ev 20 2 11 [vR 70, vR 12, vU, vR 72, vI x4, vI x5, vU, vU] [] (SH T, c) = ev 20 2 265 [vR 70, vR 12, vU, vR 72, vI (w32 (x4 + 1)), vI x5, vU, vU] [] (SH T, c4) := by
  refine (ev_eq _ _ _ _ _ _).trans ?_
  refine (if_pos h1).trans ?_
  refine (el_call rfl h2).trans ?_
  refine (if_neg h3).trans ?_
  refine (if_pos h4).trans ?_
  refine (if_pos h5).trans ?_
  refine (if_neg h6).trans ?_
  refine (if_neg h7).trans ?_
  refine (ev_eq _ _ _ _ _ _).trans ?_
  refine (if_neg h8).trans ?_
  refine (ev_eq _ _ _ _ _ _).trans ?_
  refine (if_neg h9).trans ?_
  refine (ev_eq _ _ _ _ _ _).trans ?_
  refine (if_neg h10).trans ?_
  refine (ev_eq _ _ _ _ _ _).trans ?_
  refine (if_neg h11).trans ?_
  refine (if_neg h12).trans ?_
  refine (ev_eq _ _ _ _ _ _).trans ?_
  refine (el_call rfl h13).trans ?_
  refine (if_neg h14).trans ?_
  rfl
theorem B_X3_worksb_11_11 {T : List Shp} {c : Nat → Int → Int} {x4 x5 : Int} (h1 : ¬ x5 < 450) : ev 20 2 11 [vR 70, vR 12, vU, vR 72, vI x4, vI x5, vU, vU] [] (SH T, c) = some (some (vI 0), (SH T, c)) := by
  refine (ev_eq _ _ _ _ _ _).trans ?_
  refine (if_neg h1).trans ?_
  refine (ev_eq _ _ _ _ _ _).trans ?_
  rfl
theorem B_X3_worksb_68_1 {T : List Shp} {c : Nat → Int → Int} {x4 x5 x6 x7 : Int} (h1 : (c 69 1) < 100) (h2 : x6 = 1) (h3 : x7 < 18) : ev 20 2 68 [vR 70, vR 12, vU, vR 72, vI x4, vI x5, vI x6, vI x7] [] (SH T, c) = ev 20 2 95 [vR 70, vR 12, vU, vR 72, vI x4, vI x5, vI x6, vI x7] [] (SH T, c) := by
  refine (ev_eq _ _ _ _ _ _).trans ?_
  refine (if_pos h1).trans ?_
  refine (if_pos h2).trans ?_
  refine (if_pos h3).trans ?_
  rfl
theorem B_X3_worksb_68_2 {T : List Shp} {c : Nat → Int → Int} {x4 x5 x6 x7 : Int} (h1 : (c 69 1) < 100) (h2 : x6 = 1) (h3 : ¬ x7 < 18) : ev 20 2 68 [vR 70, vR 12, vU, vR 72, vI x4, vI x5, vI x6, vI x7] [] (SH T, c) = some (some (vI 0), (SH T, c)) := by
  refine (ev_eq _ _ _ _ _ _).trans ?_
  refine (if_pos h1).trans ?_
  refine (if_pos h2).trans ?_
  refine (if_neg h3).trans ?_
  refine (ev_eq _ _ _ _ _ _).trans ?_
  rfl
theorem B_X3_worksb_68_3 {T : List Shp} {c : Nat → Int → Int} {x4 x5 x6 x7 : Int} (h1 : (c 69 1) < 100) (h2 : ¬ x6 = 1) : ev 20 2 68 [vR 70, vR 12, vU, vR 72, vI x4, vI x5, vI x6, vI x7] [] (SH T, c) = ev 20 2 95 [vR 70, vR 12, vU, vR 72, vI x4, vI x5, vI x6, vI x7] [] (SH T, c) := by
  refine (ev_eq _ _ _ _ _ _).trans ?_
  refine (if_pos h1).trans ?_
  refine (if_neg h2).trans ?_
  rfl
theorem B_X3_worksb_68_4 {T : List Shp} {c : Nat → Int → Int} {x4 x5 x6 x7 : Int} (h1 : ¬ (c 69 1) < 100) : ev 20 2 68 [vR 70, vR 12, vU, vR 72, vI x4, vI x5, vI x6, vI x7] [] (SH T, c) = some (some (vI 0), (SH T, c)) := by
  refine (ev_eq _ _ _ _ _ _).trans ?_
  refine (if_neg h1).trans ?_
  refine (ev_eq _ _ _ _ _ _).trans ?_
  rfl
theorem B_X3_worksb_95_1 {T : List Shp} {c : Nat → Int → Int} {x4 x5 x6 x7 : Int} (h1 : x6 = 0) : ev 20 2 95 [vR 70, vR 12, vU, vR 72, vI x4, vI x5, vI x6, vI x7] [] (SH T, c) = ev 20 2 117 [vR 70, vR 12, vU, vR 72, vI x4, vI x5, vU, vU] [vI x7, vI (c 69 1), vR 71] (SH T, c) := by
  refine (ev_eq _ _ _ _ _ _).trans ?_
  refine (if_pos h1).trans ?_
  rfl
theorem B_X3_worksb_95_2 {T : List Shp} {c : Nat → Int → Int} {x4 x5 x6 x7 : Int} (h1 : ¬ x6 = 0) (h2 : 0 ≤ x7 ∧ x7 < 18) : ev 20 2 95 [vR 70, vR 12, vU, vR 72, vI x4, vI x5, vI x6, vI x7] [] (SH T, c) = ev 20 2 117 [vR 70, vR 12, vU, vR 72, vI x4, vI x5, vU, vU] [vI (c 71 x7), vI (c 69 1), vR 71] (SH T, c) := by
  refine (ev_eq _ _ _ _ _ _).trans ?_
  refine (if_neg h1).trans ?_
  refine (ev_eq _ _ _ _ _ _).trans ?_
  refine (if_pos h2).trans ?_
  rfl
theorem B_X3_worksb_117 {T : List Shp} {c : Nat → Int → Int} {x4 x5 y0 y1 : Int} (h1 : 0 ≤ y1 ∧ y1 < 100) : ev 20 2 117 [vR 70, vR 12, vU, vR 72, vI x4, vI x5, vU, vU] [vI y0, vI y1, vR 71] (SH T, c) = ev 20 2 265 [vR 70, vR 12, vU, vR 72, vI x4, vI x5, vU, vU] [] (SH T, (up (up c 70 y1 y0) 69 1 (w32 ((c 69 1) + 1)))) := by
  refine (ev_eq _ _ _ _ _ _).trans ?_
  refine (if_pos h1).trans ?_
  rfl
theorem B_X3_worksb_208_1 {T : List Shp} {c : Nat → Int → Int} {x4 x5 x6 x7 : Int} (h1 : 0 ≤ (w32 ((c 69 1) - 1)) ∧ (w32 ((c 69 1) - 1)) < 100) (h2 : x6 = 10) : ev 20 2 208 [vR 70, vR 12, vU, vR 72, vI x4, vI x5, vI x6, vI x7] [] (SH T, c) = ev 20 2 231 [vR 70, vR 12, vU, vR 72, vI x4, vI x5, vU, vI x7] [vI 1, vI (c 70 (w32 ((c 69 1) - 1)))] (SH T, c) := by
  refine (ev_eq _ _ _ _ _ _).trans ?_
  refine (if_pos h1).trans ?_
  refine (if_pos h2).trans ?_
  rfl
theorem B_X3_worksb_208_2 {T : List Shp} {c : Nat → Int → Int} {x4 x5 x6 x7 : Int} (h1 : 0 ≤ (w32 ((c 69 1) - 1)) ∧ (w32 ((c 69 1) - 1)) < 100) (h2 : ¬ x6 = 10) : ev 20 2 208 [vR 70, vR 12, vU, vR 72, vI x4, vI x5, vI x6, vI x7] [] (SH T, c) = ev 20 2 231 [vR 70, vR 12, vU, vR 72, vI x4, vI x5, vU, vI x7] [vI 0, vI (c 70 (w32 ((c 69 1) - 1)))] (SH T, c) := by
  refine (ev_eq _ _ _ _ _ _).trans ?_
  refine (if_pos h1).trans ?_
  refine (if_neg h2).trans ?_
  refine (ev_eq _ _ _ _ _ _).trans ?_
  rfl
theorem B_X3_worksb_231_1 {T : List Shp} {c : Nat → Int → Int} {x4 x5 x7 y0 y1 : Int} (h1 : y1 = y0) : ev 20 2 231 [vR 70, vR 12, vU, vR 72, vI x4, vI x5, vU, vI x7] [vI y0, vI y1] (SH T, c) = ev 20 2 265 [vR 70, vR 12, vU, vR 72, vI x7, vI x5, vU, vU] [] (SH T, c) := by
  refine (ev_eq _ _ _ _ _ _).trans ?_
  refine (if_pos h1).trans ?_
  rfl
theorem B_X3_worksb_231_2 {T : List Shp} {c : Nat → Int → Int} {x4 x5 x7 y0 y1 : Int} (h1 : ¬ y1 = y0) : ev 20 2 231 [vR 70, vR 12, vU, vR 72, vI x4, vI x5, vU, vI x7] [vI y0, vI y1] (SH T, c) = ev 20 2 265 [vR 70, vR 12, vU, vR 72, vI x4, vI x5, vU, vU] [] (SH T, (up c 69 1 (w32 ((c 69 1) - 1)))) := by
  refine (ev_eq _ _ _ _ _ _).trans ?_
  refine (if_neg h1).trans ?_
  refine (ev_eq _ _ _ _ _ _).trans ?_
  rfl
theorem B_X3_worksb_265 {T : List Shp} {c : Nat → Int → Int} {x4 x5 : Int}  : ev 20 2 265 [vR 70, vR 12, vU, vR 72, vI x4, vI x5, vU, vU] [] (SH T, c) = ev 20 2 11 [vR 70, vR 12, vU, vR 72, vI x4, vI (w32 (x5 + 1)), vU, vU] [] (SH T, c) := by
  refine (ev_eq _ _ _ _ _ _).trans ?_
  rfl
theorem E_X3_joinsa_1 {T : List Shp} {c : Nat → Int → Int} {x1 : Int} (h1 : (c 15 1) < 2) : cal 21 [vR 16, vI x1] (SH T, c) = some (some (vI 0), (SH T, c)) := by
  refine (ev_eq _ _ _ _ _ _).trans ?_
  refine (if_pos h1).trans ?_
  rfl
theorem E_X3_joinsa_2 {T : List Shp} {c : Nat → Int → Int} {x1 : Int} (h1 : ¬ (c 15 1) < 2) (h2 : 0 ≤ (w32 ((c 15 1) - 2)) ∧ (w32 ((c 15 1) - 2)) < 100) (h3 : 0 ≤ (w32 ((c 15 1) - 1)) ∧ (w32 ((c 15 1) - 1)) < 100) (h4 : x1 = 5) (h5 : (c 16 (w32 ((c 15 1) - 1))) < 0) : cal 21 [vR 16, vI x1] (SH T, c) = ev 21 1 51 [vR 16, vI x1, vL (c 16 (w32 ((c 15 1) - 2))), vU, vL (c 16 (w32 ((c 15 1) - 1))), vU, vU, vU] [] (SH T, c) := by
  refine (ev_eq _ _ _ _ _ _).trans ?_
  refine (if_neg h1).trans ?_
  refine (ev_eq _ _ _ _ _ _).trans ?_
  refine (if_pos h2).trans ?_
  refine (if_pos h3).trans ?_
  refine (if_pos h4).trans ?_
  refine (if_pos h5).trans ?_
  rfl
theorem E_X3_joinsa_3 {T : List Shp} {c : Nat → Int → Int} {x1 : Int} (h1 : ¬ (c 15 1) < 2) (h2 : 0 ≤ (w32 ((c 15 1) - 2)) ∧ (w32 ((c 15 1) - 2)) < 100) (h3 : 0 ≤ (w32 ((c 15 1) - 1)) ∧ (w32 ((c 15 1) - 1)) < 100) (h4 : x1 = 5) (h5 : (c 16 (w32 ((c 15 1) - 1))) = 0) : cal 21 [vR 16, vI x1] (SH T, c) = some (some (vI 0), (SH T, c)) := by
  refine (ev_eq _ _ _ _ _ _).trans ?_
  refine (if_neg h1).trans ?_
  refine (ev_eq _ _ _ _ _ _).trans ?_
  refine (if_pos h2).trans ?_
  refine (if_pos h3).trans ?_
  refine (if_pos h4).trans ?_
  refine (if_neg (by omega)).trans ?_
  refine (if_pos h5).trans ?_
  rfl
theorem E_X3_joinsa_4 {T : List Shp} {c : Nat → Int → Int} {x1 : Int} (h1 : ¬ (c 15 1) < 2) (h2 : 0 ≤ (w32 ((c 15 1) - 2)) ∧ (w32 ((c 15 1) - 2)) < 100) (h3 : 0 ≤ (w32 ((c 15 1) - 1)) ∧ (w32 ((c 15 1) - 1)) < 100) (h4 : x1 = 5) (h5 : ¬ (c 16 (w32 ((c 15 1) - 1))) < 0 ∧ ¬ (c 16 (w32 ((c 15 1) - 1))) = 0) : cal 21 [vR 16, vI x1] (SH T, c) = ev 21 1 51 [vR 16, vI x1, vL (c 16 (w32 ((c 15 1) - 2))), vU, vL (c 16 (w32 ((c 15 1) - 1))), vU, vU, vU] [] (SH T, c) := by
  refine (ev_eq _ _ _ _ _ _).trans ?_
  refine (if_neg h1).trans ?_
  refine (ev_eq _ _ _ _ _ _).trans ?_
  refine (if_pos h2).trans ?_
  refine (if_pos h3).trans ?_
  refine (if_pos h4).trans ?_
  refine (if_neg h5.1).trans ?_
  refine (if_neg h5.2).trans ?_
  rfl
theorem E_X3_joinsa_5 {T : List Shp} {c : Nat → Int → Int} {x1 : Int} (h1 : ¬ (c 15 1) < 2) (h2 : 0 ≤ (w32 ((c 15 1) - 2)) ∧ (w32 ((c 15 1) - 2)) < 100) (h3 : 0 ≤ (w32 ((c 15 1) - 1)) ∧ (w32 ((c 15 1) - 1)) < 100) (h4 : ¬ x1 = 5) : cal 21 [vR 16, vI x1] (SH T, c) = ev 21 1 51 [vR 16, vI x1, vL (c 16 (w32 ((c 15 1) - 2))), vU, vL (c 16 (w32 ((c 15 1) - 1))), vU, vU, vU] [] (SH T, c) := by
  refine (ev_eq _ _ _ _ _ _).trans ?_
  refine (if_neg h1).trans ?_
  refine (ev_eq _ _ _ _ _ _).trans ?_
  refine (if_pos h2).trans ?_
  refine (if_pos h3).trans ?_
  refine (if_neg h4).trans ?_
  rfl
theorem B_X3_joinsa_51_1 {T : List Shp} {c : Nat → Int → Int} {x1 x2 x4 : Int} (h1 : x1 = 2) : ev 21 1 51 [vR 16, vI x1, vL x2, vU, vL x4, vU, vU, vU] [] (SH T, c) = ev 21 1 187 [vR 16, vU, vU, vU, vU, vU, vL (w64 (x2 + x4)), vU] [] (SH T, c) := by
  refine (ev_eq _ _ _ _ _ _).trans ?_
  refine (if_pos h1).trans ?_
  refine (ev_eq _ _ _ _ _ _).trans ?_
  rfl
theorem B_X3_joinsa_51_2 {T : List Shp} {c : Nat → Int → Int} {x1 x2 x4 : Int} (h1 : x1 = 3) : ev 21 1 51 [vR 16, vI x1, vL x2, vU, vL x4, vU, vU, vU] [] (SH T, c) = ev 21 1 187 [vR 16, vU, vU, vU, vU, vU, vL (w64 (x2 - x4)), vU] [] (SH T, c) := by
  refine (ev_eq _ _ _ _ _ _).trans ?_
  refine (if_neg (by omega)).trans ?_
  refine (if_pos h1).trans ?_
  refine (ev_eq _ _ _ _ _ _).trans ?_
  rfl
theorem B_X3_joinsa_51_3 {T : List Shp} {c : Nat → Int → Int} {x1 x2 x4 : Int} (h1 : x1 = 4) : ev 21 1 51 [vR 16, vI x1, vL x2, vU, vL x4, vU, vU, vU] [] (SH T, c) = ev 21 1 187 [vR 16, vU, vU, vU, vU, vU, vL (w64 (x2 * x4)), vU] [] (SH T, c) := by
  refine (ev_eq _ _ _ _ _ _).trans ?_
  refine (if_neg (by omega)).trans ?_
  refine (if_neg (by omega)).trans ?_
  refine (if_pos h1).trans ?_
  refine (ev_eq _ _ _ _ _ _).trans ?_
  rfl
theorem B_X3_joinsa_51_4 {T : List Shp} {c : Nat → Int → Int} {x1 x2 x4 : Int} (h1 : x1 = 5) (h2 : x4 < 0) (h3 : ¬ x4 = 0) : ev 21 1 51 [vR 16, vI x1, vL x2, vU, vL x4, vU, vU, vU] [] (SH T, c) = ev 21 1 187 [vR 16, vU, vU, vU, vU, vU, vL (w64 (Int.tdiv x2 x4)), vU] [] (SH T, c) := by
  refine (ev_eq _ _ _ _ _ _).trans ?_
  refine (if_neg (by omega)).trans ?_
  refine (if_neg (by omega)).trans ?_
  refine (if_neg (by omega)).trans ?_
  refine (if_pos h1).trans ?_
  refine (ev_eq _ _ _ _ _ _).trans ?_
  refine (if_pos h2).trans ?_
  refine (ev_eq _ _ _ _ _ _).trans ?_
  refine (if_neg h3).trans ?_
  rfl
theorem B_X3_joinsa_51_5 {T : List Shp} {c : Nat → Int → Int} {x1 x2 x4 : Int} (h1 : x1 = 5) (h2 : x4 = 0) : ev 21 1 51 [vR 16, vI x1, vL x2, vU, vL x4, vU, vU, vU] [] (SH T, c) = ev 21 1 187 [vR 16, vU, vU, vU, vU, vU, vL 0, vU] [] (SH T, c) := by
  refine (ev_eq _ _ _ _ _ _).trans ?_
  refine (if_neg (by omega)).trans ?_
  refine (if_neg (by omega)).trans ?_
  refine (if_neg (by omega)).trans ?_
  refine (if_pos h1).trans ?_
  refine (ev_eq _ _ _ _ _ _).trans ?_
  refine (if_neg (by omega)).trans ?_
  refine (if_pos h2).trans ?_
  rfl
theorem B_X3_joinsa_51_6 {T : List Shp} {c : Nat → Int → Int} {x1 x2 x4 : Int} (h1 : x1 = 5) (h2 : ¬ x4 < 0 ∧ ¬ x4 = 0) (h3 : ¬ x4 = 0) : ev 21 1 51 [vR 16, vI x1, vL x2, vU, vL x4, vU, vU, vU] [] (SH T, c) = ev 21 1 187 [vR 16, vU, vU, vU, vU, vU, vL (w64 (Int.tdiv x2 x4)), vU] [] (SH T, c) := by
  refine (ev_eq _ _ _ _ _ _).trans ?_
  refine (if_neg (by omega)).trans ?_
  refine (if_neg (by omega)).trans ?_
  refine (if_neg (by omega)).trans ?_
  refine (if_pos h1).trans ?_
  refine (ev_eq _ _ _ _ _ _).trans ?_
  refine (if_neg h2.1).trans ?_
  refine (if_neg h2.2).trans ?_
  refine (ev_eq _ _ _ _ _ _).trans ?_
  refine (if_neg h3).trans ?_
  rfl
theorem B_X3_joinsa_51_7 {T : List Shp} {c : Nat → Int → Int} {x1 x2 x4 : Int} (h1 : x1 = 6) (h2 : x2 < x4) : ev 21 1 51 [vR 16, vI x1, vL x2, vU, vL x4, vU, vU, vU] [] (SH T, c) = ev 21 1 187 [vR 16, vU, vU, vU, vU, vU, vL 1, vU] [] (SH T, c) := by
  refine (ev_eq _ _ _ _ _ _).trans ?_
  refine (if_neg (by omega)).trans ?_
  refine (if_neg (by omega)).trans ?_
  refine (if_neg (by omega)).trans ?_
  refine (if_neg (by omega)).trans ?_
  refine (if_pos h1).trans ?_
  refine (ev_eq _ _ _ _ _ _).trans ?_
  refine (if_pos h2).trans ?_
  rfl
theorem B_X3_joinsa_51_8 {T : List Shp} {c : Nat → Int → Int} {x1 x2 x4 : Int} (h1 : x1 = 6) (h2 : x2 = x4) : ev 21 1 51 [vR 16, vI x1, vL x2, vU, vL x4, vU, vU, vU] [] (SH T, c) = ev 21 1 187 [vR 16, vU, vU, vU, vU, vU, vL 0, vU] [] (SH T, c) := by
  refine (ev_eq _ _ _ _ _ _).trans ?_
  refine (if_neg (by omega)).trans ?_
  refine (if_neg (by omega)).trans ?_
  refine (if_neg (by omega)).trans ?_
  refine (if_neg (by omega)).trans ?_
  refine (if_pos h1).trans ?_
  refine (ev_eq _ _ _ _ _ _).trans ?_
  refine (if_neg (by omega)).trans ?_
  refine (if_pos h2).trans ?_
  refine (ev_eq _ _ _ _ _ _).trans ?_
  rfl
theorem B_X3_joinsa_51_9 {T : List Shp} {c : Nat → Int → Int} {x1 x2 x4 : Int} (h1 : x1 = 6) (h2 : ¬ x2 < x4 ∧ ¬ x2 = x4) : ev 21 1 51 [vR 16, vI x1, vL x2, vU, vL x4, vU, vU, vU] [] (SH T, c) = ev 21 1 187 [vR 16, vU, vU, vU, vU, vU, vL 0, vU] [] (SH T, c) := by
  refine (ev_eq _ _ _ _ _ _).trans ?_
  refine (if_neg (by omega)).trans ?_
  refine (if_neg (by omega)).trans ?_
  refine (if_neg (by omega)).trans ?_
  refine (if_neg (by omega)).trans ?_
  refine (if_pos h1).trans ?_
  refine (ev_eq _ _ _ _ _ _).trans ?_
  refine (if_neg h2.1).trans ?_
  refine (if_neg h2.2).trans ?_
  refine (ev_eq _ _ _ _ _ _).trans ?_
  rfl
theorem B_X3_joinsa_51_10 {T : List Shp} {c : Nat → Int → Int} {x1 x2 x4 : Int} (h1 : x1 = 7) (h2 : x2 < x4) : ev 21 1 51 [vR 16, vI x1, vL x2, vU, vL x4, vU, vU, vU] [] (SH T, c) = ev 21 1 187 [vR 16, vU, vU, vU, vU, vU, vL 0, vU] [] (SH T, c) := by
  refine (ev_eq _ _ _ _ _ _).trans ?_
  refine (if_neg (by omega)).trans ?_
  refine (if_neg (by omega)).trans ?_
  refine (if_neg (by omega)).trans ?_
  refine (if_neg (by omega)).trans ?_
  refine (if_neg (by omega)).trans ?_
  refine (if_pos h1).trans ?_
  refine (ev_eq _ _ _ _ _ _).trans ?_
  refine (if_pos h2).trans ?_
  refine (ev_eq _ _ _ _ _ _).trans ?_
  rfl
theorem B_X3_joinsa_51_11 {T : List Shp} {c : Nat → Int → Int} {x1 x2 x4 : Int} (h1 : x1 = 7) (h2 : x2 = x4) : ev 21 1 51 [vR 16, vI x1, vL x2, vU, vL x4, vU, vU, vU] [] (SH T, c) = ev 21 1 187 [vR 16, vU, vU, vU, vU, vU, vL 0, vU] [] (SH T, c) := by
  refine (ev_eq _ _ _ _ _ _).trans ?_
  refine (if_neg (by omega)).trans ?_
  refine (if_neg (by omega)).trans ?_
  refine (if_neg (by omega)).trans ?_
  refine (if_neg (by omega)).trans ?_
  refine (if_neg (by omega)).trans ?_
  refine (if_pos h1).trans ?_
  refine (ev_eq _ _ _ _ _ _).trans ?_
  refine (if_neg (by omega)).trans ?_
  refine (if_pos h2).trans ?_
  refine (ev_eq _ _ _ _ _ _).trans ?_
  rfl
theorem B_X3_joinsa_51_12 {T : List Shp} {c : Nat → Int → Int} {x1 x2 x4 : Int} (h1 : x1 = 7) (h2 : ¬ x2 < x4 ∧ ¬ x2 = x4) : ev 21 1 51 [vR 16, vI x1, vL x2, vU, vL x4, vU, vU, vU] [] (SH T, c) = ev 21 1 187 [vR 16, vU, vU, vU, vU, vU, vL 1, vU] [] (SH T, c) := by
  refine (ev_eq _ _ _ _ _ _).trans ?_
  refine (if_neg (by omega)).trans ?_
  refine (if_neg (by omega)).trans ?_
  refine (if_neg (by omega)).trans ?_
  refine (if_neg (by omega)).trans ?_
  refine (if_neg (by omega)).trans ?_
  refine (if_pos h1).trans ?_
  refine (ev_eq _ _ _ _ _ _).trans ?_
  refine (if_neg h2.1).trans ?_
  refine (if_neg h2.2).trans ?_
  rfl
theorem B_X3_joinsa_51_13 {T : List Shp} {c : Nat → Int → Int} {x1 x2 x4 : Int} (h1 : ¬ x1 = 2 ∧ ¬ x1 = 3 ∧ ¬ x1 = 4 ∧ ¬ x1 = 5 ∧ ¬ x1 = 6 ∧ ¬ x1 = 7) (h2 : x2 < x4) : ev 21 1 51 [vR 16, vI x1, vL x2, vU, vL x4, vU, vU, vU] [] (SH T, c) = ev 21 1 187 [vR 16, vU, vU, vU, vU, vU, vL 0, vU] [] (SH T, c) := by
  refine (ev_eq _ _ _ _ _ _).trans ?_
  refine (if_neg (h1.1)).trans ?_
  refine (if_neg (h1.2.1)).trans ?_
  refine (if_neg (h1.2.2.1)).trans ?_
  refine (if_neg (h1.2.2.2.1)).trans ?_
  refine (if_neg (h1.2.2.2.2.1)).trans ?_
  refine (if_neg (h1.2.2.2.2.2)).trans ?_
  refine (ev_eq _ _ _ _ _ _).trans ?_
  refine (if_pos h2).trans ?_
  refine (ev_eq _ _ _ _ _ _).trans ?_
  rfl
theorem B_X3_joinsa_51_14 {T : List Shp} {c : Nat → Int → Int} {x1 x2 x4 : Int} (h1 : ¬ x1 = 2 ∧ ¬ x1 = 3 ∧ ¬ x1 = 4 ∧ ¬ x1 = 5 ∧ ¬ x1 = 6 ∧ ¬ x1 = 7) (h2 : x2 = x4) : ev 21 1 51 [vR 16, vI x1, vL x2, vU, vL x4, vU, vU, vU] [] (SH T, c) = ev 21 1 187 [vR 16, vU, vU, vU, vU, vU, vL 1, vU] [] (SH T, c) := by
  refine (ev_eq _ _ _ _ _ _).trans ?_
  refine (if_neg (h1.1)).trans ?_
  refine (if_neg (h1.2.1)).trans ?_
  refine (if_neg (h1.2.2.1)).trans ?_
  refine (if_neg (h1.2.2.2.1)).trans ?_
  refine (if_neg (h1.2.2.2.2.1)).trans ?_
  refine (if_neg (h1.2.2.2.2.2)).trans ?_
  refine (ev_eq _ _ _ _ _ _).trans ?_
  refine (if_neg (by omega)).trans ?_
  refine (if_pos h2).trans ?_
  rfl
theorem B_X3_joinsa_51_15 {T : List Shp} {c : Nat → Int → Int} {x1 x2 x4 : Int} (h1 : ¬ x1 = 2 ∧ ¬ x1 = 3 ∧ ¬ x1 = 4 ∧ ¬ x1 = 5 ∧ ¬ x1 = 6 ∧ ¬ x1 = 7) (h2 : ¬ x2 < x4 ∧ ¬ x2 = x4) : ev 21 1 51 [vR 16, vI x1, vL x2, vU, vL x4, vU, vU, vU] [] (SH T, c) = ev 21 1 187 [vR 16, vU, vU, vU, vU, vU, vL 0, vU] [] (SH T, c) := by
  refine (ev_eq _ _ _ _ _ _).trans ?_
  refine (if_neg (h1.1)).trans ?_
  refine (if_neg (h1.2.1)).trans ?_
  refine (if_neg (h1.2.2.1)).trans ?_
  refine (if_neg (h1.2.2.2.1)).trans ?_
  refine (if_neg (h1.2.2.2.2.1)).trans ?_
  refine (if_neg (h1.2.2.2.2.2)).trans ?_
  refine (ev_eq _ _ _ _ _ _).trans ?_
  refine (if_neg h2.1).trans ?_
  refine (if_neg h2.2).trans ?_
  refine (ev_eq _ _ _ _ _ _).trans ?_
  rfl
theorem B_X3_joinsa_187_1 {T : List Shp} {c : Nat → Int → Int} {x6 : Int} (h1 : x6 < 1000000000) (h2 : x6 < (-1000000000)) : ev 21 1 187 [vR 16, vU, vU, vU, vU, vU, vL x6, vU] [] (SH T, c) = some (some (vI 0), (SH T, c)) := by
  refine (ev_eq _ _ _ _ _ _).trans ?_
  refine (if_pos h1).trans ?_
  refine (if_pos h2).trans ?_
  refine (ev_eq _ _ _ _ _ _).trans ?_
  rfl
theorem B_X3_joinsa_187_2 {T : List Shp} {c : Nat → Int → Int} {x6 : Int} (h1 : x6 < 1000000000) (h2 : x6 = (-1000000000)) (h3 : 0 ≤ (w32 ((w32 ((c 15 1) - 1)) - 1)) ∧ (w32 ((w32 ((c 15 1) - 1)) - 1)) < 100) : ev 21 1 187 [vR 16, vU, vU, vU, vU, vU, vL x6, vU] [] (SH T, c) = some (some (vI 1), (SH T, (up (up c 15 1 (w32 ((c 15 1) - 1))) 16 (w32 ((w32 ((c 15 1) - 1)) - 1)) (w32 x6)))) := by
  refine (ev_eq _ _ _ _ _ _).trans ?_
  refine (if_pos h1).trans ?_
  refine (if_neg (by omega)).trans ?_
  refine (if_pos h2).trans ?_
  refine (ev_eq _ _ _ _ _ _).trans ?_
  refine (if_pos h3).trans ?_
  rfl
theorem B_X3_joinsa_187_3 {T : List Shp} {c : Nat → Int → Int} {x6 : Int} (h1 : x6 < 1000000000) (h2 : ¬ x6 < (-1000000000) ∧ ¬ x6 = (-1000000000)) (h3 : 0 ≤ (w32 ((w32 ((c 15 1) - 1)) - 1)) ∧ (w32 ((w32 ((c 15 1) - 1)) - 1)) < 100) : ev 21 1 187 [vR 16, vU, vU, vU, vU, vU, vL x6, vU] [] (SH T, c) = some (some (vI 1), (SH T, (up (up c 15 1 (w32 ((c 15 1) - 1))) 16 (w32 ((w32 ((c 15 1) - 1)) - 1)) (w32 x6)))) := by
  refine (ev_eq _ _ _ _ _ _).trans ?_
  refine (if_pos h1).trans ?_
  refine (if_neg h2.1).trans ?_
  refine (if_neg h2.2).trans ?_
  refine (ev_eq _ _ _ _ _ _).trans ?_
  refine (if_pos h3).trans ?_
  rfl
theorem B_X3_joinsa_187_4 {T : List Shp} {c : Nat → Int → Int} {x6 : Int} (h1 : x6 = 1000000000) (h2 : x6 < (-1000000000)) : ev 21 1 187 [vR 16, vU, vU, vU, vU, vU, vL x6, vU] [] (SH T, c) = some (some (vI 0), (SH T, c)) := by
  refine (ev_eq _ _ _ _ _ _).trans ?_
  refine (if_neg (by omega)).trans ?_
  refine (if_pos h1).trans ?_
  refine (if_pos h2).trans ?_
  refine (ev_eq _ _ _ _ _ _).trans ?_
  rfl
theorem B_X3_joinsa_187_5 {T : List Shp} {c : Nat → Int → Int} {x6 : Int} (h1 : x6 = 1000000000) (h2 : x6 = (-1000000000)) (h3 : 0 ≤ (w32 ((w32 ((c 15 1) - 1)) - 1)) ∧ (w32 ((w32 ((c 15 1) - 1)) - 1)) < 100) : ev 21 1 187 [vR 16, vU, vU, vU, vU, vU, vL x6, vU] [] (SH T, c) = some (some (vI 1), (SH T, (up (up c 15 1 (w32 ((c 15 1) - 1))) 16 (w32 ((w32 ((c 15 1) - 1)) - 1)) (w32 x6)))) := by
  refine (ev_eq _ _ _ _ _ _).trans ?_
  refine (if_neg (by omega)).trans ?_
  refine (if_pos h1).trans ?_
  refine (if_neg (by omega)).trans ?_
  refine (if_pos h2).trans ?_
  refine (ev_eq _ _ _ _ _ _).trans ?_
  refine (if_pos h3).trans ?_
  rfl
theorem B_X3_joinsa_187_6 {T : List Shp} {c : Nat → Int → Int} {x6 : Int} (h1 : x6 = 1000000000) (h2 : ¬ x6 < (-1000000000) ∧ ¬ x6 = (-1000000000)) (h3 : 0 ≤ (w32 ((w32 ((c 15 1) - 1)) - 1)) ∧ (w32 ((w32 ((c 15 1) - 1)) - 1)) < 100) : ev 21 1 187 [vR 16, vU, vU, vU, vU, vU, vL x6, vU] [] (SH T, c) = some (some (vI 1), (SH T, (up (up c 15 1 (w32 ((c 15 1) - 1))) 16 (w32 ((w32 ((c 15 1) - 1)) - 1)) (w32 x6)))) := by
  refine (ev_eq _ _ _ _ _ _).trans ?_
  refine (if_neg (by omega)).trans ?_
  refine (if_pos h1).trans ?_
  refine (if_neg h2.1).trans ?_
  refine (if_neg h2.2).trans ?_
  refine (ev_eq _ _ _ _ _ _).trans ?_
  refine (if_pos h3).trans ?_
  rfl
theorem B_X3_joinsa_187_7 {T : List Shp} {c : Nat → Int → Int} {x6 : Int} (h1 : ¬ x6 < 1000000000 ∧ ¬ x6 = 1000000000) : ev 21 1 187 [vR 16, vU, vU, vU, vU, vU, vL x6, vU] [] (SH T, c) = some (some (vI 0), (SH T, c)) := by
  refine (ev_eq _ _ _ _ _ _).trans ?_
  refine (if_neg h1.1).trans ?_
  refine (if_neg h1.2).trans ?_
  refine (ev_eq _ _ _ _ _ _).trans ?_
  rfl
theorem E_X3_joinsb_1 {T : List Shp} {c : Nat → Int → Int} {x1 : Int} (h1 : (c 69 1) < 2) : cal 21 [vR 70, vI x1] (SH T, c) = some (some (vI 0), (SH T, c)) := by
  refine (ev_eq _ _ _ _ _ _).trans ?_
  refine (if_pos h1).trans ?_
  rfl
theorem E_X3_joinsb_2 {T : List Shp} {c : Nat → Int → Int} {x1 : Int} (h1 : ¬ (c 69 1) < 2) (h2 : 0 ≤ (w32 ((c 69 1) - 2)) ∧ (w32 ((c 69 1) - 2)) < 100) (h3 : 0 ≤ (w32 ((c 69 1) - 1)) ∧ (w32 ((c 69 1) - 1)) < 100) (h4 : x1 = 5) (h5 : (c 70 (w32 ((c 69 1) - 1))) < 0) : cal 21 [vR 70, vI x1] (SH T, c) = ev 21 1 51 [vR 70, vI x1, vL (c 70 (w32 ((c 69 1) - 2))), vU, vL (c 70 (w32 ((c 69 1) - 1))), vU, vU, vU] [] (SH T, c) := by
  refine (ev_eq _ _ _ _ _ _).trans ?_
  refine (if_neg h1).trans ?_
  refine (ev_eq _ _ _ _ _ _).trans ?_
  refine (if_pos h2).trans ?_
  refine (if_pos h3).trans ?_
  refine (if_pos h4).trans ?_
  refine (if_pos h5).trans ?_
  rfl
theorem E_X3_joinsb_3 {T : List Shp} {c : Nat → Int → Int} {x1 : Int} (h1 : ¬ (c 69 1) < 2) (h2 : 0 ≤ (w32 ((c 69 1) - 2)) ∧ (w32 ((c 69 1) - 2)) < 100) (h3 : 0 ≤ (w32 ((c 69 1) - 1)) ∧ (w32 ((c 69 1) - 1)) < 100) (h4 : x1 = 5) (h5 : (c 70 (w32 ((c 69 1) - 1))) = 0) : cal 21 [vR 70, vI x1] (SH T, c) = some (some (vI 0), (SH T, c)) := by
  refine (ev_eq _ _ _ _ _ _).trans ?_
  refine (if_neg h1).trans ?_
  refine (ev_eq _ _ _ _ _ _).trans ?_
  refine (if_pos h2).trans ?_
  refine (if_pos h3).trans ?_
  refine (if_pos h4).trans ?_
  refine (if_neg (by omega)).trans ?_
  refine (if_pos h5).trans ?_
  rfl
theorem E_X3_joinsb_4 {T : List Shp} {c : Nat → Int → Int} {x1 : Int} (h1 : ¬ (c 69 1) < 2) (h2 : 0 ≤ (w32 ((c 69 1) - 2)) ∧ (w32 ((c 69 1) - 2)) < 100) (h3 : 0 ≤ (w32 ((c 69 1) - 1)) ∧ (w32 ((c 69 1) - 1)) < 100) (h4 : x1 = 5) (h5 : ¬ (c 70 (w32 ((c 69 1) - 1))) < 0 ∧ ¬ (c 70 (w32 ((c 69 1) - 1))) = 0) : cal 21 [vR 70, vI x1] (SH T, c) = ev 21 1 51 [vR 70, vI x1, vL (c 70 (w32 ((c 69 1) - 2))), vU, vL (c 70 (w32 ((c 69 1) - 1))), vU, vU, vU] [] (SH T, c) := by
  refine (ev_eq _ _ _ _ _ _).trans ?_
  refine (if_neg h1).trans ?_
  refine (ev_eq _ _ _ _ _ _).trans ?_
  refine (if_pos h2).trans ?_
  refine (if_pos h3).trans ?_
  refine (if_pos h4).trans ?_
  refine (if_neg h5.1).trans ?_
  refine (if_neg h5.2).trans ?_
  rfl
theorem E_X3_joinsb_5 {T : List Shp} {c : Nat → Int → Int} {x1 : Int} (h1 : ¬ (c 69 1) < 2) (h2 : 0 ≤ (w32 ((c 69 1) - 2)) ∧ (w32 ((c 69 1) - 2)) < 100) (h3 : 0 ≤ (w32 ((c 69 1) - 1)) ∧ (w32 ((c 69 1) - 1)) < 100) (h4 : ¬ x1 = 5) : cal 21 [vR 70, vI x1] (SH T, c) = ev 21 1 51 [vR 70, vI x1, vL (c 70 (w32 ((c 69 1) - 2))), vU, vL (c 70 (w32 ((c 69 1) - 1))), vU, vU, vU] [] (SH T, c) := by
  refine (ev_eq _ _ _ _ _ _).trans ?_
  refine (if_neg h1).trans ?_
  refine (ev_eq _ _ _ _ _ _).trans ?_
  refine (if_pos h2).trans ?_
  refine (if_pos h3).trans ?_
  refine (if_neg h4).trans ?_
  rfl
theorem B_X3_joinsb_51_1 {T : List Shp} {c : Nat → Int → Int} {x1 x2 x4 : Int} (h1 : x1 = 2) : ev 21 1 51 [vR 70, vI x1, vL x2, vU, vL x4, vU, vU, vU] [] (SH T, c) = ev 21 1 187 [vR 70, vU, vU, vU, vU, vU, vL (w64 (x2 + x4)), vU] [] (SH T, c) := by
  refine (ev_eq _ _ _ _ _ _).trans ?_
  refine (if_pos h1).trans ?_
  refine (ev_eq _ _ _ _ _ _).trans ?_
  rfl
theorem B_X3_joinsb_51_2 {T : List Shp} {c : Nat → Int → Int} {x1 x2 x4 : Int} (h1 : x1 = 3) : ev 21 1 51 [vR 70, vI x1, vL x2, vU, vL x4, vU, vU, vU] [] (SH T, c) = ev 21 1 187 [vR 70, vU, vU, vU, vU, vU, vL (w64 (x2 - x4)), vU] [] (SH T, c) := by
  refine (ev_eq _ _ _ _ _ _).trans ?_
  refine (if_neg (by omega)).trans ?_
  refine (if_pos h1).trans ?_
  refine (ev_eq _ _ _ _ _ _).trans ?_
  rfl
theorem B_X3_joinsb_51_3 {T : List Shp} {c : Nat → Int → Int} {x1 x2 x4 : Int} (h1 : x1 = 4) : ev 21 1 51 [vR 70, vI x1, vL x2, vU, vL x4, vU, vU, vU] [] (SH T, c) = ev 21 1 187 [vR 70, vU, vU, vU, vU, vU, vL (w64 (x2 * x4)), vU] [] (SH T, c) := by
  refine (ev_eq _ _ _ _ _ _).trans ?_
  refine (if_neg (by omega)).trans ?_
  refine (if_neg (by omega)).trans ?_
  refine (if_pos h1).trans ?_
  refine (ev_eq _ _ _ _ _ _).trans ?_
  rfl
theorem B_X3_joinsb_51_4 {T : List Shp} {c : Nat → Int → Int} {x1 x2 x4 : Int} (h1 : x1 = 5) (h2 : x4 < 0) (h3 : ¬ x4 = 0) : ev 21 1 51 [vR 70, vI x1, vL x2, vU, vL x4, vU, vU, vU] [] (SH T, c) = ev 21 1 187 [vR 70, vU, vU, vU, vU, vU, vL (w64 (Int.tdiv x2 x4)), vU] [] (SH T, c) := by
  refine (ev_eq _ _ _ _ _ _).trans ?_
  refine (if_neg (by omega)).trans ?_
  refine (if_neg (by omega)).trans ?_
  refine (if_neg (by omega)).trans ?_
  refine (if_pos h1).trans ?_
  refine (ev_eq _ _ _ _ _ _).trans ?_
  refine (if_pos h2).trans ?_
  refine (ev_eq _ _ _ _ _ _).trans ?_
  refine (if_neg h3).trans ?_
  rfl
theorem B_X3_joinsb_51_5 {T : List Shp} {c : Nat → Int → Int} {x1 x2 x4 : Int} (h1 : x1 = 5) (h2 : x4 = 0) : ev 21 1 51 [vR 70, vI x1, vL x2, vU, vL x4, vU, vU, vU] [] (SH T, c) = ev 21 1 187 [vR 70, vU, vU, vU, vU, vU, vL 0, vU] [] (SH T, c) := by
  refine (ev_eq _ _ _ _ _ _).trans ?_
  refine (if_neg (by omega)).trans ?_
  refine (if_neg (by omega)).trans ?_
  refine (if_neg (by omega)).trans ?_
  refine (if_pos h1).trans ?_
  refine (ev_eq _ _ _ _ _ _).trans ?_
  refine (if_neg (by omega)).trans ?_
  refine (if_pos h2).trans ?_
  rfl
theorem B_X3_joinsb_51_6 {T : List Shp} {c : Nat → Int → Int} {x1 x2 x4 : Int} (h1 : x1 = 5) (h2 : ¬ x4 < 0 ∧ ¬ x4 = 0) (h3 : ¬ x4 = 0) : ev 21 1 51 [vR 70, vI x1, vL x2, vU, vL x4, vU, vU, vU] [] (SH T, c) = ev 21 1 187 [vR 70, vU, vU, vU, vU, vU, vL (w64 (Int.tdiv x2 x4)), vU] [] (SH T, c) := by
  refine (ev_eq _ _ _ _ _ _).trans ?_
  refine (if_neg (by omega)).trans ?_
  refine (if_neg (by omega)).trans ?_
  refine (if_neg (by omega)).trans ?_
  refine (if_pos h1).trans ?_
  refine (ev_eq _ _ _ _ _ _).trans ?_
  refine (if_neg h2.1).trans ?_
  refine (if_neg h2.2).trans ?_
  refine (ev_eq _ _ _ _ _ _).trans ?_
  refine (if_neg h3).trans ?_
  rfl
theorem B_X3_joinsb_51_7 {T : List Shp} {c : Nat → Int → Int} {x1 x2 x4 : Int} (h1 : x1 = 6) (h2 : x2 < x4) : ev 21 1 51 [vR 70, vI x1, vL x2, vU, vL x4, vU, vU, vU] [] (SH T, c) = ev 21 1 187 [vR 70, vU, vU, vU, vU, vU, vL 1, vU] [] (SH T, c) := by
  refine (ev_eq _ _ _ _ _ _).trans ?_
  refine (if_neg (by omega)).trans ?_
  refine (if_neg (by omega)).trans ?_
  refine (if_neg (by omega)).trans ?_
  refine (if_neg (by omega)).trans ?_
  refine (if_pos h1).trans ?_
  refine (ev_eq _ _ _ _ _ _).trans ?_
  refine (if_pos h2).trans ?_
  rfl
theorem B_X3_joinsb_51_8 {T : List Shp} {c : Nat → Int → Int} {x1 x2 x4 : Int} (h1 : x1 = 6) (h2 : x2 = x4) : ev 21 1 51 [vR 70, vI x1, vL x2, vU, vL x4, vU, vU, vU] [] (SH T, c) = ev 21 1 187 [vR 70, vU, vU, vU, vU, vU, vL 0, vU] [] (SH T, c) := by
  refine (ev_eq _ _ _ _ _ _).trans ?_
  refine (if_neg (by omega)).trans ?_
  refine (if_neg (by omega)).trans ?_
  refine (if_neg (by omega)).trans ?_
  refine (if_neg (by omega)).trans ?_
  refine (if_pos h1).trans ?_
  refine (ev_eq _ _ _ _ _ _).trans ?_
  refine (if_neg (by omega)).trans ?_
  refine (if_pos h2).trans ?_
  refine (ev_eq _ _ _ _ _ _).trans ?_
  rfl
theorem B_X3_joinsb_51_9 {T : List Shp} {c : Nat → Int → Int} {x1 x2 x4 : Int} (h1 : x1 = 6) (h2 : ¬ x2 < x4 ∧ ¬ x2 = x4) : ev 21 1 51 [vR 70, vI x1, vL x2, vU, vL x4, vU, vU, vU] [] (SH T, c) = ev 21 1 187 [vR 70, vU, vU, vU, vU, vU, vL 0, vU] [] (SH T, c) := by
  refine (ev_eq _ _ _ _ _ _).trans ?_
  refine (if_neg (by omega)).trans ?_
  refine (if_neg (by omega)).trans ?_
  refine (if_neg (by omega)).trans ?_
  refine (if_neg (by omega)).trans ?_
  refine (if_pos h1).trans ?_
  refine (ev_eq _ _ _ _ _ _).trans ?_
  refine (if_neg h2.1).trans ?_
  refine (if_neg h2.2).trans ?_
  refine (ev_eq _ _ _ _ _ _).trans ?_
  rfl
theorem B_X3_joinsb_51_10 {T : List Shp} {c : Nat → Int → Int} {x1 x2 x4 : Int} (h1 : x1 = 7) (h2 : x2 < x4) : ev 21 1 51 [vR 70, vI x1, vL x2, vU, vL x4, vU, vU, vU] [] (SH T, c) = ev 21 1 187 [vR 70, vU, vU, vU, vU, vU, vL 0, vU] [] (SH T, c) := by
  refine (ev_eq _ _ _ _ _ _).trans ?_
  refine (if_neg (by omega)).trans ?_
  refine (if_neg (by omega)).trans ?_
  refine (if_neg (by omega)).trans ?_
  refine (if_neg (by omega)).trans ?_
  refine (if_neg (by omega)).trans ?_
  refine (if_pos h1).trans ?_
  refine (ev_eq _ _ _ _ _ _).trans ?_
  refine (if_pos h2).trans ?_
  refine (ev_eq _ _ _ _ _ _).trans ?_
  rfl
theorem B_X3_joinsb_51_11 {T : List Shp} {c : Nat → Int → Int} {x1 x2 x4 : Int} (h1 : x1 = 7) (h2 : x2 = x4) : ev 21 1 51 [vR 70, vI x1, vL x2, vU, vL x4, vU, vU, vU] [] (SH T, c) = ev 21 1 187 [vR 70, vU, vU, vU, vU, vU, vL 0, vU] [] (SH T, c) := by
  refine (ev_eq _ _ _ _ _ _).trans ?_
  refine (if_neg (by omega)).trans ?_
  refine (if_neg (by omega)).trans ?_
  refine (if_neg (by omega)).trans ?_
  refine (if_neg (by omega)).trans ?_
  refine (if_neg (by omega)).trans ?_
  refine (if_pos h1).trans ?_
  refine (ev_eq _ _ _ _ _ _).trans ?_
  refine (if_neg (by omega)).trans ?_
  refine (if_pos h2).trans ?_
  refine (ev_eq _ _ _ _ _ _).trans ?_
  rfl
theorem B_X3_joinsb_51_12 {T : List Shp} {c : Nat → Int → Int} {x1 x2 x4 : Int} (h1 : x1 = 7) (h2 : ¬ x2 < x4 ∧ ¬ x2 = x4) : ev 21 1 51 [vR 70, vI x1, vL x2, vU, vL x4, vU, vU, vU] [] (SH T, c) = ev 21 1 187 [vR 70, vU, vU, vU, vU, vU, vL 1, vU] [] (SH T, c) := by
  refine (ev_eq _ _ _ _ _ _).trans ?_
  refine (if_neg (by omega)).trans ?_
  refine (if_neg (by omega)).trans ?_
  refine (if_neg (by omega)).trans ?_
  refine (if_neg (by omega)).trans ?_
  refine (if_neg (by omega)).trans ?_
  refine (if_pos h1).trans ?_
  refine (ev_eq _ _ _ _ _ _).trans ?_
  refine (if_neg h2.1).trans ?_
  refine (if_neg h2.2).trans ?_
  rfl
theorem B_X3_joinsb_51_13 {T : List Shp} {c : Nat → Int → Int} {x1 x2 x4 : Int} (h1 : ¬ x1 = 2 ∧ ¬ x1 = 3 ∧ ¬ x1 = 4 ∧ ¬ x1 = 5 ∧ ¬ x1 = 6 ∧ ¬ x1 = 7) (h2 : x2 < x4) : ev 21 1 51 [vR 70, vI x1, vL x2, vU, vL x4, vU, vU, vU] [] (SH T, c) = ev 21 1 187 [vR 70, vU, vU, vU, vU, vU, vL 0, vU] [] (SH T, c) := by
  refine (ev_eq _ _ _ _ _ _).trans ?_
  refine (if_neg (h1.1)).trans ?_
  refine (if_neg (h1.2.1)).trans ?_
  refine (if_neg (h1.2.2.1)).trans ?_
  refine (if_neg (h1.2.2.2.1)).trans ?_
  refine (if_neg (h1.2.2.2.2.1)).trans ?_
  refine (if_neg (h1.2.2.2.2.2)).trans ?_
  refine (ev_eq _ _ _ _ _ _).trans ?_
  refine (if_pos h2).trans ?_
  refine (ev_eq _ _ _ _ _ _).trans ?_
  rfl
theorem B_X3_joinsb_51_14 {T : List Shp} {c : Nat → Int → Int} {x1 x2 x4 : Int} (h1 : ¬ x1 = 2 ∧ ¬ x1 = 3 ∧ ¬ x1 = 4 ∧ ¬ x1 = 5 ∧ ¬ x1 = 6 ∧ ¬ x1 = 7) (h2 : x2 = x4) : ev 21 1 51 [vR 70, vI x1, vL x2, vU, vL x4, vU, vU, vU] [] (SH T, c) = ev 21 1 187 [vR 70, vU, vU, vU, vU, vU, vL 1, vU] [] (SH T, c) := by
  refine (ev_eq _ _ _ _ _ _).trans ?_
  refine (if_neg (h1.1)).trans ?_
  refine (if_neg (h1.2.1)).trans ?_
  refine (if_neg (h1.2.2.1)).trans ?_
  refine (if_neg (h1.2.2.2.1)).trans ?_
  refine (if_neg (h1.2.2.2.2.1)).trans ?_
  refine (if_neg (h1.2.2.2.2.2)).trans ?_
  refine (ev_eq _ _ _ _ _ _).trans ?_
  refine (if_neg (by omega)).trans ?_
  refine (if_pos h2).trans ?_
  rfl
theorem B_X3_joinsb_51_15 {T : List Shp} {c : Nat → Int → Int} {x1 x2 x4 : Int} (h1 : ¬ x1 = 2 ∧ ¬ x1 = 3 ∧ ¬ x1 = 4 ∧ ¬ x1 = 5 ∧ ¬ x1 = 6 ∧ ¬ x1 = 7) (h2 : ¬ x2 < x4 ∧ ¬ x2 = x4) : ev 21 1 51 [vR 70, vI x1, vL x2, vU, vL x4, vU, vU, vU] [] (SH T, c) = ev 21 1 187 [vR 70, vU, vU, vU, vU, vU, vL 0, vU] [] (SH T, c) := by
  refine (ev_eq _ _ _ _ _ _).trans ?_
  refine (if_neg (h1.1)).trans ?_
  refine (if_neg (h1.2.1)).trans ?_
  refine (if_neg (h1.2.2.1)).trans ?_
  refine (if_neg (h1.2.2.2.1)).trans ?_
  refine (if_neg (h1.2.2.2.2.1)).trans ?_
  refine (if_neg (h1.2.2.2.2.2)).trans ?_
  refine (ev_eq _ _ _ _ _ _).trans ?_
  refine (if_neg h2.1).trans ?_
  refine (if_neg h2.2).trans ?_
  refine (ev_eq _ _ _ _ _ _).trans ?_
  rfl
theorem B_X3_joinsb_187_1 {T : List Shp} {c : Nat → Int → Int} {x6 : Int} (h1 : x6 < 1000000000) (h2 : x6 < (-1000000000)) : ev 21 1 187 [vR 70, vU, vU, vU, vU, vU, vL x6, vU] [] (SH T, c) = some (some (vI 0), (SH T, c)) := by
  refine (ev_eq _ _ _ _ _ _).trans ?_
  refine (if_pos h1).trans ?_
  refine (if_pos h2).trans ?_
  refine (ev_eq _ _ _ _ _ _).trans ?_
  rfl
theorem B_X3_joinsb_187_2 {T : List Shp} {c : Nat → Int → Int} {x6 : Int} (h1 : x6 < 1000000000) (h2 : x6 = (-1000000000)) (h3 : 0 ≤ (w32 ((w32 ((c 69 1) - 1)) - 1)) ∧ (w32 ((w32 ((c 69 1) - 1)) - 1)) < 100) : ev 21 1 187 [vR 70, vU, vU, vU, vU, vU, vL x6, vU] [] (SH T, c) = some (some (vI 1), (SH T, (up (up c 69 1 (w32 ((c 69 1) - 1))) 70 (w32 ((w32 ((c 69 1) - 1)) - 1)) (w32 x6)))) := by
  refine (ev_eq _ _ _ _ _ _).trans ?_
  refine (if_pos h1).trans ?_
  refine (if_neg (by omega)).trans ?_
  refine (if_pos h2).trans ?_
  refine (ev_eq _ _ _ _ _ _).trans ?_
  refine (if_pos h3).trans ?_
  rfl
theorem B_X3_joinsb_187_3 {T : List Shp} {c : Nat → Int → Int} {x6 : Int} (h1 : x6 < 1000000000) (h2 : ¬ x6 < (-1000000000) ∧ ¬ x6 = (-1000000000)) (h3 : 0 ≤ (w32 ((w32 ((c 69 1) - 1)) - 1)) ∧ (w32 ((w32 ((c 69 1) - 1)) - 1)) < 100) : ev 21 1 187 [vR 70, vU, vU, vU, vU, vU, vL x6, vU] [] (SH T, c) = some (some (vI 1), (SH T, (up (up c 69 1 (w32 ((c 69 1) - 1))) 70 (w32 ((w32 ((c 69 1) - 1)) - 1)) (w32 x6)))) := by
  refine (ev_eq _ _ _ _ _ _).trans ?_
  refine (if_pos h1).trans ?_
  refine (if_neg h2.1).trans ?_
  refine (if_neg h2.2).trans ?_
  refine (ev_eq _ _ _ _ _ _).trans ?_
  refine (if_pos h3).trans ?_
  rfl
theorem B_X3_joinsb_187_4 {T : List Shp} {c : Nat → Int → Int} {x6 : Int} (h1 : x6 = 1000000000) (h2 : x6 < (-1000000000)) : ev 21 1 187 [vR 70, vU, vU, vU, vU, vU, vL x6, vU] [] (SH T, c) = some (some (vI 0), (SH T, c)) := by
  refine (ev_eq _ _ _ _ _ _).trans ?_
  refine (if_neg (by omega)).trans ?_
  refine (if_pos h1).trans ?_
  refine (if_pos h2).trans ?_
  refine (ev_eq _ _ _ _ _ _).trans ?_
  rfl
theorem B_X3_joinsb_187_5 {T : List Shp} {c : Nat → Int → Int} {x6 : Int} (h1 : x6 = 1000000000) (h2 : x6 = (-1000000000)) (h3 : 0 ≤ (w32 ((w32 ((c 69 1) - 1)) - 1)) ∧ (w32 ((w32 ((c 69 1) - 1)) - 1)) < 100) : ev 21 1 187 [vR 70, vU, vU, vU, vU, vU, vL x6, vU] [] (SH T, c) = some (some (vI 1), (SH T, (up (up c 69 1 (w32 ((c 69 1) - 1))) 70 (w32 ((w32 ((c 69 1) - 1)) - 1)) (w32 x6)))) := by
  refine (ev_eq _ _ _ _ _ _).trans ?_
  refine (if_neg (by omega)).trans ?_
  refine (if_pos h1).trans ?_
  refine (if_neg (by omega)).trans ?_
  refine (if_pos h2).trans ?_
  refine (ev_eq _ _ _ _ _ _).trans ?_
  refine (if_pos h3).trans ?_
  rfl
theorem B_X3_joinsb_187_6 {T : List Shp} {c : Nat → Int → Int} {x6 : Int} (h1 : x6 = 1000000000) (h2 : ¬ x6 < (-1000000000) ∧ ¬ x6 = (-1000000000)) (h3 : 0 ≤ (w32 ((w32 ((c 69 1) - 1)) - 1)) ∧ (w32 ((w32 ((c 69 1) - 1)) - 1)) < 100) : ev 21 1 187 [vR 70, vU, vU, vU, vU, vU, vL x6, vU] [] (SH T, c) = some (some (vI 1), (SH T, (up (up c 69 1 (w32 ((c 69 1) - 1))) 70 (w32 ((w32 ((c 69 1) - 1)) - 1)) (w32 x6)))) := by
  refine (ev_eq _ _ _ _ _ _).trans ?_
  refine (if_neg (by omega)).trans ?_
  refine (if_pos h1).trans ?_
  refine (if_neg h2.1).trans ?_
  refine (if_neg h2.2).trans ?_
  refine (ev_eq _ _ _ _ _ _).trans ?_
  refine (if_pos h3).trans ?_
  rfl
theorem B_X3_joinsb_187_7 {T : List Shp} {c : Nat → Int → Int} {x6 : Int} (h1 : ¬ x6 < 1000000000 ∧ ¬ x6 = 1000000000) : ev 21 1 187 [vR 70, vU, vU, vU, vU, vU, vL x6, vU] [] (SH T, c) = some (some (vI 0), (SH T, c)) := by
  refine (ev_eq _ _ _ _ _ _).trans ?_
  refine (if_neg h1.1).trans ?_
  refine (if_neg h1.2).trans ?_
  refine (ev_eq _ _ _ _ _ _).trans ?_
  rfl
theorem E_X4_looksOf_1 {T : List Shp} {c : Nat → Int → Int} {x1 x2 : Int} {r1 : Int} {c2 : Nat → Int → Int} {c3 : Nat → Int → Int} {r4 : Int} {c5 : Nat → Int → Int} {r6 : Int} {c7 : Nat → Int → Int} {r8 : Int} {c9 : Nat → Int → Int} (h1 : cal 29 [vR 15, vI x1, vI x2] (SH T, c) = some (some (vI r1), (SH T, c2))) (h2 : r1 = (-1)) (h3 : cal 30 [vR 15, vI x2] (SH T, c2) = some (none, (SH T, c3))) (h4 : cal 33 [vR 15, vI 0] (SH T, (up c3 17 0 x1)) = some (some (vI r4), (SH T, c5))) (h5 : r4 = 0) (h6 : cal 69 [vR 2, vI x2] (SH T, c5) = some (some (vI r6), (SH T, c7))) (h7 : cal 344 [vI 9, vI (w32 (Int.tdiv r6 10))] (SH T, c7) = some (some (vI r8), (SH T, c9))) : cal 23 [vR 15, vI x1, vI x2] (SH T, c) = some (some (vI r8), (SH T, c9)) := by
  refine (ev_eq _ _ _ _ _ _).trans ?_
  refine (el_call rfl h1).trans ?_
  refine (if_pos h2).trans ?_
  refine (ev_eq _ _ _ _ _ _).trans ?_
  refine (el_call rfl h3).trans ?_
  refine (el_call rfl h4).trans ?_
  refine (if_pos h5).trans ?_
  refine (ev_eq _ _ _ _ _ _).trans ?_
  refine (el_call rfl h6).trans ?_
  refine (el_call rfl h7).trans ?_
  rfl
theorem E_X4_looksOf_2 {T : List Shp} {c : Nat → Int → Int} {x1 x2 : Int} {r1 : Int} {c2 : Nat → Int → Int} {c3 : Nat → Int → Int} {r4 : Int} {c5 : Nat → Int → Int} {r6 : Int} {c7 : Nat → Int → Int} (h1 : cal 29 [vR 15, vI x1, vI x2] (SH T, c) = some (some (vI r1), (SH T, c2))) (h2 : r1 = (-1)) (h3 : cal 30 [vR 15, vI x2] (SH T, c2) = some (none, (SH T, c3))) (h4 : cal 33 [vR 15, vI 0] (SH T, (up c3 17 0 x1)) = some (some (vI r4), (SH T, c5))) (h5 : ¬ r4 = 0) (h6 : cal 184 [vI (c5 14 3), vI 0, vI 9] (SH T, c5) = some (some (vI r6), (SH T, c7))) : cal 23 [vR 15, vI x1, vI x2] (SH T, c) = some (some (vI r6), (SH T, c7)) := by
  refine (ev_eq _ _ _ _ _ _).trans ?_
  refine (el_call rfl h1).trans ?_
  refine (if_pos h2).trans ?_
  refine (ev_eq _ _ _ _ _ _).trans ?_
  refine (el_call rfl h3).trans ?_
  refine (el_call rfl h4).trans ?_
  refine (if_neg h5).trans ?_
  refine (el_call rfl h6).trans ?_
  rfl
theorem E_X4_looksOf_3 {T : List Shp} {c : Nat → Int → Int} {x1 x2 : Int} {r1 : Int} {c2 : Nat → Int → Int} (h1 : cal 29 [vR 15, vI x1, vI x2] (SH T, c) = some (some (vI r1), (SH T, c2))) (h2 : ¬ r1 = (-1)) : cal 23 [vR 15, vI x1, vI x2] (SH T, c) = some (some (vI r1), (SH T, c2)) := by
  refine (ev_eq _ _ _ _ _ _).trans ?_
  refine (el_call rfl h1).trans ?_
  refine (if_neg h2).trans ?_
  rfl
theorem E_X4_letsOf_1 {T : List Shp} {c : Nat → Int → Int} {x1 x2 : Int} {c1 : Nat → Int → Int} {r2 : Int} {c3 : Nat → Int → Int} (h1 : cal 30 [vR 15, vI x2] (SH T, c) = some (none, (SH T, c1))) (h2 : cal 33 [vR 15, vI 1] (SH T, (up c1 17 0 x1)) = some (some (vI r2), (SH T, c3))) (h3 : r2 = 0) : cal 24 [vR 15, vI x1, vI x2] (SH T, c) = some (some (vI 9), (SH T, c3)) := by
  refine (ev_eq _ _ _ _ _ _).trans ?_
  refine (el_call rfl h1).trans ?_
  refine (el_call rfl h2).trans ?_
  refine (if_pos h3).trans ?_
  refine (ev_eq _ _ _ _ _ _).trans ?_
  rfl
theorem E_X4_letsOf_2 {T : List Shp} {c : Nat → Int → Int} {x1 x2 : Int} {c1 : Nat → Int → Int} {r2 : Int} {c3 : Nat → Int → Int} {r4 : Int} {c5 : Nat → Int → Int} (h1 : cal 30 [vR 15, vI x2] (SH T, c) = some (none, (SH T, c1))) (h2 : cal 33 [vR 15, vI 1] (SH T, (up c1 17 0 x1)) = some (some (vI r2), (SH T, c3))) (h3 : ¬ r2 = 0) (h4 : cal 184 [vI (c3 14 3), vI 0, vI 9] (SH T, c3) = some (some (vI r4), (SH T, c5))) : cal 24 [vR 15, vI x1, vI x2] (SH T, c) = some (some (vI r4), (SH T, c5)) := by
  refine (ev_eq _ _ _ _ _ _).trans ?_
  refine (el_call rfl h1).trans ?_
  refine (el_call rfl h2).trans ?_
  refine (if_neg h3).trans ?_
  refine (el_call rfl h4).trans ?_
  rfl
theorem E_X4_asksOf_1 {T : List Shp} {c : Nat → Int → Int} {x1 x2 : Int} {c1 : Nat → Int → Int} {r2 : Int} {c3 : Nat → Int → Int} (h1 : cal 31 [vR 15, vI x1, vI x2] (SH T, c) = some (none, (SH T, c1))) (h2 : cal 33 [vR 15, vI 2] (SH T, c1) = some (some (vI r2), (SH T, c3))) (h3 : r2 = 0) (h4 : 0 ≤ (w32 ((w32 (x1 * 5)) + 1)) ∧ (w32 ((w32 (x1 * 5)) + 1)) < 25) : cal 25 [vR 15, vI x1, vI x2] (SH T, c) = some (some (vI (c3 2 (w32 ((w32 (x1 * 5)) + 1)))), (SH T, c3)) := by
  refine (ev_eq _ _ _ _ _ _).trans ?_
  refine (el_call rfl h1).trans ?_
  refine (el_call rfl h2).trans ?_
  refine (if_pos h3).trans ?_
  refine (ev_eq _ _ _ _ _ _).trans ?_
  refine (if_pos h4).trans ?_
  rfl
theorem E_X4_asksOf_2 {T : List Shp} {c : Nat → Int → Int} {x1 x2 : Int} {c1 : Nat → Int → Int} {r2 : Int} {c3 : Nat → Int → Int} {r4 : Int} {c5 : Nat → Int → Int} (h1 : cal 31 [vR 15, vI x1, vI x2] (SH T, c) = some (none, (SH T, c1))) (h2 : cal 33 [vR 15, vI 2] (SH T, c1) = some (some (vI r2), (SH T, c3))) (h3 : ¬ r2 = 0) (h4 : cal 184 [vI (c3 14 3), vI 0, vI 999] (SH T, c3) = some (some (vI r4), (SH T, c5))) : cal 25 [vR 15, vI x1, vI x2] (SH T, c) = some (some (vI r4), (SH T, c5)) := by
  refine (ev_eq _ _ _ _ _ _).trans ?_
  refine (el_call rfl h1).trans ?_
  refine (el_call rfl h2).trans ?_
  refine (if_neg h3).trans ?_
  refine (el_call rfl h4).trans ?_
  rfl
theorem E_X4_barsPainter {T : List Shp} {c : Nat → Int → Int} {x1 x2 : Int} {c1 : Nat → Int → Int} {r2 : Int} {c3 : Nat → Int → Int} (h1 : cal 31 [vR 15, vI x1, vI x2] (SH T, c) = some (none, (SH T, c1))) (h2 : cal 33 [vR 15, vI 4] (SH T, c1) = some (some (vI r2), (SH T, c3))) (h3 : r2 = 0 ∨ r2 = 1) : cal 26 [vR 15, vI x1, vI x2] (SH T, c) = some (some (vI r2), (SH T, c3)) := by
  refine (ev_eq _ _ _ _ _ _).trans ?_
  refine (el_call rfl h1).trans ?_
  refine (el_call rfl h2).trans ?_
  refine (if_pos h3).trans ?_
  rfl
theorem E_X4_ranksOf_1 {T : List Shp} {c : Nat → Int → Int} {x1 x2 : Int} {c1 : Nat → Int → Int} {r2 : Int} {c3 : Nat → Int → Int} (h1 : cal 32 [vR 15, vI x1, vI x2] (SH T, c) = some (none, (SH T, c1))) (h2 : cal 33 [vR 15, vI 3] (SH T, c1) = some (some (vI r2), (SH T, c3))) (h3 : r2 = 0) : cal 27 [vR 15, vI x1, vI x2] (SH T, c) = some (some (vI x1), (SH T, c3)) := by
  refine (ev_eq _ _ _ _ _ _).trans ?_
  refine (el_call rfl h1).trans ?_
  refine (el_call rfl h2).trans ?_
  refine (if_pos h3).trans ?_
  refine (ev_eq _ _ _ _ _ _).trans ?_
  rfl
theorem E_X4_ranksOf_2 {T : List Shp} {c : Nat → Int → Int} {x1 x2 : Int} {c1 : Nat → Int → Int} {r2 : Int} {c3 : Nat → Int → Int} {r4 : Int} {c5 : Nat → Int → Int} (h1 : cal 32 [vR 15, vI x1, vI x2] (SH T, c) = some (none, (SH T, c1))) (h2 : cal 33 [vR 15, vI 3] (SH T, c1) = some (some (vI r2), (SH T, c3))) (h3 : ¬ r2 = 0) (h4 : cal 184 [vI (c3 14 3), vI 0, vI 999] (SH T, c3) = some (some (vI r4), (SH T, c5))) : cal 27 [vR 15, vI x1, vI x2] (SH T, c) = some (some (vI r4), (SH T, c5)) := by
  refine (ev_eq _ _ _ _ _ _).trans ?_
  refine (el_call rfl h1).trans ?_
  refine (el_call rfl h2).trans ?_
  refine (if_neg h3).trans ?_
  refine (el_call rfl h4).trans ?_
  rfl
theorem E_X4_barsClaimant {T : List Shp} {c : Nat → Int → Int} {x1 x2 : Int} {c1 : Nat → Int → Int} {r2 : Int} {c3 : Nat → Int → Int} (h1 : cal 32 [vR 15, vI x1, vI x2] (SH T, c) = some (none, (SH T, c1))) (h2 : cal 33 [vR 15, vI 4] (SH T, c1) = some (some (vI r2), (SH T, c3))) (h3 : r2 = 0 ∨ r2 = 1) : cal 28 [vR 15, vI x1, vI x2] (SH T, c) = some (some (vI r2), (SH T, c3)) := by
  refine (ev_eq _ _ _ _ _ _).trans ?_
  refine (el_call rfl h1).trans ?_
  refine (el_call rfl h2).trans ?_
  refine (if_pos h3).trans ?_
  rfl
theorem E_X4_scarOn {T : List Shp} {c : Nat → Int → Int} {x1 x2 : Int}  : cal 29 [vR 15, vI x1, vI x2] (SH T, c) = ev 29 1 8 [vR 15, vI x1, vI x2, vI (-1), vI (-1), vI 0, vU] [] (SH T, c) := by
  refine (ev_eq _ _ _ _ _ _).trans ?_
  rfl
theorem B_X4_scarOn_8_1 {T : List Shp} {c : Nat → Int → Int} {x1 x2 x3 x4 x5 : Int} (h1 : x5 < (w32 ((c 1 2) * 3))) (h2 : 0 ≤ (w32 (x5 + 1)) ∧ (w32 (x5 + 1)) < 18) (h3 : 0 ≤ x5 ∧ x5 < 18) (h4 : (c 3 x5) = x1) (h5 : x2 < (c 3 (w32 (x5 + 1)))) : ev 29 1 8 [vR 15, vI x1, vI x2, vI x3, vI x4, vI x5, vU] [] (SH T, c) = ev 29 1 79 [vR 15, vI x1, vI x2, vI x3, vI x4, vI x5, vU] [] (SH T, c) := by
  refine (ev_eq _ _ _ _ _ _).trans ?_
  refine (if_pos h1).trans ?_
  refine (if_pos h2).trans ?_
  refine (if_pos h3).trans ?_
  refine (if_pos h4).trans ?_
  refine (if_pos h5).trans ?_
  rfl
theorem B_X4_scarOn_8_2 {T : List Shp} {c : Nat → Int → Int} {x1 x2 x3 x4 x5 : Int} (h1 : x5 < (w32 ((c 1 2) * 3))) (h2 : 0 ≤ (w32 (x5 + 1)) ∧ (w32 (x5 + 1)) < 18) (h3 : 0 ≤ x5 ∧ x5 < 18) (h4 : (c 3 x5) = x1) (h5 : ¬ x2 < (c 3 (w32 (x5 + 1)))) (h6 : (c 3 (w32 (x5 + 1))) < x3) : ev 29 1 8 [vR 15, vI x1, vI x2, vI x3, vI x4, vI x5, vU] [] (SH T, c) = ev 29 1 79 [vR 15, vI x1, vI x2, vI x3, vI x4, vI x5, vU] [] (SH T, c) := by
  refine (ev_eq _ _ _ _ _ _).trans ?_
  refine (if_pos h1).trans ?_
  refine (if_pos h2).trans ?_
  refine (if_pos h3).trans ?_
  refine (if_pos h4).trans ?_
  refine (if_neg h5).trans ?_
  refine (if_pos h6).trans ?_
  rfl
theorem B_X4_scarOn_8_3 {T : List Shp} {c : Nat → Int → Int} {x1 x2 x3 x4 x5 : Int} (h1 : x5 < (w32 ((c 1 2) * 3))) (h2 : 0 ≤ (w32 (x5 + 1)) ∧ (w32 (x5 + 1)) < 18) (h3 : 0 ≤ x5 ∧ x5 < 18) (h4 : (c 3 x5) = x1) (h5 : ¬ x2 < (c 3 (w32 (x5 + 1)))) (h6 : ¬ (c 3 (w32 (x5 + 1))) < x3) (h7 : 0 ≤ (w32 (x5 + 2)) ∧ (w32 (x5 + 2)) < 18) : ev 29 1 8 [vR 15, vI x1, vI x2, vI x3, vI x4, vI x5, vU] [] (SH T, c) = ev 29 1 79 [vR 15, vI x1, vI x2, vI (c 3 (w32 (x5 + 1))), vI (c 3 (w32 (x5 + 2))), vI x5, vU] [] (SH T, c) := by
  refine (ev_eq _ _ _ _ _ _).trans ?_
  refine (if_pos h1).trans ?_
  refine (if_pos h2).trans ?_
  refine (if_pos h3).trans ?_
  refine (if_pos h4).trans ?_
  refine (if_neg h5).trans ?_
  refine (if_neg h6).trans ?_
  refine (if_pos h7).trans ?_
  rfl
theorem B_X4_scarOn_8_4 {T : List Shp} {c : Nat → Int → Int} {x1 x2 x3 x4 x5 : Int} (h1 : x5 < (w32 ((c 1 2) * 3))) (h2 : 0 ≤ (w32 (x5 + 1)) ∧ (w32 (x5 + 1)) < 18) (h3 : 0 ≤ x5 ∧ x5 < 18) (h4 : ¬ (c 3 x5) = x1) : ev 29 1 8 [vR 15, vI x1, vI x2, vI x3, vI x4, vI x5, vU] [] (SH T, c) = ev 29 1 79 [vR 15, vI x1, vI x2, vI x3, vI x4, vI x5, vU] [] (SH T, c) := by
  refine (ev_eq _ _ _ _ _ _).trans ?_
  refine (if_pos h1).trans ?_
  refine (if_pos h2).trans ?_
  refine (if_pos h3).trans ?_
  refine (if_neg h4).trans ?_
  rfl
theorem B_X4_scarOn_8_5 {T : List Shp} {c : Nat → Int → Int} {x1 x2 x3 x4 x5 : Int} (h1 : ¬ x5 < (w32 ((c 1 2) * 3))) : ev 29 1 8 [vR 15, vI x1, vI x2, vI x3, vI x4, vI x5, vU] [] (SH T, c) = some (some (vI x4), (SH T, c)) := by
  refine (ev_eq _ _ _ _ _ _).trans ?_
  refine (if_neg h1).trans ?_
  refine (ev_eq _ _ _ _ _ _).trans ?_
  rfl
theorem B_X4_scarOn_79 {T : List Shp} {c : Nat → Int → Int} {x1 x2 x3 x4 x5 : Int}  : ev 29 1 79 [vR 15, vI x1, vI x2, vI x3, vI x4, vI x5, vU] [] (SH T, c) = ev 29 1 8 [vR 15, vI x1, vI x2, vI x3, vI x4, vI (w32 (x5 + 3)), vU] [] (SH T, c) := by
  refine (ev_eq _ _ _ _ _ _).trans ?_
  rfl
theorem E_X4_ask {T : List Shp} {c : Nat → Int → Int} {x1 : Int}  : cal 30 [vR 15, vI x1] (SH T, c) = ev 30 2 2 [vR 15, vI x1, vI 0] [] (SH T, c) := by
  refine (ev_eq _ _ _ _ _ _).trans ?_
  rfl
theorem B_X4_ask_2_1 {T : List Shp} {c : Nat → Int → Int} {x1 x2 : Int} (h1 : x2 < 10) (h2 : 0 ≤ x2 ∧ x2 < 10) : ev 30 2 2 [vR 15, vI x1, vI x2] [] (SH T, c) = ev 30 2 2 [vR 15, vI x1, vI (w32 (x2 + 1))] [] (SH T, (up c 17 x2 (-1))) := by
  refine (ev_eq _ _ _ _ _ _).trans ?_
  refine (if_pos h1).trans ?_
  refine (if_pos h2).trans ?_
  rfl
theorem B_X4_ask_2_2 {T : List Shp} {c : Nat → Int → Int} {x1 x2 : Int} {r1 : Int} {c2 : Nat → Int → Int} (h1 : ¬ x2 < 10) (h2 : cal 69 [vR 2, vI x1] (SH T, c) = some (some (vI r1), (SH T, c2))) : ev 30 2 2 [vR 15, vI x1, vI x2] [] (SH T, c) = some (none, (SH T, (up (up (up c2 17 1 r1) 17 2 x1) 17 5 (c2 4 2)))) := by
  refine (ev_eq _ _ _ _ _ _).trans ?_
  refine (if_neg h1).trans ?_
  refine (ev_eq _ _ _ _ _ _).trans ?_
  refine (el_call rfl h2).trans ?_
  rfl
theorem E_X4_askPainter {T : List Shp} {c : Nat → Int → Int} {x1 x2 : Int} {c1 : Nat → Int → Int} (h1 : cal 30 [vR 15, vI x2] (SH T, c) = some (none, (SH T, c1))) (h2 : 0 ≤ (w32 ((w32 (x1 * 5)) + 1)) ∧ (w32 ((w32 (x1 * 5)) + 1)) < 25) : cal 31 [vR 15, vI x1, vI x2] (SH T, c) = some (none, (SH T, (up (up c1 17 3 x1) 17 4 (c1 2 (w32 ((w32 (x1 * 5)) + 1)))))) := by
  refine (ev_eq _ _ _ _ _ _).trans ?_
  refine (el_call rfl h1).trans ?_
  refine (if_pos h2).trans ?_
  rfl
theorem E_X4_askClaimant_1 {T : List Shp} {c : Nat → Int → Int} {x1 x2 : Int} {c1 : Nat → Int → Int} {r2 : Int} {c3 : Nat → Int → Int} (h1 : cal 30 [vR 15, vI x2] (SH T, c) = some (none, (SH T, c1))) (h2 : 0 ≤ (w32 ((w32 (x1 * 4)) + 3)) ∧ (w32 ((w32 (x1 * 4)) + 3)) < 32) (h3 : 0 ≤ (w32 ((w32 (x1 * 4)) + 1)) ∧ (w32 ((w32 (x1 * 4)) + 1)) < 32) (h4 : 0 ≤ (w32 ((w32 (x1 * 4)) + 1)) ∧ (w32 ((w32 (x1 * 4)) + 1)) < 32) (h5 : cal 177 [vI (c1 9 (w32 ((w32 (x1 * 4)) + 3))), vI (c1 1 11)] (SH T, (up (up (up c1 17 6 x1) 17 7 (c1 9 (w32 ((w32 (x1 * 4)) + 1)))) 17 1 (w32 (x2 - (c1 9 (w32 ((w32 (x1 * 4)) + 1))))))) = some (some (vI r2), (SH T, c3))) (h6 : r2 = 0) : cal 32 [vR 15, vI x1, vI x2] (SH T, c) = ev 32 3 101 [vR 15, vI x1, vI x2, vU, vU] [vI (-1), vI 8, vR 18] (SH T, c3) := by
  refine (ev_eq _ _ _ _ _ _).trans ?_
  refine (el_call rfl h1).trans ?_
  refine (if_pos h2).trans ?_
  refine (if_pos h3).trans ?_
  refine (if_pos h4).trans ?_
  refine (el_call rfl h5).trans ?_
  refine (if_pos h6).trans ?_
  refine (ev_eq _ _ _ _ _ _).trans ?_
  rfl
theorem E_X4_askClaimant_2 {T : List Shp} {c : Nat → Int → Int} {x1 x2 : Int} {c1 : Nat → Int → Int} {r2 : Int} {c3 : Nat → Int → Int} {r4 : Int} {c5 : Nat → Int → Int} (h1 : cal 30 [vR 15, vI x2] (SH T, c) = some (none, (SH T, c1))) (h2 : 0 ≤ (w32 ((w32 (x1 * 4)) + 3)) ∧ (w32 ((w32 (x1 * 4)) + 3)) < 32) (h3 : 0 ≤ (w32 ((w32 (x1 * 4)) + 1)) ∧ (w32 ((w32 (x1 * 4)) + 1)) < 32) (h4 : 0 ≤ (w32 ((w32 (x1 * 4)) + 1)) ∧ (w32 ((w32 (x1 * 4)) + 1)) < 32) (h5 : cal 177 [vI (c1 9 (w32 ((w32 (x1 * 4)) + 3))), vI (c1 1 11)] (SH T, (up (up (up c1 17 6 x1) 17 7 (c1 9 (w32 ((w32 (x1 * 4)) + 1)))) 17 1 (w32 (x2 - (c1 9 (w32 ((w32 (x1 * 4)) + 1))))))) = some (some (vI r2), (SH T, c3))) (h6 : ¬ r2 = 0) (h7 : cal 73 [vR 2, vI (c1 9 (w32 ((w32 (x1 * 4)) + 3)))] (SH T, c3) = some (some (vI r4), (SH T, c5))) : cal 32 [vR 15, vI x1, vI x2] (SH T, c) = ev 32 3 101 [vR 15, vI x1, vI x2, vU, vU] [vI r4, vI 8, vR 18] (SH T, c5) := by
  refine (ev_eq _ _ _ _ _ _).trans ?_
  refine (el_call rfl h1).trans ?_
  refine (if_pos h2).trans ?_
  refine (if_pos h3).trans ?_
  refine (if_pos h4).trans ?_
  refine (el_call rfl h5).trans ?_
  refine (if_neg h6).trans ?_
  refine (el_call rfl h7).trans ?_
  rfl
theorem B_X4_askClaimant_101 {T : List Shp} {c : Nat → Int → Int} {x1 x2 y0 y1 : Int} {r1 : Int} {c2 : Nat → Int → Int} (h1 : 0 ≤ y1 ∧ y1 < 10) (h2 : cal 75 [vR 2, vI x1, vI x2] (SH T, (up c 17 y1 y0)) = some (some (vI r1), (SH T, c2))) : ev 32 3 101 [vR 15, vI x1, vI x2, vU, vU] [vI y0, vI y1, vR 18] (SH T, c) = some (none, (SH T, (up c2 17 9 r1))) := by
  refine (ev_eq _ _ _ _ _ _).trans ?_
  refine (if_pos h1).trans ?_
  refine (el_call rfl h2).trans ?_
  rfl
theorem E_X4_tells_1 {T : List Shp} {c : Nat → Int → Int} {x1 : Int} {r1 : Int} {c2 : Nat → Int → Int} (h1 : cal 177 [vI (c 1 7), vI (c 1 5)] (SH T, c) = some (some (vI r1), (SH T, c2))) (h2 : r1 = 0) : cal 33 [vR 15, vI x1] (SH T, c) = ev 33 3 39 [vR 15, vI x1, vU, vU, vU, vU, vU] [vR 0] (SH T, c2) := by
  refine (ev_eq _ _ _ _ _ _).trans ?_
  refine (el_call rfl h1).trans ?_
  refine (if_pos h2).trans ?_
  refine (ev_eq _ _ _ _ _ _).trans ?_
  rfl
theorem E_X4_tells_2 {T : List Shp} {c : Nat → Int → Int} {x1 : Int} {r1 : Int} {c2 : Nat → Int → Int} (h1 : cal 177 [vI (c 1 7), vI (c 1 5)] (SH T, c) = some (some (vI r1), (SH T, c2))) (h2 : ¬ r1 = 0) (h3 : 0 ≤ (c2 1 7) ∧ (c2 1 7) < 6) : cal 33 [vR 15, vI x1] (SH T, c) = ev 33 3 39 [vR 15, vI x1, vU, vU, vU, vU, vU] [vR (c2 5 (c2 1 7))] (SH T, c2) := by
  refine (ev_eq _ _ _ _ _ _).trans ?_
  refine (el_call rfl h1).trans ?_
  refine (if_neg h2).trans ?_
  refine (if_pos h3).trans ?_
  rfl
theorem B_X4_tells_39_1 {T : List Shp} {c : Nat → Int → Int} {x1 y0 : Int} (h1 : y0 = 0) : ev 33 3 39 [vR 15, vI x1, vU, vU, vU, vU, vU] [vR y0] (SH T, c) = some (some (vI 0), (SH T, c)) := by
  refine (ev_eq _ _ _ _ _ _).trans ?_
  refine (if_pos h1).trans ?_
  rfl
theorem B_X4_tells_39_2 {T : List Shp} {c : Nat → Int → Int} {x1 y0 : Int} {p1 : Nat} {n2 : Int} {f3 : List Int} {k4 : Nat} (h1 : ¬ y0 = 0) (h2 : drf (SH T) y0 = some (p1, (k4, n2, f3))) : ev 33 3 39 [vR 15, vI x1, vU, vU, vU, vU, vU] [vR y0] (SH T, c) = ev 33 3 56 [vR 15, vI x1, vR y0, vI (w32 ((w32 ((c p1 2) - 1)) * 6)), vU, vU, vU] [] (SH T, c) := by
  refine (ev_eq _ _ _ _ _ _).trans ?_
  refine (if_neg h1).trans ?_
  refine (el_of h2).trans ?_
  refine (ev_eq _ _ _ _ _ _).trans ?_
  refine (el_of h2).trans ?_
  rfl
theorem B_X4_tells_56_1 {T : List Shp} {c : Nat → Int → Int} {x1 x2 x3 : Int} (h1 : x3 < 0) : ev 33 3 56 [vR 15, vI x1, vR x2, vI x3, vU, vU, vU] [] (SH T, c) = some (some (vI 0), (SH T, c)) := by
  refine (ev_eq _ _ _ _ _ _).trans ?_
  refine (if_pos h1).trans ?_
  refine (ev_eq _ _ _ _ _ _).trans ?_
  rfl
theorem B_X4_tells_56_2 {T : List Shp} {c : Nat → Int → Int} {x1 x2 x3 : Int} {p1 : Nat} {n2 : Int} {f3 : List Int} {p4 : Nat} {n5 : Int} {f6 : List Int} (h1 : ¬ x3 < 0) (h2 : drf (SH T) x2 = some (p1, (20, n2, f3))) (h3 : drf (SH T) (f3.getD 0 0) = some (p4, (0, n5, f6))) (h4 : 0 ≤ (w32 (x3 + 0)) ∧ (w32 (x3 + 0)) < n5) (h5 : (c p4 (w32 (x3 + 0))) = x1) (h6 : 0 ≤ (w32 (x3 + 2)) ∧ (w32 (x3 + 2)) < n5) (h7 : 0 ≤ (w32 (x3 + 3)) ∧ (w32 (x3 + 3)) < n5) (h8 : (c p4 (w32 (x3 + 2))) = (-1)) : ev 33 3 56 [vR 15, vI x1, vR x2, vI x3, vU, vU, vU] [] (SH T, c) = ev 33 3 126 [vR 15, vI x1, vR x2, vI x3, vU, vI (c p4 (w32 (x3 + 3))), vU] [] (SH T, c) := by
  refine (ev_eq _ _ _ _ _ _).trans ?_
  refine (if_neg h1).trans ?_
  refine (el_of h2).trans ?_
  refine (el_of h3).trans ?_
  refine (if_pos h4).trans ?_
  refine (if_pos h5).trans ?_
  refine (el_of h2).trans ?_
  refine (el_of h3).trans ?_
  refine (if_pos h6).trans ?_
  refine (el_of h2).trans ?_
  refine (el_of h3).trans ?_
  refine (if_pos h7).trans ?_
  refine (if_pos h8).trans ?_
  rfl
theorem B_X4_tells_56_3 {T : List Shp} {c : Nat → Int → Int} {x1 x2 x3 : Int} {p1 : Nat} {n2 : Int} {f3 : List Int} {p4 : Nat} {n5 : Int} {f6 : List Int} {r7 : Int} {c8 : Nat → Int → Int} (h1 : ¬ x3 < 0) (h2 : drf (SH T) x2 = some (p1, (20, n2, f3))) (h3 : drf (SH T) (f3.getD 0 0) = some (p4, (0, n5, f6))) (h4 : 0 ≤ (w32 (x3 + 0)) ∧ (w32 (x3 + 0)) < n5) (h5 : (c p4 (w32 (x3 + 0))) = x1) (h6 : 0 ≤ (w32 (x3 + 2)) ∧ (w32 (x3 + 2)) < n5) (h7 : 0 ≤ (w32 (x3 + 3)) ∧ (w32 (x3 + 3)) < n5) (h8 : ¬ (c p4 (w32 (x3 + 2))) = (-1)) (h9 : cal 20 [vR 16, vR x2, vI (c p4 (w32 (x3 + 2))), vR 18] (SH T, c) = some (some (vI r7), (SH T, c8))) (h10 : r7 = 0) : ev 33 3 56 [vR 15, vI x1, vR x2, vI x3, vU, vU, vU] [] (SH T, c) = ev 33 3 130 [vR 15, vI x1, vR x2, vI x3, vU, vI (c p4 (w32 (x3 + 3))), vU] [] (SH T, c8) := by
  refine (ev_eq _ _ _ _ _ _).trans ?_
  refine (if_neg h1).trans ?_
  refine (el_of h2).trans ?_
  refine (el_of h3).trans ?_
  refine (if_pos h4).trans ?_
  refine (if_pos h5).trans ?_
  refine (el_of h2).trans ?_
  refine (el_of h3).trans ?_
  refine (if_pos h6).trans ?_
  refine (el_of h2).trans ?_
  refine (el_of h3).trans ?_
  refine (if_pos h7).trans ?_
  refine (if_neg h8).trans ?_
  refine (el_call rfl h9).trans ?_
  refine (if_pos h10).trans ?_
  rfl
theorem B_X4_tells_56_4 {T : List Shp} {c : Nat → Int → Int} {x1 x2 x3 : Int} {p1 : Nat} {n2 : Int} {f3 : List Int} {p4 : Nat} {n5 : Int} {f6 : List Int} {r7 : Int} {c8 : Nat → Int → Int} (h1 : ¬ x3 < 0) (h2 : drf (SH T) x2 = some (p1, (20, n2, f3))) (h3 : drf (SH T) (f3.getD 0 0) = some (p4, (0, n5, f6))) (h4 : 0 ≤ (w32 (x3 + 0)) ∧ (w32 (x3 + 0)) < n5) (h5 : (c p4 (w32 (x3 + 0))) = x1) (h6 : 0 ≤ (w32 (x3 + 2)) ∧ (w32 (x3 + 2)) < n5) (h7 : 0 ≤ (w32 (x3 + 3)) ∧ (w32 (x3 + 3)) < n5) (h8 : ¬ (c p4 (w32 (x3 + 2))) = (-1)) (h9 : cal 20 [vR 16, vR x2, vI (c p4 (w32 (x3 + 2))), vR 18] (SH T, c) = some (some (vI r7), (SH T, c8))) (h10 : ¬ r7 = 0) (h11 : (c8 15 2) = 1) : ev 33 3 56 [vR 15, vI x1, vR x2, vI x3, vU, vU, vU] [] (SH T, c) = ev 33 3 126 [vR 15, vI x1, vR x2, vI x3, vU, vI (c p4 (w32 (x3 + 3))), vU] [] (SH T, c8) := by
  refine (ev_eq _ _ _ _ _ _).trans ?_
  refine (if_neg h1).trans ?_
  refine (el_of h2).trans ?_
  refine (el_of h3).trans ?_
  refine (if_pos h4).trans ?_
  refine (if_pos h5).trans ?_
  refine (el_of h2).trans ?_
  refine (el_of h3).trans ?_
  refine (if_pos h6).trans ?_
  refine (el_of h2).trans ?_
  refine (el_of h3).trans ?_
  refine (if_pos h7).trans ?_
  refine (if_neg h8).trans ?_
  refine (el_call rfl h9).trans ?_
  refine (if_neg h10).trans ?_
  refine (if_pos h11).trans ?_
  rfl
theorem B_X4_tells_56_5 {T : List Shp} {c : Nat → Int → Int} {x1 x2 x3 : Int} {p1 : Nat} {n2 : Int} {f3 : List Int} {p4 : Nat} {n5 : Int} {f6 : List Int} {r7 : Int} {c8 : Nat → Int → Int} (h1 : ¬ x3 < 0) (h2 : drf (SH T) x2 = some (p1, (20, n2, f3))) (h3 : drf (SH T) (f3.getD 0 0) = some (p4, (0, n5, f6))) (h4 : 0 ≤ (w32 (x3 + 0)) ∧ (w32 (x3 + 0)) < n5) (h5 : (c p4 (w32 (x3 + 0))) = x1) (h6 : 0 ≤ (w32 (x3 + 2)) ∧ (w32 (x3 + 2)) < n5) (h7 : 0 ≤ (w32 (x3 + 3)) ∧ (w32 (x3 + 3)) < n5) (h8 : ¬ (c p4 (w32 (x3 + 2))) = (-1)) (h9 : cal 20 [vR 16, vR x2, vI (c p4 (w32 (x3 + 2))), vR 18] (SH T, c) = some (some (vI r7), (SH T, c8))) (h10 : ¬ r7 = 0) (h11 : ¬ (c8 15 2) = 1) : ev 33 3 56 [vR 15, vI x1, vR x2, vI x3, vU, vU, vU] [] (SH T, c) = ev 33 3 130 [vR 15, vI x1, vR x2, vI x3, vU, vI (c p4 (w32 (x3 + 3))), vU] [] (SH T, c8) := by
  refine (ev_eq _ _ _ _ _ _).trans ?_
  refine (if_neg h1).trans ?_
  refine (el_of h2).trans ?_
  refine (el_of h3).trans ?_
  refine (if_pos h4).trans ?_
  refine (if_pos h5).trans ?_
  refine (el_of h2).trans ?_
  refine (el_of h3).trans ?_
  refine (if_pos h6).trans ?_
  refine (el_of h2).trans ?_
  refine (el_of h3).trans ?_
  refine (if_pos h7).trans ?_
  refine (if_neg h8).trans ?_
  refine (el_call rfl h9).trans ?_
  refine (if_neg h10).trans ?_
  refine (if_neg h11).trans ?_
  rfl
theorem B_X4_tells_56_6 {T : List Shp} {c : Nat → Int → Int} {x1 x2 x3 : Int} {p1 : Nat} {n2 : Int} {f3 : List Int} {p4 : Nat} {n5 : Int} {f6 : List Int} (h1 : ¬ x3 < 0) (h2 : drf (SH T) x2 = some (p1, (20, n2, f3))) (h3 : drf (SH T) (f3.getD 0 0) = some (p4, (0, n5, f6))) (h4 : 0 ≤ (w32 (x3 + 0)) ∧ (w32 (x3 + 0)) < n5) (h5 : ¬ (c p4 (w32 (x3 + 0))) = x1) : ev 33 3 56 [vR 15, vI x1, vR x2, vI x3, vU, vU, vU] [] (SH T, c) = ev 33 3 174 [vR 15, vI x1, vR x2, vI x3, vU, vU, vU] [] (SH T, c) := by
  refine (ev_eq _ _ _ _ _ _).trans ?_
  refine (if_neg h1).trans ?_
  refine (el_of h2).trans ?_
  refine (el_of h3).trans ?_
  refine (if_pos h4).trans ?_
  refine (if_neg h5).trans ?_
  rfl
theorem B_X4_tells_126 {T : List Shp} {c : Nat → Int → Int} {x1 x2 x3 x5 : Int}  : ev 33 3 126 [vR 15, vI x1, vR x2, vI x3, vU, vI x5, vU] [] (SH T, c) = ev 33 3 131 [vR 15, vI x1, vR x2, vI x3, vU, vI x5, vU] [vI 1] (SH T, c) := by
  refine (ev_eq _ _ _ _ _ _).trans ?_
  rfl
theorem B_X4_tells_130 {T : List Shp} {c : Nat → Int → Int} {x1 x2 x3 x5 : Int}  : ev 33 3 130 [vR 15, vI x1, vR x2, vI x3, vU, vI x5, vU] [] (SH T, c) = ev 33 3 131 [vR 15, vI x1, vR x2, vI x3, vU, vI x5, vU] [vI 0] (SH T, c) := by
  refine (ev_eq _ _ _ _ _ _).trans ?_
  rfl
theorem B_X4_tells_131_1 {T : List Shp} {c : Nat → Int → Int} {x1 x2 x3 x5 y0 : Int} (h1 : y0 = 0) : ev 33 3 131 [vR 15, vI x1, vR x2, vI x3, vU, vI x5, vU] [vI y0] (SH T, c) = ev 33 3 174 [vR 15, vI x1, vR x2, vI x3, vU, vU, vU] [] (SH T, c) := by
  refine (ev_eq _ _ _ _ _ _).trans ?_
  refine (if_pos h1).trans ?_
  rfl
theorem B_X4_tells_131_2 {T : List Shp} {c : Nat → Int → Int} {x1 x2 x3 x5 y0 : Int} (h1 : ¬ y0 = 0) (h2 : x5 = (-1)) : ev 33 3 131 [vR 15, vI x1, vR x2, vI x3, vU, vI x5, vU] [vI y0] (SH T, c) = some (some (vI 1), (SH T, (up c 14 3 (c 15 2)))) := by
  refine (ev_eq _ _ _ _ _ _).trans ?_
  refine (if_neg h1).trans ?_
  refine (if_pos h2).trans ?_
  refine (ev_eq _ _ _ _ _ _).trans ?_
  rfl
theorem B_X4_tells_131_3 {T : List Shp} {c : Nat → Int → Int} {x1 x2 x3 x5 y0 : Int} {r1 : Int} {c2 : Nat → Int → Int} (h1 : ¬ y0 = 0) (h2 : ¬ x5 = (-1)) (h3 : cal 20 [vR 16, vR x2, vI x5, vR 18] (SH T, c) = some (some (vI r1), (SH T, c2))) (h4 : r1 = 0) : ev 33 3 131 [vR 15, vI x1, vR x2, vI x3, vU, vI x5, vU] [vI y0] (SH T, c) = ev 33 3 174 [vR 15, vI x1, vR x2, vI x3, vU, vU, vU] [] (SH T, c2) := by
  refine (ev_eq _ _ _ _ _ _).trans ?_
  refine (if_neg h1).trans ?_
  refine (if_neg h2).trans ?_
  refine (el_call rfl h3).trans ?_
  refine (if_pos h4).trans ?_
  rfl
theorem B_X4_tells_131_4 {T : List Shp} {c : Nat → Int → Int} {x1 x2 x3 x5 y0 : Int} {r1 : Int} {c2 : Nat → Int → Int} (h1 : ¬ y0 = 0) (h2 : ¬ x5 = (-1)) (h3 : cal 20 [vR 16, vR x2, vI x5, vR 18] (SH T, c) = some (some (vI r1), (SH T, c2))) (h4 : ¬ r1 = 0) : ev 33 3 131 [vR 15, vI x1, vR x2, vI x3, vU, vI x5, vU] [vI y0] (SH T, c) = some (some (vI 1), (SH T, (up c2 14 3 (c2 15 2)))) := by
  refine (ev_eq _ _ _ _ _ _).trans ?_
  refine (if_neg h1).trans ?_
  refine (if_neg h2).trans ?_
  refine (el_call rfl h3).trans ?_
  refine (if_neg h4).trans ?_
  refine (ev_eq _ _ _ _ _ _).trans ?_
  rfl
theorem B_X4_tells_174 {T : List Shp} {c : Nat → Int → Int} {x1 x2 x3 : Int}  : ev 33 3 174 [vR 15, vI x1, vR x2, vI x3, vU, vU, vU] [] (SH T, c) = ev 33 3 56 [vR 15, vI x1, vR x2, vI (w32 (x3 + (-6))), vU, vU, vU] [] (SH T, c) := by
  refine (ev_eq _ _ _ _ _ _).trans ?_
  rfl
theorem E_X9_paintNext_1 {T : List Shp} {c : Nat → Int → Int} {x1 : Int} (h1 : 16 < (w32 ((c 1 8) + 1))) : cal 95 [vR 19, vI x1] (SH T, c) = some (none, (SH T, c)) := by
  refine (ev_eq _ _ _ _ _ _).trans ?_
  refine (if_pos h1).trans ?_
  rfl
theorem E_X9_paintNext_2 {T : List Shp} {c : Nat → Int → Int} {x1 : Int} (h1 : ¬ 16 < (w32 ((c 1 8) + 1))) : cal 95 [vR 19, vI x1] (SH T, c) = ev 95 5 19 [vR 19, vI x1, vI (w32 ((c 1 8) + 1)), vI 0, vU] [] (SH T, c) := by
  refine (ev_eq _ _ _ _ _ _).trans ?_
  refine (if_neg h1).trans ?_
  refine (ev_eq _ _ _ _ _ _).trans ?_
  rfl
theorem B_X9_paintNext_19_1 {T : List Shp} {c : Nat → Int → Int} {x1 x2 x3 : Int} {r1 : Int} {c2 : Nat → Int → Int} {r3 : Int} {c4 : Nat → Int → Int} {r5 : Int} {c6 : Nat → Int → Int} (h1 : x3 < 12) (h2 : cal 23 [vR 15, vI x3, vI x2] (SH T, c) = some (some (vI r1), (SH T, c2))) (h3 : cal 71 [vR 2, vI x3] (SH T, c2) = some (some (vI r3), (SH T, c4))) (h4 : cal 76 [vR 2, vI x1, vI x3, vI r3, vI r1] (SH T, c4) = some (some (vI r5), (SH T, c6))) (h5 : 0 ≤ (w32 ((w32 (x2 * 12)) + x3)) ∧ (w32 ((w32 (x2 * 12)) + x3)) < 204) : ev 95 5 19 [vR 19, vI x1, vI x2, vI x3, vU] [] (SH T, c) = ev 95 5 19 [vR 19, vI x1, vI x2, vI (w32 (x3 + 1)), vU] [] (SH T, (up c6 7 (w32 ((w32 (x2 * 12)) + x3)) r5)) := by
  refine (ev_eq _ _ _ _ _ _).trans ?_
  refine (if_pos h1).trans ?_
  refine (el_call rfl h2).trans ?_
  refine (el_call rfl h3).trans ?_
  refine (el_call rfl h4).trans ?_
  refine (if_pos h5).trans ?_
  rfl
theorem B_X9_paintNext_19_2 {T : List Shp} {c : Nat → Int → Int} {x1 x2 x3 : Int} (h1 : ¬ x3 < 12) (h2 : 0 ≤ x2 ∧ x2 < 17) : ev 95 5 19 [vR 19, vI x1, vI x2, vI x3, vU] [] (SH T, c) = some (none, (SH T, (up (up c 6 x2 x1) 1 8 x2))) := by
  refine (ev_eq _ _ _ _ _ _).trans ?_
  refine (if_neg h1).trans ?_
  refine (ev_eq _ _ _ _ _ _).trans ?_
  refine (if_pos h2).trans ?_
  rfl

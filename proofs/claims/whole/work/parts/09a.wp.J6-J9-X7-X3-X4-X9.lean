set_option maxRecDepth 20000 in
theorem W_J6_bitCount_0f7a4 {T : List Shp} {c : Nat → Int → Int} {Q : Res → Prop} {x0 : Int} (k : (((-2147483648 ≤ x0 - (iand (iushr x0 1) 1431655765) ∧ x0 - (iand (iushr x0 1) 1431655765) < 2147483648) ∧ (-2147483648 ≤ (iand (x0 - (iand (iushr x0 1) 1431655765)) 858993459) + (iand (iushr (x0 - (iand (iushr x0 1) 1431655765)) 2) 858993459) ∧ (iand (x0 - (iand (iushr x0 1) 1431655765)) 858993459) + (iand (iushr (x0 - (iand (iushr x0 1) 1431655765)) 2) 858993459) < 2147483648) ∧ (-2147483648 ≤ ((iand (x0 - (iand (iushr x0 1) 1431655765)) 858993459) + (iand (iushr (x0 - (iand (iushr x0 1) 1431655765)) 2) 858993459)) + (iushr ((iand (x0 - (iand (iushr x0 1) 1431655765)) 858993459) + (iand (iushr (x0 - (iand (iushr x0 1) 1431655765)) 2) 858993459)) 4) ∧ ((iand (x0 - (iand (iushr x0 1) 1431655765)) 858993459) + (iand (iushr (x0 - (iand (iushr x0 1) 1431655765)) 2) 858993459)) + (iushr ((iand (x0 - (iand (iushr x0 1) 1431655765)) 858993459) + (iand (iushr (x0 - (iand (iushr x0 1) 1431655765)) 2) 858993459)) 4) < 2147483648) ∧ (-2147483648 ≤ (iand (((iand (x0 - (iand (iushr x0 1) 1431655765)) 858993459) + (iand (iushr (x0 - (iand (iushr x0 1) 1431655765)) 2) 858993459)) + (iushr ((iand (x0 - (iand (iushr x0 1) 1431655765)) 858993459) + (iand (iushr (x0 - (iand (iushr x0 1) 1431655765)) 2) 858993459)) 4)) 252645135) + (iushr (iand (((iand (x0 - (iand (iushr x0 1) 1431655765)) 858993459) + (iand (iushr (x0 - (iand (iushr x0 1) 1431655765)) 2) 858993459)) + (iushr ((iand (x0 - (iand (iushr x0 1) 1431655765)) 858993459) + (iand (iushr (x0 - (iand (iushr x0 1) 1431655765)) 2) 858993459)) 4)) 252645135) 8) ∧ (iand (((iand (x0 - (iand (iushr x0 1) 1431655765)) 858993459) + (iand (iushr (x0 - (iand (iushr x0 1) 1431655765)) 2) 858993459)) + (iushr ((iand (x0 - (iand (iushr x0 1) 1431655765)) 858993459) + (iand (iushr (x0 - (iand (iushr x0 1) 1431655765)) 2) 858993459)) 4)) 252645135) + (iushr (iand (((iand (x0 - (iand (iushr x0 1) 1431655765)) 858993459) + (iand (iushr (x0 - (iand (iushr x0 1) 1431655765)) 2) 858993459)) + (iushr ((iand (x0 - (iand (iushr x0 1) 1431655765)) 858993459) + (iand (iushr (x0 - (iand (iushr x0 1) 1431655765)) 2) 858993459)) 4)) 252645135) 8) < 2147483648) ∧ (-2147483648 ≤ ((iand (((iand (x0 - (iand (iushr x0 1) 1431655765)) 858993459) + (iand (iushr (x0 - (iand (iushr x0 1) 1431655765)) 2) 858993459)) + (iushr ((iand (x0 - (iand (iushr x0 1) 1431655765)) 858993459) + (iand (iushr (x0 - (iand (iushr x0 1) 1431655765)) 2) 858993459)) 4)) 252645135) + (iushr (iand (((iand (x0 - (iand (iushr x0 1) 1431655765)) 858993459) + (iand (iushr (x0 - (iand (iushr x0 1) 1431655765)) 2) 858993459)) + (iushr ((iand (x0 - (iand (iushr x0 1) 1431655765)) 858993459) + (iand (iushr (x0 - (iand (iushr x0 1) 1431655765)) 2) 858993459)) 4)) 252645135) 8)) + (iushr ((iand (((iand (x0 - (iand (iushr x0 1) 1431655765)) 858993459) + (iand (iushr (x0 - (iand (iushr x0 1) 1431655765)) 2) 858993459)) + (iushr ((iand (x0 - (iand (iushr x0 1) 1431655765)) 858993459) + (iand (iushr (x0 - (iand (iushr x0 1) 1431655765)) 2) 858993459)) 4)) 252645135) + (iushr (iand (((iand (x0 - (iand (iushr x0 1) 1431655765)) 858993459) + (iand (iushr (x0 - (iand (iushr x0 1) 1431655765)) 2) 858993459)) + (iushr ((iand (x0 - (iand (iushr x0 1) 1431655765)) 858993459) + (iand (iushr (x0 - (iand (iushr x0 1) 1431655765)) 2) 858993459)) 4)) 252645135) 8)) 16) ∧ ((iand (((iand (x0 - (iand (iushr x0 1) 1431655765)) 858993459) + (iand (iushr (x0 - (iand (iushr x0 1) 1431655765)) 2) 858993459)) + (iushr ((iand (x0 - (iand (iushr x0 1) 1431655765)) 858993459) + (iand (iushr (x0 - (iand (iushr x0 1) 1431655765)) 2) 858993459)) 4)) 252645135) + (iushr (iand (((iand (x0 - (iand (iushr x0 1) 1431655765)) 858993459) + (iand (iushr (x0 - (iand (iushr x0 1) 1431655765)) 2) 858993459)) + (iushr ((iand (x0 - (iand (iushr x0 1) 1431655765)) 858993459) + (iand (iushr (x0 - (iand (iushr x0 1) 1431655765)) 2) 858993459)) 4)) 252645135) 8)) + (iushr ((iand (((iand (x0 - (iand (iushr x0 1) 1431655765)) 858993459) + (iand (iushr (x0 - (iand (iushr x0 1) 1431655765)) 2) 858993459)) + (iushr ((iand (x0 - (iand (iushr x0 1) 1431655765)) 858993459) + (iand (iushr (x0 - (iand (iushr x0 1) 1431655765)) 2) 858993459)) 4)) 252645135) + (iushr (iand (((iand (x0 - (iand (iushr x0 1) 1431655765)) 858993459) + (iand (iushr (x0 - (iand (iushr x0 1) 1431655765)) 2) 858993459)) + (iushr ((iand (x0 - (iand (iushr x0 1) 1431655765)) 858993459) + (iand (iushr (x0 - (iand (iushr x0 1) 1431655765)) 2) 858993459)) 4)) 252645135) 8)) 16) < 2147483648)) ∧ Q (some (some (vI (iand (((iand (((iand (x0 - (iand (iushr x0 1) 1431655765)) 858993459) + (iand (iushr (x0 - (iand (iushr x0 1) 1431655765)) 2) 858993459)) + (iushr ((iand (x0 - (iand (iushr x0 1) 1431655765)) 858993459) + (iand (iushr (x0 - (iand (iushr x0 1) 1431655765)) 2) 858993459)) 4)) 252645135) + (iushr (iand (((iand (x0 - (iand (iushr x0 1) 1431655765)) 858993459) + (iand (iushr (x0 - (iand (iushr x0 1) 1431655765)) 2) 858993459)) + (iushr ((iand (x0 - (iand (iushr x0 1) 1431655765)) 858993459) + (iand (iushr (x0 - (iand (iushr x0 1) 1431655765)) 2) 858993459)) 4)) 252645135) 8)) + (iushr ((iand (((iand (x0 - (iand (iushr x0 1) 1431655765)) 858993459) + (iand (iushr (x0 - (iand (iushr x0 1) 1431655765)) 2) 858993459)) + (iushr ((iand (x0 - (iand (iushr x0 1) 1431655765)) 858993459) + (iand (iushr (x0 - (iand (iushr x0 1) 1431655765)) 2) 858993459)) 4)) 252645135) + (iushr (iand (((iand (x0 - (iand (iushr x0 1) 1431655765)) 858993459) + (iand (iushr (x0 - (iand (iushr x0 1) 1431655765)) 2) 858993459)) + (iushr ((iand (x0 - (iand (iushr x0 1) 1431655765)) 858993459) + (iand (iushr (x0 - (iand (iushr x0 1) 1431655765)) 2) 858993459)) 4)) 252645135) 8)) 16)) 63)), (SH T, c))))) : Q (ccal 341 [vI x0] (SH T, c)) := by
  refine of_cev (Q := Q) ?_
  refine wq_pos (Q := Q) k.1.1 ?_
  refine wq_pos (Q := Q) k.1.2.1 ?_
  refine wq_pos (Q := Q) k.1.2.2.1 ?_
  refine wq_pos (Q := Q) k.1.2.2.2.1 ?_
  refine wq_pos (Q := Q) k.1.2.2.2.2 ?_
  replace k := k.2
  exact k
set_option maxRecDepth 20000 in
theorem W_J9_abs_0f7a4 {T : List Shp} {c : Nat → Int → Int} {Q : Res → Prop} {x0 : Int} (k : ((x0 < 0 → ((-2147483648 ≤ -x0 ∧ -x0 < 2147483648) ∧ Q (some (some (vI (-x0)), (SH T, c))))) ∧ (¬ x0 < 0 → Q (some (some (vI x0), (SH T, c)))))) : Q (ccal 342 [vI x0] (SH T, c)) := by
  refine of_cev (Q := Q) ?_
  refine wq_ite (Q := Q) (p := x0 < 0) (fun h => ?_) (fun h => ?_)
  · replace k := k.1 h
    refine wq_pos (Q := Q) k.1 ?_
    replace k := k.2
    exact k
  · replace k := k.2 h
    show Q (cev 342 1 9 [vI x0] [] (SH T, c))
    refine of_cev (Q := Q) ?_
    exact k
set_option maxRecDepth 20000 in
theorem W_J9_max_7cf53 {T : List Shp} {c : Nat → Int → Int} {Q : Res → Prop} {x0 x1 : Int} (k : ((x0 < x1 → Q (some (some (vI x1), (SH T, c)))) ∧ (¬ x0 < x1 → Q (some (some (vI x0), (SH T, c)))))) : Q (ccal 343 [vI x0, vI x1] (SH T, c)) := by
  refine of_cev (Q := Q) ?_
  refine wq_ite (Q := Q) (p := x0 < x1) (fun h => ?_) (fun h => ?_)
  · replace k := k.1 h
    show Q (cev 343 1 9 [vU, vI x1] [] (SH T, c))
    refine of_cev (Q := Q) ?_
    exact k
  · replace k := k.2 h
    exact k
set_option maxRecDepth 20000 in
theorem W_J9_min_7cf53 {T : List Shp} {c : Nat → Int → Int} {Q : Res → Prop} {x0 x1 : Int} (k : ((x1 < x0 → Q (some (some (vI x1), (SH T, c)))) ∧ (¬ x1 < x0 → Q (some (some (vI x0), (SH T, c)))))) : Q (ccal 344 [vI x0, vI x1] (SH T, c)) := by
  refine of_cev (Q := Q) ?_
  refine wq_ite (Q := Q) (p := x1 < x0) (fun h => ?_) (fun h => ?_)
  · replace k := k.1 h
    show Q (cev 344 1 9 [vU, vI x1] [] (SH T, c))
    refine of_cev (Q := Q) ?_
    exact k
  · replace k := k.2 h
    exact k
set_option maxRecDepth 20000 in
theorem W_X7_takeFromin {T : List Shp} {c : Nat → Int → Int} {Q : Res → Prop} (k : Q (cev 65 1 80 [vR 31, vR 2, vI 0] [] (SH T, (up (cpy (cpy (up (cpy (up c 30 0 (c 1 0)) 2 0 31 0 25) 30 2 ((cpy (up c 30 0 (c 1 0)) 2 0 31 0 25) 1 2)) 3 0 32 0 18) 4 0 33 0 5) 30 5 ((cpy (cpy (up (cpy (up c 30 0 (c 1 0)) 2 0 31 0 25) 30 2 ((cpy (up c 30 0 (c 1 0)) 2 0 31 0 25) 1 2)) 3 0 32 0 18) 4 0 33 0 5) 1 5))))) : Q (ccal 65 [vR 31, vR 2] (SH T, c)) := by
  refine of_cev (Q := Q) ?_
  exact k
set_option maxRecDepth 20000 in
theorem W_X7_takeFromin_80 {T : List Shp} {c : Nat → Int → Int} {Q : Res → Prop} {x2 : Int} (k : ((x2 < 6 → (((0 ≤ x2 ∧ x2 < 6) ∧ (trf (SH T) (c 5 x2) 20 = true) ∧ (-2147483648 ≤ x2 + 1 ∧ x2 + 1 < 2147483648)) ∧ Q (cev 65 1 80 [vR 31, vR 2, vI (x2 + 1)] [] (SH T, (up c 34 x2 (c 5 x2)))))) ∧ (¬ x2 < 6 → Q (some (none, (SH T, (cpy (up (cpy (up (cpy (cpy (up (up c 30 7 (c 1 7)) 30 8 (c 1 8)) 6 0 35 0 17) 7 0 36 0 204) 30 11 ((cpy (cpy (up (up c 30 7 (c 1 7)) 30 8 (c 1 8)) 6 0 35 0 17) 7 0 36 0 204) 1 11)) 8 0 37 0 72) 30 13 ((cpy (up (cpy (cpy (up (up c 30 7 (c 1 7)) 30 8 (c 1 8)) 6 0 35 0 17) 7 0 36 0 204) 30 11 ((cpy (cpy (up (up c 30 7 (c 1 7)) 30 8 (c 1 8)) 6 0 35 0 17) 7 0 36 0 204) 1 11)) 8 0 37 0 72) 1 13)) 9 0 38 0 32))))))) : Q (cev 65 1 80 [vR 31, vR 2, vI x2] [] (SH T, c)) := by
  refine of_cev (Q := Q) ?_
  refine wq_ite (Q := Q) (p := x2 < 6) (fun h => ?_) (fun h => ?_)
  · replace k := k.1 h
    refine wq_pos (Q := Q) k.1.1 ?_
    refine wq_pos (Q := Q) k.1.1 ?_
    refine wq_bif (Q := Q) k.1.2.1 ?_
    refine wq_pos (Q := Q) k.1.2.2 ?_
    replace k := k.2
    exact k
  · replace k := k.2 h
    show Q (cev 65 1 107 [vR 31, vR 2, vU] [] (SH T, c))
    refine of_cev (Q := Q) ?_
    exact k
set_option maxRecDepth 20000 in
theorem W_X7_takeFromjn {T : List Shp} {c : Nat → Int → Int} {Q : Res → Prop} (k : Q (cev 65 1 80 [vR 40, vR 2, vI 0] [] (SH T, (up (cpy (cpy (up (cpy (up c 39 0 (c 1 0)) 2 0 40 0 25) 39 2 ((cpy (up c 39 0 (c 1 0)) 2 0 40 0 25) 1 2)) 3 0 41 0 18) 4 0 42 0 5) 39 5 ((cpy (cpy (up (cpy (up c 39 0 (c 1 0)) 2 0 40 0 25) 39 2 ((cpy (up c 39 0 (c 1 0)) 2 0 40 0 25) 1 2)) 3 0 41 0 18) 4 0 42 0 5) 1 5))))) : Q (ccal 65 [vR 40, vR 2] (SH T, c)) := by
  refine of_cev (Q := Q) ?_
  exact k
set_option maxRecDepth 20000 in
theorem W_X7_takeFromjn_80 {T : List Shp} {c : Nat → Int → Int} {Q : Res → Prop} {x2 : Int} (k : ((x2 < 6 → (((0 ≤ x2 ∧ x2 < 6) ∧ (trf (SH T) (c 5 x2) 20 = true) ∧ (-2147483648 ≤ x2 + 1 ∧ x2 + 1 < 2147483648)) ∧ Q (cev 65 1 80 [vR 40, vR 2, vI (x2 + 1)] [] (SH T, (up c 43 x2 (c 5 x2)))))) ∧ (¬ x2 < 6 → Q (some (none, (SH T, (cpy (up (cpy (up (cpy (cpy (up (up c 39 7 (c 1 7)) 39 8 (c 1 8)) 6 0 44 0 17) 7 0 45 0 204) 39 11 ((cpy (cpy (up (up c 39 7 (c 1 7)) 39 8 (c 1 8)) 6 0 44 0 17) 7 0 45 0 204) 1 11)) 8 0 46 0 72) 39 13 ((cpy (up (cpy (cpy (up (up c 39 7 (c 1 7)) 39 8 (c 1 8)) 6 0 44 0 17) 7 0 45 0 204) 39 11 ((cpy (cpy (up (up c 39 7 (c 1 7)) 39 8 (c 1 8)) 6 0 44 0 17) 7 0 45 0 204) 1 11)) 8 0 46 0 72) 1 13)) 9 0 47 0 32))))))) : Q (cev 65 1 80 [vR 40, vR 2, vI x2] [] (SH T, c)) := by
  refine of_cev (Q := Q) ?_
  refine wq_ite (Q := Q) (p := x2 < 6) (fun h => ?_) (fun h => ?_)
  · replace k := k.1 h
    refine wq_pos (Q := Q) k.1.1 ?_
    refine wq_pos (Q := Q) k.1.1 ?_
    refine wq_bif (Q := Q) k.1.2.1 ?_
    refine wq_pos (Q := Q) k.1.2.2 ?_
    replace k := k.2
    exact k
  · replace k := k.2 h
    show Q (cev 65 1 107 [vR 40, vR 2, vU] [] (SH T, c))
    refine of_cev (Q := Q) ?_
    exact k
set_option maxRecDepth 20000 in
theorem W_X7_takeFromni {T : List Shp} {c : Nat → Int → Int} {Q : Res → Prop} (k : Q (cev 65 1 80 [vR 2, vR 31, vI 0] [] (SH T, (up (cpy (cpy (up (cpy (up c 1 0 (c 30 0)) 31 0 2 0 25) 1 2 ((cpy (up c 1 0 (c 30 0)) 31 0 2 0 25) 30 2)) 32 0 3 0 18) 33 0 4 0 5) 1 5 ((cpy (cpy (up (cpy (up c 1 0 (c 30 0)) 31 0 2 0 25) 1 2 ((cpy (up c 1 0 (c 30 0)) 31 0 2 0 25) 30 2)) 32 0 3 0 18) 33 0 4 0 5) 30 5))))) : Q (ccal 65 [vR 2, vR 31] (SH T, c)) := by
  refine of_cev (Q := Q) ?_
  exact k
set_option maxRecDepth 20000 in
theorem W_X7_takeFromni_80 {T : List Shp} {c : Nat → Int → Int} {Q : Res → Prop} {x2 : Int} (k : ((x2 < 6 → (((0 ≤ x2 ∧ x2 < 6) ∧ (trf (SH T) (c 34 x2) 20 = true) ∧ (-2147483648 ≤ x2 + 1 ∧ x2 + 1 < 2147483648)) ∧ Q (cev 65 1 80 [vR 2, vR 31, vI (x2 + 1)] [] (SH T, (up c 5 x2 (c 34 x2)))))) ∧ (¬ x2 < 6 → Q (some (none, (SH T, (cpy (up (cpy (up (cpy (cpy (up (up c 1 7 (c 30 7)) 1 8 (c 30 8)) 35 0 6 0 17) 36 0 7 0 204) 1 11 ((cpy (cpy (up (up c 1 7 (c 30 7)) 1 8 (c 30 8)) 35 0 6 0 17) 36 0 7 0 204) 30 11)) 37 0 8 0 72) 1 13 ((cpy (up (cpy (cpy (up (up c 1 7 (c 30 7)) 1 8 (c 30 8)) 35 0 6 0 17) 36 0 7 0 204) 1 11 ((cpy (cpy (up (up c 1 7 (c 30 7)) 1 8 (c 30 8)) 35 0 6 0 17) 36 0 7 0 204) 30 11)) 37 0 8 0 72) 30 13)) 38 0 9 0 32))))))) : Q (cev 65 1 80 [vR 2, vR 31, vI x2] [] (SH T, c)) := by
  refine of_cev (Q := Q) ?_
  refine wq_ite (Q := Q) (p := x2 < 6) (fun h => ?_) (fun h => ?_)
  · replace k := k.1 h
    refine wq_pos (Q := Q) k.1.1 ?_
    refine wq_pos (Q := Q) k.1.1 ?_
    refine wq_bif (Q := Q) k.1.2.1 ?_
    refine wq_pos (Q := Q) k.1.2.2 ?_
    replace k := k.2
    exact k
  · replace k := k.2 h
    show Q (cev 65 1 107 [vR 2, vR 31, vU] [] (SH T, c))
    refine of_cev (Q := Q) ?_
    exact k
set_option maxRecDepth 20000 in
theorem W_X7_takeFromnj {T : List Shp} {c : Nat → Int → Int} {Q : Res → Prop} (k : Q (cev 65 1 80 [vR 2, vR 40, vI 0] [] (SH T, (up (cpy (cpy (up (cpy (up c 1 0 (c 39 0)) 40 0 2 0 25) 1 2 ((cpy (up c 1 0 (c 39 0)) 40 0 2 0 25) 39 2)) 41 0 3 0 18) 42 0 4 0 5) 1 5 ((cpy (cpy (up (cpy (up c 1 0 (c 39 0)) 40 0 2 0 25) 1 2 ((cpy (up c 1 0 (c 39 0)) 40 0 2 0 25) 39 2)) 41 0 3 0 18) 42 0 4 0 5) 39 5))))) : Q (ccal 65 [vR 2, vR 40] (SH T, c)) := by
  refine of_cev (Q := Q) ?_
  exact k
set_option maxRecDepth 20000 in
theorem W_X7_takeFromnj_80 {T : List Shp} {c : Nat → Int → Int} {Q : Res → Prop} {x2 : Int} (k : ((x2 < 6 → (((0 ≤ x2 ∧ x2 < 6) ∧ (trf (SH T) (c 43 x2) 20 = true) ∧ (-2147483648 ≤ x2 + 1 ∧ x2 + 1 < 2147483648)) ∧ Q (cev 65 1 80 [vR 2, vR 40, vI (x2 + 1)] [] (SH T, (up c 5 x2 (c 43 x2)))))) ∧ (¬ x2 < 6 → Q (some (none, (SH T, (cpy (up (cpy (up (cpy (cpy (up (up c 1 7 (c 39 7)) 1 8 (c 39 8)) 44 0 6 0 17) 45 0 7 0 204) 1 11 ((cpy (cpy (up (up c 1 7 (c 39 7)) 1 8 (c 39 8)) 44 0 6 0 17) 45 0 7 0 204) 39 11)) 46 0 8 0 72) 1 13 ((cpy (up (cpy (cpy (up (up c 1 7 (c 39 7)) 1 8 (c 39 8)) 44 0 6 0 17) 45 0 7 0 204) 1 11 ((cpy (cpy (up (up c 1 7 (c 39 7)) 1 8 (c 39 8)) 44 0 6 0 17) 45 0 7 0 204) 39 11)) 46 0 8 0 72) 39 13)) 47 0 9 0 32))))))) : Q (cev 65 1 80 [vR 2, vR 40, vI x2] [] (SH T, c)) := by
  refine of_cev (Q := Q) ?_
  refine wq_ite (Q := Q) (p := x2 < 6) (fun h => ?_) (fun h => ?_)
  · replace k := k.1 h
    refine wq_pos (Q := Q) k.1.1 ?_
    refine wq_pos (Q := Q) k.1.1 ?_
    refine wq_bif (Q := Q) k.1.2.1 ?_
    refine wq_pos (Q := Q) k.1.2.2 ?_
    replace k := k.2
    exact k
  · replace k := k.2 h
    show Q (cev 65 1 107 [vR 2, vR 40, vU] [] (SH T, c))
    refine of_cev (Q := Q) ?_
    exact k
set_option maxRecDepth 20000 in
theorem W_X7_takeFrombn {T : List Shp} {c : Nat → Int → Int} {Q : Res → Prop} (k : Q (cev 65 1 80 [vR 61, vR 2, vI 0] [] (SH T, (up (cpy (cpy (up (cpy (up c 60 0 (c 1 0)) 2 0 61 0 25) 60 2 ((cpy (up c 60 0 (c 1 0)) 2 0 61 0 25) 1 2)) 3 0 62 0 18) 4 0 63 0 5) 60 5 ((cpy (cpy (up (cpy (up c 60 0 (c 1 0)) 2 0 61 0 25) 60 2 ((cpy (up c 60 0 (c 1 0)) 2 0 61 0 25) 1 2)) 3 0 62 0 18) 4 0 63 0 5) 1 5))))) : Q (ccal 65 [vR 61, vR 2] (SH T, c)) := by
  refine of_cev (Q := Q) ?_
  exact k
set_option maxRecDepth 20000 in
theorem W_X7_takeFrombn_80 {T : List Shp} {c : Nat → Int → Int} {Q : Res → Prop} {x2 : Int} (k : ((x2 < 6 → (((0 ≤ x2 ∧ x2 < 6) ∧ (trf (SH T) (c 5 x2) 20 = true) ∧ (-2147483648 ≤ x2 + 1 ∧ x2 + 1 < 2147483648)) ∧ Q (cev 65 1 80 [vR 61, vR 2, vI (x2 + 1)] [] (SH T, (up c 64 x2 (c 5 x2)))))) ∧ (¬ x2 < 6 → Q (some (none, (SH T, (cpy (up (cpy (up (cpy (cpy (up (up c 60 7 (c 1 7)) 60 8 (c 1 8)) 6 0 65 0 17) 7 0 66 0 204) 60 11 ((cpy (cpy (up (up c 60 7 (c 1 7)) 60 8 (c 1 8)) 6 0 65 0 17) 7 0 66 0 204) 1 11)) 8 0 67 0 72) 60 13 ((cpy (up (cpy (cpy (up (up c 60 7 (c 1 7)) 60 8 (c 1 8)) 6 0 65 0 17) 7 0 66 0 204) 60 11 ((cpy (cpy (up (up c 60 7 (c 1 7)) 60 8 (c 1 8)) 6 0 65 0 17) 7 0 66 0 204) 1 11)) 8 0 67 0 72) 1 13)) 9 0 68 0 32))))))) : Q (cev 65 1 80 [vR 61, vR 2, vI x2] [] (SH T, c)) := by
  refine of_cev (Q := Q) ?_
  refine wq_ite (Q := Q) (p := x2 < 6) (fun h => ?_) (fun h => ?_)
  · replace k := k.1 h
    refine wq_pos (Q := Q) k.1.1 ?_
    refine wq_pos (Q := Q) k.1.1 ?_
    refine wq_bif (Q := Q) k.1.2.1 ?_
    refine wq_pos (Q := Q) k.1.2.2 ?_
    replace k := k.2
    exact k
  · replace k := k.2 h
    show Q (cev 65 1 107 [vR 61, vR 2, vU] [] (SH T, c))
    refine of_cev (Q := Q) ?_
    exact k
set_option maxRecDepth 20000 in
theorem W_X7_takeFromnb {T : List Shp} {c : Nat → Int → Int} {Q : Res → Prop} (k : Q (cev 65 1 80 [vR 2, vR 61, vI 0] [] (SH T, (up (cpy (cpy (up (cpy (up c 1 0 (c 60 0)) 61 0 2 0 25) 1 2 ((cpy (up c 1 0 (c 60 0)) 61 0 2 0 25) 60 2)) 62 0 3 0 18) 63 0 4 0 5) 1 5 ((cpy (cpy (up (cpy (up c 1 0 (c 60 0)) 61 0 2 0 25) 1 2 ((cpy (up c 1 0 (c 60 0)) 61 0 2 0 25) 60 2)) 62 0 3 0 18) 63 0 4 0 5) 60 5))))) : Q (ccal 65 [vR 2, vR 61] (SH T, c)) := by
  refine of_cev (Q := Q) ?_
  exact k
set_option maxRecDepth 20000 in
theorem W_X7_takeFromnb_80 {T : List Shp} {c : Nat → Int → Int} {Q : Res → Prop} {x2 : Int} (k : ((x2 < 6 → (((0 ≤ x2 ∧ x2 < 6) ∧ (trf (SH T) (c 64 x2) 20 = true) ∧ (-2147483648 ≤ x2 + 1 ∧ x2 + 1 < 2147483648)) ∧ Q (cev 65 1 80 [vR 2, vR 61, vI (x2 + 1)] [] (SH T, (up c 5 x2 (c 64 x2)))))) ∧ (¬ x2 < 6 → Q (some (none, (SH T, (cpy (up (cpy (up (cpy (cpy (up (up c 1 7 (c 60 7)) 1 8 (c 60 8)) 65 0 6 0 17) 66 0 7 0 204) 1 11 ((cpy (cpy (up (up c 1 7 (c 60 7)) 1 8 (c 60 8)) 65 0 6 0 17) 66 0 7 0 204) 60 11)) 67 0 8 0 72) 1 13 ((cpy (up (cpy (cpy (up (up c 1 7 (c 60 7)) 1 8 (c 60 8)) 65 0 6 0 17) 66 0 7 0 204) 1 11 ((cpy (cpy (up (up c 1 7 (c 60 7)) 1 8 (c 60 8)) 65 0 6 0 17) 66 0 7 0 204) 60 11)) 67 0 8 0 72) 60 13)) 68 0 9 0 32))))))) : Q (cev 65 1 80 [vR 2, vR 61, vI x2] [] (SH T, c)) := by
  refine of_cev (Q := Q) ?_
  refine wq_ite (Q := Q) (p := x2 < 6) (fun h => ?_) (fun h => ?_)
  · replace k := k.1 h
    refine wq_pos (Q := Q) k.1.1 ?_
    refine wq_pos (Q := Q) k.1.1 ?_
    refine wq_bif (Q := Q) k.1.2.1 ?_
    refine wq_pos (Q := Q) k.1.2.2 ?_
    replace k := k.2
    exact k
  · replace k := k.2 h
    show Q (cev 65 1 107 [vR 2, vR 61, vU] [] (SH T, c))
    refine of_cev (Q := Q) ?_
    exact k
set_option maxRecDepth 20000 in
theorem W_X7_ageIn {T : List Shp} {c : Nat → Int → Int} {Q : Res → Prop} {x1 : Int} (k : (((-2147483648 ≤ (c 4 1) - 2 ∧ (c 4 1) - 2 < 2147483648) ∧ (-2147483648 ≤ ((c 4 1) - 2) * x1 ∧ ((c 4 1) - 2) * x1 < 2147483648) ∧ (-2147483648 ≤ (c 4 0) + (((c 4 1) - 2) * x1) ∧ (c 4 0) + (((c 4 1) - 2) * x1) < 2147483648)) ∧ ((((c 4 0) + (((c 4 1) - 2) * x1)) < 0 → Q (some (some (vI 0), (SH T, c)))) ∧ (¬ ((c 4 0) + (((c 4 1) - 2) * x1)) < 0 → ((199 < ((c 4 0) + (((c 4 1) - 2) * x1)) → Q (some (some (vI 199), (SH T, c)))) ∧ (¬ 199 < ((c 4 0) + (((c 4 1) - 2) * x1)) → Q (some (some (vI ((c 4 0) + (((c 4 1) - 2) * x1))), (SH T, c))))))))) : Q (ccal 69 [vR 2, vI x1] (SH T, c)) := by
  refine of_cev (Q := Q) ?_
  refine wq_pos (Q := Q) k.1.1 ?_
  refine wq_pos (Q := Q) k.1.2.1 ?_
  refine wq_pos (Q := Q) k.1.2.2 ?_
  replace k := k.2
  refine wq_ite (Q := Q) (p := ((c 4 0) + (((c 4 1) - 2) * x1)) < 0) (fun h => ?_) (fun h => ?_)
  · replace k := k.1 h
    exact k
  · replace k := k.2 h
    show Q (cev 69 1 26 [vU, vU, vI ((c 4 0) + (((c 4 1) - 2) * x1))] [] (SH T, c))
    refine of_cev (Q := Q) ?_
    refine wq_ite (Q := Q) (p := 199 < ((c 4 0) + (((c 4 1) - 2) * x1))) (fun h => ?_) (fun h => ?_)
    · replace k := k.1 h
      exact k
    · replace k := k.2 h
      show Q (cev 69 1 39 [vU, vU, vI ((c 4 0) + (((c 4 1) - 2) * x1))] [] (SH T, c))
      refine of_cev (Q := Q) ?_
      exact k
set_option maxRecDepth 20000 in
theorem W_X7_rests {T : List Shp} {c : Nat → Int → Int} {Q : Res → Prop} {x1 x2 : Int} (k : Q (cev 70 1 2 [vR 2, vI x1, vI x2, vI 1, vU] [] (SH T, c))) : Q (ccal 70 [vR 2, vI x1, vI x2] (SH T, c)) := by
  refine of_cev (Q := Q) ?_
  exact k
set_option maxRecDepth 20000 in
theorem W_X7_rests_2 {T : List Shp} {c : Nat → Int → Int} {Q : Res → Prop} {x1 x2 x3 : Int} (k : (((c 4 4) < x3 → Q (some (some (vI 0), (SH T, c)))) ∧ (¬ (c 4 4) < x3 → ((-2147483648 ≤ x2 - x3 ∧ x2 - x3 < 2147483648) ∧ (((x2 - x3) < 1 → ((-2147483648 ≤ x3 + 1 ∧ x3 + 1 < 2147483648) ∧ Q (cev 70 1 2 [vR 2, vI x1, vI x2, vI (x3 + 1), vU] [] (SH T, c)))) ∧ (¬ (x2 - x3) < 1 → (((c 1 8) < (x2 - x3) → ((-2147483648 ≤ x3 + 1 ∧ x3 + 1 < 2147483648) ∧ Q (cev 70 1 2 [vR 2, vI x1, vI x2, vI (x3 + 1), vU] [] (SH T, c)))) ∧ (¬ (c 1 8) < (x2 - x3) → ((0 ≤ (x2 - x3) ∧ (x2 - x3) < 17) ∧ (((c 6 (x2 - x3)) = x1 → Q (some (some (vI 1), (SH T, c)))) ∧ (¬ (c 6 (x2 - x3)) = x1 → ((-2147483648 ≤ x3 + 1 ∧ x3 + 1 < 2147483648) ∧ Q (cev 70 1 2 [vR 2, vI x1, vI x2, vI (x3 + 1), vU] [] (SH T, c)))))))))))))) : Q (cev 70 1 2 [vR 2, vI x1, vI x2, vI x3, vU] [] (SH T, c)) := by
  refine of_cev (Q := Q) ?_
  refine wq_ite (Q := Q) (p := (c 4 4) < x3) (fun h => ?_) (fun h => ?_)
  · replace k := k.1 h
    show Q (cev 70 1 51 [vU, vU, vU, vU, vU] [] (SH T, c))
    refine of_cev (Q := Q) ?_
    exact k
  · replace k := k.2 h
    refine wq_pos (Q := Q) k.1 ?_
    replace k := k.2
    refine wq_ite (Q := Q) (p := (x2 - x3) < 1) (fun h => ?_) (fun h => ?_)
    · replace k := k.1 h
      show Q (cev 70 1 45 [vR 2, vI x1, vI x2, vI x3, vU] [] (SH T, c))
      refine of_cev (Q := Q) ?_
      refine wq_pos (Q := Q) k.1 ?_
      replace k := k.2
      exact k
    · replace k := k.2 h
      refine wq_ite (Q := Q) (p := (c 1 8) < (x2 - x3)) (fun h => ?_) (fun h => ?_)
      · replace k := k.1 h
        show Q (cev 70 1 45 [vR 2, vI x1, vI x2, vI x3, vU] [] (SH T, c))
        refine of_cev (Q := Q) ?_
        refine wq_pos (Q := Q) k.1 ?_
        replace k := k.2
        exact k
      · replace k := k.2 h
        refine wq_pos (Q := Q) k.1 ?_
        replace k := k.2
        refine wq_ite (Q := Q) (p := (c 6 (x2 - x3)) = x1) (fun h => ?_) (fun h => ?_)
        · replace k := k.1 h
          exact k
        · replace k := k.2 h
          show Q (cev 70 1 45 [vR 2, vI x1, vI x2, vI x3, vU] [] (SH T, c))
          refine of_cev (Q := Q) ?_
          refine wq_pos (Q := Q) k.1 ?_
          replace k := k.2
          exact k
set_option maxRecDepth 20000 in
theorem W_X7_addCopy {T : List Shp} {c : Nat → Int → Int} {Q : Res → Prop} (k : (((-2147483648 ≤ (c 1 8) * 12 ∧ (c 1 8) * 12 < 2147483648) ∧ (-2147483648 ≤ (c 1 11) * 12 ∧ (c 1 11) * 12 < 2147483648) ∧ ((0 ≤ ((c 1 8) * 12) ∧ 0 ≤ ((c 1 11) * 12) ∧ (0 : Int) ≤ 12) ∧ (((c 1 8) * 12) : Int) + 12 ≤ 204 ∧ (((c 1 11) * 12) : Int) + 12 ≤ 72) ∧ (-2147483648 ≤ ((cpy c 7 ((c 1 8) * 12) 8 ((c 1 11) * 12) 12) 1 11) + 1 ∧ ((cpy c 7 ((c 1 8) * 12) 8 ((c 1 11) * 12) 12) 1 11) + 1 < 2147483648)) ∧ Q (some (none, (SH T, (up (cpy c 7 ((c 1 8) * 12) 8 ((c 1 11) * 12) 12) 1 11 (((cpy c 7 ((c 1 8) * 12) 8 ((c 1 11) * 12) 12) 1 11) + 1))))))) : Q (ccal 72 [vR 2] (SH T, c)) := by
  refine of_cev (Q := Q) ?_
  refine wq_pos (Q := Q) k.1.1 ?_
  refine wq_pos (Q := Q) k.1.2.1 ?_
  refine wq_pos (Q := Q) k.1.2.2.1 ?_
  refine wq_pos (Q := Q) k.1.2.2.2 ?_
  replace k := k.2
  exact k
set_option maxRecDepth 20000 in
theorem W_X7_nearOf {T : List Shp} {c : Nat → Int → Int} {Q : Res → Prop} {x1 : Int} (k : Q (cev 73 1 4 [vR 2, vI x1, vI 0, vI 0] [] (SH T, c))) : Q (ccal 73 [vR 2, vI x1] (SH T, c)) := by
  refine of_cev (Q := Q) ?_
  exact k
set_option maxRecDepth 20000 in
theorem W_X7_nearOf_4 {T : List Shp} {c : Nat → Int → Int} {Q : Res → Prop} {x1 x2 x3 : Int} (k : ((x3 < 12 → (((-2147483648 ≤ x1 * 12 ∧ x1 * 12 < 2147483648) ∧ (-2147483648 ≤ (x1 * 12) + x3 ∧ (x1 * 12) + x3 < 2147483648) ∧ (0 ≤ ((x1 * 12) + x3) ∧ ((x1 * 12) + x3) < 72) ∧ (-2147483648 ≤ (c 1 8) * 12 ∧ (c 1 8) * 12 < 2147483648) ∧ (-2147483648 ≤ ((c 1 8) * 12) + x3 ∧ ((c 1 8) * 12) + x3 < 2147483648) ∧ (0 ≤ (((c 1 8) * 12) + x3) ∧ (((c 1 8) * 12) + x3) < 204)) ∧ (((c 8 ((x1 * 12) + x3)) = (c 7 (((c 1 8) * 12) + x3)) → ((-2147483648 ≤ x3 + 1 ∧ x3 + 1 < 2147483648) ∧ Q (cev 73 1 4 [vR 2, vI x1, vI x2, vI (x3 + 1)] [] (SH T, c)))) ∧ (¬ (c 8 ((x1 * 12) + x3)) = (c 7 (((c 1 8) * 12) + x3)) → (((-2147483648 ≤ x2 + 1 ∧ x2 + 1 < 2147483648) ∧ (-2147483648 ≤ x3 + 1 ∧ x3 + 1 < 2147483648)) ∧ Q (cev 73 1 4 [vR 2, vI x1, vI (x2 + 1), vI (x3 + 1)] [] (SH T, c))))))) ∧ (¬ x3 < 12 → Q (some (some (vI x2), (SH T, c)))))) : Q (cev 73 1 4 [vR 2, vI x1, vI x2, vI x3] [] (SH T, c)) := by
  refine of_cev (Q := Q) ?_
  refine wq_ite (Q := Q) (p := x3 < 12) (fun h => ?_) (fun h => ?_)
  · replace k := k.1 h
    refine wq_pos (Q := Q) k.1.1 ?_
    refine wq_pos (Q := Q) k.1.2.1 ?_
    refine wq_pos (Q := Q) k.1.2.2.1 ?_
    refine wq_pos (Q := Q) k.1.2.2.2.1 ?_
    refine wq_pos (Q := Q) k.1.2.2.2.2.1 ?_
    refine wq_pos (Q := Q) k.1.2.2.2.2.2 ?_
    replace k := k.2
    refine wq_ite (Q := Q) (p := (c 8 ((x1 * 12) + x3)) = (c 7 (((c 1 8) * 12) + x3))) (fun h => ?_) (fun h => ?_)
    · replace k := k.1 h
      show Q (cev 73 1 41 [vR 2, vI x1, vI x2, vI x3] [] (SH T, c))
      refine of_cev (Q := Q) ?_
      refine wq_pos (Q := Q) k.1 ?_
      replace k := k.2
      exact k
    · replace k := k.2 h
      refine wq_pos (Q := Q) k.1.1 ?_
      show Q (cev 73 1 41 [vR 2, vI x1, vI (x2 + 1), vI x3] [] (SH T, c))
      refine of_cev (Q := Q) ?_
      refine wq_pos (Q := Q) k.1.2 ?_
      replace k := k.2
      exact k
  · replace k := k.2 h
    show Q (cev 73 1 47 [vU, vU, vI x2, vU] [] (SH T, c))
    refine of_cev (Q := Q) ?_
    exact k
set_option maxRecDepth 20000 in
theorem W_X7_childrenOf {T : List Shp} {c : Nat → Int → Int} {Q : Res → Prop} {x1 x2 : Int} (k : Q (cev 75 2 5 [vR 2, vI x1, vI x2, vI 0, vI 0] [] (SH T, c))) : Q (ccal 75 [vR 2, vI x1, vI x2] (SH T, c)) := by
  refine of_cev (Q := Q) ?_
  exact k
set_option maxRecDepth 20000 in
theorem W_X7_childrenOf_5 {T : List Shp} {c : Nat → Int → Int} {Q : Res → Prop} {x1 x2 x3 x4 : Int} (k : ((x4 < (c 1 13) → (((-2147483648 ≤ x4 * 4 ∧ x4 * 4 < 2147483648) ∧ (0 ≤ (x4 * 4) ∧ (x4 * 4) < 32)) ∧ (((c 9 (x4 * 4)) = x1 → (((-2147483648 ≤ x4 * 4 ∧ x4 * 4 < 2147483648) ∧ (0 ≤ x4 * 4 ∧ x4 * 4 + 2 < 32)) ∧ ((c 9 (x4 * 4 + 1) ≤ x2 ∧ x2 < c 9 (x4 * 4 + 2) → (((-2147483648 ≤ x3 + 1 ∧ x3 + 1 < 2147483648) ∧ (-2147483648 ≤ x4 + 1 ∧ x4 + 1 < 2147483648)) ∧ Q (cev 75 2 5 [vR 2, vI x1, vI x2, vI (x3 + 1), vI (x4 + 1)] [] (SH T, c)))) ∧ (¬ (c 9 (x4 * 4 + 1) ≤ x2 ∧ x2 < c 9 (x4 * 4 + 2)) → ((-2147483648 ≤ x4 + 1 ∧ x4 + 1 < 2147483648) ∧ Q (cev 75 2 5 [vR 2, vI x1, vI x2, vI x3, vI (x4 + 1)] [] (SH T, c))))))) ∧ (¬ (c 9 (x4 * 4)) = x1 → ((-2147483648 ≤ x4 + 1 ∧ x4 + 1 < 2147483648) ∧ Q (cev 75 2 5 [vR 2, vI x1, vI x2, vI x3, vI (x4 + 1)] [] (SH T, c))))))) ∧ (¬ x4 < (c 1 13) → Q (some (some (vI x3), (SH T, c)))))) : Q (cev 75 2 5 [vR 2, vI x1, vI x2, vI x3, vI x4] [] (SH T, c)) := by
  refine of_cev (Q := Q) ?_
  refine wq_ite (Q := Q) (p := x4 < (c 1 13)) (fun h => ?_) (fun h => ?_)
  · replace k := k.1 h
    refine wq_pos (Q := Q) k.1.1 ?_
    refine wq_pos (Q := Q) k.1.2 ?_
    replace k := k.2
    refine wq_ite (Q := Q) (p := (c 9 (x4 * 4)) = x1) (fun h => ?_) (fun h => ?_)
    · replace k := k.1 h
      refine wq_sum (Q := Q) rfl (S_X7_isAlive T c x4 x2 k.1.1 k.1.2) ?_
      replace k := k.2
      refine wq_b01 (Q := Q) (p := c 9 (x4 * 4 + 1) ≤ x2 ∧ x2 < c 9 (x4 * 4 + 2)) (fun h => ?_) (fun h => ?_)
      · replace k := k.2 h
        show Q (cev 75 2 40 [vR 2, vI x1, vI x2, vI x3, vI x4] [] (SH T, c))
        refine of_cev (Q := Q) ?_
        refine wq_pos (Q := Q) k.1 ?_
        replace k := k.2
        exact k
      · replace k := k.1 h
        refine wq_pos (Q := Q) k.1.1 ?_
        show Q (cev 75 2 40 [vR 2, vI x1, vI x2, vI (x3 + 1), vI x4] [] (SH T, c))
        refine of_cev (Q := Q) ?_
        refine wq_pos (Q := Q) k.1.2 ?_
        replace k := k.2
        exact k
    · replace k := k.2 h
      show Q (cev 75 2 40 [vR 2, vI x1, vI x2, vI x3, vI x4] [] (SH T, c))
      refine of_cev (Q := Q) ?_
      refine wq_pos (Q := Q) k.1 ?_
      replace k := k.2
      exact k
  · replace k := k.2 h
    show Q (cev 75 2 46 [vU, vU, vU, vI x3, vU] [] (SH T, c))
    refine of_cev (Q := Q) ?_
    exact k
set_option maxRecDepth 20000 in
theorem W_X7_brushed {T : List Shp} {c : Nat → Int → Int} {Q : Res → Prop} {x1 x2 x3 x4 : Int} (k : (((-2147483648 ≤ x1 * 5 ∧ x1 * 5 < 2147483648) ∧ (0 ≤ (x1 * 5) ∧ (x1 * 5) < 25) ∧ (-2147483648 ≤ x4 - x3 ∧ x4 - x3 < 2147483648) ∧ (-2147483648 ≤ -(c 2 (x1 * 5)) ∧ -(c 2 (x1 * 5)) < 2147483648) ∧ (-2147483648 ≤ x3 + (clp (x4 - x3) (-(c 2 (x1 * 5))) (c 2 (x1 * 5))) ∧ x3 + (clp (x4 - x3) (-(c 2 (x1 * 5))) (c 2 (x1 * 5))) < 2147483648) ∧ (-2147483648 ≤ (x1 * 5) + 2 ∧ (x1 * 5) + 2 < 2147483648) ∧ ((0 ≤ x2 ∧ x2 < 2147483648) ∧ (0 : Int) < 3) ∧ (-2147483648 ≤ ((x1 * 5) + 2) + (x2 % 3) ∧ ((x1 * 5) + 2) + (x2 % 3) < 2147483648) ∧ (0 ≤ (((x1 * 5) + 2) + (x2 % 3)) ∧ (((x1 * 5) + 2) + (x2 % 3)) < 25) ∧ (-2147483648 ≤ (x3 + (clp (x4 - x3) (-(c 2 (x1 * 5))) (c 2 (x1 * 5)))) + (c 2 (((x1 * 5) + 2) + (x2 % 3))) ∧ (x3 + (clp (x4 - x3) (-(c 2 (x1 * 5))) (c 2 (x1 * 5)))) + (c 2 (((x1 * 5) + 2) + (x2 % 3))) < 2147483648) ∧ (-2147483648 ≤ ((x3 + (clp (x4 - x3) (-(c 2 (x1 * 5))) (c 2 (x1 * 5)))) + (c 2 (((x1 * 5) + 2) + (x2 % 3)))) - 3 ∧ ((x3 + (clp (x4 - x3) (-(c 2 (x1 * 5))) (c 2 (x1 * 5)))) + (c 2 (((x1 * 5) + 2) + (x2 % 3)))) - 3 < 2147483648)) ∧ Q (some (some (vI (clp (((x3 + (clp (x4 - x3) (-(c 2 (x1 * 5))) (c 2 (x1 * 5)))) + (c 2 (((x1 * 5) + 2) + (x2 % 3)))) - 3) 0 9)), (SH T, c))))) : Q (ccal 76 [vR 2, vI x1, vI x2, vI x3, vI x4] (SH T, c)) := by
  refine of_cev (Q := Q) ?_
  refine wq_pos (Q := Q) k.1.1 ?_
  refine wq_pos (Q := Q) k.1.2.1 ?_
  refine wq_pos (Q := Q) k.1.2.2.1 ?_
  refine wq_pos (Q := Q) k.1.2.2.2.1 ?_
  refine wq_sum (Q := Q) rfl (S_X11_nearest T c (x4 - x3) (-(c 2 (x1 * 5))) (c 2 (x1 * 5))) ?_
  refine wq_pos (Q := Q) k.1.2.2.2.2.1 ?_
  refine wq_pos (Q := Q) k.1.2.2.2.2.2.1 ?_
  refine wq_pos (Q := Q) k.1.2.2.2.2.2.2.1 ?_
  refine wq_pos (Q := Q) k.1.2.2.2.2.2.2.2.1 ?_
  refine wq_pos (Q := Q) k.1.2.2.2.2.2.2.2.2.1 ?_
  refine wq_pos (Q := Q) k.1.2.2.2.2.2.2.2.2.2.1 ?_
  refine wq_pos (Q := Q) k.1.2.2.2.2.2.2.2.2.2.2 ?_
  refine wq_sum (Q := Q) rfl (S_X11_nearest T c (((x3 + (clp (x4 - x3) (-(c 2 (x1 * 5))) (c 2 (x1 * 5)))) + (c 2 (((x1 * 5) + 2) + (x2 % 3)))) - 3) 0 9) ?_
  replace k := k.2
  exact k
set_option maxRecDepth 20000 in
theorem W_X3_worksa {T : List Shp} {c : Nat → Int → Int} {Q : Res → Prop} {x1 x2 : Int} (k : Q (cev 20 2 11 [vR 16, vR x1, vU, vR 18, vI x2, vI 0, vU, vU] [] (SH T, (up c 15 1 0)))) : Q (ccal 20 [vR 16, vR x1, vI x2, vR 18] (SH T, c)) := by
  refine of_cev (Q := Q) ?_
  exact k
set_option maxRecDepth 20000 in
theorem W_X3_worksa_11 {T : List Shp} {c : Nat → Int → Int} {Q : Res → Prop} {x1 x4 x5 : Int} {p1 : Nat} {n2 : Int} {f3 : List Int} {p4 : Nat} {n5 : Int} {f6 : List Int} (k : ((x5 < 450 → ((drf (SH T) x1 = some (p1, (20, n2, f3))) ∧ ((0 ≤ x4 ∧ x4 < (c p1 3) → (((drf (SH T) x1 = some (p1, (20, n2, f3))) ∧ (drf (SH T) (f3.getD 1 0) = some (p4, (0, n5, f6))) ∧ (0 ≤ x4 ∧ x4 < n5) ∧ (-2147483648 ≤ x4 + 1 ∧ x4 + 1 < 2147483648)) ∧ (((iand (c p4 x4) 15) = 0 → Q (cev 20 2 68 [vR 16, vR x1, vU, vR 18, vI (x4 + 1), vI x5, vI (iand (c p4 x4) 15), vI (ishr (c p4 x4) 4)] [] (SH T, c))) ∧ (¬ (iand (c p4 x4) 15) = 0 → (((iand (c p4 x4) 15) = 1 → Q (cev 20 2 68 [vR 16, vR x1, vU, vR 18, vI (x4 + 1), vI x5, vI (iand (c p4 x4) 15), vI (ishr (c p4 x4) 4)] [] (SH T, c))) ∧ (¬ (iand (c p4 x4) 15) = 1 → (((c 15 1) < 1 → Q (some (some (vI 0), (SH T, c)))) ∧ (¬ (c 15 1) < 1 → (((iand (c p4 x4) 15) = 12 → Q (some (some (vI 1), (SH T, (up c 15 2 (c 16 0)))))) ∧ (¬ (iand (c p4 x4) 15) = 12 → (((iand (c p4 x4) 15) = 9 → (((-2147483648 ≤ (c 15 1) - 1 ∧ (c 15 1) - 1 < 2147483648) ∧ (0 ≤ ((c 15 1) - 1) ∧ ((c 15 1) - 1) < 100) ∧ (-2147483648 ≤ 1 - (c 16 ((c 15 1) - 1)) ∧ 1 - (c 16 ((c 15 1) - 1)) < 2147483648) ∧ (-2147483648 ≤ x5 + 1 ∧ x5 + 1 < 2147483648)) ∧ Q (cev 20 2 11 [vR 16, vR x1, vU, vR 18, vI (x4 + 1), vI (x5 + 1), vU, vU] [] (SH T, (up c 16 ((c 15 1) - 1) (1 - (c 16 ((c 15 1) - 1)))))))) ∧ (¬ (iand (c p4 x4) 15) = 9 → (((iand (c p4 x4) 15) = 10 → Q (cev 20 2 208 [vR 16, vR x1, vU, vR 18, vI (x4 + 1), vI x5, vI (iand (c p4 x4) 15), vI (ishr (c p4 x4) 4)] [] (SH T, c))) ∧ (¬ (iand (c p4 x4) 15) = 10 → (((iand (c p4 x4) 15) = 11 → Q (cev 20 2 208 [vR 16, vR x1, vU, vR 18, vI (x4 + 1), vI x5, vI (iand (c p4 x4) 15), vI (ishr (c p4 x4) 4)] [] (SH T, c))) ∧ (¬ (iand (c p4 x4) 15) = 11 → (QI T (fun r7 c8 => ((r7 = 0 → Q (some (some (vI 0), (SH T, c8)))) ∧ (¬ r7 = 0 → ((-2147483648 ≤ x5 + 1 ∧ x5 + 1 < 2147483648) ∧ Q (cev 20 2 11 [vR 16, vR x1, vU, vR 18, vI (x4 + 1), vI (x5 + 1), vU, vU] [] (SH T, c8)))))) (ccal 21 [vR 16, vI (iand (c p4 x4) 15)] (SH T, c))))))))))))))))))) ∧ (¬ (0 ≤ x4 ∧ x4 < (c p1 3)) → Q (some (some (vI 0), (SH T, c))))))) ∧ (¬ x5 < 450 → Q (some (some (vI 0), (SH T, c)))))) : Q (cev 20 2 11 [vR 16, vR x1, vU, vR 18, vI x4, vI x5, vU, vU] [] (SH T, c)) := by
  refine of_cev (Q := Q) ?_
  refine wq_ite (Q := Q) (p := x5 < 450) (fun h => ?_) (fun h => ?_)
  · replace k := k.1 h
    refine wq_el (Q := Q) k.1 ?_
    refine wq_sum (Q := Q) rfl (S_X11_inside T c x4 (c p1 3)) ?_
    replace k := k.2
    refine wq_b01 (Q := Q) (p := 0 ≤ x4 ∧ x4 < (c p1 3)) (fun h => ?_) (fun h => ?_)
    · replace k := k.2 h
      show Q (cev 20 2 271 [vU, vU, vU, vU, vU, vU, vU, vU] [] (SH T, c))
      refine of_cev (Q := Q) ?_
      exact k
    · replace k := k.1 h
      refine wq_el (Q := Q) k.1.1 ?_
      refine wq_el (Q := Q) k.1.2.1 ?_
      refine wq_pos (Q := Q) k.1.2.2.1 ?_
      refine wq_el (Q := Q) k.1.1 ?_
      refine wq_el (Q := Q) k.1.2.1 ?_
      refine wq_pos (Q := Q) k.1.2.2.1 ?_
      refine wq_pos (Q := Q) k.1.2.2.2 ?_
      replace k := k.2
      refine wq_ite (Q := Q) (p := (iand (c p4 x4) 15) = 0) (fun h => ?_) (fun h => ?_)
      · replace k := k.1 h
        exact k
      · replace k := k.2 h
        refine wq_ite (Q := Q) (p := (iand (c p4 x4) 15) = 1) (fun h => ?_) (fun h => ?_)
        · replace k := k.1 h
          exact k
        · replace k := k.2 h
          show Q (cev 20 2 131 [vR 16, vR x1, vU, vR 18, vI (x4 + 1), vI x5, vI (iand (c p4 x4) 15), vI (ishr (c p4 x4) 4)] [] (SH T, c))
          refine of_cev (Q := Q) ?_
          refine wq_ite (Q := Q) (p := (c 15 1) < 1) (fun h => ?_) (fun h => ?_)
          · replace k := k.1 h
            exact k
          · replace k := k.2 h
            show Q (cev 20 2 141 [vR 16, vR x1, vU, vR 18, vI (x4 + 1), vI x5, vI (iand (c p4 x4) 15), vI (ishr (c p4 x4) 4)] [] (SH T, c))
            refine of_cev (Q := Q) ?_
            refine wq_ite (Q := Q) (p := (iand (c p4 x4) 15) = 12) (fun h => ?_) (fun h => ?_)
            · replace k := k.1 h
              exact k
            · replace k := k.2 h
              show Q (cev 20 2 160 [vR 16, vR x1, vU, vR 18, vI (x4 + 1), vI x5, vI (iand (c p4 x4) 15), vI (ishr (c p4 x4) 4)] [] (SH T, c))
              refine of_cev (Q := Q) ?_
              refine wq_ite (Q := Q) (p := (iand (c p4 x4) 15) = 9) (fun h => ?_) (fun h => ?_)
              · replace k := k.1 h
                refine wq_pos (Q := Q) k.1.1 ?_
                refine wq_pos (Q := Q) k.1.1 ?_
                refine wq_pos (Q := Q) k.1.2.1 ?_
                refine wq_pos (Q := Q) k.1.2.2.1 ?_
                refine wq_pos (Q := Q) k.1.2.1 ?_
                show Q (cev 20 2 265 [vR 16, vR x1, vU, vR 18, vI (x4 + 1), vI x5, vU, vU] [] (SH T, (up c 16 ((c 15 1) - 1) (1 - (c 16 ((c 15 1) - 1))))))
                refine of_cev (Q := Q) ?_
                refine wq_pos (Q := Q) k.1.2.2.2 ?_
                replace k := k.2
                exact k
              · replace k := k.2 h
                show Q (cev 20 2 194 [vR 16, vR x1, vU, vR 18, vI (x4 + 1), vI x5, vI (iand (c p4 x4) 15), vI (ishr (c p4 x4) 4)] [] (SH T, c))
                refine of_cev (Q := Q) ?_
                refine wq_ite (Q := Q) (p := (iand (c p4 x4) 15) = 10) (fun h => ?_) (fun h => ?_)
                · replace k := k.1 h
                  exact k
                · replace k := k.2 h
                  refine wq_ite (Q := Q) (p := (iand (c p4 x4) 15) = 11) (fun h => ?_) (fun h => ?_)
                  · replace k := k.1 h
                    exact k
                  · replace k := k.2 h
                    show Q (cev 20 2 254 [vR 16, vR x1, vU, vR 18, vI (x4 + 1), vI x5, vI (iand (c p4 x4) 15), vU] [] (SH T, c))
                    refine of_cev (Q := Q) ?_
                    refine wq_callI (Q := Q) rfl k ?_
                    intro r7 c8 k
                    refine wq_ite (Q := Q) (p := r7 = 0) (fun h => ?_) (fun h => ?_)
                    · replace k := k.1 h
                      exact k
                    · replace k := k.2 h
                      show Q (cev 20 2 265 [vR 16, vR x1, vU, vR 18, vI (x4 + 1), vI x5, vU, vU] [] (SH T, c8))
                      refine of_cev (Q := Q) ?_
                      refine wq_pos (Q := Q) k.1 ?_
                      replace k := k.2
                      exact k
  · replace k := k.2 h
    show Q (cev 20 2 271 [vU, vU, vU, vU, vU, vU, vU, vU] [] (SH T, c))
    refine of_cev (Q := Q) ?_
    exact k
set_option maxRecDepth 20000 in
theorem W_X3_worksa_68 {T : List Shp} {c : Nat → Int → Int} {Q : Res → Prop} {x1 x4 x5 x6 x7 : Int} (k : (((c 15 1) < 100 → ((x6 = 1 → ((x7 < 10 → Q (cev 20 2 95 [vR 16, vR x1, vU, vR 18, vI x4, vI x5, vI x6, vI x7] [] (SH T, c))) ∧ (¬ x7 < 10 → Q (some (some (vI 0), (SH T, c)))))) ∧ (¬ x6 = 1 → Q (cev 20 2 95 [vR 16, vR x1, vU, vR 18, vI x4, vI x5, vI x6, vI x7] [] (SH T, c))))) ∧ (¬ (c 15 1) < 100 → Q (some (some (vI 0), (SH T, c)))))) : Q (cev 20 2 68 [vR 16, vR x1, vU, vR 18, vI x4, vI x5, vI x6, vI x7] [] (SH T, c)) := by
  refine of_cev (Q := Q) ?_
  refine wq_ite (Q := Q) (p := (c 15 1) < 100) (fun h => ?_) (fun h => ?_)
  · replace k := k.1 h
    refine wq_ite (Q := Q) (p := x6 = 1) (fun h => ?_) (fun h => ?_)
    · replace k := k.1 h
      refine wq_ite (Q := Q) (p := x7 < 10) (fun h => ?_) (fun h => ?_)
      · replace k := k.1 h
        exact k
      · replace k := k.2 h
        show Q (cev 20 2 93 [vU, vU, vU, vU, vU, vU, vU, vU] [] (SH T, c))
        refine of_cev (Q := Q) ?_
        exact k
    · replace k := k.2 h
      exact k
  · replace k := k.2 h
    show Q (cev 20 2 93 [vU, vU, vU, vU, vU, vU, vU, vU] [] (SH T, c))
    refine of_cev (Q := Q) ?_
    exact k
set_option maxRecDepth 20000 in
theorem W_X3_worksa_95 {T : List Shp} {c : Nat → Int → Int} {Q : Res → Prop} {x1 x4 x5 x6 x7 : Int} (k : ((x6 = 0 → (((0 ≤ (c 15 1) ∧ (c 15 1) < 100) ∧ (-2147483648 ≤ (c 15 1) + 1 ∧ (c 15 1) + 1 < 2147483648) ∧ (-2147483648 ≤ x5 + 1 ∧ x5 + 1 < 2147483648)) ∧ Q (cev 20 2 11 [vR 16, vR x1, vU, vR 18, vI x4, vI (x5 + 1), vU, vU] [] (SH T, (up (up c 16 (c 15 1) x7) 15 1 ((c 15 1) + 1)))))) ∧ (¬ x6 = 0 → (((0 ≤ x7 ∧ x7 < 10) ∧ (0 ≤ (c 15 1) ∧ (c 15 1) < 100) ∧ (-2147483648 ≤ (c 15 1) + 1 ∧ (c 15 1) + 1 < 2147483648) ∧ (-2147483648 ≤ x5 + 1 ∧ x5 + 1 < 2147483648)) ∧ Q (cev 20 2 11 [vR 16, vR x1, vU, vR 18, vI x4, vI (x5 + 1), vU, vU] [] (SH T, (up (up c 16 (c 15 1) (c 17 x7)) 15 1 ((c 15 1) + 1)))))))) : Q (cev 20 2 95 [vR 16, vR x1, vU, vR 18, vI x4, vI x5, vI x6, vI x7] [] (SH T, c)) := by
  refine of_cev (Q := Q) ?_
  refine wq_ite (Q := Q) (p := x6 = 0) (fun h => ?_) (fun h => ?_)
  · replace k := k.1 h
    show Q (cev 20 2 117 [vR 16, vR x1, vU, vR 18, vI x4, vI x5, vU, vU] [vI x7, vI (c 15 1), vR 17] (SH T, c))
    refine of_cev (Q := Q) ?_
    refine wq_pos (Q := Q) k.1.1 ?_
    refine wq_pos (Q := Q) k.1.2.1 ?_
    show Q (cev 20 2 265 [vR 16, vR x1, vU, vR 18, vI x4, vI x5, vU, vU] [] (SH T, (up (up c 16 (c 15 1) x7) 15 1 ((c 15 1) + 1))))
    refine of_cev (Q := Q) ?_
    refine wq_pos (Q := Q) k.1.2.2 ?_
    replace k := k.2
    exact k
  · replace k := k.2 h
    show Q (cev 20 2 113 [vR 16, vR x1, vU, vR 18, vI x4, vI x5, vU, vI x7] [vI (c 15 1), vR 17] (SH T, c))
    refine of_cev (Q := Q) ?_
    refine wq_pos (Q := Q) k.1.1 ?_
    show Q (cev 20 2 117 [vR 16, vR x1, vU, vR 18, vI x4, vI x5, vU, vU] [vI (c 17 x7), vI (c 15 1), vR 17] (SH T, c))
    refine of_cev (Q := Q) ?_
    refine wq_pos (Q := Q) k.1.2.1 ?_
    refine wq_pos (Q := Q) k.1.2.2.1 ?_
    show Q (cev 20 2 265 [vR 16, vR x1, vU, vR 18, vI x4, vI x5, vU, vU] [] (SH T, (up (up c 16 (c 15 1) (c 17 x7)) 15 1 ((c 15 1) + 1))))
    refine of_cev (Q := Q) ?_
    refine wq_pos (Q := Q) k.1.2.2.2 ?_
    replace k := k.2
    exact k
set_option maxRecDepth 20000 in
theorem W_X3_worksa_208 {T : List Shp} {c : Nat → Int → Int} {Q : Res → Prop} {x1 x4 x5 x6 x7 : Int} (k : (((-2147483648 ≤ (c 15 1) - 1 ∧ (c 15 1) - 1 < 2147483648) ∧ (0 ≤ ((c 15 1) - 1) ∧ ((c 15 1) - 1) < 100)) ∧ ((x6 = 10 → Q (cev 20 2 231 [vR 16, vR x1, vU, vR 18, vI x4, vI x5, vU, vI x7] [vI 1, vI (c 16 ((c 15 1) - 1))] (SH T, c))) ∧ (¬ x6 = 10 → Q (cev 20 2 231 [vR 16, vR x1, vU, vR 18, vI x4, vI x5, vU, vI x7] [vI 0, vI (c 16 ((c 15 1) - 1))] (SH T, c)))))) : Q (cev 20 2 208 [vR 16, vR x1, vU, vR 18, vI x4, vI x5, vI x6, vI x7] [] (SH T, c)) := by
  refine of_cev (Q := Q) ?_
  refine wq_pos (Q := Q) k.1.1 ?_
  refine wq_pos (Q := Q) k.1.2 ?_
  replace k := k.2
  refine wq_ite (Q := Q) (p := x6 = 10) (fun h => ?_) (fun h => ?_)
  · replace k := k.1 h
    exact k
  · replace k := k.2 h
    show Q (cev 20 2 230 [vR 16, vR x1, vU, vR 18, vI x4, vI x5, vU, vI x7] [vI (c 16 ((c 15 1) - 1))] (SH T, c))
    refine of_cev (Q := Q) ?_
    exact k
set_option maxRecDepth 20000 in
theorem W_X3_worksa_231 {T : List Shp} {c : Nat → Int → Int} {Q : Res → Prop} {x1 x4 x5 x7 y0 y1 : Int} (k : ((y1 = y0 → ((-2147483648 ≤ x5 + 1 ∧ x5 + 1 < 2147483648) ∧ Q (cev 20 2 11 [vR 16, vR x1, vU, vR 18, vI x7, vI (x5 + 1), vU, vU] [] (SH T, c)))) ∧ (¬ y1 = y0 → (((-2147483648 ≤ (c 15 1) - 1 ∧ (c 15 1) - 1 < 2147483648) ∧ (-2147483648 ≤ x5 + 1 ∧ x5 + 1 < 2147483648)) ∧ Q (cev 20 2 11 [vR 16, vR x1, vU, vR 18, vI x4, vI (x5 + 1), vU, vU] [] (SH T, (up c 15 1 ((c 15 1) - 1)))))))) : Q (cev 20 2 231 [vR 16, vR x1, vU, vR 18, vI x4, vI x5, vU, vI x7] [vI y0, vI y1] (SH T, c)) := by
  refine of_cev (Q := Q) ?_
  refine wq_ite (Q := Q) (p := y1 = y0) (fun h => ?_) (fun h => ?_)
  · replace k := k.1 h
    show Q (cev 20 2 265 [vR 16, vR x1, vU, vR 18, vI x7, vI x5, vU, vU] [] (SH T, c))
    refine of_cev (Q := Q) ?_
    refine wq_pos (Q := Q) k.1 ?_
    replace k := k.2
    exact k
  · replace k := k.2 h
    show Q (cev 20 2 241 [vR 16, vR x1, vU, vR 18, vI x4, vI x5, vU, vU] [] (SH T, c))
    refine of_cev (Q := Q) ?_
    refine wq_pos (Q := Q) k.1.1 ?_
    show Q (cev 20 2 265 [vR 16, vR x1, vU, vR 18, vI x4, vI x5, vU, vU] [] (SH T, (up c 15 1 ((c 15 1) - 1))))
    refine of_cev (Q := Q) ?_
    refine wq_pos (Q := Q) k.1.2 ?_
    replace k := k.2
    exact k
set_option maxRecDepth 20000 in
theorem W_X3_worksb {T : List Shp} {c : Nat → Int → Int} {Q : Res → Prop} {x2 : Int} (k : Q (cev 20 2 11 [vR 70, vR 12, vU, vR 72, vI x2, vI 0, vU, vU] [] (SH T, (up c 69 1 0)))) : Q (ccal 20 [vR 70, vR 12, vI x2, vR 72] (SH T, c)) := by
  refine of_cev (Q := Q) ?_
  exact k
set_option maxRecDepth 20000 in
theorem W_X3_worksb_11 {T : List Shp} {c : Nat → Int → Int} {Q : Res → Prop} {x4 x5 : Int} (k : ((x5 < 450 → ((0 ≤ x4 ∧ x4 < (c 11 3) → (((0 ≤ x4 ∧ x4 < 450) ∧ (-2147483648 ≤ x4 + 1 ∧ x4 + 1 < 2147483648)) ∧ (((iand (c 13 x4) 15) = 0 → Q (cev 20 2 68 [vR 70, vR 12, vU, vR 72, vI (x4 + 1), vI x5, vI (iand (c 13 x4) 15), vI (ishr (c 13 x4) 4)] [] (SH T, c))) ∧ (¬ (iand (c 13 x4) 15) = 0 → (((iand (c 13 x4) 15) = 1 → Q (cev 20 2 68 [vR 70, vR 12, vU, vR 72, vI (x4 + 1), vI x5, vI (iand (c 13 x4) 15), vI (ishr (c 13 x4) 4)] [] (SH T, c))) ∧ (¬ (iand (c 13 x4) 15) = 1 → (((c 69 1) < 1 → Q (some (some (vI 0), (SH T, c)))) ∧ (¬ (c 69 1) < 1 → (((iand (c 13 x4) 15) = 12 → Q (some (some (vI 1), (SH T, (up c 69 2 (c 70 0)))))) ∧ (¬ (iand (c 13 x4) 15) = 12 → (((iand (c 13 x4) 15) = 9 → (((-2147483648 ≤ (c 69 1) - 1 ∧ (c 69 1) - 1 < 2147483648) ∧ (0 ≤ ((c 69 1) - 1) ∧ ((c 69 1) - 1) < 100) ∧ (-2147483648 ≤ 1 - (c 70 ((c 69 1) - 1)) ∧ 1 - (c 70 ((c 69 1) - 1)) < 2147483648) ∧ (-2147483648 ≤ x5 + 1 ∧ x5 + 1 < 2147483648)) ∧ Q (cev 20 2 11 [vR 70, vR 12, vU, vR 72, vI (x4 + 1), vI (x5 + 1), vU, vU] [] (SH T, (up c 70 ((c 69 1) - 1) (1 - (c 70 ((c 69 1) - 1)))))))) ∧ (¬ (iand (c 13 x4) 15) = 9 → (((iand (c 13 x4) 15) = 10 → Q (cev 20 2 208 [vR 70, vR 12, vU, vR 72, vI (x4 + 1), vI x5, vI (iand (c 13 x4) 15), vI (ishr (c 13 x4) 4)] [] (SH T, c))) ∧ (¬ (iand (c 13 x4) 15) = 10 → (((iand (c 13 x4) 15) = 11 → Q (cev 20 2 208 [vR 70, vR 12, vU, vR 72, vI (x4 + 1), vI x5, vI (iand (c 13 x4) 15), vI (ishr (c 13 x4) 4)] [] (SH T, c))) ∧ (¬ (iand (c 13 x4) 15) = 11 → (QI T (fun r1 c2 => ((r1 = 0 → Q (some (some (vI 0), (SH T, c2)))) ∧ (¬ r1 = 0 → ((-2147483648 ≤ x5 + 1 ∧ x5 + 1 < 2147483648) ∧ Q (cev 20 2 11 [vR 70, vR 12, vU, vR 72, vI (x4 + 1), vI (x5 + 1), vU, vU] [] (SH T, c2)))))) (ccal 21 [vR 70, vI (iand (c 13 x4) 15)] (SH T, c))))))))))))))))))) ∧ (¬ (0 ≤ x4 ∧ x4 < (c 11 3)) → Q (some (some (vI 0), (SH T, c)))))) ∧ (¬ x5 < 450 → Q (some (some (vI 0), (SH T, c)))))) : Q (cev 20 2 11 [vR 70, vR 12, vU, vR 72, vI x4, vI x5, vU, vU] [] (SH T, c)) := by
  refine of_cev (Q := Q) ?_
  refine wq_ite (Q := Q) (p := x5 < 450) (fun h => ?_) (fun h => ?_)
  · replace k := k.1 h
    refine wq_sum (Q := Q) rfl (S_X11_inside T c x4 (c 11 3)) ?_
    refine wq_b01 (Q := Q) (p := 0 ≤ x4 ∧ x4 < (c 11 3)) (fun h => ?_) (fun h => ?_)
    · replace k := k.2 h
      show Q (cev 20 2 271 [vU, vU, vU, vU, vU, vU, vU, vU] [] (SH T, c))
      refine of_cev (Q := Q) ?_
      exact k
    · replace k := k.1 h
      refine wq_pos (Q := Q) k.1.1 ?_
      refine wq_pos (Q := Q) k.1.1 ?_
      refine wq_pos (Q := Q) k.1.2 ?_
      replace k := k.2
      refine wq_ite (Q := Q) (p := (iand (c 13 x4) 15) = 0) (fun h => ?_) (fun h => ?_)
      · replace k := k.1 h
        exact k
      · replace k := k.2 h
        refine wq_ite (Q := Q) (p := (iand (c 13 x4) 15) = 1) (fun h => ?_) (fun h => ?_)
        · replace k := k.1 h
          exact k
        · replace k := k.2 h
          show Q (cev 20 2 131 [vR 70, vR 12, vU, vR 72, vI (x4 + 1), vI x5, vI (iand (c 13 x4) 15), vI (ishr (c 13 x4) 4)] [] (SH T, c))
          refine of_cev (Q := Q) ?_
          refine wq_ite (Q := Q) (p := (c 69 1) < 1) (fun h => ?_) (fun h => ?_)
          · replace k := k.1 h
            exact k
          · replace k := k.2 h
            show Q (cev 20 2 141 [vR 70, vR 12, vU, vR 72, vI (x4 + 1), vI x5, vI (iand (c 13 x4) 15), vI (ishr (c 13 x4) 4)] [] (SH T, c))
            refine of_cev (Q := Q) ?_
            refine wq_ite (Q := Q) (p := (iand (c 13 x4) 15) = 12) (fun h => ?_) (fun h => ?_)
            · replace k := k.1 h
              exact k
            · replace k := k.2 h
              show Q (cev 20 2 160 [vR 70, vR 12, vU, vR 72, vI (x4 + 1), vI x5, vI (iand (c 13 x4) 15), vI (ishr (c 13 x4) 4)] [] (SH T, c))
              refine of_cev (Q := Q) ?_
              refine wq_ite (Q := Q) (p := (iand (c 13 x4) 15) = 9) (fun h => ?_) (fun h => ?_)
              · replace k := k.1 h
                refine wq_pos (Q := Q) k.1.1 ?_
                refine wq_pos (Q := Q) k.1.1 ?_
                refine wq_pos (Q := Q) k.1.2.1 ?_
                refine wq_pos (Q := Q) k.1.2.2.1 ?_
                refine wq_pos (Q := Q) k.1.2.1 ?_
                show Q (cev 20 2 265 [vR 70, vR 12, vU, vR 72, vI (x4 + 1), vI x5, vU, vU] [] (SH T, (up c 70 ((c 69 1) - 1) (1 - (c 70 ((c 69 1) - 1))))))
                refine of_cev (Q := Q) ?_
                refine wq_pos (Q := Q) k.1.2.2.2 ?_
                replace k := k.2
                exact k
              · replace k := k.2 h
                show Q (cev 20 2 194 [vR 70, vR 12, vU, vR 72, vI (x4 + 1), vI x5, vI (iand (c 13 x4) 15), vI (ishr (c 13 x4) 4)] [] (SH T, c))
                refine of_cev (Q := Q) ?_
                refine wq_ite (Q := Q) (p := (iand (c 13 x4) 15) = 10) (fun h => ?_) (fun h => ?_)
                · replace k := k.1 h
                  exact k
                · replace k := k.2 h
                  refine wq_ite (Q := Q) (p := (iand (c 13 x4) 15) = 11) (fun h => ?_) (fun h => ?_)
                  · replace k := k.1 h
                    exact k
                  · replace k := k.2 h
                    show Q (cev 20 2 254 [vR 70, vR 12, vU, vR 72, vI (x4 + 1), vI x5, vI (iand (c 13 x4) 15), vU] [] (SH T, c))
                    refine of_cev (Q := Q) ?_
                    refine wq_callI (Q := Q) rfl k ?_
                    intro r1 c2 k
                    refine wq_ite (Q := Q) (p := r1 = 0) (fun h => ?_) (fun h => ?_)
                    · replace k := k.1 h
                      exact k
                    · replace k := k.2 h
                      show Q (cev 20 2 265 [vR 70, vR 12, vU, vR 72, vI (x4 + 1), vI x5, vU, vU] [] (SH T, c2))
                      refine of_cev (Q := Q) ?_
                      refine wq_pos (Q := Q) k.1 ?_
                      replace k := k.2
                      exact k
  · replace k := k.2 h
    show Q (cev 20 2 271 [vU, vU, vU, vU, vU, vU, vU, vU] [] (SH T, c))
    refine of_cev (Q := Q) ?_
    exact k
set_option maxRecDepth 20000 in
theorem W_X3_worksb_68 {T : List Shp} {c : Nat → Int → Int} {Q : Res → Prop} {x4 x5 x6 x7 : Int} (k : (((c 69 1) < 100 → ((x6 = 1 → ((x7 < 18 → Q (cev 20 2 95 [vR 70, vR 12, vU, vR 72, vI x4, vI x5, vI x6, vI x7] [] (SH T, c))) ∧ (¬ x7 < 18 → Q (some (some (vI 0), (SH T, c)))))) ∧ (¬ x6 = 1 → Q (cev 20 2 95 [vR 70, vR 12, vU, vR 72, vI x4, vI x5, vI x6, vI x7] [] (SH T, c))))) ∧ (¬ (c 69 1) < 100 → Q (some (some (vI 0), (SH T, c)))))) : Q (cev 20 2 68 [vR 70, vR 12, vU, vR 72, vI x4, vI x5, vI x6, vI x7] [] (SH T, c)) := by
  refine of_cev (Q := Q) ?_
  refine wq_ite (Q := Q) (p := (c 69 1) < 100) (fun h => ?_) (fun h => ?_)
  · replace k := k.1 h
    refine wq_ite (Q := Q) (p := x6 = 1) (fun h => ?_) (fun h => ?_)
    · replace k := k.1 h
      refine wq_ite (Q := Q) (p := x7 < 18) (fun h => ?_) (fun h => ?_)
      · replace k := k.1 h
        exact k
      · replace k := k.2 h
        show Q (cev 20 2 93 [vU, vU, vU, vU, vU, vU, vU, vU] [] (SH T, c))
        refine of_cev (Q := Q) ?_
        exact k
    · replace k := k.2 h
      exact k
  · replace k := k.2 h
    show Q (cev 20 2 93 [vU, vU, vU, vU, vU, vU, vU, vU] [] (SH T, c))
    refine of_cev (Q := Q) ?_
    exact k
set_option maxRecDepth 20000 in
theorem W_X3_worksb_95 {T : List Shp} {c : Nat → Int → Int} {Q : Res → Prop} {x4 x5 x6 x7 : Int} (k : ((x6 = 0 → (((0 ≤ (c 69 1) ∧ (c 69 1) < 100) ∧ (-2147483648 ≤ (c 69 1) + 1 ∧ (c 69 1) + 1 < 2147483648) ∧ (-2147483648 ≤ x5 + 1 ∧ x5 + 1 < 2147483648)) ∧ Q (cev 20 2 11 [vR 70, vR 12, vU, vR 72, vI x4, vI (x5 + 1), vU, vU] [] (SH T, (up (up c 70 (c 69 1) x7) 69 1 ((c 69 1) + 1)))))) ∧ (¬ x6 = 0 → (((0 ≤ x7 ∧ x7 < 18) ∧ (0 ≤ (c 69 1) ∧ (c 69 1) < 100) ∧ (-2147483648 ≤ (c 69 1) + 1 ∧ (c 69 1) + 1 < 2147483648) ∧ (-2147483648 ≤ x5 + 1 ∧ x5 + 1 < 2147483648)) ∧ Q (cev 20 2 11 [vR 70, vR 12, vU, vR 72, vI x4, vI (x5 + 1), vU, vU] [] (SH T, (up (up c 70 (c 69 1) (c 71 x7)) 69 1 ((c 69 1) + 1)))))))) : Q (cev 20 2 95 [vR 70, vR 12, vU, vR 72, vI x4, vI x5, vI x6, vI x7] [] (SH T, c)) := by
  refine of_cev (Q := Q) ?_
  refine wq_ite (Q := Q) (p := x6 = 0) (fun h => ?_) (fun h => ?_)
  · replace k := k.1 h
    show Q (cev 20 2 117 [vR 70, vR 12, vU, vR 72, vI x4, vI x5, vU, vU] [vI x7, vI (c 69 1), vR 71] (SH T, c))
    refine of_cev (Q := Q) ?_
    refine wq_pos (Q := Q) k.1.1 ?_
    refine wq_pos (Q := Q) k.1.2.1 ?_
    show Q (cev 20 2 265 [vR 70, vR 12, vU, vR 72, vI x4, vI x5, vU, vU] [] (SH T, (up (up c 70 (c 69 1) x7) 69 1 ((c 69 1) + 1))))
    refine of_cev (Q := Q) ?_
    refine wq_pos (Q := Q) k.1.2.2 ?_
    replace k := k.2
    exact k
  · replace k := k.2 h
    show Q (cev 20 2 113 [vR 70, vR 12, vU, vR 72, vI x4, vI x5, vU, vI x7] [vI (c 69 1), vR 71] (SH T, c))
    refine of_cev (Q := Q) ?_
    refine wq_pos (Q := Q) k.1.1 ?_
    show Q (cev 20 2 117 [vR 70, vR 12, vU, vR 72, vI x4, vI x5, vU, vU] [vI (c 71 x7), vI (c 69 1), vR 71] (SH T, c))
    refine of_cev (Q := Q) ?_
    refine wq_pos (Q := Q) k.1.2.1 ?_
    refine wq_pos (Q := Q) k.1.2.2.1 ?_
    show Q (cev 20 2 265 [vR 70, vR 12, vU, vR 72, vI x4, vI x5, vU, vU] [] (SH T, (up (up c 70 (c 69 1) (c 71 x7)) 69 1 ((c 69 1) + 1))))
    refine of_cev (Q := Q) ?_
    refine wq_pos (Q := Q) k.1.2.2.2 ?_
    replace k := k.2
    exact k
set_option maxRecDepth 20000 in
theorem W_X3_worksb_208 {T : List Shp} {c : Nat → Int → Int} {Q : Res → Prop} {x4 x5 x6 x7 : Int} (k : (((-2147483648 ≤ (c 69 1) - 1 ∧ (c 69 1) - 1 < 2147483648) ∧ (0 ≤ ((c 69 1) - 1) ∧ ((c 69 1) - 1) < 100)) ∧ ((x6 = 10 → Q (cev 20 2 231 [vR 70, vR 12, vU, vR 72, vI x4, vI x5, vU, vI x7] [vI 1, vI (c 70 ((c 69 1) - 1))] (SH T, c))) ∧ (¬ x6 = 10 → Q (cev 20 2 231 [vR 70, vR 12, vU, vR 72, vI x4, vI x5, vU, vI x7] [vI 0, vI (c 70 ((c 69 1) - 1))] (SH T, c)))))) : Q (cev 20 2 208 [vR 70, vR 12, vU, vR 72, vI x4, vI x5, vI x6, vI x7] [] (SH T, c)) := by
  refine of_cev (Q := Q) ?_
  refine wq_pos (Q := Q) k.1.1 ?_
  refine wq_pos (Q := Q) k.1.2 ?_
  replace k := k.2
  refine wq_ite (Q := Q) (p := x6 = 10) (fun h => ?_) (fun h => ?_)
  · replace k := k.1 h
    exact k
  · replace k := k.2 h
    show Q (cev 20 2 230 [vR 70, vR 12, vU, vR 72, vI x4, vI x5, vU, vI x7] [vI (c 70 ((c 69 1) - 1))] (SH T, c))
    refine of_cev (Q := Q) ?_
    exact k
set_option maxRecDepth 20000 in
theorem W_X3_worksb_231 {T : List Shp} {c : Nat → Int → Int} {Q : Res → Prop} {x4 x5 x7 y0 y1 : Int} (k : ((y1 = y0 → ((-2147483648 ≤ x5 + 1 ∧ x5 + 1 < 2147483648) ∧ Q (cev 20 2 11 [vR 70, vR 12, vU, vR 72, vI x7, vI (x5 + 1), vU, vU] [] (SH T, c)))) ∧ (¬ y1 = y0 → (((-2147483648 ≤ (c 69 1) - 1 ∧ (c 69 1) - 1 < 2147483648) ∧ (-2147483648 ≤ x5 + 1 ∧ x5 + 1 < 2147483648)) ∧ Q (cev 20 2 11 [vR 70, vR 12, vU, vR 72, vI x4, vI (x5 + 1), vU, vU] [] (SH T, (up c 69 1 ((c 69 1) - 1)))))))) : Q (cev 20 2 231 [vR 70, vR 12, vU, vR 72, vI x4, vI x5, vU, vI x7] [vI y0, vI y1] (SH T, c)) := by
  refine of_cev (Q := Q) ?_
  refine wq_ite (Q := Q) (p := y1 = y0) (fun h => ?_) (fun h => ?_)
  · replace k := k.1 h
    show Q (cev 20 2 265 [vR 70, vR 12, vU, vR 72, vI x7, vI x5, vU, vU] [] (SH T, c))
    refine of_cev (Q := Q) ?_
    refine wq_pos (Q := Q) k.1 ?_
    replace k := k.2
    exact k
  · replace k := k.2 h
    show Q (cev 20 2 241 [vR 70, vR 12, vU, vR 72, vI x4, vI x5, vU, vU] [] (SH T, c))
    refine of_cev (Q := Q) ?_
    refine wq_pos (Q := Q) k.1.1 ?_
    show Q (cev 20 2 265 [vR 70, vR 12, vU, vR 72, vI x4, vI x5, vU, vU] [] (SH T, (up c 69 1 ((c 69 1) - 1))))
    refine of_cev (Q := Q) ?_
    refine wq_pos (Q := Q) k.1.2 ?_
    replace k := k.2
    exact k
set_option maxRecDepth 20000 in
theorem W_X3_joinsa {T : List Shp} {c : Nat → Int → Int} {Q : Res → Prop} {x1 : Int} (k : (((c 15 1) < 2 → Q (some (some (vI 0), (SH T, c)))) ∧ (¬ (c 15 1) < 2 → (((-2147483648 ≤ (c 15 1) - 2 ∧ (c 15 1) - 2 < 2147483648) ∧ (0 ≤ ((c 15 1) - 2) ∧ ((c 15 1) - 2) < 100) ∧ (-2147483648 ≤ (c 15 1) - 1 ∧ (c 15 1) - 1 < 2147483648) ∧ (0 ≤ ((c 15 1) - 1) ∧ ((c 15 1) - 1) < 100)) ∧ ((x1 = 5 → (((c 16 ((c 15 1) - 1)) = 0 → Q (some (some (vI 0), (SH T, c)))) ∧ (¬ (c 16 ((c 15 1) - 1)) = 0 → Q (cev 21 1 51 [vR 16, vI x1, vL (c 16 ((c 15 1) - 2)), vU, vL (c 16 ((c 15 1) - 1)), vU, vU, vU] [] (SH T, c))))) ∧ (¬ x1 = 5 → Q (cev 21 1 51 [vR 16, vI x1, vL (c 16 ((c 15 1) - 2)), vU, vL (c 16 ((c 15 1) - 1)), vU, vU, vU] [] (SH T, c)))))))) : Q (ccal 21 [vR 16, vI x1] (SH T, c)) := by
  refine of_cev (Q := Q) ?_
  refine wq_ite (Q := Q) (p := (c 15 1) < 2) (fun h => ?_) (fun h => ?_)
  · replace k := k.1 h
    exact k
  · replace k := k.2 h
    show Q (cev 21 1 10 [vR 16, vI x1, vU, vU, vU, vU, vU, vU] [] (SH T, c))
    refine of_cev (Q := Q) ?_
    refine wq_pos (Q := Q) k.1.1 ?_
    refine wq_pos (Q := Q) k.1.2.1 ?_
    refine wq_pos (Q := Q) k.1.2.2.1 ?_
    refine wq_pos (Q := Q) k.1.2.2.2 ?_
    replace k := k.2
    refine wq_ite (Q := Q) (p := x1 = 5) (fun h => ?_) (fun h => ?_)
    · replace k := k.1 h
      refine wq_lc1 (Q := Q) (x := (c 16 ((c 15 1) - 1))) (y := 0) (fun h => ?_) (fun h => ?_)
      · replace k := k.1 h
        exact k
      · replace k := k.2 h
        exact k
    · replace k := k.2 h
      exact k
set_option maxRecDepth 20000 in
theorem W_X3_joinsa_51 {T : List Shp} {c : Nat → Int → Int} {Q : Res → Prop} {x1 x2 x4 : Int} (k : ((x1 = 2 → ((-9223372036854775808 ≤ x2 + x4 ∧ x2 + x4 < 9223372036854775808) ∧ Q (cev 21 1 187 [vR 16, vU, vU, vU, vU, vU, vL (x2 + x4), vU] [] (SH T, c)))) ∧ ((x1 = 3 → ((-9223372036854775808 ≤ x2 - x4 ∧ x2 - x4 < 9223372036854775808) ∧ Q (cev 21 1 187 [vR 16, vU, vU, vU, vU, vU, vL (x2 - x4), vU] [] (SH T, c)))) ∧ ((x1 = 4 → ((-9223372036854775808 ≤ x2 * x4 ∧ x2 * x4 < 9223372036854775808) ∧ Q (cev 21 1 187 [vR 16, vU, vU, vU, vU, vU, vL (x2 * x4), vU] [] (SH T, c)))) ∧ ((x1 = 5 → ((x4 = 0 → Q (cev 21 1 187 [vR 16, vU, vU, vU, vU, vU, vL 0, vU] [] (SH T, c))) ∧ (¬ x4 = 0 → (((-9223372036854775808 ≤ (Int.tdiv x2 x4) ∧ (Int.tdiv x2 x4) < 9223372036854775808) ∧ ¬ x4 = 0) ∧ Q (cev 21 1 187 [vR 16, vU, vU, vU, vU, vU, vL (Int.tdiv x2 x4), vU] [] (SH T, c)))))) ∧ ((x1 = 6 → ((x2 < x4 → Q (cev 21 1 187 [vR 16, vU, vU, vU, vU, vU, vL 1, vU] [] (SH T, c))) ∧ (¬ x2 < x4 → Q (cev 21 1 187 [vR 16, vU, vU, vU, vU, vU, vL 0, vU] [] (SH T, c))))) ∧ ((x1 = 7 → ((x4 < x2 → Q (cev 21 1 187 [vR 16, vU, vU, vU, vU, vU, vL 1, vU] [] (SH T, c))) ∧ (¬ x4 < x2 → Q (cev 21 1 187 [vR 16, vU, vU, vU, vU, vU, vL 0, vU] [] (SH T, c))))) ∧ (¬ (x1 = 2 ∨ x1 = 3 ∨ x1 = 4 ∨ x1 = 5 ∨ x1 = 6 ∨ x1 = 7) → ((x2 = x4 → Q (cev 21 1 187 [vR 16, vU, vU, vU, vU, vU, vL 1, vU] [] (SH T, c))) ∧ (¬ x2 = x4 → Q (cev 21 1 187 [vR 16, vU, vU, vU, vU, vU, vL 0, vU] [] (SH T, c)))))))))))) : Q (cev 21 1 51 [vR 16, vI x1, vL x2, vU, vL x4, vU, vU, vU] [] (SH T, c)) := by
  refine of_cev (Q := Q) ?_
  refine wq_ite (Q := Q) (p := x1 = 2) (fun h0 => ?_) (fun h0 => ?_)
  · replace k := k.1 h0
    show Q (cev 21 1 92 [vR 16, vU, vL x2, vU, vL x4, vU, vU, vU] [] (SH T, c))
    refine of_cev (Q := Q) ?_
    refine wq_pos (Q := Q) k.1 ?_
    replace k := k.2
    exact k
  replace k := k.2
  refine wq_ite (Q := Q) (p := x1 = 3) (fun h1 => ?_) (fun h1 => ?_)
  · replace k := k.1 h1
    show Q (cev 21 1 101 [vR 16, vU, vL x2, vU, vL x4, vU, vU, vU] [] (SH T, c))
    refine of_cev (Q := Q) ?_
    refine wq_pos (Q := Q) k.1 ?_
    replace k := k.2
    exact k
  replace k := k.2
  refine wq_ite (Q := Q) (p := x1 = 4) (fun h2 => ?_) (fun h2 => ?_)
  · replace k := k.1 h2
    show Q (cev 21 1 110 [vR 16, vU, vL x2, vU, vL x4, vU, vU, vU] [] (SH T, c))
    refine of_cev (Q := Q) ?_
    refine wq_pos (Q := Q) k.1 ?_
    replace k := k.2
    exact k
  replace k := k.2
  refine wq_ite (Q := Q) (p := x1 = 5) (fun h3 => ?_) (fun h3 => ?_)
  · replace k := k.1 h3
    show Q (cev 21 1 119 [vR 16, vU, vL x2, vU, vL x4, vU, vU, vU] [] (SH T, c))
    refine of_cev (Q := Q) ?_
    refine wq_lc1 (Q := Q) (x := x4) (y := 0) (fun h => ?_) (fun h => ?_)
    · replace k := k.1 h
      exact k
    · replace k := k.2 h
      show Q (cev 21 1 130 [vR 16, vU, vL x2, vU, vL x4, vU, vU, vU] [] (SH T, c))
      refine of_cev (Q := Q) ?_
      refine wq_pos (Q := Q) k.1 ?_
      replace k := k.2
      exact k
  replace k := k.2
  refine wq_ite (Q := Q) (p := x1 = 6) (fun h4 => ?_) (fun h4 => ?_)
  · replace k := k.1 h4
    show Q (cev 21 1 139 [vR 16, vU, vL x2, vU, vL x4, vU, vU, vU] [] (SH T, c))
    refine of_cev (Q := Q) ?_
    refine wq_lc3 (Q := Q) (x := x2) (y := x4) (fun h => ?_) (fun h => ?_)
    · replace k := k.1 h
      exact k
    · replace k := k.2 h
      show Q (cev 21 1 150 [vR 16, vU, vU, vU, vU, vU, vU, vU] [] (SH T, c))
      refine of_cev (Q := Q) ?_
      exact k
  replace k := k.2
  refine wq_ite (Q := Q) (p := x1 = 7) (fun h5 => ?_) (fun h5 => ?_)
  · replace k := k.1 h5
    show Q (cev 21 1 156 [vR 16, vU, vL x2, vU, vL x4, vU, vU, vU] [] (SH T, c))
    refine of_cev (Q := Q) ?_
    refine wq_lc5 (Q := Q) (x := x2) (y := x4) (fun h => ?_) (fun h => ?_)
    · replace k := k.1 h
      exact k
    · replace k := k.2 h
      show Q (cev 21 1 167 [vR 16, vU, vU, vU, vU, vU, vU, vU] [] (SH T, c))
      refine of_cev (Q := Q) ?_
      exact k
  replace k := k.2
  replace k := k (fun h => by rcases h with h | h | h | h | h | h <;> first | exact h0 h | exact h1 h | exact h2 h | exact h3 h | exact h4 h | exact h5 h)
  show Q (cev 21 1 173 [vR 16, vU, vL x2, vU, vL x4, vU, vU, vU] [] (SH T, c))
  refine of_cev (Q := Q) ?_
  refine wq_lc1 (Q := Q) (x := x2) (y := x4) (fun h => ?_) (fun h => ?_)
  · replace k := k.1 h
    exact k
  · replace k := k.2 h
    show Q (cev 21 1 184 [vR 16, vU, vU, vU, vU, vU, vU, vU] [] (SH T, c))
    refine of_cev (Q := Q) ?_
    exact k
set_option maxRecDepth 20000 in
theorem W_X3_joinsa_187 {T : List Shp} {c : Nat → Int → Int} {Q : Res → Prop} {x6 : Int} (k : ((1000000000 < x6 → Q (some (some (vI 0), (SH T, c)))) ∧ (¬ 1000000000 < x6 → ((x6 < (-1000000000) → Q (some (some (vI 0), (SH T, c)))) ∧ (¬ x6 < (-1000000000) → (((-2147483648 ≤ (c 15 1) - 1 ∧ (c 15 1) - 1 < 2147483648) ∧ (-2147483648 ≤ ((c 15 1) - 1) - 1 ∧ ((c 15 1) - 1) - 1 < 2147483648) ∧ (0 ≤ (((c 15 1) - 1) - 1) ∧ (((c 15 1) - 1) - 1) < 100)) ∧ Q (some (some (vI 1), (SH T, (up (up c 15 1 ((c 15 1) - 1)) 16 (((c 15 1) - 1) - 1) (w32 x6))))))))))) : Q (cev 21 1 187 [vR 16, vU, vU, vU, vU, vU, vL x6, vU] [] (SH T, c)) := by
  refine of_cev (Q := Q) ?_
  refine wq_lc4 (Q := Q) (x := x6) (y := 1000000000) (fun h => ?_) (fun h => ?_)
  · replace k := k.1 h
    show Q (cev 21 1 205 [vU, vU, vU, vU, vU, vU, vU, vU] [] (SH T, c))
    refine of_cev (Q := Q) ?_
    exact k
  · replace k := k.2 h
    refine wq_lc3 (Q := Q) (x := x6) (y := (-1000000000)) (fun h => ?_) (fun h => ?_)
    · replace k := k.1 h
      show Q (cev 21 1 205 [vU, vU, vU, vU, vU, vU, vU, vU] [] (SH T, c))
      refine of_cev (Q := Q) ?_
      exact k
    · replace k := k.2 h
      show Q (cev 21 1 207 [vR 16, vU, vU, vU, vU, vU, vL x6, vU] [] (SH T, c))
      refine of_cev (Q := Q) ?_
      refine wq_pos (Q := Q) k.1.1 ?_
      refine wq_pos (Q := Q) k.1.2.1 ?_
      refine wq_pos (Q := Q) k.1.2.2 ?_
      replace k := k.2
      exact k
set_option maxRecDepth 20000 in
theorem W_X3_joinsb {T : List Shp} {c : Nat → Int → Int} {Q : Res → Prop} {x1 : Int} (k : (((c 69 1) < 2 → Q (some (some (vI 0), (SH T, c)))) ∧ (¬ (c 69 1) < 2 → (((-2147483648 ≤ (c 69 1) - 2 ∧ (c 69 1) - 2 < 2147483648) ∧ (0 ≤ ((c 69 1) - 2) ∧ ((c 69 1) - 2) < 100) ∧ (-2147483648 ≤ (c 69 1) - 1 ∧ (c 69 1) - 1 < 2147483648) ∧ (0 ≤ ((c 69 1) - 1) ∧ ((c 69 1) - 1) < 100)) ∧ ((x1 = 5 → (((c 70 ((c 69 1) - 1)) = 0 → Q (some (some (vI 0), (SH T, c)))) ∧ (¬ (c 70 ((c 69 1) - 1)) = 0 → Q (cev 21 1 51 [vR 70, vI x1, vL (c 70 ((c 69 1) - 2)), vU, vL (c 70 ((c 69 1) - 1)), vU, vU, vU] [] (SH T, c))))) ∧ (¬ x1 = 5 → Q (cev 21 1 51 [vR 70, vI x1, vL (c 70 ((c 69 1) - 2)), vU, vL (c 70 ((c 69 1) - 1)), vU, vU, vU] [] (SH T, c)))))))) : Q (ccal 21 [vR 70, vI x1] (SH T, c)) := by
  refine of_cev (Q := Q) ?_
  refine wq_ite (Q := Q) (p := (c 69 1) < 2) (fun h => ?_) (fun h => ?_)
  · replace k := k.1 h
    exact k
  · replace k := k.2 h
    show Q (cev 21 1 10 [vR 70, vI x1, vU, vU, vU, vU, vU, vU] [] (SH T, c))
    refine of_cev (Q := Q) ?_
    refine wq_pos (Q := Q) k.1.1 ?_
    refine wq_pos (Q := Q) k.1.2.1 ?_
    refine wq_pos (Q := Q) k.1.2.2.1 ?_
    refine wq_pos (Q := Q) k.1.2.2.2 ?_
    replace k := k.2
    refine wq_ite (Q := Q) (p := x1 = 5) (fun h => ?_) (fun h => ?_)
    · replace k := k.1 h
      refine wq_lc1 (Q := Q) (x := (c 70 ((c 69 1) - 1))) (y := 0) (fun h => ?_) (fun h => ?_)
      · replace k := k.1 h
        exact k
      · replace k := k.2 h
        exact k
    · replace k := k.2 h
      exact k
set_option maxRecDepth 20000 in
theorem W_X3_joinsb_51 {T : List Shp} {c : Nat → Int → Int} {Q : Res → Prop} {x1 x2 x4 : Int} (k : ((x1 = 2 → ((-9223372036854775808 ≤ x2 + x4 ∧ x2 + x4 < 9223372036854775808) ∧ Q (cev 21 1 187 [vR 70, vU, vU, vU, vU, vU, vL (x2 + x4), vU] [] (SH T, c)))) ∧ ((x1 = 3 → ((-9223372036854775808 ≤ x2 - x4 ∧ x2 - x4 < 9223372036854775808) ∧ Q (cev 21 1 187 [vR 70, vU, vU, vU, vU, vU, vL (x2 - x4), vU] [] (SH T, c)))) ∧ ((x1 = 4 → ((-9223372036854775808 ≤ x2 * x4 ∧ x2 * x4 < 9223372036854775808) ∧ Q (cev 21 1 187 [vR 70, vU, vU, vU, vU, vU, vL (x2 * x4), vU] [] (SH T, c)))) ∧ ((x1 = 5 → ((x4 = 0 → Q (cev 21 1 187 [vR 70, vU, vU, vU, vU, vU, vL 0, vU] [] (SH T, c))) ∧ (¬ x4 = 0 → (((-9223372036854775808 ≤ (Int.tdiv x2 x4) ∧ (Int.tdiv x2 x4) < 9223372036854775808) ∧ ¬ x4 = 0) ∧ Q (cev 21 1 187 [vR 70, vU, vU, vU, vU, vU, vL (Int.tdiv x2 x4), vU] [] (SH T, c)))))) ∧ ((x1 = 6 → ((x2 < x4 → Q (cev 21 1 187 [vR 70, vU, vU, vU, vU, vU, vL 1, vU] [] (SH T, c))) ∧ (¬ x2 < x4 → Q (cev 21 1 187 [vR 70, vU, vU, vU, vU, vU, vL 0, vU] [] (SH T, c))))) ∧ ((x1 = 7 → ((x4 < x2 → Q (cev 21 1 187 [vR 70, vU, vU, vU, vU, vU, vL 1, vU] [] (SH T, c))) ∧ (¬ x4 < x2 → Q (cev 21 1 187 [vR 70, vU, vU, vU, vU, vU, vL 0, vU] [] (SH T, c))))) ∧ (¬ (x1 = 2 ∨ x1 = 3 ∨ x1 = 4 ∨ x1 = 5 ∨ x1 = 6 ∨ x1 = 7) → ((x2 = x4 → Q (cev 21 1 187 [vR 70, vU, vU, vU, vU, vU, vL 1, vU] [] (SH T, c))) ∧ (¬ x2 = x4 → Q (cev 21 1 187 [vR 70, vU, vU, vU, vU, vU, vL 0, vU] [] (SH T, c)))))))))))) : Q (cev 21 1 51 [vR 70, vI x1, vL x2, vU, vL x4, vU, vU, vU] [] (SH T, c)) := by
  refine of_cev (Q := Q) ?_
  refine wq_ite (Q := Q) (p := x1 = 2) (fun h0 => ?_) (fun h0 => ?_)
  · replace k := k.1 h0
    show Q (cev 21 1 92 [vR 70, vU, vL x2, vU, vL x4, vU, vU, vU] [] (SH T, c))
    refine of_cev (Q := Q) ?_
    refine wq_pos (Q := Q) k.1 ?_
    replace k := k.2
    exact k
  replace k := k.2
  refine wq_ite (Q := Q) (p := x1 = 3) (fun h1 => ?_) (fun h1 => ?_)
  · replace k := k.1 h1
    show Q (cev 21 1 101 [vR 70, vU, vL x2, vU, vL x4, vU, vU, vU] [] (SH T, c))
    refine of_cev (Q := Q) ?_
    refine wq_pos (Q := Q) k.1 ?_
    replace k := k.2
    exact k
  replace k := k.2
  refine wq_ite (Q := Q) (p := x1 = 4) (fun h2 => ?_) (fun h2 => ?_)
  · replace k := k.1 h2
    show Q (cev 21 1 110 [vR 70, vU, vL x2, vU, vL x4, vU, vU, vU] [] (SH T, c))
    refine of_cev (Q := Q) ?_
    refine wq_pos (Q := Q) k.1 ?_
    replace k := k.2
    exact k
  replace k := k.2
  refine wq_ite (Q := Q) (p := x1 = 5) (fun h3 => ?_) (fun h3 => ?_)
  · replace k := k.1 h3
    show Q (cev 21 1 119 [vR 70, vU, vL x2, vU, vL x4, vU, vU, vU] [] (SH T, c))
    refine of_cev (Q := Q) ?_
    refine wq_lc1 (Q := Q) (x := x4) (y := 0) (fun h => ?_) (fun h => ?_)
    · replace k := k.1 h
      exact k
    · replace k := k.2 h
      show Q (cev 21 1 130 [vR 70, vU, vL x2, vU, vL x4, vU, vU, vU] [] (SH T, c))
      refine of_cev (Q := Q) ?_
      refine wq_pos (Q := Q) k.1 ?_
      replace k := k.2
      exact k
  replace k := k.2
  refine wq_ite (Q := Q) (p := x1 = 6) (fun h4 => ?_) (fun h4 => ?_)
  · replace k := k.1 h4
    show Q (cev 21 1 139 [vR 70, vU, vL x2, vU, vL x4, vU, vU, vU] [] (SH T, c))
    refine of_cev (Q := Q) ?_
    refine wq_lc3 (Q := Q) (x := x2) (y := x4) (fun h => ?_) (fun h => ?_)
    · replace k := k.1 h
      exact k
    · replace k := k.2 h
      show Q (cev 21 1 150 [vR 70, vU, vU, vU, vU, vU, vU, vU] [] (SH T, c))
      refine of_cev (Q := Q) ?_
      exact k
  replace k := k.2
  refine wq_ite (Q := Q) (p := x1 = 7) (fun h5 => ?_) (fun h5 => ?_)
  · replace k := k.1 h5
    show Q (cev 21 1 156 [vR 70, vU, vL x2, vU, vL x4, vU, vU, vU] [] (SH T, c))
    refine of_cev (Q := Q) ?_
    refine wq_lc5 (Q := Q) (x := x2) (y := x4) (fun h => ?_) (fun h => ?_)
    · replace k := k.1 h
      exact k
    · replace k := k.2 h
      show Q (cev 21 1 167 [vR 70, vU, vU, vU, vU, vU, vU, vU] [] (SH T, c))
      refine of_cev (Q := Q) ?_
      exact k
  replace k := k.2
  replace k := k (fun h => by rcases h with h | h | h | h | h | h <;> first | exact h0 h | exact h1 h | exact h2 h | exact h3 h | exact h4 h | exact h5 h)
  show Q (cev 21 1 173 [vR 70, vU, vL x2, vU, vL x4, vU, vU, vU] [] (SH T, c))
  refine of_cev (Q := Q) ?_
  refine wq_lc1 (Q := Q) (x := x2) (y := x4) (fun h => ?_) (fun h => ?_)
  · replace k := k.1 h
    exact k
  · replace k := k.2 h
    show Q (cev 21 1 184 [vR 70, vU, vU, vU, vU, vU, vU, vU] [] (SH T, c))
    refine of_cev (Q := Q) ?_
    exact k
set_option maxRecDepth 20000 in
theorem W_X3_joinsb_187 {T : List Shp} {c : Nat → Int → Int} {Q : Res → Prop} {x6 : Int} (k : ((1000000000 < x6 → Q (some (some (vI 0), (SH T, c)))) ∧ (¬ 1000000000 < x6 → ((x6 < (-1000000000) → Q (some (some (vI 0), (SH T, c)))) ∧ (¬ x6 < (-1000000000) → (((-2147483648 ≤ (c 69 1) - 1 ∧ (c 69 1) - 1 < 2147483648) ∧ (-2147483648 ≤ ((c 69 1) - 1) - 1 ∧ ((c 69 1) - 1) - 1 < 2147483648) ∧ (0 ≤ (((c 69 1) - 1) - 1) ∧ (((c 69 1) - 1) - 1) < 100)) ∧ Q (some (some (vI 1), (SH T, (up (up c 69 1 ((c 69 1) - 1)) 70 (((c 69 1) - 1) - 1) (w32 x6))))))))))) : Q (cev 21 1 187 [vR 70, vU, vU, vU, vU, vU, vL x6, vU] [] (SH T, c)) := by
  refine of_cev (Q := Q) ?_
  refine wq_lc4 (Q := Q) (x := x6) (y := 1000000000) (fun h => ?_) (fun h => ?_)
  · replace k := k.1 h
    show Q (cev 21 1 205 [vU, vU, vU, vU, vU, vU, vU, vU] [] (SH T, c))
    refine of_cev (Q := Q) ?_
    exact k
  · replace k := k.2 h
    refine wq_lc3 (Q := Q) (x := x6) (y := (-1000000000)) (fun h => ?_) (fun h => ?_)
    · replace k := k.1 h
      show Q (cev 21 1 205 [vU, vU, vU, vU, vU, vU, vU, vU] [] (SH T, c))
      refine of_cev (Q := Q) ?_
      exact k
    · replace k := k.2 h
      show Q (cev 21 1 207 [vR 70, vU, vU, vU, vU, vU, vL x6, vU] [] (SH T, c))
      refine of_cev (Q := Q) ?_
      refine wq_pos (Q := Q) k.1.1 ?_
      refine wq_pos (Q := Q) k.1.2.1 ?_
      refine wq_pos (Q := Q) k.1.2.2 ?_
      replace k := k.2
      exact k
set_option maxRecDepth 20000 in
theorem W_X4_looksOf {T : List Shp} {c : Nat → Int → Int} {Q : Res → Prop} {x1 x2 : Int} (k : (QI T (fun r1 c2 => ((r1 = (-1) → (QV T (fun c3 => (QI T (fun r4 c5 => ((r4 = 0 → (QI T (fun r6 c7 => (((0 ≤ r6 ∧ r6 < 2147483648) ∧ (0 : Int) < 10) ∧ Q (some (some (vI (if (r6 / 10) < 9 then (r6 / 10) else 9)), (SH T, c7))))) (ccal 69 [vR 2, vI x2] (SH T, c5)))) ∧ (¬ r4 = 0 → Q (some (some (vI (clp (c5 14 3) 0 9)), (SH T, c5)))))) (ccal 33 [vR 15, vI 0] (SH T, (up c3 17 0 x1))))) (ccal 30 [vR 15, vI x2] (SH T, c2)))) ∧ (¬ r1 = (-1) → Q (some (some (vI r1), (SH T, c2)))))) (ccal 29 [vR 15, vI x1, vI x2] (SH T, c)))) : Q (ccal 23 [vR 15, vI x1, vI x2] (SH T, c)) := by
  refine of_cev (Q := Q) ?_
  refine wq_callI (Q := Q) rfl k ?_
  intro r1 c2 k
  refine wq_ite (Q := Q) (p := r1 = (-1)) (fun h => ?_) (fun h => ?_)
  · replace k := k.1 h
    show Q (cev 23 4 14 [vR 15, vI x1, vI x2, vU] [] (SH T, c2))
    refine of_cev (Q := Q) ?_
    refine wq_callV (Q := Q) rfl k ?_
    intro c3 k
    refine wq_callI (Q := Q) rfl k ?_
    intro r4 c5 k
    refine wq_ite (Q := Q) (p := r4 = 0) (fun h => ?_) (fun h => ?_)
    · replace k := k.1 h
      show Q (cev 23 4 45 [vR 15, vU, vI x2, vU] [] (SH T, c5))
      refine of_cev (Q := Q) ?_
      refine wq_callI (Q := Q) rfl k ?_
      intro r6 c7 k
      refine wq_pos (Q := Q) k.1 ?_
      replace k := k.2
      exact k
    · replace k := k.2 h
      refine wq_sum (Q := Q) rfl (S_X11_nearest T c5 (c5 14 3) 0 9) ?_
      exact k
  · replace k := k.2 h
    exact k
set_option maxRecDepth 20000 in
theorem W_X4_letsOf {T : List Shp} {c : Nat → Int → Int} {Q : Res → Prop} {x1 x2 : Int} (k : (QV T (fun c1 => (QI T (fun r2 c3 => ((r2 = 0 → Q (some (some (vI 9), (SH T, c3)))) ∧ (¬ r2 = 0 → Q (some (some (vI (clp (c3 14 3) 0 9)), (SH T, c3)))))) (ccal 33 [vR 15, vI 1] (SH T, (up c1 17 0 x1))))) (ccal 30 [vR 15, vI x2] (SH T, c)))) : Q (ccal 24 [vR 15, vI x1, vI x2] (SH T, c)) := by
  refine of_cev (Q := Q) ?_
  refine wq_callV (Q := Q) rfl k ?_
  intro c1 k
  refine wq_callI (Q := Q) rfl k ?_
  intro r2 c3 k
  refine wq_ite (Q := Q) (p := r2 = 0) (fun h => ?_) (fun h => ?_)
  · replace k := k.1 h
    show Q (cev 24 4 33 [vU, vU, vU] [] (SH T, c3))
    refine of_cev (Q := Q) ?_
    exact k
  · replace k := k.2 h
    refine wq_sum (Q := Q) rfl (S_X11_nearest T c3 (c3 14 3) 0 9) ?_
    exact k
set_option maxRecDepth 20000 in
theorem W_X4_asksOf {T : List Shp} {c : Nat → Int → Int} {Q : Res → Prop} {x1 x2 : Int} (k : (QV T (fun c1 => (QI T (fun r2 c3 => ((r2 = 0 → (((-2147483648 ≤ x1 * 5 ∧ x1 * 5 < 2147483648) ∧ (-2147483648 ≤ (x1 * 5) + 1 ∧ (x1 * 5) + 1 < 2147483648) ∧ (0 ≤ ((x1 * 5) + 1) ∧ ((x1 * 5) + 1) < 25)) ∧ Q (some (some (vI (c3 2 ((x1 * 5) + 1))), (SH T, c3))))) ∧ (¬ r2 = 0 → Q (some (some (vI (clp (c3 14 3) 0 999)), (SH T, c3)))))) (ccal 33 [vR 15, vI 2] (SH T, c1)))) (ccal 31 [vR 15, vI x1, vI x2] (SH T, c)))) : Q (ccal 25 [vR 15, vI x1, vI x2] (SH T, c)) := by
  refine of_cev (Q := Q) ?_
  refine wq_callV (Q := Q) rfl k ?_
  intro c1 k
  refine wq_callI (Q := Q) rfl k ?_
  intro r2 c3 k
  refine wq_ite (Q := Q) (p := r2 = 0) (fun h => ?_) (fun h => ?_)
  · replace k := k.1 h
    show Q (cev 25 4 28 [vR 15, vI x1, vU] [] (SH T, c3))
    refine of_cev (Q := Q) ?_
    refine wq_pos (Q := Q) k.1.1 ?_
    refine wq_pos (Q := Q) k.1.2.1 ?_
    refine wq_pos (Q := Q) k.1.2.2 ?_
    replace k := k.2
    exact k
  · replace k := k.2 h
    refine wq_sum (Q := Q) rfl (S_X11_nearest T c3 (c3 14 3) 0 999) ?_
    exact k
set_option maxRecDepth 20000 in
theorem W_X4_barsPainter {T : List Shp} {c : Nat → Int → Int} {Q : Res → Prop} {x1 x2 : Int} (k : (QV T (fun c1 => (QI T (fun r2 c3 => ((r2 = 0 ∨ r2 = 1) ∧ Q (some (some (vI r2), (SH T, c3))))) (ccal 33 [vR 15, vI 4] (SH T, c1)))) (ccal 31 [vR 15, vI x1, vI x2] (SH T, c)))) : Q (ccal 26 [vR 15, vI x1, vI x2] (SH T, c)) := by
  refine of_cev (Q := Q) ?_
  refine wq_callV (Q := Q) rfl k ?_
  intro c1 k
  refine wq_callI (Q := Q) rfl k ?_
  intro r2 c3 k
  refine wq_pos (Q := Q) k.1 ?_
  replace k := k.2
  exact k
set_option maxRecDepth 20000 in
theorem W_X4_ranksOf {T : List Shp} {c : Nat → Int → Int} {Q : Res → Prop} {x1 x2 : Int} (k : (QV T (fun c1 => (QI T (fun r2 c3 => ((r2 = 0 → Q (some (some (vI x1), (SH T, c3)))) ∧ (¬ r2 = 0 → Q (some (some (vI (clp (c3 14 3) 0 999)), (SH T, c3)))))) (ccal 33 [vR 15, vI 3] (SH T, c1)))) (ccal 32 [vR 15, vI x1, vI x2] (SH T, c)))) : Q (ccal 27 [vR 15, vI x1, vI x2] (SH T, c)) := by
  refine of_cev (Q := Q) ?_
  refine wq_callV (Q := Q) rfl k ?_
  intro c1 k
  refine wq_callI (Q := Q) rfl k ?_
  intro r2 c3 k
  refine wq_ite (Q := Q) (p := r2 = 0) (fun h => ?_) (fun h => ?_)
  · replace k := k.1 h
    show Q (cev 27 4 28 [vU, vI x1, vU] [] (SH T, c3))
    refine of_cev (Q := Q) ?_
    exact k
  · replace k := k.2 h
    refine wq_sum (Q := Q) rfl (S_X11_nearest T c3 (c3 14 3) 0 999) ?_
    exact k
set_option maxRecDepth 20000 in
theorem W_X4_barsClaimant {T : List Shp} {c : Nat → Int → Int} {Q : Res → Prop} {x1 x2 : Int} (k : (QV T (fun c1 => (QI T (fun r2 c3 => ((r2 = 0 ∨ r2 = 1) ∧ Q (some (some (vI r2), (SH T, c3))))) (ccal 33 [vR 15, vI 4] (SH T, c1)))) (ccal 32 [vR 15, vI x1, vI x2] (SH T, c)))) : Q (ccal 28 [vR 15, vI x1, vI x2] (SH T, c)) := by
  refine of_cev (Q := Q) ?_
  refine wq_callV (Q := Q) rfl k ?_
  intro c1 k
  refine wq_callI (Q := Q) rfl k ?_
  intro r2 c3 k
  refine wq_pos (Q := Q) k.1 ?_
  replace k := k.2
  exact k
set_option maxRecDepth 20000 in
theorem W_X4_scarOn {T : List Shp} {c : Nat → Int → Int} {Q : Res → Prop} {x1 x2 : Int} (k : Q (cev 29 1 8 [vR 15, vI x1, vI x2, vI (-1), vI (-1), vI 0, vU] [] (SH T, c))) : Q (ccal 29 [vR 15, vI x1, vI x2] (SH T, c)) := by
  refine of_cev (Q := Q) ?_
  exact k
set_option maxRecDepth 20000 in
theorem W_X4_scarOn_8 {T : List Shp} {c : Nat → Int → Int} {Q : Res → Prop} {x1 x2 x3 x4 x5 : Int} (k : ((-2147483648 ≤ (c 1 2) * 3 ∧ (c 1 2) * 3 < 2147483648) ∧ ((x5 < ((c 1 2) * 3) → (((-2147483648 ≤ x5 + 1 ∧ x5 + 1 < 2147483648) ∧ (0 ≤ (x5 + 1) ∧ (x5 + 1) < 18) ∧ (0 ≤ x5 ∧ x5 < 18)) ∧ (((c 3 x5) = x1 → ((x2 < (c 3 (x5 + 1)) → ((-2147483648 ≤ x5 + 3 ∧ x5 + 3 < 2147483648) ∧ Q (cev 29 1 8 [vR 15, vI x1, vI x2, vI x3, vI x4, vI (x5 + 3), vU] [] (SH T, c)))) ∧ (¬ x2 < (c 3 (x5 + 1)) → (((c 3 (x5 + 1)) < x3 → ((-2147483648 ≤ x5 + 3 ∧ x5 + 3 < 2147483648) ∧ Q (cev 29 1 8 [vR 15, vI x1, vI x2, vI x3, vI x4, vI (x5 + 3), vU] [] (SH T, c)))) ∧ (¬ (c 3 (x5 + 1)) < x3 → (((-2147483648 ≤ x5 + 2 ∧ x5 + 2 < 2147483648) ∧ (0 ≤ (x5 + 2) ∧ (x5 + 2) < 18) ∧ (-2147483648 ≤ x5 + 3 ∧ x5 + 3 < 2147483648)) ∧ Q (cev 29 1 8 [vR 15, vI x1, vI x2, vI (c 3 (x5 + 1)), vI (c 3 (x5 + 2)), vI (x5 + 3), vU] [] (SH T, c)))))))) ∧ (¬ (c 3 x5) = x1 → ((-2147483648 ≤ x5 + 3 ∧ x5 + 3 < 2147483648) ∧ Q (cev 29 1 8 [vR 15, vI x1, vI x2, vI x3, vI x4, vI (x5 + 3), vU] [] (SH T, c))))))) ∧ (¬ x5 < ((c 1 2) * 3) → Q (some (some (vI x4), (SH T, c))))))) : Q (cev 29 1 8 [vR 15, vI x1, vI x2, vI x3, vI x4, vI x5, vU] [] (SH T, c)) := by
  refine of_cev (Q := Q) ?_
  refine wq_pos (Q := Q) k.1 ?_
  replace k := k.2
  refine wq_ite (Q := Q) (p := x5 < ((c 1 2) * 3)) (fun h => ?_) (fun h => ?_)
  · replace k := k.1 h
    refine wq_pos (Q := Q) k.1.1 ?_
    refine wq_pos (Q := Q) k.1.2.1 ?_
    refine wq_pos (Q := Q) k.1.2.2 ?_
    replace k := k.2
    refine wq_ite (Q := Q) (p := (c 3 x5) = x1) (fun h => ?_) (fun h => ?_)
    · replace k := k.1 h
      refine wq_ite (Q := Q) (p := x2 < (c 3 (x5 + 1))) (fun h => ?_) (fun h => ?_)
      · replace k := k.1 h
        show Q (cev 29 1 79 [vR 15, vI x1, vI x2, vI x3, vI x4, vI x5, vU] [] (SH T, c))
        refine of_cev (Q := Q) ?_
        refine wq_pos (Q := Q) k.1 ?_
        replace k := k.2
        exact k
      · replace k := k.2 h
        refine wq_ite (Q := Q) (p := (c 3 (x5 + 1)) < x3) (fun h => ?_) (fun h => ?_)
        · replace k := k.1 h
          show Q (cev 29 1 79 [vR 15, vI x1, vI x2, vI x3, vI x4, vI x5, vU] [] (SH T, c))
          refine of_cev (Q := Q) ?_
          refine wq_pos (Q := Q) k.1 ?_
          replace k := k.2
          exact k
        · replace k := k.2 h
          refine wq_pos (Q := Q) k.1.1 ?_
          refine wq_pos (Q := Q) k.1.2.1 ?_
          show Q (cev 29 1 79 [vR 15, vI x1, vI x2, vI (c 3 (x5 + 1)), vI (c 3 (x5 + 2)), vI x5, vU] [] (SH T, c))
          refine of_cev (Q := Q) ?_
          refine wq_pos (Q := Q) k.1.2.2 ?_
          replace k := k.2
          exact k
    · replace k := k.2 h
      show Q (cev 29 1 79 [vR 15, vI x1, vI x2, vI x3, vI x4, vI x5, vU] [] (SH T, c))
      refine of_cev (Q := Q) ?_
      refine wq_pos (Q := Q) k.1 ?_
      replace k := k.2
      exact k
  · replace k := k.2 h
    show Q (cev 29 1 85 [vU, vU, vU, vU, vI x4, vU, vU] [] (SH T, c))
    refine of_cev (Q := Q) ?_
    exact k
set_option maxRecDepth 20000 in
theorem W_X4_ask {T : List Shp} {c : Nat → Int → Int} {Q : Res → Prop} {x1 : Int} (k : Q (cev 30 2 2 [vR 15, vI x1, vI 0] [] (SH T, c))) : Q (ccal 30 [vR 15, vI x1] (SH T, c)) := by
  refine of_cev (Q := Q) ?_
  exact k
set_option maxRecDepth 20000 in
theorem W_X4_ask_2 {T : List Shp} {c : Nat → Int → Int} {Q : Res → Prop} {x1 x2 : Int} (k : ((x2 < 10 → (((0 ≤ x2 ∧ x2 < 10) ∧ (-2147483648 ≤ x2 + 1 ∧ x2 + 1 < 2147483648)) ∧ Q (cev 30 2 2 [vR 15, vI x1, vI (x2 + 1)] [] (SH T, (up c 17 x2 (-1)))))) ∧ (¬ x2 < 10 → (QI T (fun r1 c2 => Q (some (none, (SH T, (up (up (up c2 17 1 r1) 17 2 x1) 17 5 (c2 4 2)))))) (ccal 69 [vR 2, vI x1] (SH T, c)))))) : Q (cev 30 2 2 [vR 15, vI x1, vI x2] [] (SH T, c)) := by
  refine of_cev (Q := Q) ?_
  refine wq_ite (Q := Q) (p := x2 < 10) (fun h => ?_) (fun h => ?_)
  · replace k := k.1 h
    refine wq_pos (Q := Q) k.1.1 ?_
    refine wq_pos (Q := Q) k.1.2 ?_
    replace k := k.2
    exact k
  · replace k := k.2 h
    show Q (cev 30 2 24 [vR 15, vI x1, vU] [] (SH T, c))
    refine of_cev (Q := Q) ?_
    refine wq_callI (Q := Q) rfl k ?_
    intro r1 c2 k
    exact k
set_option maxRecDepth 20000 in
theorem W_X4_askPainter {T : List Shp} {c : Nat → Int → Int} {Q : Res → Prop} {x1 x2 : Int} (k : (QV T (fun c1 => (((-2147483648 ≤ x1 * 5 ∧ x1 * 5 < 2147483648) ∧ (-2147483648 ≤ (x1 * 5) + 1 ∧ (x1 * 5) + 1 < 2147483648) ∧ (0 ≤ ((x1 * 5) + 1) ∧ ((x1 * 5) + 1) < 25)) ∧ Q (some (none, (SH T, (up (up c1 17 3 x1) 17 4 (c1 2 ((x1 * 5) + 1)))))))) (ccal 30 [vR 15, vI x2] (SH T, c)))) : Q (ccal 31 [vR 15, vI x1, vI x2] (SH T, c)) := by
  refine of_cev (Q := Q) ?_
  refine wq_callV (Q := Q) rfl k ?_
  intro c1 k
  refine wq_pos (Q := Q) k.1.1 ?_
  refine wq_pos (Q := Q) k.1.2.1 ?_
  refine wq_pos (Q := Q) k.1.2.2 ?_
  replace k := k.2
  exact k
set_option maxRecDepth 20000 in
theorem W_X4_askClaimant {T : List Shp} {c : Nat → Int → Int} {Q : Res → Prop} {x1 x2 : Int} (k : (QV T (fun c1 => (((-2147483648 ≤ x1 * 4 ∧ x1 * 4 < 2147483648) ∧ (-2147483648 ≤ (x1 * 4) + 3 ∧ (x1 * 4) + 3 < 2147483648) ∧ (0 ≤ ((x1 * 4) + 3) ∧ ((x1 * 4) + 3) < 32) ∧ (-2147483648 ≤ (x1 * 4) + 1 ∧ (x1 * 4) + 1 < 2147483648) ∧ (0 ≤ ((x1 * 4) + 1) ∧ ((x1 * 4) + 1) < 32) ∧ (-2147483648 ≤ x2 - (c1 9 ((x1 * 4) + 1)) ∧ x2 - (c1 9 ((x1 * 4) + 1)) < 2147483648)) ∧ ((0 ≤ (c1 9 ((x1 * 4) + 3)) ∧ (c1 9 ((x1 * 4) + 3)) < (c1 1 11) → (QI T (fun r2 c3 => Q (cev 32 3 101 [vR 15, vI x1, vI x2, vU, vU] [vI r2, vI 8, vR 18] (SH T, c3))) (ccal 73 [vR 2, vI (c1 9 ((x1 * 4) + 3))] (SH T, (up (up (up c1 17 6 x1) 17 7 (c1 9 ((x1 * 4) + 1))) 17 1 (x2 - (c1 9 ((x1 * 4) + 1)))))))) ∧ (¬ (0 ≤ (c1 9 ((x1 * 4) + 3)) ∧ (c1 9 ((x1 * 4) + 3)) < (c1 1 11)) → Q (cev 32 3 101 [vR 15, vI x1, vI x2, vU, vU] [vI (-1), vI 8, vR 18] (SH T, (up (up (up c1 17 6 x1) 17 7 (c1 9 ((x1 * 4) + 1))) 17 1 (x2 - (c1 9 ((x1 * 4) + 1)))))))))) (ccal 30 [vR 15, vI x2] (SH T, c)))) : Q (ccal 32 [vR 15, vI x1, vI x2] (SH T, c)) := by
  refine of_cev (Q := Q) ?_
  refine wq_callV (Q := Q) rfl k ?_
  intro c1 k
  refine wq_pos (Q := Q) k.1.1 ?_
  refine wq_pos (Q := Q) k.1.2.1 ?_
  refine wq_pos (Q := Q) k.1.2.2.1 ?_
  refine wq_pos (Q := Q) k.1.2.2.2.1 ?_
  refine wq_pos (Q := Q) k.1.2.2.2.2.1 ?_
  refine wq_pos (Q := Q) k.1.2.2.2.1 ?_
  refine wq_pos (Q := Q) k.1.2.2.2.2.1 ?_
  refine wq_pos (Q := Q) k.1.2.2.2.2.2 ?_
  refine wq_sum (Q := Q) rfl (S_X11_inside T (up (up (up c1 17 6 x1) 17 7 (c1 9 ((x1 * 4) + 1))) 17 1 (x2 - (c1 9 ((x1 * 4) + 1)))) (c1 9 ((x1 * 4) + 3)) (c1 1 11)) ?_
  replace k := k.2
  refine wq_b01 (Q := Q) (p := 0 ≤ (c1 9 ((x1 * 4) + 3)) ∧ (c1 9 ((x1 * 4) + 3)) < (c1 1 11)) (fun h => ?_) (fun h => ?_)
  · replace k := k.2 h
    show Q (cev 32 3 100 [vR 15, vI x1, vI x2, vU, vU] [vI 8, vR 18] (SH T, (up (up (up c1 17 6 x1) 17 7 (c1 9 ((x1 * 4) + 1))) 17 1 (x2 - (c1 9 ((x1 * 4) + 1))))))
    refine of_cev (Q := Q) ?_
    exact k
  · replace k := k.1 h
    refine wq_callI (Q := Q) rfl k ?_
    intro r2 c3 k
    exact k
set_option maxRecDepth 20000 in
theorem W_X4_askClaimant_101 {T : List Shp} {c : Nat → Int → Int} {Q : Res → Prop} {x1 x2 y0 y1 : Int} (k : ((0 ≤ y1 ∧ y1 < 10) ∧ (QI T (fun r1 c2 => Q (some (none, (SH T, (up c2 17 9 r1))))) (ccal 75 [vR 2, vI x1, vI x2] (SH T, (up c 17 y1 y0)))))) : Q (cev 32 3 101 [vR 15, vI x1, vI x2, vU, vU] [vI y0, vI y1, vR 18] (SH T, c)) := by
  refine of_cev (Q := Q) ?_
  refine wq_pos (Q := Q) k.1 ?_
  replace k := k.2
  refine wq_callI (Q := Q) rfl k ?_
  intro r1 c2 k
  exact k
set_option maxRecDepth 20000 in
theorem W_X4_tells {T : List Shp} {c : Nat → Int → Int} {Q : Res → Prop} {x1 : Int} (k : ((0 ≤ (c 1 7) ∧ (c 1 7) < (c 1 5) → ((0 ≤ (c 1 7) ∧ (c 1 7) < 6) ∧ Q (cev 33 3 39 [vR 15, vI x1, vU, vU, vU, vU, vU] [vR (c 5 (c 1 7))] (SH T, c)))) ∧ (¬ (0 ≤ (c 1 7) ∧ (c 1 7) < (c 1 5)) → Q (cev 33 3 39 [vR 15, vI x1, vU, vU, vU, vU, vU] [vR 0] (SH T, c))))) : Q (ccal 33 [vR 15, vI x1] (SH T, c)) := by
  refine of_cev (Q := Q) ?_
  refine wq_sum (Q := Q) rfl (S_X11_inside T c (c 1 7) (c 1 5)) ?_
  refine wq_b01 (Q := Q) (p := 0 ≤ (c 1 7) ∧ (c 1 7) < (c 1 5)) (fun h => ?_) (fun h => ?_)
  · replace k := k.2 h
    show Q (cev 33 3 38 [vR 15, vI x1, vU, vU, vU, vU, vU] [] (SH T, c))
    refine of_cev (Q := Q) ?_
    exact k
  · replace k := k.1 h
    refine wq_pos (Q := Q) k.1 ?_
    replace k := k.2
    exact k
set_option maxRecDepth 20000 in
theorem W_X4_tells_39 {T : List Shp} {c : Nat → Int → Int} {Q : Res → Prop} {x1 y0 : Int} {p1 : Nat} {n2 : Int} {f3 : List Int} (k : ((y0 = 0 → Q (some (some (vI 0), (SH T, c)))) ∧ (¬ y0 = 0 → (((drf (SH T) y0 = some (p1, (20, n2, f3))) ∧ (-2147483648 ≤ (c p1 2) - 1 ∧ (c p1 2) - 1 < 2147483648) ∧ (-2147483648 ≤ ((c p1 2) - 1) * 6 ∧ ((c p1 2) - 1) * 6 < 2147483648)) ∧ Q (cev 33 3 56 [vR 15, vI x1, vR y0, vI (((c p1 2) - 1) * 6), vU, vU, vU] [] (SH T, c)))))) : Q (cev 33 3 39 [vR 15, vI x1, vU, vU, vU, vU, vU] [vR y0] (SH T, c)) := by
  refine of_cev (Q := Q) ?_
  refine wq_ite (Q := Q) (p := y0 = 0) (fun h => ?_) (fun h => ?_)
  · replace k := k.1 h
    exact k
  · replace k := k.2 h
    refine wq_el (Q := Q) k.1.1 ?_
    show Q (cev 33 3 46 [vR 15, vI x1, vR y0, vU, vU, vU, vU] [] (SH T, c))
    refine of_cev (Q := Q) ?_
    refine wq_el (Q := Q) k.1.1 ?_
    refine wq_pos (Q := Q) k.1.2.1 ?_
    refine wq_pos (Q := Q) k.1.2.2 ?_
    replace k := k.2
    exact k
set_option maxRecDepth 20000 in
theorem W_X4_tells_56 {T : List Shp} {c : Nat → Int → Int} {Q : Res → Prop} {x1 x2 x3 : Int} {p1 : Nat} {n2 : Int} {f3 : List Int} {p4 : Nat} {n5 : Int} {f6 : List Int} (k : ((x3 < 0 → Q (some (some (vI 0), (SH T, c)))) ∧ (¬ x3 < 0 → (((drf (SH T) x2 = some (p1, (20, n2, f3))) ∧ (-2147483648 ≤ x3 + 0 ∧ x3 + 0 < 2147483648) ∧ (drf (SH T) (f3.getD 0 0) = some (p4, (0, n5, f6))) ∧ (0 ≤ (x3 + 0) ∧ (x3 + 0) < n5)) ∧ (((c p4 (x3 + 0)) = x1 → (((drf (SH T) x2 = some (p1, (20, n2, f3))) ∧ (-2147483648 ≤ x3 + 2 ∧ x3 + 2 < 2147483648) ∧ (drf (SH T) (f3.getD 0 0) = some (p4, (0, n5, f6))) ∧ (0 ≤ (x3 + 2) ∧ (x3 + 2) < n5) ∧ (-2147483648 ≤ x3 + 3 ∧ x3 + 3 < 2147483648) ∧ (0 ≤ (x3 + 3) ∧ (x3 + 3) < n5)) ∧ (((c p4 (x3 + 2)) = (-1) → Q (cev 33 3 131 [vR 15, vI x1, vR x2, vI x3, vU, vI (c p4 (x3 + 3)), vU] [vI 1] (SH T, c))) ∧ (¬ (c p4 (x3 + 2)) = (-1) → (QI T (fun r7 c8 => ((r7 = 0 → Q (cev 33 3 131 [vR 15, vI x1, vR x2, vI x3, vU, vI (c p4 (x3 + 3)), vU] [vI 0] (SH T, c8))) ∧ (¬ r7 = 0 → (((c8 15 2) = 1 → Q (cev 33 3 131 [vR 15, vI x1, vR x2, vI x3, vU, vI (c p4 (x3 + 3)), vU] [vI 1] (SH T, c8))) ∧ (¬ (c8 15 2) = 1 → Q (cev 33 3 131 [vR 15, vI x1, vR x2, vI x3, vU, vI (c p4 (x3 + 3)), vU] [vI 0] (SH T, c8))))))) (ccal 20 [vR 16, vR x2, vI (c p4 (x3 + 2)), vR 18] (SH T, c))))))) ∧ (¬ (c p4 (x3 + 0)) = x1 → ((-2147483648 ≤ x3 + (-6) ∧ x3 + (-6) < 2147483648) ∧ Q (cev 33 3 56 [vR 15, vI x1, vR x2, vI (x3 + (-6)), vU, vU, vU] [] (SH T, c))))))))) : Q (cev 33 3 56 [vR 15, vI x1, vR x2, vI x3, vU, vU, vU] [] (SH T, c)) := by
  refine of_cev (Q := Q) ?_
  refine wq_ite (Q := Q) (p := x3 < 0) (fun h => ?_) (fun h => ?_)
  · replace k := k.1 h
    show Q (cev 33 3 180 [vU, vU, vU, vU, vU, vU, vU] [] (SH T, c))
    refine of_cev (Q := Q) ?_
    exact k
  · replace k := k.2 h
    refine wq_el (Q := Q) k.1.1 ?_
    refine wq_pos (Q := Q) k.1.2.1 ?_
    refine wq_el (Q := Q) k.1.2.2.1 ?_
    refine wq_pos (Q := Q) k.1.2.2.2 ?_
    replace k := k.2
    refine wq_ite (Q := Q) (p := (c p4 (x3 + 0)) = x1) (fun h => ?_) (fun h => ?_)
    · replace k := k.1 h
      refine wq_el (Q := Q) k.1.1 ?_
      refine wq_pos (Q := Q) k.1.2.1 ?_
      refine wq_el (Q := Q) k.1.2.2.1 ?_
      refine wq_pos (Q := Q) k.1.2.2.2.1 ?_
      refine wq_el (Q := Q) k.1.1 ?_
      refine wq_pos (Q := Q) k.1.2.2.2.2.1 ?_
      refine wq_el (Q := Q) k.1.2.2.1 ?_
      refine wq_pos (Q := Q) k.1.2.2.2.2.2 ?_
      replace k := k.2
      refine wq_ite (Q := Q) (p := (c p4 (x3 + 2)) = (-1)) (fun h => ?_) (fun h => ?_)
      · replace k := k.1 h
        show Q (cev 33 3 126 [vR 15, vI x1, vR x2, vI x3, vU, vI (c p4 (x3 + 3)), vU] [] (SH T, c))
        refine of_cev (Q := Q) ?_
        exact k
      · replace k := k.2 h
        refine wq_callI (Q := Q) rfl k ?_
        intro r7 c8 k
        refine wq_ite (Q := Q) (p := r7 = 0) (fun h => ?_) (fun h => ?_)
        · replace k := k.1 h
          show Q (cev 33 3 130 [vR 15, vI x1, vR x2, vI x3, vU, vI (c p4 (x3 + 3)), vU] [] (SH T, c8))
          refine of_cev (Q := Q) ?_
          exact k
        · replace k := k.2 h
          refine wq_ite (Q := Q) (p := (c8 15 2) = 1) (fun h => ?_) (fun h => ?_)
          · replace k := k.1 h
            show Q (cev 33 3 126 [vR 15, vI x1, vR x2, vI x3, vU, vI (c p4 (x3 + 3)), vU] [] (SH T, c8))
            refine of_cev (Q := Q) ?_
            exact k
          · replace k := k.2 h
            show Q (cev 33 3 130 [vR 15, vI x1, vR x2, vI x3, vU, vI (c p4 (x3 + 3)), vU] [] (SH T, c8))
            refine of_cev (Q := Q) ?_
            exact k
    · replace k := k.2 h
      show Q (cev 33 3 174 [vR 15, vI x1, vR x2, vI x3, vU, vU, vU] [] (SH T, c))
      refine of_cev (Q := Q) ?_
      refine wq_pos (Q := Q) k.1 ?_
      replace k := k.2
      exact k
set_option maxRecDepth 20000 in
theorem W_X4_tells_131 {T : List Shp} {c : Nat → Int → Int} {Q : Res → Prop} {x1 x2 x3 x5 y0 : Int} (k : ((y0 = 0 → ((-2147483648 ≤ x3 + (-6) ∧ x3 + (-6) < 2147483648) ∧ Q (cev 33 3 56 [vR 15, vI x1, vR x2, vI (x3 + (-6)), vU, vU, vU] [] (SH T, c)))) ∧ (¬ y0 = 0 → ((x5 = (-1) → Q (some (some (vI 1), (SH T, (up c 14 3 (c 15 2)))))) ∧ (¬ x5 = (-1) → (QI T (fun r1 c2 => ((r1 = 0 → ((-2147483648 ≤ x3 + (-6) ∧ x3 + (-6) < 2147483648) ∧ Q (cev 33 3 56 [vR 15, vI x1, vR x2, vI (x3 + (-6)), vU, vU, vU] [] (SH T, c2)))) ∧ (¬ r1 = 0 → Q (some (some (vI 1), (SH T, (up c2 14 3 (c2 15 2)))))))) (ccal 20 [vR 16, vR x2, vI x5, vR 18] (SH T, c)))))))) : Q (cev 33 3 131 [vR 15, vI x1, vR x2, vI x3, vU, vI x5, vU] [vI y0] (SH T, c)) := by
  refine of_cev (Q := Q) ?_
  refine wq_ite (Q := Q) (p := y0 = 0) (fun h => ?_) (fun h => ?_)
  · replace k := k.1 h
    show Q (cev 33 3 174 [vR 15, vI x1, vR x2, vI x3, vU, vU, vU] [] (SH T, c))
    refine of_cev (Q := Q) ?_
    refine wq_pos (Q := Q) k.1 ?_
    replace k := k.2
    exact k
  · replace k := k.2 h
    refine wq_ite (Q := Q) (p := x5 = (-1)) (fun h => ?_) (fun h => ?_)
    · replace k := k.1 h
      show Q (cev 33 3 161 [vR 15, vU, vU, vU, vU, vU, vU] [] (SH T, c))
      refine of_cev (Q := Q) ?_
      exact k
    · replace k := k.2 h
      refine wq_callI (Q := Q) rfl k ?_
      intro r1 c2 k
      refine wq_ite (Q := Q) (p := r1 = 0) (fun h => ?_) (fun h => ?_)
      · replace k := k.1 h
        show Q (cev 33 3 174 [vR 15, vI x1, vR x2, vI x3, vU, vU, vU] [] (SH T, c2))
        refine of_cev (Q := Q) ?_
        refine wq_pos (Q := Q) k.1 ?_
        replace k := k.2
        exact k
      · replace k := k.2 h
        show Q (cev 33 3 161 [vR 15, vU, vU, vU, vU, vU, vU] [] (SH T, c2))
        refine of_cev (Q := Q) ?_
        exact k
set_option maxRecDepth 20000 in
theorem W_X9_paintNext {T : List Shp} {c : Nat → Int → Int} {Q : Res → Prop} {x1 : Int} (k : ((-2147483648 ≤ (c 1 8) + 1 ∧ (c 1 8) + 1 < 2147483648) ∧ ((16 < ((c 1 8) + 1) → Q (some (none, (SH T, c)))) ∧ (¬ 16 < ((c 1 8) + 1) → Q (cev 95 5 19 [vR 19, vI x1, vI ((c 1 8) + 1), vI 0, vU] [] (SH T, c)))))) : Q (ccal 95 [vR 19, vI x1] (SH T, c)) := by
  refine of_cev (Q := Q) ?_
  refine wq_pos (Q := Q) k.1 ?_
  replace k := k.2
  refine wq_ite (Q := Q) (p := 16 < ((c 1 8) + 1)) (fun h => ?_) (fun h => ?_)
  · replace k := k.1 h
    exact k
  · replace k := k.2 h
    show Q (cev 95 5 17 [vR 19, vI x1, vI ((c 1 8) + 1), vU, vU] [] (SH T, c))
    refine of_cev (Q := Q) ?_
    exact k
set_option maxRecDepth 20000 in
theorem W_X9_paintNext_19 {T : List Shp} {c : Nat → Int → Int} {Q : Res → Prop} {x1 x2 x3 : Int} (k : ((x3 < 12 → (QI T (fun r1 c2 => (((-2147483648 ≤ x2 * 12 ∧ x2 * 12 < 2147483648) ∧ (-2147483648 ≤ (x2 * 12) + x3 ∧ (x2 * 12) + x3 < 2147483648) ∧ (-2147483648 ≤ (c2 1 8) * 12 ∧ (c2 1 8) * 12 < 2147483648) ∧ (-2147483648 ≤ (c2 1 8) * 12 + x3 ∧ (c2 1 8) * 12 + x3 < 2147483648) ∧ (0 ≤ (c2 1 8) * 12 + x3 ∧ (c2 1 8) * 12 + x3 < 204)) ∧ (QI T (fun r3 c4 => (((0 ≤ ((x2 * 12) + x3) ∧ ((x2 * 12) + x3) < 204) ∧ (-2147483648 ≤ x3 + 1 ∧ x3 + 1 < 2147483648)) ∧ Q (cev 95 5 19 [vR 19, vI x1, vI x2, vI (x3 + 1), vU] [] (SH T, (up c4 7 ((x2 * 12) + x3) r3))))) (ccal 76 [vR 2, vI x1, vI x3, vI (c2 7 ((c2 1 8) * 12 + x3)), vI r1] (SH T, c2))))) (ccal 23 [vR 15, vI x3, vI x2] (SH T, c)))) ∧ (¬ x3 < 12 → ((0 ≤ x2 ∧ x2 < 17) ∧ Q (some (none, (SH T, (up (up c 6 x2 x1) 1 8 x2)))))))) : Q (cev 95 5 19 [vR 19, vI x1, vI x2, vI x3, vU] [] (SH T, c)) := by
  refine of_cev (Q := Q) ?_
  refine wq_ite (Q := Q) (p := x3 < 12) (fun h => ?_) (fun h => ?_)
  · replace k := k.1 h
    refine wq_callI (Q := Q) rfl k ?_
    intro r1 c2 k
    refine wq_pos (Q := Q) k.1.1 ?_
    refine wq_pos (Q := Q) k.1.2.1 ?_
    refine wq_sum (Q := Q) rfl (S_X7_seenAt T c2 x3 k.1.2.2.1 k.1.2.2.2.1 k.1.2.2.2.2) ?_
    replace k := k.2
    refine wq_callI (Q := Q) rfl k ?_
    intro r3 c4 k
    refine wq_pos (Q := Q) k.1.1 ?_
    refine wq_pos (Q := Q) k.1.2 ?_
    replace k := k.2
    exact k
  · replace k := k.2 h
    show Q (cev 95 5 75 [vR 19, vI x1, vI x2, vU, vU] [] (SH T, c))
    refine of_cev (Q := Q) ?_
    refine wq_pos (Q := Q) k.1 ?_
    replace k := k.2
    exact k
set_option maxRecDepth 20000 in
theorem W_X9_unlikeOf {T : List Shp} {c : Nat → Int → Int} {Q : Res → Prop} {x1 : Int} (k : Q (cev 96 5 4 [vR 19, vI x1, vI 0, vI 0] [] (SH T, c))) : Q (ccal 96 [vR 19, vI x1] (SH T, c)) := by
  refine of_cev (Q := Q) ?_
  exact k
set_option maxRecDepth 20000 in
theorem W_X9_unlikeOf_4 {T : List Shp} {c : Nat → Int → Int} {Q : Res → Prop} {x1 x2 x3 : Int} (k : ((x3 < 12 → (((-2147483648 ≤ x1 * 12 ∧ x1 * 12 < 2147483648) ∧ (-2147483648 ≤ (x1 * 12) + x3 ∧ (x1 * 12) + x3 < 2147483648) ∧ (0 ≤ ((x1 * 12) + x3) ∧ ((x1 * 12) + x3) < 204)) ∧ (QI T (fun r1 c2 => (((-2147483648 ≤ (c 7 ((x1 * 12) + x3)) - r1 ∧ (c 7 ((x1 * 12) + x3)) - r1 < 2147483648) ∧ (-2147483648 < ((c 7 ((x1 * 12) + x3)) - r1) ∧ ((c 7 ((x1 * 12) + x3)) - r1) < 2147483648) ∧ (-2147483648 ≤ x2 + (abz ((c 7 ((x1 * 12) + x3)) - r1)) ∧ x2 + (abz ((c 7 ((x1 * 12) + x3)) - r1)) < 2147483648) ∧ (-2147483648 ≤ x3 + 1 ∧ x3 + 1 < 2147483648)) ∧ Q (cev 96 5 4 [vR 19, vI x1, vI (x2 + (abz ((c 7 ((x1 * 12) + x3)) - r1))), vI (x3 + 1)] [] (SH T, c2)))) (ccal 23 [vR 15, vI x3, vI x1] (SH T, c))))) ∧ (¬ x3 < 12 → Q (some (some (vI x2), (SH T, c)))))) : Q (cev 96 5 4 [vR 19, vI x1, vI x2, vI x3] [] (SH T, c)) := by
  refine of_cev (Q := Q) ?_
  refine wq_ite (Q := Q) (p := x3 < 12) (fun h => ?_) (fun h => ?_)
  · replace k := k.1 h
    refine wq_pos (Q := Q) k.1.1 ?_
    refine wq_pos (Q := Q) k.1.2.1 ?_
    refine wq_pos (Q := Q) k.1.2.2 ?_
    replace k := k.2
    refine wq_callI (Q := Q) rfl k ?_
    intro r1 c2 k
    refine wq_pos (Q := Q) k.1.1 ?_
    refine wq_pos (Q := Q) k.1.2.1 ?_
    refine wq_pos (Q := Q) k.1.2.2.1 ?_
    refine wq_pos (Q := Q) k.1.2.2.2 ?_
    replace k := k.2
    exact k
  · replace k := k.2 h
    show Q (cev 96 5 46 [vU, vU, vI x2, vU] [] (SH T, c))
    refine of_cev (Q := Q) ?_
    exact k
set_option maxRecDepth 20000 in
theorem W_X9_farCell {T : List Shp} {c : Nat → Int → Int} {Q : Res → Prop} {x1 : Int} (k : Q (cev 97 5 2 [vR 19, vI x1, vI 0, vU] [] (SH T, c))) : Q (ccal 97 [vR 19, vI x1] (SH T, c)) := by
  refine of_cev (Q := Q) ?_
  exact k
set_option maxRecDepth 20000 in
theorem W_X9_farCell_2 {T : List Shp} {c : Nat → Int → Int} {Q : Res → Prop} {x1 x2 : Int} (k : ((x2 < 12 → (((-2147483648 ≤ x1 * 12 ∧ x1 * 12 < 2147483648) ∧ (-2147483648 ≤ (x1 * 12) + x2 ∧ (x1 * 12) + x2 < 2147483648) ∧ (0 ≤ ((x1 * 12) + x2) ∧ ((x1 * 12) + x2) < 204)) ∧ (QI T (fun r1 c2 => (((-2147483648 ≤ (c 7 ((x1 * 12) + x2)) - r1 ∧ (c 7 ((x1 * 12) + x2)) - r1 < 2147483648) ∧ (-2147483648 < ((c 7 ((x1 * 12) + x2)) - r1) ∧ ((c 7 ((x1 * 12) + x2)) - r1) < 2147483648)) ∧ (QI T (fun r3 c4 => ((r3 < (abz ((c 7 ((x1 * 12) + x2)) - r1)) → Q (some (some (vI x2), (SH T, c4)))) ∧ (¬ r3 < (abz ((c 7 ((x1 * 12) + x2)) - r1)) → ((-2147483648 ≤ x2 + 1 ∧ x2 + 1 < 2147483648) ∧ Q (cev 97 5 2 [vR 19, vI x1, vI (x2 + 1), vU] [] (SH T, c4)))))) (ccal 24 [vR 15, vI x2, vI x1] (SH T, c2))))) (ccal 23 [vR 15, vI x2, vI x1] (SH T, c))))) ∧ (¬ x2 < 12 → Q (some (some (vI (-1)), (SH T, c)))))) : Q (cev 97 5 2 [vR 19, vI x1, vI x2, vU] [] (SH T, c)) := by
  refine of_cev (Q := Q) ?_
  refine wq_ite (Q := Q) (p := x2 < 12) (fun h => ?_) (fun h => ?_)
  · replace k := k.1 h
    refine wq_pos (Q := Q) k.1.1 ?_
    refine wq_pos (Q := Q) k.1.2.1 ?_
    refine wq_pos (Q := Q) k.1.2.2 ?_
    replace k := k.2
    refine wq_callI (Q := Q) rfl k ?_
    intro r1 c2 k
    refine wq_pos (Q := Q) k.1.1 ?_
    refine wq_pos (Q := Q) k.1.2 ?_
    replace k := k.2
    refine wq_callI (Q := Q) rfl k ?_
    intro r3 c4 k
    refine wq_ite (Q := Q) (p := r3 < (abz ((c 7 ((x1 * 12) + x2)) - r1))) (fun h => ?_) (fun h => ?_)
    · replace k := k.1 h
      exact k
    · replace k := k.2 h
      show Q (cev 97 5 51 [vR 19, vI x1, vI x2, vU] [] (SH T, c4))
      refine of_cev (Q := Q) ?_
      refine wq_pos (Q := Q) k.1 ?_
      replace k := k.2
      exact k
  · replace k := k.2 h
    show Q (cev 97 5 57 [vU, vU, vU, vU] [] (SH T, c))
    refine of_cev (Q := Q) ?_
    exact k
set_option maxRecDepth 20000 in
theorem W_X9_moneyBehind {T : List Shp} {c : Nat → Int → Int} {Q : Res → Prop} {x1 : Int} (k : ((-2147483648 ≤ (c 4 3) * x1 ∧ (c 4 3) * x1 < 2147483648) ∧ Q (cev 98 5 14 [vR 19, vI x1, vI ((c 4 3) * x1), vI 1] [] (SH T, c)))) : Q (ccal 98 [vR 19, vI x1] (SH T, c)) := by
  refine of_cev (Q := Q) ?_
  refine wq_pos (Q := Q) k.1 ?_
  replace k := k.2
  exact k
set_option maxRecDepth 20000 in
theorem W_X9_moneyBehind_14 {T : List Shp} {c : Nat → Int → Int} {Q : Res → Prop} {x1 x2 x3 : Int} (k : ((x1 < x3 → Q (some (some (vI x2), (SH T, c)))) ∧ (¬ x1 < x3 → ((0 ≤ x3 ∧ x3 < 17) ∧ (QI T (fun r1 c2 => (((-2147483648 ≤ x2 - r1 ∧ x2 - r1 < 2147483648) ∧ (-2147483648 ≤ x3 + 1 ∧ x3 + 1 < 2147483648)) ∧ Q (cev 98 5 14 [vR 19, vI x1, vI (x2 - r1), vI (x3 + 1)] [] (SH T, c2)))) (ccal 25 [vR 15, vI (c 6 x3), vI x3] (SH T, c))))))) : Q (cev 98 5 14 [vR 19, vI x1, vI x2, vI x3] [] (SH T, c)) := by
  refine of_cev (Q := Q) ?_
  refine wq_ite (Q := Q) (p := x1 < x3) (fun h => ?_) (fun h => ?_)
  · replace k := k.1 h
    show Q (cev 98 5 45 [vU, vU, vI x2, vU] [] (SH T, c))
    refine of_cev (Q := Q) ?_
    exact k
  · replace k := k.2 h
    refine wq_pos (Q := Q) k.1 ?_
    replace k := k.2
    refine wq_callI (Q := Q) rfl k ?_
    intro r1 c2 k
    refine wq_pos (Q := Q) k.1.1 ?_
    refine wq_pos (Q := Q) k.1.2 ?_
    replace k := k.2
    exact k
set_option maxRecDepth 20000 in
theorem W_X9_whoCan {T : List Shp} {c : Nat → Int → Int} {Q : Res → Prop} {x1 : Int} (k : (QV T (fun c1 => Q (cev 99 6 13 [vR 19, vI x1, vI 0, vI 0] [] (SH T, c1))) (ccal 104 [vR 19, vI x1, vR 20] (SH T, c)))) : Q (ccal 99 [vR 19, vI x1] (SH T, c)) := by
  refine of_cev (Q := Q) ?_
  refine wq_callV (Q := Q) rfl k ?_
  intro c1 k
  exact k
set_option maxRecDepth 20000 in
theorem W_X9_whoCan_13 {T : List Shp} {c : Nat → Int → Int} {Q : Res → Prop} {x1 x2 x3 : Int} (k : ((x3 < (c 1 0) → (QI T (fun r1 c2 => ((r1 = 0 → ((-2147483648 ≤ x3 + 1 ∧ x3 + 1 < 2147483648) ∧ Q (cev 99 6 13 [vR 19, vI x1, vI x2, vI (x3 + 1)] [] (SH T, c2)))) ∧ (¬ r1 = 0 → ((-2147483648 ≤ x3 + 1 ∧ x3 + 1 < 2147483648) ∧ Q (cev 99 6 13 [vR 19, vI x1, vI (ior x2 (ishl 1 x3)), vI (x3 + 1)] [] (SH T, c2)))))) (ccal 105 [vR 19, vI x1, vI x3, vI 1] (SH T, c)))) ∧ (¬ x3 < (c 1 0) → Q (some (some (vI x2), (SH T, c)))))) : Q (cev 99 6 13 [vR 19, vI x1, vI x2, vI x3] [] (SH T, c)) := by
  refine of_cev (Q := Q) ?_
  refine wq_ite (Q := Q) (p := x3 < (c 1 0)) (fun h => ?_) (fun h => ?_)
  · replace k := k.1 h
    refine wq_callI (Q := Q) rfl k ?_
    intro r1 c2 k
    refine wq_ite (Q := Q) (p := r1 = 0) (fun h => ?_) (fun h => ?_)
    · replace k := k.1 h
      show Q (cev 99 6 40 [vR 19, vI x1, vI x2, vI x3] [] (SH T, c2))
      refine of_cev (Q := Q) ?_
      refine wq_pos (Q := Q) k.1 ?_
      replace k := k.2
      exact k
    · replace k := k.2 h
      show Q (cev 99 6 40 [vR 19, vI x1, vI (ior x2 (ishl 1 x3)), vI x3] [] (SH T, c2))
      refine of_cev (Q := Q) ?_
      refine wq_pos (Q := Q) k.1 ?_
      replace k := k.2
      exact k
  · replace k := k.2 h
    show Q (cev 99 6 46 [vU, vU, vI x2, vU] [] (SH T, c))
    refine of_cev (Q := Q) ?_
    exact k
set_option maxRecDepth 20000 in
theorem W_X9_rowsInto {T : List Shp} {c : Nat → Int → Int} {Q : Res → Prop} {x1 x2 : Int} (k : (QV T (fun c1 => Q (cev 100 6 14 [vR 19, vI x1, vI x2, vI 1, vI 0, vU] [] (SH T, c1))) (ccal 104 [vR 19, vI x1, vR 20] (SH T, c)))) : Q (ccal 100 [vR 19, vI x1, vI x2] (SH T, c)) := by
  refine of_cev (Q := Q) ?_
  refine wq_callV (Q := Q) rfl k ?_
  intro c1 k
  exact k
set_option maxRecDepth 20000 in
theorem W_X9_rowsInto_14 {T : List Shp} {c : Nat → Int → Int} {Q : Res → Prop} {x1 x2 x3 x4 : Int} (k : ((x4 < x2 → (((-2147483648 ≤ x3 * (c 1 0) ∧ x3 * (c 1 0) < 2147483648) ∧ (-2147483648 ≤ x4 + 1 ∧ x4 + 1 < 2147483648)) ∧ Q (cev 100 6 14 [vR 19, vI x1, vI x2, vI (x3 * (c 1 0)), vI (x4 + 1), vU] [] (SH T, c)))) ∧ (¬ x4 < x2 → Q (cev 100 6 42 [vR 19, vI x1, vI x2, vI x3, vI 0, vI 0] [] (SH T, c))))) : Q (cev 100 6 14 [vR 19, vI x1, vI x2, vI x3, vI x4, vU] [] (SH T, c)) := by
  refine of_cev (Q := Q) ?_
  refine wq_ite (Q := Q) (p := x4 < x2) (fun h => ?_) (fun h => ?_)
  · replace k := k.1 h
    refine wq_pos (Q := Q) k.1.1 ?_
    refine wq_pos (Q := Q) k.1.2 ?_
    replace k := k.2
    exact k
  · replace k := k.2 h
    show Q (cev 100 6 36 [vR 19, vI x1, vI x2, vI x3, vU, vU] [] (SH T, c))
    refine of_cev (Q := Q) ?_
    exact k
set_option maxRecDepth 20000 in
theorem W_X9_rowsInto_42 {T : List Shp} {c : Nat → Int → Int} {Q : Res → Prop} {x1 x2 x3 x4 x5 : Int} (k : ((x5 < x3 → (QI T (fun r1 c2 => ((r1 = 0 → ((-2147483648 ≤ x5 + 1 ∧ x5 + 1 < 2147483648) ∧ Q (cev 100 6 42 [vR 19, vI x1, vI x2, vI x3, vI x4, vI (x5 + 1)] [] (SH T, c2)))) ∧ (¬ r1 = 0 → (((-2147483648 ≤ x4 + 1 ∧ x4 + 1 < 2147483648) ∧ (-2147483648 ≤ x5 + 1 ∧ x5 + 1 < 2147483648)) ∧ Q (cev 100 6 42 [vR 19, vI x1, vI x2, vI x3, vI (x4 + 1), vI (x5 + 1)] [] (SH T, c2)))))) (ccal 105 [vR 19, vI x1, vI x5, vI x2] (SH T, c)))) ∧ (¬ x5 < x3 → Q (some (some (vI x4), (SH T, c)))))) : Q (cev 100 6 42 [vR 19, vI x1, vI x2, vI x3, vI x4, vI x5] [] (SH T, c)) := by
  refine of_cev (Q := Q) ?_
  refine wq_ite (Q := Q) (p := x5 < x3) (fun h => ?_) (fun h => ?_)
  · replace k := k.1 h
    refine wq_callI (Q := Q) rfl k ?_
    intro r1 c2 k
    refine wq_ite (Q := Q) (p := r1 = 0) (fun h => ?_) (fun h => ?_)
    · replace k := k.1 h
      show Q (cev 100 6 62 [vR 19, vI x1, vI x2, vI x3, vI x4, vI x5] [] (SH T, c2))
      refine of_cev (Q := Q) ?_
      refine wq_pos (Q := Q) k.1 ?_
      replace k := k.2
      exact k
    · replace k := k.2 h
      refine wq_pos (Q := Q) k.1.1 ?_
      show Q (cev 100 6 62 [vR 19, vI x1, vI x2, vI x3, vI (x4 + 1), vI x5] [] (SH T, c2))
      refine of_cev (Q := Q) ?_
      refine wq_pos (Q := Q) k.1.2 ?_
      replace k := k.2
      exact k
  · replace k := k.2 h
    show Q (cev 100 6 68 [vU, vU, vU, vU, vI x4, vU] [] (SH T, c))
    refine of_cev (Q := Q) ?_
    exact k
set_option maxRecDepth 20000 in
theorem W_X9_driftOf {T : List Shp} {c : Nat → Int → Int} {Q : Res → Prop} {x1 x2 : Int} (k : (((-2147483648 ≤ (c 1 8) * 12 ∧ (c 1 8) * 12 < 2147483648) ∧ (-2147483648 ≤ (c 1 8) * 12 + x1 ∧ (c 1 8) * 12 + x1 < 2147483648) ∧ (0 ≤ (c 1 8) * 12 + x1 ∧ (c 1 8) * 12 + x1 < 204) ∧ (-2147483648 ≤ (c 1 8) + 1 ∧ (c 1 8) + 1 < 2147483648)) ∧ Q (cev 101 5 22 [vR 19, vI x1, vI x2, vI (ishl 1 (c 7 ((c 1 8) * 12 + x1))), vI ((c 1 8) + 1), vU, vU, vU] [] (SH T, c)))) : Q (ccal 101 [vR 19, vI x1, vI x2] (SH T, c)) := by
  refine of_cev (Q := Q) ?_
  refine wq_sum (Q := Q) rfl (S_X7_seenAt T c x1 k.1.1 k.1.2.1 k.1.2.2.1) ?_
  refine wq_pos (Q := Q) k.1.2.2.2 ?_
  replace k := k.2
  exact k
set_option maxRecDepth 20000 in
theorem W_X9_driftOf_22 {T : List Shp} {c : Nat → Int → Int} {Q : Res → Prop} {x1 x2 x3 x4 : Int} (k : ((-2147483648 ≤ (c 1 8) + x2 ∧ (c 1 8) + x2 < 2147483648) ∧ ((((c 1 8) + x2) < x4 → Q (some (some (vI x3), (SH T, c)))) ∧ (¬ ((c 1 8) + x2) < x4 → (QI T (fun r1 c2 => Q (cev 101 5 54 [vR 19, vI x1, vI x2, vI x3, vI x4, vI r1, vI 0, vI 0] [] (SH T, c2))) (ccal 23 [vR 15, vI x1, vI x4] (SH T, c))))))) : Q (cev 101 5 22 [vR 19, vI x1, vI x2, vI x3, vI x4, vU, vU, vU] [] (SH T, c)) := by
  refine of_cev (Q := Q) ?_
  refine wq_pos (Q := Q) k.1 ?_
  replace k := k.2
  refine wq_ite (Q := Q) (p := ((c 1 8) + x2) < x4) (fun h => ?_) (fun h => ?_)
  · replace k := k.1 h
    show Q (cev 101 5 110 [vU, vU, vU, vI x3, vU, vU, vU, vU] [] (SH T, c))
    refine of_cev (Q := Q) ?_
    exact k
  · replace k := k.2 h
    refine wq_callI (Q := Q) rfl k ?_
    intro r1 c2 k
    exact k
set_option maxRecDepth 20000 in
theorem W_X9_driftOf_54 {T : List Shp} {c : Nat → Int → Int} {Q : Res → Prop} {x1 x2 x3 x4 x5 x6 x7 : Int} (k : ((x7 < (c 1 0) → (QI T (fun r1 c2 => ((r1 = 0 → (QI T (fun r3 c4 => ((-2147483648 ≤ x7 + 1 ∧ x7 + 1 < 2147483648) ∧ Q (cev 101 5 54 [vR 19, vI x1, vI x2, vI x3, vI x4, vI x5, vI (ior x6 r3), vI (x7 + 1)] [] (SH T, c4)))) (ccal 106 [vR 19, vI x3, vI x7, vI x1, vI x5] (SH T, c2)))) ∧ (¬ r1 = 0 → ((-2147483648 ≤ x7 + 1 ∧ x7 + 1 < 2147483648) ∧ Q (cev 101 5 54 [vR 19, vI x1, vI x2, vI x3, vI x4, vI x5, vI x6, vI (x7 + 1)] [] (SH T, c2)))))) (ccal 26 [vR 15, vI x7, vI x4] (SH T, c)))) ∧ (¬ x7 < (c 1 0) → ((-2147483648 ≤ x4 + 1 ∧ x4 + 1 < 2147483648) ∧ Q (cev 101 5 22 [vR 19, vI x1, vI x2, vI x6, vI (x4 + 1), vU, vU, vU] [] (SH T, c)))))) : Q (cev 101 5 54 [vR 19, vI x1, vI x2, vI x3, vI x4, vI x5, vI x6, vI x7] [] (SH T, c)) := by
  refine of_cev (Q := Q) ?_
  refine wq_ite (Q := Q) (p := x7 < (c 1 0)) (fun h => ?_) (fun h => ?_)
  · replace k := k.1 h
    refine wq_callI (Q := Q) rfl k ?_
    intro r1 c2 k
    refine wq_ite (Q := Q) (p := r1 = 0) (fun h => ?_) (fun h => ?_)
    · replace k := k.1 h
      refine wq_callI (Q := Q) rfl k ?_
      intro r3 c4 k
      show Q (cev 101 5 95 [vR 19, vI x1, vI x2, vI x3, vI x4, vI x5, vI (ior x6 r3), vI x7] [] (SH T, c4))
      refine of_cev (Q := Q) ?_
      refine wq_pos (Q := Q) k.1 ?_
      replace k := k.2
      exact k
    · replace k := k.2 h
      show Q (cev 101 5 95 [vR 19, vI x1, vI x2, vI x3, vI x4, vI x5, vI x6, vI x7] [] (SH T, c2))
      refine of_cev (Q := Q) ?_
      refine wq_pos (Q := Q) k.1 ?_
      replace k := k.2
      exact k
  · replace k := k.2 h
    show Q (cev 101 5 101 [vR 19, vI x1, vI x2, vU, vI x4, vU, vI x6, vU] [] (SH T, c))
    refine of_cev (Q := Q) ?_
    refine wq_pos (Q := Q) k.1 ?_
    replace k := k.2
    exact k
set_option maxRecDepth 20000 in
theorem W_X9_undoingPair {T : List Shp} {c : Nat → Int → Int} {Q : Res → Prop} {x1 : Int} (k : ((-2147483648 ≤ (c 1 8) + 1 ∧ (c 1 8) + 1 < 2147483648) ∧ (QV T (fun c1 => ((-2147483648 ≤ (c1 1 8) + 2 ∧ (c1 1 8) + 2 < 2147483648) ∧ (QV T (fun c2 => Q (cev 102 6 38 [vR 19, vI x1, vI 0, vI 0, vU] [] (SH T, c2))) (ccal 104 [vR 19, vI ((c1 1 8) + 2), vR 21] (SH T, c1))))) (ccal 104 [vR 19, vI ((c 1 8) + 1), vR 20] (SH T, c))))) : Q (ccal 102 [vR 19, vI x1] (SH T, c)) := by
  refine of_cev (Q := Q) ?_
  refine wq_pos (Q := Q) k.1 ?_
  replace k := k.2
  refine wq_callV (Q := Q) rfl k ?_
  intro c1 k
  refine wq_pos (Q := Q) k.1 ?_
  replace k := k.2
  refine wq_callV (Q := Q) rfl k ?_
  intro c2 k
  exact k
set_option maxRecDepth 20000 in
theorem W_X9_undoingPair_38 {T : List Shp} {c : Nat → Int → Int} {Q : Res → Prop} {x1 x2 x3 : Int} (k : ((x3 < (c 1 0) → Q (cev 102 6 52 [vR 19, vI x1, vI x2, vI x3, vI 0] [] (SH T, c))) ∧ (¬ x3 < (c 1 0) → ((x1 = (-1) → Q (some (some (vI x2), (SH T, c)))) ∧ (¬ x1 = (-1) → Q (some (some (vI (-1)), (SH T, c)))))))) : Q (cev 102 6 38 [vR 19, vI x1, vI x2, vI x3, vU] [] (SH T, c)) := by
  refine of_cev (Q := Q) ?_
  refine wq_ite (Q := Q) (p := x3 < (c 1 0)) (fun h => ?_) (fun h => ?_)
  · replace k := k.1 h
    exact k
  · replace k := k.2 h
    show Q (cev 102 6 101 [vU, vI x1, vI x2, vU, vU] [] (SH T, c))
    refine of_cev (Q := Q) ?_
    refine wq_ite (Q := Q) (p := x1 = (-1)) (fun h => ?_) (fun h => ?_)
    · replace k := k.1 h
      exact k
    · replace k := k.2 h
      show Q (cev 102 6 110 [vU, vU, vU, vU, vU] [] (SH T, c))
      refine of_cev (Q := Q) ?_
      exact k
set_option maxRecDepth 20000 in
theorem W_X9_undoingPair_52 {T : List Shp} {c : Nat → Int → Int} {Q : Res → Prop} {x1 x2 x3 x4 : Int} (k : ((x4 < (c 1 0) → (QI T (fun r1 c2 => ((r1 = 0 → ((-2147483648 ≤ x4 + 1 ∧ x4 + 1 < 2147483648) ∧ Q (cev 102 6 52 [vR 19, vI x1, vI x2, vI x3, vI (x4 + 1)] [] (SH T, c2)))) ∧ (¬ r1 = 0 → ((x2 = x1 → (((-2147483648 ≤ 5 * x3 ∧ 5 * x3 < 2147483648) ∧ (-2147483648 ≤ (5 * x3) + x4 ∧ (5 * x3) + x4 < 2147483648)) ∧ Q (some (some (vI ((5 * x3) + x4)), (SH T, c2))))) ∧ (¬ x2 = x1 → (((-2147483648 ≤ x2 + 1 ∧ x2 + 1 < 2147483648) ∧ (-2147483648 ≤ x4 + 1 ∧ x4 + 1 < 2147483648)) ∧ Q (cev 102 6 52 [vR 19, vI x1, vI (x2 + 1), vI x3, vI (x4 + 1)] [] (SH T, c2)))))))) (ccal 107 [vR 19, vI x3, vI x4] (SH T, c)))) ∧ (¬ x4 < (c 1 0) → ((-2147483648 ≤ x3 + 1 ∧ x3 + 1 < 2147483648) ∧ Q (cev 102 6 38 [vR 19, vI x1, vI x2, vI (x3 + 1), vU] [] (SH T, c)))))) : Q (cev 102 6 52 [vR 19, vI x1, vI x2, vI x3, vI x4] [] (SH T, c)) := by
  refine of_cev (Q := Q) ?_
  refine wq_ite (Q := Q) (p := x4 < (c 1 0)) (fun h => ?_) (fun h => ?_)
  · replace k := k.1 h
    refine wq_callI (Q := Q) rfl k ?_
    intro r1 c2 k
    refine wq_ite (Q := Q) (p := r1 = 0) (fun h => ?_) (fun h => ?_)
    · replace k := k.1 h
      show Q (cev 102 6 89 [vR 19, vI x1, vI x2, vI x3, vI x4] [] (SH T, c2))
      refine of_cev (Q := Q) ?_
      refine wq_pos (Q := Q) k.1 ?_
      replace k := k.2
      exact k
    · replace k := k.2 h
      refine wq_ite (Q := Q) (p := x2 = x1) (fun h => ?_) (fun h => ?_)
      · replace k := k.1 h
        refine wq_pos (Q := Q) k.1.1 ?_
        refine wq_pos (Q := Q) k.1.2 ?_
        replace k := k.2
        exact k
      · replace k := k.2 h
        show Q (cev 102 6 86 [vR 19, vI x1, vI x2, vI x3, vI x4] [] (SH T, c2))
        refine of_cev (Q := Q) ?_
        refine wq_pos (Q := Q) k.1.1 ?_
        show Q (cev 102 6 89 [vR 19, vI x1, vI (x2 + 1), vI x3, vI x4] [] (SH T, c2))
        refine of_cev (Q := Q) ?_
        refine wq_pos (Q := Q) k.1.2 ?_
        replace k := k.2
        exact k
  · replace k := k.2 h
    show Q (cev 102 6 95 [vR 19, vI x1, vI x2, vI x3, vU] [] (SH T, c))
    refine of_cev (Q := Q) ?_
    refine wq_pos (Q := Q) k.1 ?_
    replace k := k.2
    exact k

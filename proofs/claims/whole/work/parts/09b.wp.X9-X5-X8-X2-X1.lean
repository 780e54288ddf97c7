set_option maxRecDepth 20000 in
theorem W_X9_firstTones {T : List Shp} {c : Nat → Int → Int} {Q : Res → Prop} {x1 : Int} (k : (((-2147483648 ≤ (c 1 8) * 12 ∧ (c 1 8) * 12 < 2147483648) ∧ (-2147483648 ≤ (c 1 8) * 12 + x1 ∧ (c 1 8) * 12 + x1 < 2147483648) ∧ (0 ≤ (c 1 8) * 12 + x1 ∧ (c 1 8) * 12 + x1 < 204)) ∧ Q (cev 103 5 19 [vR 19, vI x1, vI (ishl 1 (c 7 ((c 1 8) * 12 + x1))), vI (c 1 8), vU, vU, vU, vU] [] (SH T, c)))) : Q (ccal 103 [vR 19, vI x1] (SH T, c)) := by
  refine of_cev (Q := Q) ?_
  refine wq_sum (Q := Q) rfl (S_X7_seenAt T c x1 k.1.1 k.1.2.1 k.1.2.2) ?_
  replace k := k.2
  exact k
set_option maxRecDepth 20000 in
theorem W_X9_firstTones_19 {T : List Shp} {c : Nat → Int → Int} {Q : Res → Prop} {x1 x2 x3 : Int} (k : ((x3 < 1 → Q (some (some (vI x2), (SH T, c)))) ∧ (¬ x3 < 1 → (QI T (fun r1 c2 => Q (cev 103 5 41 [vR 19, vI x1, vI x2, vI x3, vI r1, vI 0, vI 0, vU] [] (SH T, c2))) (ccal 23 [vR 15, vI x1, vI x3] (SH T, c)))))) : Q (cev 103 5 19 [vR 19, vI x1, vI x2, vI x3, vU, vU, vU, vU] [] (SH T, c)) := by
  refine of_cev (Q := Q) ?_
  refine wq_ite (Q := Q) (p := x3 < 1) (fun h => ?_) (fun h => ?_)
  · replace k := k.1 h
    show Q (cev 103 5 100 [vU, vU, vI x2, vU, vU, vU, vU, vU] [] (SH T, c))
    refine of_cev (Q := Q) ?_
    exact k
  · replace k := k.2 h
    refine wq_callI (Q := Q) rfl k ?_
    intro r1 c2 k
    exact k
set_option maxRecDepth 20000 in
theorem W_X9_firstTones_41 {T : List Shp} {c : Nat → Int → Int} {Q : Res → Prop} {x1 x2 x3 x4 x5 x6 : Int} (k : ((x6 < 10 → ((0 ≤ x3 ∧ x3 < 17) ∧ (QI T (fun r1 c2 => ((-2147483648 ≤ x6 + 1 ∧ x6 + 1 < 2147483648) ∧ Q (cev 103 5 41 [vR 19, vI x1, vI x2, vI x3, vI x4, vI (ior x5 (ishl (iand (ishr x2 r1) 1) x6)), vI (x6 + 1), vU] [] (SH T, c2)))) (ccal 76 [vR 2, vI (c 6 x3), vI x1, vI x6, vI x4] (SH T, c))))) ∧ (¬ x6 < 10 → ((-2147483648 ≤ x3 + (-1) ∧ x3 + (-1) < 2147483648) ∧ Q (cev 103 5 19 [vR 19, vI x1, vI x5, vI (x3 + (-1)), vU, vU, vU, vU] [] (SH T, c)))))) : Q (cev 103 5 41 [vR 19, vI x1, vI x2, vI x3, vI x4, vI x5, vI x6, vU] [] (SH T, c)) := by
  refine of_cev (Q := Q) ?_
  refine wq_ite (Q := Q) (p := x6 < 10) (fun h => ?_) (fun h => ?_)
  · replace k := k.1 h
    refine wq_pos (Q := Q) k.1 ?_
    replace k := k.2
    refine wq_callI (Q := Q) rfl k ?_
    intro r1 c2 k
    refine wq_pos (Q := Q) k.1 ?_
    replace k := k.2
    exact k
  · replace k := k.2 h
    show Q (cev 103 5 91 [vR 19, vI x1, vU, vI x3, vU, vI x5, vU, vU] [] (SH T, c))
    refine of_cev (Q := Q) ?_
    refine wq_pos (Q := Q) k.1 ?_
    replace k := k.2
    exact k
set_option maxRecDepth 20000 in
theorem W_X9_aimAta {T : List Shp} {c : Nat → Int → Int} {Q : Res → Prop} {x1 : Int} (k : Q (cev 104 5 2 [vR 19, vI x1, vR 20, vI 0] [] (SH T, c))) : Q (ccal 104 [vR 19, vI x1, vR 20] (SH T, c)) := by
  refine of_cev (Q := Q) ?_
  exact k
set_option maxRecDepth 20000 in
theorem W_X9_aimAta_2 {T : List Shp} {c : Nat → Int → Int} {Q : Res → Prop} {x1 x3 : Int} (k : ((x3 < 12 → (QI T (fun r1 c2 => (((0 ≤ x3 ∧ x3 < 12) ∧ (-2147483648 ≤ x3 + 1 ∧ x3 + 1 < 2147483648)) ∧ Q (cev 104 5 2 [vR 19, vI x1, vR 20, vI (x3 + 1)] [] (SH T, (up c2 19 x3 r1))))) (ccal 23 [vR 15, vI x3, vI x1] (SH T, c)))) ∧ (¬ x3 < 12 → Q (some (none, (SH T, c)))))) : Q (cev 104 5 2 [vR 19, vI x1, vR 20, vI x3] [] (SH T, c)) := by
  refine of_cev (Q := Q) ?_
  refine wq_ite (Q := Q) (p := x3 < 12) (fun h => ?_) (fun h => ?_)
  · replace k := k.1 h
    refine wq_callI (Q := Q) rfl k ?_
    intro r1 c2 k
    refine wq_pos (Q := Q) k.1.1 ?_
    refine wq_pos (Q := Q) k.1.2 ?_
    replace k := k.2
    exact k
  · replace k := k.2 h
    show Q (cev 104 5 26 [vU, vU, vU, vU] [] (SH T, c))
    refine of_cev (Q := Q) ?_
    exact k
set_option maxRecDepth 20000 in
theorem W_X9_aimAtb {T : List Shp} {c : Nat → Int → Int} {Q : Res → Prop} {x1 : Int} (k : Q (cev 104 5 2 [vR 19, vI x1, vR 21, vI 0] [] (SH T, c))) : Q (ccal 104 [vR 19, vI x1, vR 21] (SH T, c)) := by
  refine of_cev (Q := Q) ?_
  exact k
set_option maxRecDepth 20000 in
theorem W_X9_aimAtb_2 {T : List Shp} {c : Nat → Int → Int} {Q : Res → Prop} {x1 x3 : Int} (k : ((x3 < 12 → (QI T (fun r1 c2 => (((0 ≤ x3 ∧ x3 < 12) ∧ (-2147483648 ≤ x3 + 1 ∧ x3 + 1 < 2147483648)) ∧ Q (cev 104 5 2 [vR 19, vI x1, vR 21, vI (x3 + 1)] [] (SH T, (up c2 20 x3 r1))))) (ccal 23 [vR 15, vI x3, vI x1] (SH T, c)))) ∧ (¬ x3 < 12 → Q (some (none, (SH T, c)))))) : Q (cev 104 5 2 [vR 19, vI x1, vR 21, vI x3] [] (SH T, c)) := by
  refine of_cev (Q := Q) ?_
  refine wq_ite (Q := Q) (p := x3 < 12) (fun h => ?_) (fun h => ?_)
  · replace k := k.1 h
    refine wq_callI (Q := Q) rfl k ?_
    intro r1 c2 k
    refine wq_pos (Q := Q) k.1.1 ?_
    refine wq_pos (Q := Q) k.1.2 ?_
    replace k := k.2
    exact k
  · replace k := k.2 h
    show Q (cev 104 5 26 [vU, vU, vU, vU] [] (SH T, c))
    refine of_cev (Q := Q) ?_
    exact k
set_option maxRecDepth 20000 in
theorem W_X9_comesOut {T : List Shp} {c : Nat → Int → Int} {Q : Res → Prop} {x1 x2 x3 : Int} (k : (((c 1 0) = 0 → Q (some (some (vI 0), (SH T, c)))) ∧ (¬ (c 1 0) = 0 → Q (cev 105 3 15 [vR 19, vI x1, vI x2, vI x3, vI 0, vU, vU, vU] [] (SH T, c))))) : Q (ccal 105 [vR 19, vI x1, vI x2, vI x3] (SH T, c)) := by
  refine of_cev (Q := Q) ?_
  refine wq_ite (Q := Q) (p := (c 1 0) = 0) (fun h => ?_) (fun h => ?_)
  · replace k := k.1 h
    exact k
  · replace k := k.2 h
    show Q (cev 105 3 12 [vR 19, vI x1, vI x2, vI x3, vU, vU, vU, vU] [] (SH T, c))
    refine of_cev (Q := Q) ?_
    exact k
set_option maxRecDepth 20000 in
theorem W_X9_comesOut_15 {T : List Shp} {c : Nat → Int → Int} {Q : Res → Prop} {x1 x2 x3 x4 : Int} (k : ((x4 < 12 → (((-2147483648 ≤ x1 - 1 ∧ x1 - 1 < 2147483648) ∧ (-2147483648 ≤ (x1 - 1) * 12 ∧ (x1 - 1) * 12 < 2147483648) ∧ (-2147483648 ≤ ((x1 - 1) * 12) + x4 ∧ ((x1 - 1) * 12) + x4 < 2147483648) ∧ (0 ≤ (((x1 - 1) * 12) + x4) ∧ (((x1 - 1) * 12) + x4) < 204)) ∧ Q (cev 105 3 47 [vR 19, vI x1, vI x2, vI x3, vI x4, vI (c 7 (((x1 - 1) * 12) + x4)), vI x2, vI 0] [] (SH T, c)))) ∧ (¬ x4 < 12 → Q (some (some (vI 1), (SH T, c)))))) : Q (cev 105 3 15 [vR 19, vI x1, vI x2, vI x3, vI x4, vU, vU, vU] [] (SH T, c)) := by
  refine of_cev (Q := Q) ?_
  refine wq_ite (Q := Q) (p := x4 < 12) (fun h => ?_) (fun h => ?_)
  · replace k := k.1 h
    refine wq_pos (Q := Q) k.1.1 ?_
    refine wq_pos (Q := Q) k.1.2.1 ?_
    refine wq_pos (Q := Q) k.1.2.2.1 ?_
    refine wq_pos (Q := Q) k.1.2.2.2 ?_
    replace k := k.2
    exact k
  · replace k := k.2 h
    show Q (cev 105 3 129 [vU, vU, vU, vU, vU, vU, vU, vU] [] (SH T, c))
    refine of_cev (Q := Q) ?_
    exact k
set_option maxRecDepth 20000 in
theorem W_X9_comesOut_47 {T : List Shp} {c : Nat → Int → Int} {Q : Res → Prop} {x1 x2 x3 x4 x5 x6 x7 : Int} (k : ((x7 < x3 → ((((0 ≤ x6 ∧ x6 < 2147483648) ∧ (0 : Int) < (c 1 0)) ∧ (0 ≤ x4 ∧ x4 < 12)) ∧ (QI T (fun r1 c2 => ((((0 ≤ x6 ∧ x6 < 2147483648) ∧ (0 : Int) < (c2 1 0)) ∧ (-2147483648 ≤ x7 + 1 ∧ x7 + 1 < 2147483648)) ∧ Q (cev 105 3 47 [vR 19, vI x1, vI x2, vI x3, vI x4, vI r1, vI (x6 / (c2 1 0)), vI (x7 + 1)] [] (SH T, c2)))) (ccal 76 [vR 2, vI (x6 % (c 1 0)), vI x4, vI x5, vI (c 19 x4)] (SH T, c))))) ∧ (¬ x7 < x3 → (((-2147483648 ≤ x1 * 12 ∧ x1 * 12 < 2147483648) ∧ (-2147483648 ≤ (x1 * 12) + x4 ∧ (x1 * 12) + x4 < 2147483648) ∧ (0 ≤ ((x1 * 12) + x4) ∧ ((x1 * 12) + x4) < 204)) ∧ ((x5 = (c 7 ((x1 * 12) + x4)) → ((-2147483648 ≤ x4 + 1 ∧ x4 + 1 < 2147483648) ∧ Q (cev 105 3 15 [vR 19, vI x1, vI x2, vI x3, vI (x4 + 1), vU, vU, vU] [] (SH T, c)))) ∧ (¬ x5 = (c 7 ((x1 * 12) + x4)) → Q (some (some (vI 0), (SH T, c))))))))) : Q (cev 105 3 47 [vR 19, vI x1, vI x2, vI x3, vI x4, vI x5, vI x6, vI x7] [] (SH T, c)) := by
  refine of_cev (Q := Q) ?_
  refine wq_ite (Q := Q) (p := x7 < x3) (fun h => ?_) (fun h => ?_)
  · replace k := k.1 h
    refine wq_pos (Q := Q) k.1.1 ?_
    refine wq_pos (Q := Q) k.1.2 ?_
    replace k := k.2
    refine wq_callI (Q := Q) rfl k ?_
    intro r1 c2 k
    refine wq_pos (Q := Q) k.1.1 ?_
    refine wq_pos (Q := Q) k.1.2 ?_
    replace k := k.2
    exact k
  · replace k := k.2 h
    show Q (cev 105 3 101 [vR 19, vI x1, vI x2, vI x3, vI x4, vI x5, vU, vU] [] (SH T, c))
    refine of_cev (Q := Q) ?_
    refine wq_pos (Q := Q) k.1.1 ?_
    refine wq_pos (Q := Q) k.1.2.1 ?_
    refine wq_pos (Q := Q) k.1.2.2 ?_
    replace k := k.2
    refine wq_ite (Q := Q) (p := x5 = (c 7 ((x1 * 12) + x4))) (fun h => ?_) (fun h => ?_)
    · replace k := k.1 h
      show Q (cev 105 3 123 [vR 19, vI x1, vI x2, vI x3, vI x4, vU, vU, vU] [] (SH T, c))
      refine of_cev (Q := Q) ?_
      refine wq_pos (Q := Q) k.1 ?_
      replace k := k.2
      exact k
    · replace k := k.2 h
      exact k
set_option maxRecDepth 20000 in
theorem W_X9_carried {T : List Shp} {c : Nat → Int → Int} {Q : Res → Prop} {x1 x2 x3 x4 : Int} (k : Q (cev 106 3 6 [vR 19, vI x1, vI x2, vI x3, vI x4, vI 0, vI 0] [] (SH T, c))) : Q (ccal 106 [vR 19, vI x1, vI x2, vI x3, vI x4] (SH T, c)) := by
  refine of_cev (Q := Q) ?_
  exact k
set_option maxRecDepth 20000 in
theorem W_X9_carried_6 {T : List Shp} {c : Nat → Int → Int} {Q : Res → Prop} {x1 x2 x3 x4 x5 x6 : Int} (k : ((x6 < 10 → (((iand (ishr x1 x6) 1) = 1 → (QI T (fun r1 c2 => ((-2147483648 ≤ x6 + 1 ∧ x6 + 1 < 2147483648) ∧ Q (cev 106 3 6 [vR 19, vI x1, vI x2, vI x3, vI x4, vI (ior x5 (ishl 1 r1)), vI (x6 + 1)] [] (SH T, c2)))) (ccal 76 [vR 2, vI x2, vI x3, vI x6, vI x4] (SH T, c)))) ∧ (¬ (iand (ishr x1 x6) 1) = 1 → ((-2147483648 ≤ x6 + 1 ∧ x6 + 1 < 2147483648) ∧ Q (cev 106 3 6 [vR 19, vI x1, vI x2, vI x3, vI x4, vI x5, vI (x6 + 1)] [] (SH T, c)))))) ∧ (¬ x6 < 10 → Q (some (some (vI x5), (SH T, c)))))) : Q (cev 106 3 6 [vR 19, vI x1, vI x2, vI x3, vI x4, vI x5, vI x6] [] (SH T, c)) := by
  refine of_cev (Q := Q) ?_
  refine wq_ite (Q := Q) (p := x6 < 10) (fun h => ?_) (fun h => ?_)
  · replace k := k.1 h
    refine wq_ite (Q := Q) (p := (iand (ishr x1 x6) 1) = 1) (fun h => ?_) (fun h => ?_)
    · replace k := k.1 h
      refine wq_callI (Q := Q) rfl k ?_
      intro r1 c2 k
      show Q (cev 106 3 43 [vR 19, vI x1, vI x2, vI x3, vI x4, vI (ior x5 (ishl 1 r1)), vI x6] [] (SH T, c2))
      refine of_cev (Q := Q) ?_
      refine wq_pos (Q := Q) k.1 ?_
      replace k := k.2
      exact k
    · replace k := k.2 h
      show Q (cev 106 3 43 [vR 19, vI x1, vI x2, vI x3, vI x4, vI x5, vI x6] [] (SH T, c))
      refine of_cev (Q := Q) ?_
      refine wq_pos (Q := Q) k.1 ?_
      replace k := k.2
      exact k
  · replace k := k.2 h
    show Q (cev 106 3 49 [vU, vU, vU, vU, vU, vI x5, vU] [] (SH T, c))
    refine of_cev (Q := Q) ?_
    exact k
set_option maxRecDepth 20000 in
theorem W_X9_undo {T : List Shp} {c : Nat → Int → Int} {Q : Res → Prop} {x1 x2 : Int} (k : Q (cev 107 3 2 [vR 19, vI x1, vI x2, vI 0, vU, vU] [] (SH T, c))) : Q (ccal 107 [vR 19, vI x1, vI x2] (SH T, c)) := by
  refine of_cev (Q := Q) ?_
  exact k
set_option maxRecDepth 20000 in
theorem W_X9_undo_2 {T : List Shp} {c : Nat → Int → Int} {Q : Res → Prop} {x1 x2 x3 : Int} (k : ((x3 < 12 → (((-2147483648 ≤ (c 1 8) * 12 ∧ (c 1 8) * 12 < 2147483648) ∧ (-2147483648 ≤ (c 1 8) * 12 + x3 ∧ (c 1 8) * 12 + x3 < 2147483648) ∧ (0 ≤ (c 1 8) * 12 + x3 ∧ (c 1 8) * 12 + x3 < 204) ∧ (0 ≤ x3 ∧ x3 < 12)) ∧ (QI T (fun r1 c2 => ((0 ≤ x3 ∧ x3 < 12) ∧ (QI T (fun r3 c4 => ((r3 = (c 7 ((c 1 8) * 12 + x3)) → ((-2147483648 ≤ x3 + 1 ∧ x3 + 1 < 2147483648) ∧ Q (cev 107 3 2 [vR 19, vI x1, vI x2, vI (x3 + 1), vU, vU] [] (SH T, c4)))) ∧ (¬ r3 = (c 7 ((c 1 8) * 12 + x3)) → Q (some (some (vI 0), (SH T, c4)))))) (ccal 76 [vR 2, vI x2, vI x3, vI r1, vI (c2 20 x3)] (SH T, c2))))) (ccal 76 [vR 2, vI x1, vI x3, vI (c 7 ((c 1 8) * 12 + x3)), vI (c 19 x3)] (SH T, c))))) ∧ (¬ x3 < 12 → Q (some (some (vI 1), (SH T, c)))))) : Q (cev 107 3 2 [vR 19, vI x1, vI x2, vI x3, vU, vU] [] (SH T, c)) := by
  refine of_cev (Q := Q) ?_
  refine wq_ite (Q := Q) (p := x3 < 12) (fun h => ?_) (fun h => ?_)
  · replace k := k.1 h
    refine wq_sum (Q := Q) rfl (S_X7_seenAt T c x3 k.1.1 k.1.2.1 k.1.2.2.1) ?_
    refine wq_pos (Q := Q) k.1.2.2.2 ?_
    replace k := k.2
    refine wq_callI (Q := Q) rfl k ?_
    intro r1 c2 k
    refine wq_pos (Q := Q) k.1 ?_
    replace k := k.2
    refine wq_callI (Q := Q) rfl k ?_
    intro r3 c4 k
    refine wq_ite (Q := Q) (p := r3 = (c 7 ((c 1 8) * 12 + x3))) (fun h => ?_) (fun h => ?_)
    · replace k := k.1 h
      show Q (cev 107 3 61 [vR 19, vI x1, vI x2, vI x3, vU, vU] [] (SH T, c4))
      refine of_cev (Q := Q) ?_
      refine wq_pos (Q := Q) k.1 ?_
      replace k := k.2
      exact k
    · replace k := k.2 h
      exact k
  · replace k := k.2 h
    show Q (cev 107 3 67 [vU, vU, vU, vU, vU, vU] [] (SH T, c))
    refine of_cev (Q := Q) ?_
    exact k
set_option maxRecDepth 20000 in
theorem W_X5_seek {T : List Shp} {c : Nat → Int → Int} {Q : Res → Prop} {x1 x2 : Int} (k : ((-2147483648 ≤ (c 4 3) * (c 1 8) ∧ (c 4 3) * (c 1 8) < 2147483648) ∧ Q (cev 35 17 42 [vR 22, vU, vU, vI 1, vU, vU] [] (SH T, (up (up (up (up c 21 8 x1) 21 9 (if 5 < x2 then 5 else x2)) 21 14 0) 21 10 ((c 4 3) * (c 1 8))))))) : Q (ccal 35 [vR 22, vI x1, vI x2] (SH T, c)) := by
  refine of_cev (Q := Q) ?_
  refine wq_pos (Q := Q) k.1 ?_
  replace k := k.2
  exact k
set_option maxRecDepth 20000 in
theorem W_X5_seek_42 {T : List Shp} {c : Nat → Int → Int} {Q : Res → Prop} {x3 : Int} (k : (((c 1 8) < x3 → Q (cev 35 17 87 [vR 22, vU, vU, vI 0, vU, vU] [] (SH T, c))) ∧ (¬ (c 1 8) < x3 → ((0 ≤ x3 ∧ x3 < 17) ∧ (QI T (fun r1 c2 => (((-2147483648 ≤ (c 21 10) - r1 ∧ (c 21 10) - r1 < 2147483648) ∧ (-2147483648 ≤ x3 + 1 ∧ x3 + 1 < 2147483648)) ∧ Q (cev 35 17 42 [vR 22, vU, vU, vI (x3 + 1), vU, vU] [] (SH T, (up c2 21 10 ((c 21 10) - r1)))))) (ccal 25 [vR 15, vI (c 6 x3), vI x3] (SH T, c))))))) : Q (cev 35 17 42 [vR 22, vU, vU, vI x3, vU, vU] [] (SH T, c)) := by
  refine of_cev (Q := Q) ?_
  refine wq_ite (Q := Q) (p := (c 1 8) < x3) (fun h => ?_) (fun h => ?_)
  · replace k := k.1 h
    show Q (cev 35 17 85 [vR 22, vU, vU, vU, vU, vU] [] (SH T, c))
    refine of_cev (Q := Q) ?_
    exact k
  · replace k := k.2 h
    refine wq_pos (Q := Q) k.1 ?_
    replace k := k.2
    refine wq_callI (Q := Q) rfl k ?_
    intro r1 c2 k
    refine wq_pos (Q := Q) k.1.1 ?_
    refine wq_pos (Q := Q) k.1.2 ?_
    replace k := k.2
    exact k
set_option maxRecDepth 20000 in
theorem W_X5_seek_87 {T : List Shp} {c : Nat → Int → Int} {Q : Res → Prop} {x3 : Int} (k : (((c 21 9) < x3 → (((-2147483648 ≤ (c 1 8) * 12 ∧ (c 1 8) * 12 < 2147483648) ∧ ((0 ≤ ((c 1 8) * 12) ∧ (0 : Int) ≤ 0 ∧ (0 : Int) ≤ 12) ∧ (((c 1 8) * 12) : Int) + 12 ≤ 204 ∧ (0 : Int) + 12 ≤ 72)) ∧ (QV T (fun c1 => Q (some (none, (SH T, c1)))) (ccal 36 [vR 22, vI 0, vI 0] (SH T, (cpy c 7 ((c 1 8) * 12) 26 0 12)))))) ∧ (¬ (c 21 9) < x3 → ((-2147483648 ≤ (c 1 8) + x3 ∧ (c 1 8) + x3 < 2147483648) ∧ Q (cev 35 17 109 [vR 22, vU, vU, vI x3, vI ((c 1 8) + x3), vI 0] [] (SH T, c)))))) : Q (cev 35 17 87 [vR 22, vU, vU, vI x3, vU, vU] [] (SH T, c)) := by
  refine of_cev (Q := Q) ?_
  refine wq_ite (Q := Q) (p := (c 21 9) < x3) (fun h => ?_) (fun h => ?_)
  · replace k := k.1 h
    show Q (cev 35 17 239 [vR 22, vU, vU, vU, vU, vU] [] (SH T, c))
    refine of_cev (Q := Q) ?_
    refine wq_pos (Q := Q) k.1.1 ?_
    refine wq_pos (Q := Q) k.1.2 ?_
    replace k := k.2
    refine wq_callV (Q := Q) rfl k ?_
    intro c1 k
    exact k
  · replace k := k.2 h
    refine wq_pos (Q := Q) k.1 ?_
    replace k := k.2
    exact k
set_option maxRecDepth 20000 in
theorem W_X5_seek_109 {T : List Shp} {c : Nat → Int → Int} {Q : Res → Prop} {x3 x4 x5 : Int} (k : ((x5 < 12 → (((-2147483648 ≤ x3 * 12 ∧ x3 * 12 < 2147483648) ∧ (-2147483648 ≤ (x3 * 12) + x5 ∧ (x3 * 12) + x5 < 2147483648)) ∧ (QI T (fun r1 c2 => (((0 ≤ ((x3 * 12) + x5) ∧ ((x3 * 12) + x5) < 72) ∧ (-2147483648 ≤ x3 * 12 ∧ x3 * 12 < 2147483648) ∧ (-2147483648 ≤ (x3 * 12) + x5 ∧ (x3 * 12) + x5 < 2147483648)) ∧ (QI T (fun r3 c4 => (((0 ≤ ((x3 * 12) + x5) ∧ ((x3 * 12) + x5) < 72) ∧ (-2147483648 ≤ x5 + 1 ∧ x5 + 1 < 2147483648)) ∧ Q (cev 35 17 109 [vR 22, vU, vU, vI x3, vI x4, vI (x5 + 1)] [] (SH T, (up c4 23 ((x3 * 12) + x5) r3))))) (ccal 24 [vR 15, vI x5, vI x4] (SH T, (up c2 22 ((x3 * 12) + x5) r1)))))) (ccal 23 [vR 15, vI x5, vI x4] (SH T, c))))) ∧ (¬ x5 < 12 → Q (cev 35 17 171 [vR 22, vU, vU, vI x3, vI x4, vI 0] [] (SH T, c))))) : Q (cev 35 17 109 [vR 22, vU, vU, vI x3, vI x4, vI x5] [] (SH T, c)) := by
  refine of_cev (Q := Q) ?_
  refine wq_ite (Q := Q) (p := x5 < 12) (fun h => ?_) (fun h => ?_)
  · replace k := k.1 h
    refine wq_pos (Q := Q) k.1.1 ?_
    refine wq_pos (Q := Q) k.1.2 ?_
    replace k := k.2
    refine wq_callI (Q := Q) rfl k ?_
    intro r1 c2 k
    refine wq_pos (Q := Q) k.1.1 ?_
    refine wq_pos (Q := Q) k.1.2.1 ?_
    refine wq_pos (Q := Q) k.1.2.2 ?_
    replace k := k.2
    refine wq_callI (Q := Q) rfl k ?_
    intro r3 c4 k
    refine wq_pos (Q := Q) k.1.1 ?_
    refine wq_pos (Q := Q) k.1.2 ?_
    replace k := k.2
    exact k
  · replace k := k.2 h
    show Q (cev 35 17 168 [vR 22, vU, vU, vI x3, vI x4, vU] [] (SH T, c))
    refine of_cev (Q := Q) ?_
    exact k
set_option maxRecDepth 20000 in
theorem W_X5_seek_171 {T : List Shp} {c : Nat → Int → Int} {Q : Res → Prop} {x3 x4 x5 : Int} (k : ((x5 < (c 1 0) → (((-2147483648 ≤ x3 * 5 ∧ x3 * 5 < 2147483648) ∧ (-2147483648 ≤ (x3 * 5) + x5 ∧ (x3 * 5) + x5 < 2147483648)) ∧ (QI T (fun r1 c2 => (((0 ≤ ((x3 * 5) + x5) ∧ ((x3 * 5) + x5) < 30) ∧ (-2147483648 ≤ x3 * 5 ∧ x3 * 5 < 2147483648) ∧ (-2147483648 ≤ (x3 * 5) + x5 ∧ (x3 * 5) + x5 < 2147483648)) ∧ (QI T (fun r3 c4 => (((0 ≤ ((x3 * 5) + x5) ∧ ((x3 * 5) + x5) < 30) ∧ (r3 = 0 ∨ r3 = 1) ∧ (-2147483648 ≤ x5 + 1 ∧ x5 + 1 < 2147483648)) ∧ Q (cev 35 17 171 [vR 22, vU, vU, vI x3, vI x4, vI (x5 + 1)] [] (SH T, (up c4 25 ((x3 * 5) + x5) r3))))) (ccal 26 [vR 15, vI x5, vI x4] (SH T, (up c2 24 ((x3 * 5) + x5) r1)))))) (ccal 25 [vR 15, vI x5, vI x4] (SH T, c))))) ∧ (¬ x5 < (c 1 0) → ((-2147483648 ≤ x3 + 1 ∧ x3 + 1 < 2147483648) ∧ Q (cev 35 17 87 [vR 22, vU, vU, vI (x3 + 1), vU, vU] [] (SH T, c)))))) : Q (cev 35 17 171 [vR 22, vU, vU, vI x3, vI x4, vI x5] [] (SH T, c)) := by
  refine of_cev (Q := Q) ?_
  refine wq_ite (Q := Q) (p := x5 < (c 1 0)) (fun h => ?_) (fun h => ?_)
  · replace k := k.1 h
    refine wq_pos (Q := Q) k.1.1 ?_
    refine wq_pos (Q := Q) k.1.2 ?_
    replace k := k.2
    refine wq_callI (Q := Q) rfl k ?_
    intro r1 c2 k
    refine wq_pos (Q := Q) k.1.1 ?_
    refine wq_pos (Q := Q) k.1.2.1 ?_
    refine wq_pos (Q := Q) k.1.2.2 ?_
    replace k := k.2
    refine wq_callI (Q := Q) rfl k ?_
    intro r3 c4 k
    refine wq_pos (Q := Q) k.1.1 ?_
    refine wq_pos (Q := Q) k.1.2.1 ?_
    refine wq_pos (Q := Q) k.1.2.2 ?_
    replace k := k.2
    exact k
  · replace k := k.2 h
    show Q (cev 35 17 233 [vR 22, vU, vU, vI x3, vU, vU] [] (SH T, c))
    refine of_cev (Q := Q) ?_
    refine wq_pos (Q := Q) k.1 ?_
    replace k := k.2
    exact k
set_option maxRecDepth 20000 in
theorem W_X5_walk {T : List Shp} {c : Nat → Int → Int} {Q : Res → Prop} {x1 x2 : Int} (k : ((x1 < (c 21 9) → ((-2147483648 ≤ x1 + 1 ∧ x1 + 1 < 2147483648) ∧ Q (cev 36 (4 + 2 * (6 - x1).toNat) 21 [vR 22, vI x1, vI x2, vI (x1 + 1), vI 0, vU] [] (SH T, c)))) ∧ (¬ x1 < (c 21 9) → ((2 + 1 ≤ (4 + 2 * (6 - x1).toNat)) ∧ (QV T (fun c1 => Q (some (none, (SH T, c1)))) (ccal 40 [vR 22, vI x2] (SH T, c))))))) : Q (ccal 36 [vR 22, vI x1, vI x2] (SH T, c)) := by
  refine of_cev (Q := Q) ?_
  refine wq_ite (Q := Q) (p := x1 < (c 21 9)) (fun h => ?_) (fun h => ?_)
  · replace k := k.1 h
    show Q (cev 36 (4 + 2 * (6 - x1).toNat) 14 [vR 22, vI x1, vI x2, vU, vU, vU] [] (SH T, c))
    refine of_cev (Q := Q) ?_
    refine wq_pos (Q := Q) k.1 ?_
    replace k := k.2
    exact k
  · replace k := k.2 h
    have kk0 := k.1
    replace k := k.2
    refine wq_callV (Q := Q) (Nat.ble_eq_true_of_le kk0) k ?_
    intro c1 k
    exact k
set_option maxRecDepth 20000 in
theorem W_X5_walk_21 {T : List Shp} {c : Nat → Int → Int} {Q : Res → Prop} {nd : Nat} {x1 x2 x3 x4 : Int} (k : ((x4 < (c 1 0) → ((2 + 1 ≤ nd) ∧ (QI T (fun r1 c2 => ((r1 = 0 → ((-2147483648 ≤ x4 + 1 ∧ x4 + 1 < 2147483648) ∧ Q (cev 36 nd 21 [vR 22, vI x1, vI x2, vI x3, vI (x4 + 1), vU] [] (SH T, c2)))) ∧ (¬ r1 = 0 → (((-2147483648 ≤ x3 * 5 ∧ x3 * 5 < 2147483648) ∧ (-2147483648 ≤ (x3 * 5) + x4 ∧ (x3 * 5) + x4 < 2147483648) ∧ (0 ≤ ((x3 * 5) + x4) ∧ ((x3 * 5) + x4) < 30) ∧ (-2147483648 ≤ x2 + (c2 24 ((x3 * 5) + x4)) ∧ x2 + (c2 24 ((x3 * 5) + x4)) < 2147483648) ∧ (0 ≤ x1 ∧ x1 < 5) ∧ (3 + 1 ≤ nd)) ∧ (QV T (fun c3 => ((1 + 1 ≤ nd) ∧ (QI T (fun r4 c5 => ((r4 = 0 → ((-2147483648 ≤ x4 + 1 ∧ x4 + 1 < 2147483648) ∧ Q (cev 36 nd 21 [vR 22, vI x1, vI x2, vI x3, vI (x4 + 1), vU] [] (SH T, c5)))) ∧ (¬ r4 = 0 → (((4 + 2 * (6 - x3).toNat) + 1 ≤ nd) ∧ (QV T (fun c6 => ((-2147483648 ≤ x4 + 1 ∧ x4 + 1 < 2147483648) ∧ Q (cev 36 nd 21 [vR 22, vI x1, vI x2, vI x3, vI (x4 + 1), vU] [] (SH T, c6)))) (ccal 36 [vR 22, vI x3, vI (x2 + (c2 24 ((x3 * 5) + x4)))] (SH T, c5))))))) (ccal 39 [vR 22, vI x3, vI (x2 + (c2 24 ((x3 * 5) + x4)))] (SH T, c3))))) (ccal 38 [vR 22, vI x4, vI x3] (SH T, (up c2 27 x1 x4)))))))) (ccal 37 [vR 22, vI x4, vI x1] (SH T, c))))) ∧ (¬ x4 < (c 1 0) → Q (some (none, (SH T, c)))))) : Q (cev 36 nd 21 [vR 22, vI x1, vI x2, vI x3, vI x4, vU] [] (SH T, c)) := by
  refine of_cev (Q := Q) ?_
  refine wq_ite (Q := Q) (p := x4 < (c 1 0)) (fun h => ?_) (fun h => ?_)
  · replace k := k.1 h
    have kk0 := k.1
    replace k := k.2
    refine wq_callI (Q := Q) (Nat.ble_eq_true_of_le kk0) k ?_
    intro r1 c2 k
    refine wq_ite (Q := Q) (p := r1 = 0) (fun h => ?_) (fun h => ?_)
    · replace k := k.1 h
      show Q (cev 36 nd 90 [vR 22, vI x1, vI x2, vI x3, vI x4, vU] [] (SH T, c2))
      refine of_cev (Q := Q) ?_
      refine wq_pos (Q := Q) k.1 ?_
      replace k := k.2
      exact k
    · replace k := k.2 h
      refine wq_pos (Q := Q) k.1.1 ?_
      refine wq_pos (Q := Q) k.1.2.1 ?_
      refine wq_pos (Q := Q) k.1.2.2.1 ?_
      refine wq_pos (Q := Q) k.1.2.2.2.1 ?_
      refine wq_pos (Q := Q) k.1.2.2.2.2.1 ?_
      have kk5 := k.1.2.2.2.2.2
      replace k := k.2
      refine wq_callV (Q := Q) (Nat.ble_eq_true_of_le kk5) k ?_
      intro c3 k
      have kk0 := k.1
      replace k := k.2
      refine wq_callI (Q := Q) (Nat.ble_eq_true_of_le kk0) k ?_
      intro r4 c5 k
      refine wq_ite (Q := Q) (p := r4 = 0) (fun h => ?_) (fun h => ?_)
      · replace k := k.1 h
        show Q (cev 36 nd 90 [vR 22, vI x1, vI x2, vI x3, vI x4, vU] [] (SH T, c5))
        refine of_cev (Q := Q) ?_
        refine wq_pos (Q := Q) k.1 ?_
        replace k := k.2
        exact k
      · replace k := k.2 h
        have kk0 := k.1
        replace k := k.2
        refine wq_callV (Q := Q) (Nat.ble_eq_true_of_le kk0) k ?_
        intro c6 k
        show Q (cev 36 nd 90 [vR 22, vI x1, vI x2, vI x3, vI x4, vU] [] (SH T, c6))
        refine of_cev (Q := Q) ?_
        refine wq_pos (Q := Q) k.1 ?_
        replace k := k.2
        exact k
  · replace k := k.2 h
    show Q (cev 36 nd 96 [vU, vU, vU, vU, vU, vU] [] (SH T, c))
    refine of_cev (Q := Q) ?_
    exact k
set_option maxRecDepth 20000 in
theorem W_X5_mayPaint {T : List Shp} {c : Nat → Int → Int} {Q : Res → Prop} {x1 x2 : Int} (k : (((-2147483648 ≤ x2 + 1 ∧ x2 + 1 < 2147483648) ∧ (-2147483648 ≤ (x2 + 1) * 5 ∧ (x2 + 1) * 5 < 2147483648) ∧ (-2147483648 ≤ ((x2 + 1) * 5) + x1 ∧ ((x2 + 1) * 5) + x1 < 2147483648) ∧ (0 ≤ (((x2 + 1) * 5) + x1) ∧ (((x2 + 1) * 5) + x1) < 30)) ∧ (((c 25 (((x2 + 1) * 5) + x1)) = 0 → ((-2147483648 ≤ (c 1 8) + (x2 + 1) ∧ (c 1 8) + (x2 + 1) < 2147483648) ∧ (QI T (fun r1 c2 => ((r1 = 0 → ((-2147483648 ≤ x2 - (c2 4 4) ∧ x2 - (c2 4 4) < 2147483648) ∧ Q (cev 37 2 56 [vR 22, vI x1, vI x2, vU, vI (if 0 < (x2 - (c2 4 4)) then (x2 - (c2 4 4)) else 0)] [] (SH T, c2)))) ∧ (¬ r1 = 0 → Q (some (some (vI 0), (SH T, c2)))))) (ccal 70 [vR 2, vI x1, vI ((c 1 8) + (x2 + 1))] (SH T, c))))) ∧ (¬ (c 25 (((x2 + 1) * 5) + x1)) = 0 → Q (some (some (vI 0), (SH T, c))))))) : Q (ccal 37 [vR 22, vI x1, vI x2] (SH T, c)) := by
  refine of_cev (Q := Q) ?_
  refine wq_pos (Q := Q) k.1.1 ?_
  refine wq_pos (Q := Q) k.1.2.1 ?_
  refine wq_pos (Q := Q) k.1.2.2.1 ?_
  refine wq_pos (Q := Q) k.1.2.2.2 ?_
  replace k := k.2
  refine wq_ite (Q := Q) (p := (c 25 (((x2 + 1) * 5) + x1)) = 0) (fun h => ?_) (fun h => ?_)
  · replace k := k.1 h
    refine wq_pos (Q := Q) k.1 ?_
    replace k := k.2
    refine wq_callI (Q := Q) rfl k ?_
    intro r1 c2 k
    refine wq_ite (Q := Q) (p := r1 = 0) (fun h => ?_) (fun h => ?_)
    · replace k := k.1 h
      show Q (cev 37 2 39 [vR 22, vI x1, vI x2, vU, vU] [] (SH T, c2))
      refine of_cev (Q := Q) ?_
      refine wq_pos (Q := Q) k.1 ?_
      replace k := k.2
      exact k
    · replace k := k.2 h
      show Q (cev 37 2 37 [vU, vU, vU, vU, vU] [] (SH T, c2))
      refine of_cev (Q := Q) ?_
      exact k
  · replace k := k.2 h
    show Q (cev 37 2 37 [vU, vU, vU, vU, vU] [] (SH T, c))
    refine of_cev (Q := Q) ?_
    exact k
set_option maxRecDepth 20000 in
theorem W_X5_mayPaint_56 {T : List Shp} {c : Nat → Int → Int} {Q : Res → Prop} {x1 x2 x4 : Int} (k : ((x4 < x2 → ((0 ≤ x4 ∧ x4 < 5) ∧ (((c 27 x4) = x1 → Q (some (some (vI 0), (SH T, c)))) ∧ (¬ (c 27 x4) = x1 → ((-2147483648 ≤ x4 + 1 ∧ x4 + 1 < 2147483648) ∧ Q (cev 37 2 56 [vR 22, vI x1, vI x2, vU, vI (x4 + 1)] [] (SH T, c))))))) ∧ (¬ x4 < x2 → Q (some (some (vI 1), (SH T, c)))))) : Q (cev 37 2 56 [vR 22, vI x1, vI x2, vU, vI x4] [] (SH T, c)) := by
  refine of_cev (Q := Q) ?_
  refine wq_ite (Q := Q) (p := x4 < x2) (fun h => ?_) (fun h => ?_)
  · replace k := k.1 h
    refine wq_pos (Q := Q) k.1 ?_
    replace k := k.2
    refine wq_ite (Q := Q) (p := (c 27 x4) = x1) (fun h => ?_) (fun h => ?_)
    · replace k := k.1 h
      exact k
    · replace k := k.2 h
      show Q (cev 37 2 75 [vR 22, vI x1, vI x2, vU, vI x4] [] (SH T, c))
      refine of_cev (Q := Q) ?_
      refine wq_pos (Q := Q) k.1 ?_
      replace k := k.2
      exact k
  · replace k := k.2 h
    show Q (cev 37 2 81 [vU, vU, vU, vU, vU] [] (SH T, c))
    refine of_cev (Q := Q) ?_
    exact k
set_option maxRecDepth 20000 in
theorem W_X5_paintOver {T : List Shp} {c : Nat → Int → Int} {Q : Res → Prop} {x1 x2 : Int} (k : ((-2147483648 ≤ x2 * 12 ∧ x2 * 12 < 2147483648) ∧ Q (cev 38 3 8 [vR 22, vI x1, vU, vI (x2 * 12), vI 0] [] (SH T, c)))) : Q (ccal 38 [vR 22, vI x1, vI x2] (SH T, c)) := by
  refine of_cev (Q := Q) ?_
  refine wq_pos (Q := Q) k.1 ?_
  replace k := k.2
  exact k
set_option maxRecDepth 20000 in
theorem W_X5_paintOver_8 {T : List Shp} {c : Nat → Int → Int} {Q : Res → Prop} {x1 x3 x4 : Int} (k : ((x4 < 12 → (((-2147483648 ≤ x3 + x4 ∧ x3 + x4 < 2147483648) ∧ (-2147483648 ≤ x3 - 12 ∧ x3 - 12 < 2147483648) ∧ (-2147483648 ≤ (x3 - 12) + x4 ∧ (x3 - 12) + x4 < 2147483648) ∧ (0 ≤ ((x3 - 12) + x4) ∧ ((x3 - 12) + x4) < 72) ∧ (0 ≤ (x3 + x4) ∧ (x3 + x4) < 72)) ∧ (QI T (fun r1 c2 => (((0 ≤ (x3 + x4) ∧ (x3 + x4) < 72) ∧ (-2147483648 ≤ x4 + 1 ∧ x4 + 1 < 2147483648)) ∧ Q (cev 38 3 8 [vR 22, vI x1, vU, vI x3, vI (x4 + 1)] [] (SH T, (up c2 26 (x3 + x4) r1))))) (ccal 76 [vR 2, vI x1, vI x4, vI (c 26 ((x3 - 12) + x4)), vI (c 22 (x3 + x4))] (SH T, c))))) ∧ (¬ x4 < 12 → Q (some (none, (SH T, c)))))) : Q (cev 38 3 8 [vR 22, vI x1, vU, vI x3, vI x4] [] (SH T, c)) := by
  refine of_cev (Q := Q) ?_
  refine wq_ite (Q := Q) (p := x4 < 12) (fun h => ?_) (fun h => ?_)
  · replace k := k.1 h
    refine wq_pos (Q := Q) k.1.1 ?_
    refine wq_pos (Q := Q) k.1.2.1 ?_
    refine wq_pos (Q := Q) k.1.2.2.1 ?_
    refine wq_pos (Q := Q) k.1.2.2.2.1 ?_
    refine wq_pos (Q := Q) k.1.1 ?_
    refine wq_pos (Q := Q) k.1.2.2.2.2 ?_
    replace k := k.2
    refine wq_callI (Q := Q) rfl k ?_
    intro r1 c2 k
    refine wq_pos (Q := Q) k.1.1 ?_
    refine wq_pos (Q := Q) k.1.2 ?_
    replace k := k.2
    exact k
  · replace k := k.2 h
    show Q (cev 38 3 61 [vU, vU, vU, vU, vU] [] (SH T, c))
    refine of_cev (Q := Q) ?_
    exact k
set_option maxRecDepth 20000 in
theorem W_X5_isGood {T : List Shp} {c : Nat → Int → Int} {Q : Res → Prop} {x1 x2 : Int} (k : (((c 21 8) = 2 → (((-2147483648 ≤ (c 4 3) * x1 ∧ (c 4 3) * x1 < 2147483648) ∧ (-2147483648 ≤ (c 21 10) + ((c 4 3) * x1) ∧ (c 21 10) + ((c 4 3) * x1) < 2147483648) ∧ (-2147483648 ≤ ((c 21 10) + ((c 4 3) * x1)) - x2 ∧ ((c 21 10) + ((c 4 3) * x1)) - x2 < 2147483648)) ∧ (((((c 21 10) + ((c 4 3) * x1)) - x2) < 0 → Q (some (some (vI 0), (SH T, c)))) ∧ (¬ (((c 21 10) + ((c 4 3) * x1)) - x2) < 0 → Q (some (some (vI 1), (SH T, c))))))) ∧ (¬ (c 21 8) = 2 → (((c 21 8) = 1 → ((-2147483648 ≤ x1 * 12 ∧ x1 * 12 < 2147483648) ∧ Q (cev 39 1 51 [vR 22, vU, vU, vI (x1 * 12), vI 0] [] (SH T, c)))) ∧ (¬ (c 21 8) = 1 → Q (some (some (vI 1), (SH T, c)))))))) : Q (ccal 39 [vR 22, vI x1, vI x2] (SH T, c)) := by
  refine of_cev (Q := Q) ?_
  refine wq_ite (Q := Q) (p := (c 21 8) = 2) (fun h => ?_) (fun h => ?_)
  · replace k := k.1 h
    refine wq_pos (Q := Q) k.1.1 ?_
    refine wq_pos (Q := Q) k.1.2.1 ?_
    refine wq_pos (Q := Q) k.1.2.2 ?_
    replace k := k.2
    refine wq_ite (Q := Q) (p := (((c 21 10) + ((c 4 3) * x1)) - x2) < 0) (fun h => ?_) (fun h => ?_)
    · replace k := k.1 h
      show Q (cev 39 1 33 [vU, vU, vU, vU, vU] [] (SH T, c))
      refine of_cev (Q := Q) ?_
      exact k
    · replace k := k.2 h
      exact k
  · replace k := k.2 h
    show Q (cev 39 1 35 [vR 22, vI x1, vU, vU, vU] [] (SH T, c))
    refine of_cev (Q := Q) ?_
    refine wq_ite (Q := Q) (p := (c 21 8) = 1) (fun h => ?_) (fun h => ?_)
    · replace k := k.1 h
      refine wq_pos (Q := Q) k.1 ?_
      replace k := k.2
      exact k
    · replace k := k.2 h
      show Q (cev 39 1 100 [vU, vU, vU, vU, vU] [] (SH T, c))
      refine of_cev (Q := Q) ?_
      exact k
set_option maxRecDepth 20000 in
theorem W_X5_isGood_51 {T : List Shp} {c : Nat → Int → Int} {Q : Res → Prop} {x3 x4 : Int} (k : ((x4 < 12 → (((-2147483648 ≤ x3 + x4 ∧ x3 + x4 < 2147483648) ∧ (0 ≤ (x3 + x4) ∧ (x3 + x4) < 72) ∧ (-2147483648 ≤ (c 26 (x3 + x4)) - (c 22 (x3 + x4)) ∧ (c 26 (x3 + x4)) - (c 22 (x3 + x4)) < 2147483648) ∧ (-2147483648 < ((c 26 (x3 + x4)) - (c 22 (x3 + x4))) ∧ ((c 26 (x3 + x4)) - (c 22 (x3 + x4))) < 2147483648)) ∧ (((c 23 (x3 + x4)) < (abz ((c 26 (x3 + x4)) - (c 22 (x3 + x4)))) → Q (some (some (vI 0), (SH T, c)))) ∧ (¬ (c 23 (x3 + x4)) < (abz ((c 26 (x3 + x4)) - (c 22 (x3 + x4)))) → ((-2147483648 ≤ x4 + 1 ∧ x4 + 1 < 2147483648) ∧ Q (cev 39 1 51 [vR 22, vU, vU, vI x3, vI (x4 + 1)] [] (SH T, c))))))) ∧ (¬ x4 < 12 → Q (some (some (vI 1), (SH T, c)))))) : Q (cev 39 1 51 [vR 22, vU, vU, vI x3, vI x4] [] (SH T, c)) := by
  refine of_cev (Q := Q) ?_
  refine wq_ite (Q := Q) (p := x4 < 12) (fun h => ?_) (fun h => ?_)
  · replace k := k.1 h
    refine wq_pos (Q := Q) k.1.1 ?_
    refine wq_pos (Q := Q) k.1.2.1 ?_
    refine wq_pos (Q := Q) k.1.1 ?_
    refine wq_pos (Q := Q) k.1.2.1 ?_
    refine wq_pos (Q := Q) k.1.2.2.1 ?_
    refine wq_pos (Q := Q) k.1.2.2.2 ?_
    refine wq_pos (Q := Q) k.1.1 ?_
    refine wq_pos (Q := Q) k.1.2.1 ?_
    replace k := k.2
    refine wq_ite (Q := Q) (p := (c 23 (x3 + x4)) < (abz ((c 26 (x3 + x4)) - (c 22 (x3 + x4))))) (fun h => ?_) (fun h => ?_)
    · replace k := k.1 h
      exact k
    · replace k := k.2 h
      show Q (cev 39 1 94 [vR 22, vU, vU, vI x3, vI x4] [] (SH T, c))
      refine of_cev (Q := Q) ?_
      refine wq_pos (Q := Q) k.1 ?_
      replace k := k.2
      exact k
  · replace k := k.2 h
    show Q (cev 39 1 100 [vU, vU, vU, vU, vU] [] (SH T, c))
    refine of_cev (Q := Q) ?_
    exact k
set_option maxRecDepth 20000 in
theorem W_X5_weigh {T : List Shp} {c : Nat → Int → Int} {Q : Res → Prop} {x1 : Int} (k : ((-2147483648 ≤ (c 21 9) * 12 ∧ (c 21 9) * 12 < 2147483648) ∧ Q (cev 40 2 13 [vR 22, vI x1, vI ((c 21 9) * 12), vI 0, vI 0] [] (SH T, c)))) : Q (ccal 40 [vR 22, vI x1] (SH T, c)) := by
  refine of_cev (Q := Q) ?_
  refine wq_pos (Q := Q) k.1 ?_
  replace k := k.2
  exact k
set_option maxRecDepth 20000 in
theorem W_X5_weigh_13 {T : List Shp} {c : Nat → Int → Int} {Q : Res → Prop} {x1 x2 x3 x4 : Int} (k : ((x4 < 12 → (((-2147483648 ≤ x2 + x4 ∧ x2 + x4 < 2147483648) ∧ (0 ≤ (x2 + x4) ∧ (x2 + x4) < 72) ∧ (-2147483648 ≤ (c 26 (x2 + x4)) - (c 22 (x2 + x4)) ∧ (c 26 (x2 + x4)) - (c 22 (x2 + x4)) < 2147483648) ∧ (-2147483648 < ((c 26 (x2 + x4)) - (c 22 (x2 + x4))) ∧ ((c 26 (x2 + x4)) - (c 22 (x2 + x4))) < 2147483648) ∧ (-2147483648 ≤ x3 + (abz ((c 26 (x2 + x4)) - (c 22 (x2 + x4)))) ∧ x3 + (abz ((c 26 (x2 + x4)) - (c 22 (x2 + x4)))) < 2147483648) ∧ (-2147483648 ≤ x4 + 1 ∧ x4 + 1 < 2147483648)) ∧ Q (cev 40 2 13 [vR 22, vI x1, vI x2, vI (x3 + (abz ((c 26 (x2 + x4)) - (c 22 (x2 + x4))))), vI (x4 + 1)] [] (SH T, c)))) ∧ (¬ x4 < 12 → ((0 < (c 21 14) → ((x3 = (c 21 12) → ((x1 = (c 21 13) → ((-2147483648 ≤ (c 21 14) + 1 ∧ (c 21 14) + 1 < 2147483648) ∧ Q (some (none, (SH T, (up c 21 14 ((c 21 14) + 1))))))) ∧ (¬ x1 = (c 21 13) → Q (cev 40 2 87 [vR 22, vI x1, vU, vI x3, vU] [] (SH T, c))))) ∧ (¬ x3 = (c 21 12) → Q (cev 40 2 87 [vR 22, vI x1, vU, vI x3, vU] [] (SH T, c))))) ∧ (¬ 0 < (c 21 14) → Q (cev 40 2 87 [vR 22, vI x1, vU, vI x3, vU] [] (SH T, c))))))) : Q (cev 40 2 13 [vR 22, vI x1, vI x2, vI x3, vI x4] [] (SH T, c)) := by
  refine of_cev (Q := Q) ?_
  refine wq_ite (Q := Q) (p := x4 < 12) (fun h => ?_) (fun h => ?_)
  · replace k := k.1 h
    refine wq_pos (Q := Q) k.1.1 ?_
    refine wq_pos (Q := Q) k.1.2.1 ?_
    refine wq_pos (Q := Q) k.1.1 ?_
    refine wq_pos (Q := Q) k.1.2.1 ?_
    refine wq_pos (Q := Q) k.1.2.2.1 ?_
    refine wq_pos (Q := Q) k.1.2.2.2.1 ?_
    refine wq_pos (Q := Q) k.1.2.2.2.2.1 ?_
    refine wq_pos (Q := Q) k.1.2.2.2.2.2 ?_
    replace k := k.2
    exact k
  · replace k := k.2 h
    show Q (cev 40 2 51 [vR 22, vI x1, vU, vI x3, vU] [] (SH T, c))
    refine of_cev (Q := Q) ?_
    refine wq_ite (Q := Q) (p := 0 < (c 21 14)) (fun h => ?_) (fun h => ?_)
    · replace k := k.1 h
      refine wq_ite (Q := Q) (p := x3 = (c 21 12)) (fun h => ?_) (fun h => ?_)
      · replace k := k.1 h
        refine wq_ite (Q := Q) (p := x1 = (c 21 13)) (fun h => ?_) (fun h => ?_)
        · replace k := k.1 h
          refine wq_pos (Q := Q) k.1 ?_
          show Q (cev 40 2 135 [vU, vU, vU, vU, vU] [] (SH T, (up c 21 14 ((c 21 14) + 1))))
          refine of_cev (Q := Q) ?_
          replace k := k.2
          exact k
        · replace k := k.2 h
          exact k
      · replace k := k.2 h
        exact k
    · replace k := k.2 h
      exact k
set_option maxRecDepth 20000 in
theorem W_X5_weigh_87 {T : List Shp} {c : Nat → Int → Int} {Q : Res → Prop} {x1 x3 : Int} (k : (((c 21 14) = 0 → Q (cev 40 2 103 [vR 22, vI x1, vU, vI x3, vU] [] (SH T, c))) ∧ (¬ (c 21 14) = 0 → (QI T (fun r1 c2 => ((r1 = 0 → Q (some (none, (SH T, c2)))) ∧ (¬ r1 = 0 → Q (cev 40 2 103 [vR 22, vI x1, vU, vI x3, vU] [] (SH T, c2))))) (ccal 41 [vR 22, vI x3, vI x1] (SH T, c)))))) : Q (cev 40 2 87 [vR 22, vI x1, vU, vI x3, vU] [] (SH T, c)) := by
  refine of_cev (Q := Q) ?_
  refine wq_ite (Q := Q) (p := (c 21 14) = 0) (fun h => ?_) (fun h => ?_)
  · replace k := k.1 h
    exact k
  · replace k := k.2 h
    refine wq_callI (Q := Q) rfl k ?_
    intro r1 c2 k
    refine wq_ite (Q := Q) (p := r1 = 0) (fun h => ?_) (fun h => ?_)
    · replace k := k.1 h
      show Q (cev 40 2 135 [vU, vU, vU, vU, vU] [] (SH T, c2))
      refine of_cev (Q := Q) ?_
      exact k
    · replace k := k.2 h
      exact k
set_option maxRecDepth 20000 in
theorem W_X5_weigh_103 {T : List Shp} {c : Nat → Int → Int} {Q : Res → Prop} {x1 x3 : Int} (k : ((((0 : Int) ≤ 0 ∧ (0 : Int) ≤ 0 ∧ 0 ≤ (c 21 9)) ∧ (0 : Int) + (c 21 9) ≤ 5 ∧ (0 : Int) + (c 21 9) ≤ 5) ∧ Q (some (none, (SH T, (cpy (up (up (up c 21 14 1) 21 12 x3) 21 13 x1) 27 0 28 0 (c 21 9))))))) : Q (cev 40 2 103 [vR 22, vI x1, vU, vI x3, vU] [] (SH T, c)) := by
  refine of_cev (Q := Q) ?_
  refine wq_pos (Q := Q) k.1 ?_
  show Q (cev 40 2 135 [vU, vU, vU, vU, vU] [] (SH T, (cpy (up (up (up c 21 14 1) 21 12 x3) 21 13 x1) 27 0 28 0 (c 21 9))))
  refine of_cev (Q := Q) ?_
  replace k := k.2
  exact k
set_option maxRecDepth 20000 in
theorem W_X5_isBetter {T : List Shp} {c : Nat → Int → Int} {Q : Res → Prop} {x1 x2 : Int} (k : (((c 21 8) = 1 → ((x2 < (c 21 13) → Q (some (some (vI 1), (SH T, c)))) ∧ (¬ x2 < (c 21 13) → ((x2 = (c 21 13) → ((x1 < (c 21 12) → Q (some (some (vI 1), (SH T, c)))) ∧ (¬ x1 < (c 21 12) → Q (some (some (vI 0), (SH T, c)))))) ∧ (¬ x2 = (c 21 13) → Q (some (some (vI 0), (SH T, c)))))))) ∧ (¬ (c 21 8) = 1 → ((x1 < (c 21 12) → Q (some (some (vI 1), (SH T, c)))) ∧ (¬ x1 < (c 21 12) → ((x1 = (c 21 12) → ((x2 < (c 21 13) → Q (some (some (vI 1), (SH T, c)))) ∧ (¬ x2 < (c 21 13) → Q (some (some (vI 0), (SH T, c)))))) ∧ (¬ x1 = (c 21 12) → Q (some (some (vI 0), (SH T, c)))))))))) : Q (ccal 41 [vR 22, vI x1, vI x2] (SH T, c)) := by
  refine of_cev (Q := Q) ?_
  refine wq_ite (Q := Q) (p := (c 21 8) = 1) (fun h => ?_) (fun h => ?_)
  · replace k := k.1 h
    refine wq_ite (Q := Q) (p := x2 < (c 21 13)) (fun h => ?_) (fun h => ?_)
    · replace k := k.1 h
      show Q (cev 41 1 32 [vU, vU, vU] [] (SH T, c))
      refine of_cev (Q := Q) ?_
      exact k
    · replace k := k.2 h
      refine wq_ite (Q := Q) (p := x2 = (c 21 13)) (fun h => ?_) (fun h => ?_)
      · replace k := k.1 h
        refine wq_ite (Q := Q) (p := x1 < (c 21 12)) (fun h => ?_) (fun h => ?_)
        · replace k := k.1 h
          show Q (cev 41 1 32 [vU, vU, vU] [] (SH T, c))
          refine of_cev (Q := Q) ?_
          exact k
        · replace k := k.2 h
          show Q (cev 41 1 36 [vU, vU, vU] [] (SH T, c))
          refine of_cev (Q := Q) ?_
          exact k
      · replace k := k.2 h
        show Q (cev 41 1 36 [vU, vU, vU] [] (SH T, c))
        refine of_cev (Q := Q) ?_
        exact k
  · replace k := k.2 h
    show Q (cev 41 1 38 [vR 22, vI x1, vI x2] [] (SH T, c))
    refine of_cev (Q := Q) ?_
    refine wq_ite (Q := Q) (p := x1 < (c 21 12)) (fun h => ?_) (fun h => ?_)
    · replace k := k.1 h
      show Q (cev 41 1 62 [vU, vU, vU] [] (SH T, c))
      refine of_cev (Q := Q) ?_
      exact k
    · replace k := k.2 h
      refine wq_ite (Q := Q) (p := x1 = (c 21 12)) (fun h => ?_) (fun h => ?_)
      · replace k := k.1 h
        refine wq_ite (Q := Q) (p := x2 < (c 21 13)) (fun h => ?_) (fun h => ?_)
        · replace k := k.1 h
          show Q (cev 41 1 62 [vU, vU, vU] [] (SH T, c))
          refine of_cev (Q := Q) ?_
          exact k
        · replace k := k.2 h
          show Q (cev 41 1 66 [vU, vU, vU] [] (SH T, c))
          refine of_cev (Q := Q) ?_
          exact k
      · replace k := k.2 h
        show Q (cev 41 1 66 [vU, vU, vU] [] (SH T, c))
        refine of_cev (Q := Q) ?_
        exact k
set_option maxRecDepth 20000 in
theorem W_X8_between {T : List Shp} {c : Nat → Int → Int} {Q : Res → Prop} {x1 x2 : Int} (k : Q (cev 78 2 5 [vR 50, vI x1, vI x2, vI 0, vI 0] [] (SH T, c))) : Q (ccal 78 [vR 50, vI x1, vI x2] (SH T, c)) := by
  refine of_cev (Q := Q) ?_
  exact k
set_option maxRecDepth 20000 in
theorem W_X8_between_5 {T : List Shp} {c : Nat → Int → Int} {Q : Res → Prop} {x1 x2 x3 x4 : Int} (k : ((x4 < 12 → (QI T (fun r1 c2 => (QI T (fun r3 c4 => ((r1 = r3 → ((-2147483648 ≤ x4 + 1 ∧ x4 + 1 < 2147483648) ∧ Q (cev 78 2 5 [vR 50, vI x1, vI x2, vI x3, vI (x4 + 1)] [] (SH T, c4)))) ∧ (¬ r1 = r3 → (((-2147483648 ≤ x3 + 1 ∧ x3 + 1 < 2147483648) ∧ (-2147483648 ≤ x4 + 1 ∧ x4 + 1 < 2147483648)) ∧ Q (cev 78 2 5 [vR 50, vI x1, vI x2, vI (x3 + 1), vI (x4 + 1)] [] (SH T, c4)))))) (ccal 87 [vR 50, vI x2, vI x4] (SH T, c2)))) (ccal 87 [vR 50, vI x1, vI x4] (SH T, c)))) ∧ (¬ x4 < 12 → Q (some (some (vI x3), (SH T, c)))))) : Q (cev 78 2 5 [vR 50, vI x1, vI x2, vI x3, vI x4] [] (SH T, c)) := by
  refine of_cev (Q := Q) ?_
  refine wq_ite (Q := Q) (p := x4 < 12) (fun h => ?_) (fun h => ?_)
  · replace k := k.1 h
    refine wq_callI (Q := Q) rfl k ?_
    intro r1 c2 k
    refine wq_callI (Q := Q) rfl k ?_
    intro r3 c4 k
    refine wq_ite (Q := Q) (p := r1 = r3) (fun h => ?_) (fun h => ?_)
    · replace k := k.1 h
      show Q (cev 78 2 32 [vR 50, vI x1, vI x2, vI x3, vI x4] [] (SH T, c4))
      refine of_cev (Q := Q) ?_
      refine wq_pos (Q := Q) k.1 ?_
      replace k := k.2
      exact k
    · replace k := k.2 h
      refine wq_pos (Q := Q) k.1.1 ?_
      show Q (cev 78 2 32 [vR 50, vI x1, vI x2, vI (x3 + 1), vI x4] [] (SH T, c4))
      refine of_cev (Q := Q) ?_
      refine wq_pos (Q := Q) k.1.2 ?_
      replace k := k.2
      exact k
  · replace k := k.2 h
    show Q (cev 78 2 38 [vU, vU, vU, vI x3, vU] [] (SH T, c))
    refine of_cev (Q := Q) ?_
    exact k
set_option maxRecDepth 20000 in
theorem W_X8_weigh {T : List Shp} {c : Nat → Int → Int} {Q : Res → Prop} (k : ((-2147483648 ≤ (c 1 11) + 1 ∧ (c 1 11) + 1 < 2147483648) ∧ Q (cev 79 4 15 [vR 50, vI 0, vU] [] (SH T, (up c 49 1 ((c 1 11) + 1)))))) : Q (ccal 79 [vR 50] (SH T, c)) := by
  refine of_cev (Q := Q) ?_
  refine wq_pos (Q := Q) k.1 ?_
  replace k := k.2
  exact k
set_option maxRecDepth 20000 in
theorem W_X8_weigh_15 {T : List Shp} {c : Nat → Int → Int} {Q : Res → Prop} {x1 : Int} (k : ((x1 < (c 49 1) → Q (cev 79 4 25 [vR 50, vI x1, vI 0] [] (SH T, c))) ∧ (¬ x1 < (c 49 1) → Q (cev 79 4 64 [vR 50, vI 1, vU] [] (SH T, c))))) : Q (cev 79 4 15 [vR 50, vI x1, vU] [] (SH T, c)) := by
  refine of_cev (Q := Q) ?_
  refine wq_ite (Q := Q) (p := x1 < (c 49 1)) (fun h => ?_) (fun h => ?_)
  · replace k := k.1 h
    exact k
  · replace k := k.2 h
    show Q (cev 79 4 62 [vR 50, vU, vU] [] (SH T, c))
    refine of_cev (Q := Q) ?_
    exact k
set_option maxRecDepth 20000 in
theorem W_X8_weigh_25 {T : List Shp} {c : Nat → Int → Int} {Q : Res → Prop} {x1 x2 : Int} (k : ((x2 < (c 49 1) → (((-2147483648 ≤ x1 * 7 ∧ x1 * 7 < 2147483648) ∧ (-2147483648 ≤ (x1 * 7) + x2 ∧ (x1 * 7) + x2 < 2147483648)) ∧ (QI T (fun r1 c2 => (((0 ≤ ((x1 * 7) + x2) ∧ ((x1 * 7) + x2) < 49) ∧ (-2147483648 ≤ x2 + 1 ∧ x2 + 1 < 2147483648)) ∧ Q (cev 79 4 25 [vR 50, vI x1, vI (x2 + 1)] [] (SH T, (up c2 50 ((x1 * 7) + x2) r1))))) (ccal 78 [vR 50, vI x1, vI x2] (SH T, c))))) ∧ (¬ x2 < (c 49 1) → ((-2147483648 ≤ x1 + 1 ∧ x1 + 1 < 2147483648) ∧ Q (cev 79 4 15 [vR 50, vI (x1 + 1), vU] [] (SH T, c)))))) : Q (cev 79 4 25 [vR 50, vI x1, vI x2] [] (SH T, c)) := by
  refine of_cev (Q := Q) ?_
  refine wq_ite (Q := Q) (p := x2 < (c 49 1)) (fun h => ?_) (fun h => ?_)
  · replace k := k.1 h
    refine wq_pos (Q := Q) k.1.1 ?_
    refine wq_pos (Q := Q) k.1.2 ?_
    replace k := k.2
    refine wq_callI (Q := Q) rfl k ?_
    intro r1 c2 k
    refine wq_pos (Q := Q) k.1.1 ?_
    refine wq_pos (Q := Q) k.1.2 ?_
    replace k := k.2
    exact k
  · replace k := k.2 h
    show Q (cev 79 4 56 [vR 50, vI x1, vU] [] (SH T, c))
    refine of_cev (Q := Q) ?_
    refine wq_pos (Q := Q) k.1 ?_
    replace k := k.2
    exact k
set_option maxRecDepth 20000 in
theorem W_X8_weigh_64 {T : List Shp} {c : Nat → Int → Int} {Q : Res → Prop} {x1 : Int} (k : ((x1 < (ishl 1 (c 49 1)) → (QV T (fun c1 => ((-2147483648 ≤ x1 + 1 ∧ x1 + 1 < 2147483648) ∧ Q (cev 79 4 64 [vR 50, vI (x1 + 1), vU] [] (SH T, c1)))) (ccal 89 [vR 50, vI x1] (SH T, c)))) ∧ (¬ x1 < (ishl 1 (c 49 1)) → Q (some (none, (SH T, c)))))) : Q (cev 79 4 64 [vR 50, vI x1, vU] [] (SH T, c)) := by
  refine of_cev (Q := Q) ?_
  refine wq_ite (Q := Q) (p := x1 < (ishl 1 (c 49 1))) (fun h => ?_) (fun h => ?_)
  · replace k := k.1 h
    refine wq_callV (Q := Q) rfl k ?_
    intro c1 k
    refine wq_pos (Q := Q) k.1 ?_
    replace k := k.2
    exact k
  · replace k := k.2 h
    show Q (cev 79 4 85 [vU, vU, vU] [] (SH T, c))
    refine of_cev (Q := Q) ?_
    exact k
set_option maxRecDepth 20000 in
theorem W_X8_changed {T : List Shp} {c : Nat → Int → Int} {Q : Res → Prop} (k : (((-2147483648 ≤ (ishl 1 (c 49 1)) - 1 ∧ (ishl 1 (c 49 1)) - 1 < 2147483648) ∧ (0 ≤ ((ishl 1 (c 49 1)) - 1) ∧ ((ishl 1 (c 49 1)) - 1) < 128)) ∧ Q (some (some (vI (c 51 ((ishl 1 (c 49 1)) - 1))), (SH T, c))))) : Q (ccal 80 [vR 50] (SH T, c)) := by
  refine of_cev (Q := Q) ?_
  refine wq_pos (Q := Q) k.1.1 ?_
  refine wq_pos (Q := Q) k.1.2 ?_
  replace k := k.2
  exact k
set_option maxRecDepth 20000 in
theorem W_X8_waysInAll {T : List Shp} {c : Nat → Int → Int} {Q : Res → Prop} (k : (((-2147483648 ≤ (ishl 1 (c 49 1)) - 1 ∧ (ishl 1 (c 49 1)) - 1 < 2147483648) ∧ (0 ≤ ((ishl 1 (c 49 1)) - 1) ∧ ((ishl 1 (c 49 1)) - 1) < 128)) ∧ Q (some (some (vI (c 52 ((ishl 1 (c 49 1)) - 1))), (SH T, c))))) : Q (ccal 81 [vR 50] (SH T, c)) := by
  refine of_cev (Q := Q) ?_
  refine wq_pos (Q := Q) k.1.1 ?_
  refine wq_pos (Q := Q) k.1.2 ?_
  replace k := k.2
  exact k
set_option maxRecDepth 20000 in
theorem W_X8_parentOf {T : List Shp} {c : Nat → Int → Int} {Q : Res → Prop} {x1 : Int} (k : Q (cev 82 19 2 [vR 50, vI x1, vI 0] [] (SH T, c))) : Q (ccal 82 [vR 50, vI x1] (SH T, c)) := by
  refine of_cev (Q := Q) ?_
  exact k
set_option maxRecDepth 20000 in
theorem W_X8_parentOf_2 {T : List Shp} {c : Nat → Int → Int} {Q : Res → Prop} {x1 x2 : Int} (k : ((x2 < 7 → (((0 ≤ x2 ∧ x2 < 7) ∧ (-2147483648 ≤ x2 + 1 ∧ x2 + 1 < 2147483648)) ∧ Q (cev 82 19 2 [vR 50, vI x1, vI (x2 + 1)] [] (SH T, (up c 53 x2 (-1)))))) ∧ (¬ x2 < 7 → (QI T (fun r1 c2 => ((r1 = 0 → Q (some (some (vI 0), (SH T, c2)))) ∧ (¬ r1 = 0 → ((0 ≤ x1 ∧ x1 < 7) ∧ Q (some (some (vI (c2 53 x1)), (SH T, c2))))))) (ccal 91 [vR 50, vI 1, vI 0] (SH T, c)))))) : Q (cev 82 19 2 [vR 50, vI x1, vI x2] [] (SH T, c)) := by
  refine of_cev (Q := Q) ?_
  refine wq_ite (Q := Q) (p := x2 < 7) (fun h => ?_) (fun h => ?_)
  · replace k := k.1 h
    refine wq_pos (Q := Q) k.1.1 ?_
    refine wq_pos (Q := Q) k.1.2 ?_
    replace k := k.2
    exact k
  · replace k := k.2 h
    show Q (cev 82 19 21 [vR 50, vI x1, vU] [] (SH T, c))
    refine of_cev (Q := Q) ?_
    refine wq_callI (Q := Q) rfl k ?_
    intro r1 c2 k
    refine wq_ite (Q := Q) (p := r1 = 0) (fun h => ?_) (fun h => ?_)
    · replace k := k.1 h
      show Q (cev 82 19 39 [vU, vU, vU] [] (SH T, c2))
      refine of_cev (Q := Q) ?_
      exact k
    · replace k := k.2 h
      refine wq_pos (Q := Q) k.1 ?_
      replace k := k.2
      exact k
set_option maxRecDepth 20000 in
theorem W_X8_datedBy {T : List Shp} {c : Nat → Int → Int} {Q : Res → Prop} {x1 x2 : Int} (k : Q (cev 83 2 15 [vR 50, vI x1, vI x2, vI 13, vI 0, vI 0, vI 0, vI 0, vU] [] (SH T, c))) : Q (ccal 83 [vR 50, vI x1, vI x2] (SH T, c)) := by
  refine of_cev (Q := Q) ?_
  exact k
set_option maxRecDepth 20000 in
theorem W_X8_datedBy_15 {T : List Shp} {c : Nat → Int → Int} {Q : Res → Prop} {x1 x2 x3 x4 x5 x6 x7 : Int} (k : (((c 1 8) < x7 → ((x2 = 0 → Q (some (some (vI x3), (SH T, c)))) ∧ ((x2 = 1 → Q (some (some (vI x4), (SH T, c)))) ∧ ((x2 = 2 → Q (some (some (vI x5), (SH T, c)))) ∧ (¬ (x2 = 0 ∨ x2 = 1 ∨ x2 = 2) → Q (some (some (vI x6), (SH T, c)))))))) ∧ (¬ (c 1 8) < x7 → (QI T (fun r1 c2 => ((r1 < x3 → Q (cev 83 2 52 [vR 50, vI x1, vI x2, vI r1, vI x7, vI x5, vI 0, vI x7, vI r1] [] (SH T, c2))) ∧ (¬ r1 < x3 → Q (cev 83 2 52 [vR 50, vI x1, vI x2, vI x3, vI x4, vI x5, vI x6, vI x7, vI r1] [] (SH T, c2))))) (ccal 88 [vR 50, vI x1, vI x7] (SH T, c)))))) : Q (cev 83 2 15 [vR 50, vI x1, vI x2, vI x3, vI x4, vI x5, vI x6, vI x7, vU] [] (SH T, c)) := by
  refine of_cev (Q := Q) ?_
  refine wq_ite (Q := Q) (p := (c 1 8) < x7) (fun h => ?_) (fun h => ?_)
  · replace k := k.1 h
    show Q (cev 83 2 71 [vU, vU, vI x2, vI x3, vI x4, vI x5, vI x6, vU, vU] [] (SH T, c))
    refine of_cev (Q := Q) ?_
    refine wq_ite (Q := Q) (p := x2 = 0) (fun h0 => ?_) (fun h0 => ?_)
    · replace k := k.1 h0
      show Q (cev 83 2 100 [vU, vU, vU, vI x3, vU, vU, vU, vU, vU] [] (SH T, c))
      refine of_cev (Q := Q) ?_
      exact k
    replace k := k.2
    refine wq_ite (Q := Q) (p := x2 = 1) (fun h1 => ?_) (fun h1 => ?_)
    · replace k := k.1 h1
      show Q (cev 83 2 102 [vU, vU, vU, vU, vI x4, vU, vU, vU, vU] [] (SH T, c))
      refine of_cev (Q := Q) ?_
      exact k
    replace k := k.2
    refine wq_ite (Q := Q) (p := x2 = 2) (fun h2 => ?_) (fun h2 => ?_)
    · replace k := k.1 h2
      show Q (cev 83 2 105 [vU, vU, vU, vU, vU, vI x5, vU, vU, vU] [] (SH T, c))
      refine of_cev (Q := Q) ?_
      exact k
    replace k := k.2
    replace k := k (fun h => by rcases h with h | h | h <;> first | exact h0 h | exact h1 h | exact h2 h)
    show Q (cev 83 2 108 [vU, vU, vU, vU, vU, vU, vI x6, vU, vU] [] (SH T, c))
    refine of_cev (Q := Q) ?_
    exact k
  · replace k := k.2 h
    refine wq_callI (Q := Q) rfl k ?_
    intro r1 c2 k
    refine wq_ite (Q := Q) (p := r1 < x3) (fun h => ?_) (fun h => ?_)
    · replace k := k.1 h
      exact k
    · replace k := k.2 h
      exact k
set_option maxRecDepth 20000 in
theorem W_X8_datedBy_52 {T : List Shp} {c : Nat → Int → Int} {Q : Res → Prop} {x1 x2 x3 x4 x5 x6 x7 x8 : Int} (k : ((x8 = x3 → (((-2147483648 ≤ x6 + 1 ∧ x6 + 1 < 2147483648) ∧ (-2147483648 ≤ x7 + 1 ∧ x7 + 1 < 2147483648)) ∧ Q (cev 83 2 15 [vR 50, vI x1, vI x2, vI x3, vI x4, vI x7, vI (x6 + 1), vI (x7 + 1), vU] [] (SH T, c)))) ∧ (¬ x8 = x3 → ((-2147483648 ≤ x7 + 1 ∧ x7 + 1 < 2147483648) ∧ Q (cev 83 2 15 [vR 50, vI x1, vI x2, vI x3, vI x4, vI x5, vI x6, vI (x7 + 1), vU] [] (SH T, c)))))) : Q (cev 83 2 52 [vR 50, vI x1, vI x2, vI x3, vI x4, vI x5, vI x6, vI x7, vI x8] [] (SH T, c)) := by
  refine of_cev (Q := Q) ?_
  refine wq_ite (Q := Q) (p := x8 = x3) (fun h => ?_) (fun h => ?_)
  · replace k := k.1 h
    refine wq_pos (Q := Q) k.1.1 ?_
    show Q (cev 83 2 65 [vR 50, vI x1, vI x2, vI x3, vI x4, vI x7, vI (x6 + 1), vI x7, vU] [] (SH T, c))
    refine of_cev (Q := Q) ?_
    refine wq_pos (Q := Q) k.1.2 ?_
    replace k := k.2
    exact k
  · replace k := k.2 h
    show Q (cev 83 2 65 [vR 50, vI x1, vI x2, vI x3, vI x4, vI x5, vI x6, vI x7, vU] [] (SH T, c))
    refine of_cev (Q := Q) ?_
    refine wq_pos (Q := Q) k.1 ?_
    replace k := k.2
    exact k
set_option maxRecDepth 20000 in
theorem W_X8_learn {T : List Shp} {c : Nat → Int → Int} {Q : Res → Prop} (k : ((-2147483648 ≤ (ishl 1 (c 1 11)) - 1 ∧ (ishl 1 (c 1 11)) - 1 < 2147483648) ∧ Q (cev 84 3 24 [vR 50, vI ((ishl 1 (c 1 11)) - 1), vI 1, vU, vU, vU, vU] [] (SH T, (up (up c 49 7 0) 49 8 (-1)))))) : Q (ccal 84 [vR 50] (SH T, c)) := by
  refine of_cev (Q := Q) ?_
  refine wq_pos (Q := Q) k.1 ?_
  replace k := k.2
  exact k
set_option maxRecDepth 20000 in
theorem W_X8_learn_24 {T : List Shp} {c : Nat → Int → Int} {Q : Res → Prop} {x1 x2 : Int} (k : ((x1 < x2 → Q (some (none, (SH T, c)))) ∧ (¬ x1 < x2 → Q (cev 84 3 37 [vR 50, vI x1, vI x2, vI 0, vI (-1), vI 0, vU] [] (SH T, c))))) : Q (cev 84 3 24 [vR 50, vI x1, vI x2, vU, vU, vU, vU] [] (SH T, c)) := by
  refine of_cev (Q := Q) ?_
  refine wq_ite (Q := Q) (p := x1 < x2) (fun h => ?_) (fun h => ?_)
  · replace k := k.1 h
    show Q (cev 84 3 108 [vU, vU, vU, vU, vU, vU, vU] [] (SH T, c))
    refine of_cev (Q := Q) ?_
    exact k
  · replace k := k.2 h
    exact k
set_option maxRecDepth 20000 in
theorem W_X8_learn_37 {T : List Shp} {c : Nat → Int → Int} {Q : Res → Prop} {x1 x2 x3 x4 x5 : Int} (k : ((x5 < 12 → (QI T (fun r1 c2 => ((r1 = (-1) → ((-2147483648 ≤ x5 + 1 ∧ x5 + 1 < 2147483648) ∧ Q (cev 84 3 37 [vR 50, vI x1, vI x2, vI x3, vI x4, vI (x5 + 1), vU] [] (SH T, c2)))) ∧ (¬ r1 = (-1) → ((x4 = (-1) → ((-2147483648 ≤ x5 + 1 ∧ x5 + 1 < 2147483648) ∧ Q (cev 84 3 37 [vR 50, vI x1, vI x2, vI r1, vI x5, vI (x5 + 1), vU] [] (SH T, c2)))) ∧ (¬ x4 = (-1) → ((r1 < x3 → ((-2147483648 ≤ x5 + 1 ∧ x5 + 1 < 2147483648) ∧ Q (cev 84 3 37 [vR 50, vI x1, vI x2, vI r1, vI x5, vI (x5 + 1), vU] [] (SH T, c2)))) ∧ (¬ r1 < x3 → ((-2147483648 ≤ x5 + 1 ∧ x5 + 1 < 2147483648) ∧ Q (cev 84 3 37 [vR 50, vI x1, vI x2, vI x3, vI x4, vI (x5 + 1), vU] [] (SH T, c2)))))))))) (ccal 85 [vR 50, vI x2, vI x5] (SH T, c)))) ∧ (¬ x5 < 12 → (((0 ≤ x2 ∧ x2 < 64) ∧ (-2147483648 ≤ x2 + 1 ∧ x2 + 1 < 2147483648)) ∧ Q (cev 84 3 24 [vR 50, vI x1, vI (x2 + 1), vU, vU, vU, vU] [] (SH T, (up (up (up c 54 x2 x3) 49 7 x3) 49 8 x4))))))) : Q (cev 84 3 37 [vR 50, vI x1, vI x2, vI x3, vI x4, vI x5, vU] [] (SH T, c)) := by
  refine of_cev (Q := Q) ?_
  refine wq_ite (Q := Q) (p := x5 < 12) (fun h => ?_) (fun h => ?_)
  · replace k := k.1 h
    refine wq_callI (Q := Q) rfl k ?_
    intro r1 c2 k
    refine wq_ite (Q := Q) (p := r1 = (-1)) (fun h => ?_) (fun h => ?_)
    · replace k := k.1 h
      show Q (cev 84 3 78 [vR 50, vI x1, vI x2, vI x3, vI x4, vI x5, vU] [] (SH T, c2))
      refine of_cev (Q := Q) ?_
      refine wq_pos (Q := Q) k.1 ?_
      replace k := k.2
      exact k
    · replace k := k.2 h
      refine wq_ite (Q := Q) (p := x4 = (-1)) (fun h => ?_) (fun h => ?_)
      · replace k := k.1 h
        show Q (cev 84 3 71 [vR 50, vI x1, vI x2, vU, vU, vI x5, vI r1] [] (SH T, c2))
        refine of_cev (Q := Q) ?_
        show Q (cev 84 3 78 [vR 50, vI x1, vI x2, vI r1, vI x5, vI x5, vU] [] (SH T, c2))
        refine of_cev (Q := Q) ?_
        refine wq_pos (Q := Q) k.1 ?_
        replace k := k.2
        exact k
      · replace k := k.2 h
        refine wq_ite (Q := Q) (p := r1 < x3) (fun h => ?_) (fun h => ?_)
        · replace k := k.1 h
          show Q (cev 84 3 71 [vR 50, vI x1, vI x2, vU, vU, vI x5, vI r1] [] (SH T, c2))
          refine of_cev (Q := Q) ?_
          show Q (cev 84 3 78 [vR 50, vI x1, vI x2, vI r1, vI x5, vI x5, vU] [] (SH T, c2))
          refine of_cev (Q := Q) ?_
          refine wq_pos (Q := Q) k.1 ?_
          replace k := k.2
          exact k
        · replace k := k.2 h
          show Q (cev 84 3 78 [vR 50, vI x1, vI x2, vI x3, vI x4, vI x5, vU] [] (SH T, c2))
          refine of_cev (Q := Q) ?_
          refine wq_pos (Q := Q) k.1 ?_
          replace k := k.2
          exact k
  · replace k := k.2 h
    show Q (cev 84 3 84 [vR 50, vI x1, vI x2, vI x3, vI x4, vU, vU] [] (SH T, c))
    refine of_cev (Q := Q) ?_
    refine wq_pos (Q := Q) k.1.1 ?_
    refine wq_pos (Q := Q) k.1.2 ?_
    replace k := k.2
    exact k
set_option maxRecDepth 20000 in
theorem W_X8_needBehind {T : List Shp} {c : Nat → Int → Int} {Q : Res → Prop} {x1 x2 : Int} (k : Q (cev 85 2 8 [vR 50, vI x1, vI x2, vI 0, vI x1, vI 0, vU] [] (SH T, c))) : Q (ccal 85 [vR 50, vI x1, vI x2] (SH T, c)) := by
  refine of_cev (Q := Q) ?_
  exact k
set_option maxRecDepth 20000 in
theorem W_X8_needBehind_8 {T : List Shp} {c : Nat → Int → Int} {Q : Res → Prop} {x1 x2 x3 x4 x5 : Int} (k : ((x5 < (c 1 11) → ((x4 = 0 → ((-2147483648 ≤ x3 + 1 ∧ x3 + 1 < 2147483648) ∧ Q (some (some (vI (x3 + 1)), (SH T, c))))) ∧ (¬ x4 = 0 → (((iand (ishr x4 x5) 1) = 1 → (QI T (fun r1 c2 => ((r1 = x1 → Q (some (some (vI (-1)), (SH T, c2)))) ∧ (¬ r1 = x1 → (((0 ≤ r1 ∧ r1 < 64) ∧ (-2147483648 ≤ x5 + 1 ∧ x5 + 1 < 2147483648)) ∧ Q (cev 85 2 8 [vR 50, vI x1, vI x2, vI (if x3 < (c2 54 r1) then (c2 54 r1) else x3), vI (ixor x4 r1), vI (x5 + 1), vU] [] (SH T, c2)))))) (ccal 86 [vR 50, vI x4, vI x5, vI x2] (SH T, c)))) ∧ (¬ (iand (ishr x4 x5) 1) = 1 → ((-2147483648 ≤ x5 + 1 ∧ x5 + 1 < 2147483648) ∧ Q (cev 85 2 8 [vR 50, vI x1, vI x2, vI x3, vI x4, vI (x5 + 1), vU] [] (SH T, c)))))))) ∧ (¬ x5 < (c 1 11) → ((-2147483648 ≤ x3 + 1 ∧ x3 + 1 < 2147483648) ∧ Q (some (some (vI (x3 + 1)), (SH T, c))))))) : Q (cev 85 2 8 [vR 50, vI x1, vI x2, vI x3, vI x4, vI x5, vU] [] (SH T, c)) := by
  refine of_cev (Q := Q) ?_
  refine wq_ite (Q := Q) (p := x5 < (c 1 11)) (fun h => ?_) (fun h => ?_)
  · replace k := k.1 h
    refine wq_ite (Q := Q) (p := x4 = 0) (fun h => ?_) (fun h => ?_)
    · replace k := k.1 h
      show Q (cev 85 2 80 [vU, vU, vU, vI x3, vU, vU, vU] [] (SH T, c))
      refine of_cev (Q := Q) ?_
      refine wq_pos (Q := Q) k.1 ?_
      replace k := k.2
      exact k
    · replace k := k.2 h
      refine wq_ite (Q := Q) (p := (iand (ishr x4 x5) 1) = 1) (fun h => ?_) (fun h => ?_)
      · replace k := k.1 h
        refine wq_callI (Q := Q) rfl k ?_
        intro r1 c2 k
        refine wq_ite (Q := Q) (p := r1 = x1) (fun h => ?_) (fun h => ?_)
        · replace k := k.1 h
          exact k
        · replace k := k.2 h
          show Q (cev 85 2 55 [vR 50, vI x1, vI x2, vI x3, vI x4, vI x5, vI r1] [] (SH T, c2))
          refine of_cev (Q := Q) ?_
          refine wq_pos (Q := Q) k.1.1 ?_
          show Q (cev 85 2 74 [vR 50, vI x1, vI x2, vI (if x3 < (c2 54 r1) then (c2 54 r1) else x3), vI (ixor x4 r1), vI x5, vU] [] (SH T, c2))
          refine of_cev (Q := Q) ?_
          refine wq_pos (Q := Q) k.1.2 ?_
          replace k := k.2
          exact k
      · replace k := k.2 h
        show Q (cev 85 2 74 [vR 50, vI x1, vI x2, vI x3, vI x4, vI x5, vU] [] (SH T, c))
        refine of_cev (Q := Q) ?_
        refine wq_pos (Q := Q) k.1 ?_
        replace k := k.2
        exact k
  · replace k := k.2 h
    show Q (cev 85 2 80 [vU, vU, vU, vI x3, vU, vU, vU] [] (SH T, c))
    refine of_cev (Q := Q) ?_
    refine wq_pos (Q := Q) k.1 ?_
    replace k := k.2
    exact k
set_option maxRecDepth 20000 in
theorem W_X8_sameIn {T : List Shp} {c : Nat → Int → Int} {Q : Res → Prop} {x1 x2 x3 : Int} (k : Q (cev 86 1 6 [vR 50, vI x1, vI x2, vI x3, vI 0, vI x2] [] (SH T, c))) : Q (ccal 86 [vR 50, vI x1, vI x2, vI x3] (SH T, c)) := by
  refine of_cev (Q := Q) ?_
  exact k
set_option maxRecDepth 20000 in
theorem W_X8_sameIn_6 {T : List Shp} {c : Nat → Int → Int} {Q : Res → Prop} {x1 x2 x3 x4 x5 : Int} (k : ((x5 < (c 1 11) → (((iand (ishr x1 x5) 1) = 1 → (((-2147483648 ≤ x5 * 12 ∧ x5 * 12 < 2147483648) ∧ (-2147483648 ≤ (x5 * 12) + x3 ∧ (x5 * 12) + x3 < 2147483648) ∧ (0 ≤ ((x5 * 12) + x3) ∧ ((x5 * 12) + x3) < 72) ∧ (-2147483648 ≤ x2 * 12 ∧ x2 * 12 < 2147483648) ∧ (-2147483648 ≤ (x2 * 12) + x3 ∧ (x2 * 12) + x3 < 2147483648) ∧ (0 ≤ ((x2 * 12) + x3) ∧ ((x2 * 12) + x3) < 72)) ∧ (((c 8 ((x5 * 12) + x3)) = (c 8 ((x2 * 12) + x3)) → ((-2147483648 ≤ x5 + 1 ∧ x5 + 1 < 2147483648) ∧ Q (cev 86 1 6 [vR 50, vI x1, vI x2, vI x3, vI (ior x4 (ishl 1 x5)), vI (x5 + 1)] [] (SH T, c)))) ∧ (¬ (c 8 ((x5 * 12) + x3)) = (c 8 ((x2 * 12) + x3)) → ((-2147483648 ≤ x5 + 1 ∧ x5 + 1 < 2147483648) ∧ Q (cev 86 1 6 [vR 50, vI x1, vI x2, vI x3, vI x4, vI (x5 + 1)] [] (SH T, c))))))) ∧ (¬ (iand (ishr x1 x5) 1) = 1 → ((-2147483648 ≤ x5 + 1 ∧ x5 + 1 < 2147483648) ∧ Q (cev 86 1 6 [vR 50, vI x1, vI x2, vI x3, vI x4, vI (x5 + 1)] [] (SH T, c)))))) ∧ (¬ x5 < (c 1 11) → Q (some (some (vI x4), (SH T, c)))))) : Q (cev 86 1 6 [vR 50, vI x1, vI x2, vI x3, vI x4, vI x5] [] (SH T, c)) := by
  refine of_cev (Q := Q) ?_
  refine wq_ite (Q := Q) (p := x5 < (c 1 11)) (fun h => ?_) (fun h => ?_)
  · replace k := k.1 h
    refine wq_ite (Q := Q) (p := (iand (ishr x1 x5) 1) = 1) (fun h => ?_) (fun h => ?_)
    · replace k := k.1 h
      refine wq_pos (Q := Q) k.1.1 ?_
      refine wq_pos (Q := Q) k.1.2.1 ?_
      refine wq_pos (Q := Q) k.1.2.2.1 ?_
      refine wq_pos (Q := Q) k.1.2.2.2.1 ?_
      refine wq_pos (Q := Q) k.1.2.2.2.2.1 ?_
      refine wq_pos (Q := Q) k.1.2.2.2.2.2 ?_
      replace k := k.2
      refine wq_ite (Q := Q) (p := (c 8 ((x5 * 12) + x3)) = (c 8 ((x2 * 12) + x3))) (fun h => ?_) (fun h => ?_)
      · replace k := k.1 h
        show Q (cev 86 1 69 [vR 50, vI x1, vI x2, vI x3, vI (ior x4 (ishl 1 x5)), vI x5] [] (SH T, c))
        refine of_cev (Q := Q) ?_
        refine wq_pos (Q := Q) k.1 ?_
        replace k := k.2
        exact k
      · replace k := k.2 h
        show Q (cev 86 1 69 [vR 50, vI x1, vI x2, vI x3, vI x4, vI x5] [] (SH T, c))
        refine of_cev (Q := Q) ?_
        refine wq_pos (Q := Q) k.1 ?_
        replace k := k.2
        exact k
    · replace k := k.2 h
      show Q (cev 86 1 69 [vR 50, vI x1, vI x2, vI x3, vI x4, vI x5] [] (SH T, c))
      refine of_cev (Q := Q) ?_
      refine wq_pos (Q := Q) k.1 ?_
      replace k := k.2
      exact k
  · replace k := k.2 h
    show Q (cev 86 1 75 [vU, vU, vU, vU, vI x4, vU] [] (SH T, c))
    refine of_cev (Q := Q) ?_
    exact k
set_option maxRecDepth 20000 in
theorem W_X8_toneIn {T : List Shp} {c : Nat → Int → Int} {Q : Res → Prop} {x1 x2 : Int} (k : ((x1 = 0 → ((0 ≤ x2 ∧ x2 < 204) ∧ Q (some (some (vI (c 7 x2)), (SH T, c))))) ∧ (¬ x1 = 0 → (((-2147483648 ≤ x1 - 1 ∧ x1 - 1 < 2147483648) ∧ (-2147483648 ≤ (x1 - 1) * 12 ∧ (x1 - 1) * 12 < 2147483648) ∧ (-2147483648 ≤ ((x1 - 1) * 12) + x2 ∧ ((x1 - 1) * 12) + x2 < 2147483648) ∧ (0 ≤ (((x1 - 1) * 12) + x2) ∧ (((x1 - 1) * 12) + x2) < 72)) ∧ Q (some (some (vI (c 8 (((x1 - 1) * 12) + x2))), (SH T, c))))))) : Q (ccal 87 [vR 50, vI x1, vI x2] (SH T, c)) := by
  refine of_cev (Q := Q) ?_
  refine wq_ite (Q := Q) (p := x1 = 0) (fun h => ?_) (fun h => ?_)
  · replace k := k.1 h
    refine wq_pos (Q := Q) k.1 ?_
    replace k := k.2
    exact k
  · replace k := k.2 h
    show Q (cev 87 1 16 [vR 50, vI x1, vI x2] [] (SH T, c))
    refine of_cev (Q := Q) ?_
    refine wq_pos (Q := Q) k.1.1 ?_
    refine wq_pos (Q := Q) k.1.2.1 ?_
    refine wq_pos (Q := Q) k.1.2.2.1 ?_
    refine wq_pos (Q := Q) k.1.2.2.2 ?_
    replace k := k.2
    exact k
set_option maxRecDepth 20000 in
theorem W_X8_fromLayer {T : List Shp} {c : Nat → Int → Int} {Q : Res → Prop} {x1 x2 : Int} (k : Q (cev 88 1 5 [vR 50, vI x1, vI x2, vI 0, vI 0] [] (SH T, c))) : Q (ccal 88 [vR 50, vI x1, vI x2] (SH T, c)) := by
  refine of_cev (Q := Q) ?_
  exact k
set_option maxRecDepth 20000 in
theorem W_X8_fromLayer_5 {T : List Shp} {c : Nat → Int → Int} {Q : Res → Prop} {x1 x2 x3 x4 : Int} (k : ((x4 < 12 → (((-2147483648 ≤ x1 * 12 ∧ x1 * 12 < 2147483648) ∧ (-2147483648 ≤ (x1 * 12) + x4 ∧ (x1 * 12) + x4 < 2147483648) ∧ (0 ≤ ((x1 * 12) + x4) ∧ ((x1 * 12) + x4) < 72) ∧ (-2147483648 ≤ x2 * 12 ∧ x2 * 12 < 2147483648) ∧ (-2147483648 ≤ (x2 * 12) + x4 ∧ (x2 * 12) + x4 < 2147483648) ∧ (0 ≤ ((x2 * 12) + x4) ∧ ((x2 * 12) + x4) < 204)) ∧ (((c 8 ((x1 * 12) + x4)) = (c 7 ((x2 * 12) + x4)) → ((-2147483648 ≤ x4 + 1 ∧ x4 + 1 < 2147483648) ∧ Q (cev 88 1 5 [vR 50, vI x1, vI x2, vI x3, vI (x4 + 1)] [] (SH T, c)))) ∧ (¬ (c 8 ((x1 * 12) + x4)) = (c 7 ((x2 * 12) + x4)) → (((-2147483648 ≤ x3 + 1 ∧ x3 + 1 < 2147483648) ∧ (-2147483648 ≤ x4 + 1 ∧ x4 + 1 < 2147483648)) ∧ Q (cev 88 1 5 [vR 50, vI x1, vI x2, vI (x3 + 1), vI (x4 + 1)] [] (SH T, c))))))) ∧ (¬ x4 < 12 → Q (some (some (vI x3), (SH T, c)))))) : Q (cev 88 1 5 [vR 50, vI x1, vI x2, vI x3, vI x4] [] (SH T, c)) := by
  refine of_cev (Q := Q) ?_
  refine wq_ite (Q := Q) (p := x4 < 12) (fun h => ?_) (fun h => ?_)
  · replace k := k.1 h
    refine wq_pos (Q := Q) k.1.1 ?_
    refine wq_pos (Q := Q) k.1.2.1 ?_
    refine wq_pos (Q := Q) k.1.2.2.1 ?_
    refine wq_pos (Q := Q) k.1.2.2.2.1 ?_
    refine wq_pos (Q := Q) k.1.2.2.2.2.1 ?_
    refine wq_pos (Q := Q) k.1.2.2.2.2.2 ?_
    replace k := k.2
    refine wq_ite (Q := Q) (p := (c 8 ((x1 * 12) + x4)) = (c 7 ((x2 * 12) + x4))) (fun h => ?_) (fun h => ?_)
    · replace k := k.1 h
      show Q (cev 88 1 48 [vR 50, vI x1, vI x2, vI x3, vI x4] [] (SH T, c))
      refine of_cev (Q := Q) ?_
      refine wq_pos (Q := Q) k.1 ?_
      replace k := k.2
      exact k
    · replace k := k.2 h
      refine wq_pos (Q := Q) k.1.1 ?_
      show Q (cev 88 1 48 [vR 50, vI x1, vI x2, vI (x3 + 1), vI x4] [] (SH T, c))
      refine of_cev (Q := Q) ?_
      refine wq_pos (Q := Q) k.1.2 ?_
      replace k := k.2
      exact k
  · replace k := k.2 h
    show Q (cev 88 1 54 [vU, vU, vU, vI x3, vU] [] (SH T, c))
    refine of_cev (Q := Q) ?_
    exact k
set_option maxRecDepth 20000 in
theorem W_X8_weighSet {T : List Shp} {c : Nat → Int → Int} {Q : Res → Prop} {x1 : Int} (k : ((-2147483648 ≤ x1 - 1 ∧ x1 - 1 < 2147483648) ∧ (((iand x1 (x1 - 1)) = 0 → ((0 ≤ x1 ∧ x1 < 128) ∧ Q (some (none, (SH T, (up (up c 51 x1 0) 52 x1 1)))))) ∧ (¬ (iand x1 (x1 - 1)) = 0 → (((0 ≤ x1 ∧ x1 < 128) ∧ (-2147483648 ≤ -(iand x1 (x1 - 1)) ∧ -(iand x1 (x1 - 1)) < 2147483648)) ∧ Q (cev 89 3 53 [vR 50, vI x1, vU, vI (iand (iand x1 (x1 - 1)) (-(iand x1 (x1 - 1)))), vI (ixor (iand x1 (x1 - 1)) (iand (iand x1 (x1 - 1)) (-(iand x1 (x1 - 1))))), vI 0] [] (SH T, (up (up c 51 x1 84) 52 x1 0)))))))) : Q (ccal 89 [vR 50, vI x1] (SH T, c)) := by
  refine of_cev (Q := Q) ?_
  refine wq_pos (Q := Q) k.1 ?_
  replace k := k.2
  refine wq_ite (Q := Q) (p := (iand x1 (x1 - 1)) = 0) (fun h => ?_) (fun h => ?_)
  · replace k := k.1 h
    refine wq_pos (Q := Q) k.1 ?_
    refine wq_pos (Q := Q) k.1 ?_
    replace k := k.2
    exact k
  · replace k := k.2 h
    show Q (cev 89 3 25 [vR 50, vI x1, vI (iand x1 (x1 - 1)), vU, vU, vU] [] (SH T, c))
    refine of_cev (Q := Q) ?_
    refine wq_pos (Q := Q) k.1.1 ?_
    refine wq_pos (Q := Q) k.1.1 ?_
    refine wq_pos (Q := Q) k.1.2 ?_
    replace k := k.2
    exact k
set_option maxRecDepth 20000 in
theorem W_X8_weighSet_53 {T : List Shp} {c : Nat → Int → Int} {Q : Res → Prop} {x1 x3 x4 x5 : Int} (k : ((x4 < x5 → Q (some (none, (SH T, c)))) ∧ (¬ x4 < x5 → (((iand x5 x4) = x5 → (QV T (fun c1 => ((-2147483648 ≤ x5 + 1 ∧ x5 + 1 < 2147483648) ∧ Q (cev 89 3 53 [vR 50, vI x1, vU, vI x3, vI x4, vI (x5 + 1)] [] (SH T, c1)))) (ccal 90 [vR 50, vI x1, vI (ior x5 x3)] (SH T, c)))) ∧ (¬ (iand x5 x4) = x5 → ((-2147483648 ≤ x5 + 1 ∧ x5 + 1 < 2147483648) ∧ Q (cev 89 3 53 [vR 50, vI x1, vU, vI x3, vI x4, vI (x5 + 1)] [] (SH T, c)))))))) : Q (cev 89 3 53 [vR 50, vI x1, vU, vI x3, vI x4, vI x5] [] (SH T, c)) := by
  refine of_cev (Q := Q) ?_
  refine wq_ite (Q := Q) (p := x4 < x5) (fun h => ?_) (fun h => ?_)
  · replace k := k.1 h
    show Q (cev 89 3 85 [vU, vU, vU, vU, vU, vU] [] (SH T, c))
    refine of_cev (Q := Q) ?_
    exact k
  · replace k := k.2 h
    refine wq_ite (Q := Q) (p := (iand x5 x4) = x5) (fun h => ?_) (fun h => ?_)
    · replace k := k.1 h
      refine wq_callV (Q := Q) rfl k ?_
      intro c1 k
      show Q (cev 89 3 79 [vR 50, vI x1, vU, vI x3, vI x4, vI x5] [] (SH T, c1))
      refine of_cev (Q := Q) ?_
      refine wq_pos (Q := Q) k.1 ?_
      replace k := k.2
      exact k
    · replace k := k.2 h
      show Q (cev 89 3 79 [vR 50, vI x1, vU, vI x3, vI x4, vI x5] [] (SH T, c))
      refine of_cev (Q := Q) ?_
      refine wq_pos (Q := Q) k.1 ?_
      replace k := k.2
      exact k
set_option maxRecDepth 20000 in
theorem W_X8_joinBranch {T : List Shp} {c : Nat → Int → Int} {Q : Res → Prop} {x1 x2 : Int} (k : (QI T (fun r1 c2 => (((0 ≤ x2 ∧ x2 < 128) ∧ (0 ≤ (ixor x1 x2) ∧ (ixor x1 x2) < 128) ∧ (-2147483648 ≤ (c2 52 x2) * (c2 52 (ixor x1 x2)) ∧ (c2 52 x2) * (c2 52 (ixor x1 x2)) < 2147483648)) ∧ Q (cev 90 2 33 [vR 50, vI x1, vI x2, vI (if 0 < r1 then r1 else 0), vI (ixor x1 x2), vI ((c2 52 x2) * (c2 52 (ixor x1 x2))), vI 0, vU] [] (SH T, c2)))) (ccal 182 [vI x1] (SH T, c)))) : Q (ccal 90 [vR 50, vI x1, vI x2] (SH T, c)) := by
  refine of_cev (Q := Q) ?_
  refine wq_callI (Q := Q) rfl k ?_
  intro r1 c2 k
  refine wq_pos (Q := Q) k.1.1 ?_
  refine wq_pos (Q := Q) k.1.2.1 ?_
  refine wq_pos (Q := Q) k.1.2.2 ?_
  replace k := k.2
  exact k
set_option maxRecDepth 20000 in
theorem W_X8_joinBranch_33 {T : List Shp} {c : Nat → Int → Int} {Q : Res → Prop} {x1 x2 x3 x4 x5 x6 : Int} (k : ((x6 < (c 49 1) → (((iand (ishr x2 x6) 1) = 1 → (((0 ≤ x2 ∧ x2 < 128) ∧ (0 ≤ x4 ∧ x4 < 128) ∧ (-2147483648 ≤ (c 51 x2) + (c 51 x4) ∧ (c 51 x2) + (c 51 x4) < 2147483648) ∧ (-2147483648 ≤ x3 * 7 ∧ x3 * 7 < 2147483648) ∧ (-2147483648 ≤ (x3 * 7) + x6 ∧ (x3 * 7) + x6 < 2147483648) ∧ (0 ≤ ((x3 * 7) + x6) ∧ ((x3 * 7) + x6) < 49) ∧ (-2147483648 ≤ ((c 51 x2) + (c 51 x4)) + (c 50 ((x3 * 7) + x6)) ∧ ((c 51 x2) + (c 51 x4)) + (c 50 ((x3 * 7) + x6)) < 2147483648) ∧ (0 ≤ x1 ∧ x1 < 128)) ∧ (((((c 51 x2) + (c 51 x4)) + (c 50 ((x3 * 7) + x6))) < (c 51 x1) → ((0 ≤ x1 ∧ x1 < 128) ∧ Q (cev 90 2 107 [vR 50, vI x1, vI x2, vI x3, vI x4, vI x5, vI x6, vI (((c 51 x2) + (c 51 x4)) + (c 50 ((x3 * 7) + x6)))] [] (SH T, (up (up c 51 x1 (((c 51 x2) + (c 51 x4)) + (c 50 ((x3 * 7) + x6)))) 52 x1 0))))) ∧ (¬ (((c 51 x2) + (c 51 x4)) + (c 50 ((x3 * 7) + x6))) < (c 51 x1) → Q (cev 90 2 107 [vR 50, vI x1, vI x2, vI x3, vI x4, vI x5, vI x6, vI (((c 51 x2) + (c 51 x4)) + (c 50 ((x3 * 7) + x6)))] [] (SH T, c)))))) ∧ (¬ (iand (ishr x2 x6) 1) = 1 → ((-2147483648 ≤ x6 + 1 ∧ x6 + 1 < 2147483648) ∧ Q (cev 90 2 33 [vR 50, vI x1, vI x2, vI x3, vI x4, vI x5, vI (x6 + 1), vU] [] (SH T, c)))))) ∧ (¬ x6 < (c 49 1) → Q (some (none, (SH T, c)))))) : Q (cev 90 2 33 [vR 50, vI x1, vI x2, vI x3, vI x4, vI x5, vI x6, vU] [] (SH T, c)) := by
  refine of_cev (Q := Q) ?_
  refine wq_ite (Q := Q) (p := x6 < (c 49 1)) (fun h => ?_) (fun h => ?_)
  · replace k := k.1 h
    refine wq_ite (Q := Q) (p := (iand (ishr x2 x6) 1) = 1) (fun h => ?_) (fun h => ?_)
    · replace k := k.1 h
      refine wq_pos (Q := Q) k.1.1 ?_
      refine wq_pos (Q := Q) k.1.2.1 ?_
      refine wq_pos (Q := Q) k.1.2.2.1 ?_
      refine wq_pos (Q := Q) k.1.2.2.2.1 ?_
      refine wq_pos (Q := Q) k.1.2.2.2.2.1 ?_
      refine wq_pos (Q := Q) k.1.2.2.2.2.2.1 ?_
      refine wq_pos (Q := Q) k.1.2.2.2.2.2.2.1 ?_
      refine wq_pos (Q := Q) k.1.2.2.2.2.2.2.2 ?_
      replace k := k.2
      refine wq_ite (Q := Q) (p := (((c 51 x2) + (c 51 x4)) + (c 50 ((x3 * 7) + x6))) < (c 51 x1)) (fun h => ?_) (fun h => ?_)
      · replace k := k.1 h
        refine wq_pos (Q := Q) k.1 ?_
        refine wq_pos (Q := Q) k.1 ?_
        replace k := k.2
        exact k
      · replace k := k.2 h
        exact k
    · replace k := k.2 h
      show Q (cev 90 2 129 [vR 50, vI x1, vI x2, vI x3, vI x4, vI x5, vI x6, vU] [] (SH T, c))
      refine of_cev (Q := Q) ?_
      refine wq_pos (Q := Q) k.1 ?_
      replace k := k.2
      exact k
  · replace k := k.2 h
    show Q (cev 90 2 135 [vU, vU, vU, vU, vU, vU, vU, vU] [] (SH T, c))
    refine of_cev (Q := Q) ?_
    exact k
set_option maxRecDepth 20000 in
theorem W_X8_joinBranch_107 {T : List Shp} {c : Nat → Int → Int} {Q : Res → Prop} {x1 x2 x3 x4 x5 x6 x7 : Int} (k : ((0 ≤ x1 ∧ x1 < 128) ∧ ((x7 = (c 51 x1) → (((0 ≤ x1 ∧ x1 < 128) ∧ (-2147483648 ≤ (c 52 x1) + x5 ∧ (c 52 x1) + x5 < 2147483648) ∧ (-2147483648 ≤ x6 + 1 ∧ x6 + 1 < 2147483648)) ∧ Q (cev 90 2 33 [vR 50, vI x1, vI x2, vI x3, vI x4, vI x5, vI (x6 + 1), vU] [] (SH T, (up c 52 x1 ((c 52 x1) + x5)))))) ∧ (¬ x7 = (c 51 x1) → ((-2147483648 ≤ x6 + 1 ∧ x6 + 1 < 2147483648) ∧ Q (cev 90 2 33 [vR 50, vI x1, vI x2, vI x3, vI x4, vI x5, vI (x6 + 1), vU] [] (SH T, c))))))) : Q (cev 90 2 107 [vR 50, vI x1, vI x2, vI x3, vI x4, vI x5, vI x6, vI x7] [] (SH T, c)) := by
  refine of_cev (Q := Q) ?_
  refine wq_pos (Q := Q) k.1 ?_
  replace k := k.2
  refine wq_ite (Q := Q) (p := x7 = (c 51 x1)) (fun h => ?_) (fun h => ?_)
  · replace k := k.1 h
    refine wq_pos (Q := Q) k.1.1 ?_
    refine wq_pos (Q := Q) k.1.2.1 ?_
    refine wq_pos (Q := Q) k.1.1 ?_
    show Q (cev 90 2 129 [vR 50, vI x1, vI x2, vI x3, vI x4, vI x5, vI x6, vU] [] (SH T, (up c 52 x1 ((c 52 x1) + x5))))
    refine of_cev (Q := Q) ?_
    refine wq_pos (Q := Q) k.1.2.2 ?_
    replace k := k.2
    exact k
  · replace k := k.2 h
    show Q (cev 90 2 129 [vR 50, vI x1, vI x2, vI x3, vI x4, vI x5, vI x6, vU] [] (SH T, c))
    refine of_cev (Q := Q) ?_
    refine wq_pos (Q := Q) k.1 ?_
    replace k := k.2
    exact k
set_option maxRecDepth 20000 in
theorem W_X8_fits {T : List Shp} {c : Nat → Int → Int} {Q : Res → Prop} {x1 x2 : Int} (k : ((x1 < (c 49 1) → ((1 + 1 ≤ (2 + 2 * (8 - x1).toNat)) ∧ (QI T (fun r1 c2 => (((-2147483648 ≤ x2 + r1 ∧ x2 + r1 < 2147483648) ∧ (1 + 1 ≤ (2 + 2 * (8 - x1).toNat))) ∧ (QI T (fun r3 c4 => ((r3 < (x2 + r1) → Q (some (some (vI 0), (SH T, c4)))) ∧ (¬ r3 < (x2 + r1) → Q (cev 91 (2 + 2 * (8 - x1).toNat) 40 [vR 50, vI x1, vI x2, vI 0] [] (SH T, c4))))) (ccal 80 [vR 50] (SH T, c2))))) (ccal 92 [vR 50, vI x1] (SH T, c))))) ∧ (¬ x1 < (c 49 1) → ((1 + 1 ≤ (2 + 2 * (8 - x1).toNat)) ∧ (QI T (fun r5 c6 => ((x2 = r5 → Q (some (some (vI 1), (SH T, c6)))) ∧ (¬ x2 = r5 → Q (some (some (vI 0), (SH T, c6)))))) (ccal 80 [vR 50] (SH T, c))))))) : Q (ccal 91 [vR 50, vI x1, vI x2] (SH T, c)) := by
  refine of_cev (Q := Q) ?_
  refine wq_ite (Q := Q) (p := x1 < (c 49 1)) (fun h => ?_) (fun h => ?_)
  · replace k := k.1 h
    show Q (cev 91 (2 + 2 * (8 - x1).toNat) 22 [vR 50, vI x1, vI x2, vU] [] (SH T, c))
    refine of_cev (Q := Q) ?_
    have kk2 := k.1
    replace k := k.2
    refine wq_callI (Q := Q) (Nat.ble_eq_true_of_le kk2) k ?_
    intro r1 c2 k
    refine wq_pos (Q := Q) k.1.1 ?_
    have kk1 := k.1.2
    replace k := k.2
    refine wq_callI (Q := Q) (Nat.ble_eq_true_of_le kk1) k ?_
    intro r3 c4 k
    refine wq_ite (Q := Q) (p := r3 < (x2 + r1)) (fun h => ?_) (fun h => ?_)
    · replace k := k.1 h
      exact k
    · replace k := k.2 h
      show Q (cev 91 (2 + 2 * (8 - x1).toNat) 38 [vR 50, vI x1, vI x2, vU] [] (SH T, c4))
      refine of_cev (Q := Q) ?_
      exact k
  · replace k := k.2 h
    have kk0 := k.1
    replace k := k.2
    refine wq_callI (Q := Q) (Nat.ble_eq_true_of_le kk0) k ?_
    intro r5 c6 k
    refine wq_ite (Q := Q) (p := x2 = r5) (fun h => ?_) (fun h => ?_)
    · replace k := k.1 h
      exact k
    · replace k := k.2 h
      show Q (cev 91 (2 + 2 * (8 - x1).toNat) 20 [vU, vU, vU, vU] [] (SH T, c6))
      refine of_cev (Q := Q) ?_
      exact k
set_option maxRecDepth 20000 in
theorem W_X8_fits_40 {T : List Shp} {c : Nat → Int → Int} {Q : Res → Prop} {nd : Nat} {x1 x2 x3 : Int} (k : ((x3 < (c 49 1) → ((1 + 1 ≤ nd) ∧ (QI T (fun r1 c2 => ((r1 = 0 → (((0 ≤ x1 ∧ x1 < 7) ∧ (-2147483648 ≤ x1 + 1 ∧ x1 + 1 < 2147483648) ∧ (-2147483648 ≤ x1 * 7 ∧ x1 * 7 < 2147483648) ∧ (-2147483648 ≤ (x1 * 7) + x3 ∧ (x1 * 7) + x3 < 2147483648) ∧ (0 ≤ ((x1 * 7) + x3) ∧ ((x1 * 7) + x3) < 49) ∧ (-2147483648 ≤ x2 + (c2 50 ((x1 * 7) + x3)) ∧ x2 + (c2 50 ((x1 * 7) + x3)) < 2147483648) ∧ ((2 + 2 * (8 - (x1 + 1)).toNat) + 1 ≤ nd)) ∧ (QI T (fun r3 c4 => ((r3 = 0 → (((0 ≤ x1 ∧ x1 < 7) ∧ (-2147483648 ≤ x3 + 1 ∧ x3 + 1 < 2147483648)) ∧ Q (cev 91 nd 40 [vR 50, vI x1, vI x2, vI (x3 + 1)] [] (SH T, (up c4 53 x1 (-1)))))) ∧ (¬ r3 = 0 → Q (some (some (vI 1), (SH T, c4)))))) (ccal 91 [vR 50, vI (x1 + 1), vI (x2 + (c2 50 ((x1 * 7) + x3)))] (SH T, (up c2 53 x1 x3)))))) ∧ (¬ r1 = 0 → ((-2147483648 ≤ x3 + 1 ∧ x3 + 1 < 2147483648) ∧ Q (cev 91 nd 40 [vR 50, vI x1, vI x2, vI (x3 + 1)] [] (SH T, c2)))))) (ccal 93 [vR 50, vI x3, vI x1] (SH T, c))))) ∧ (¬ x3 < (c 49 1) → Q (some (some (vI 0), (SH T, c)))))) : Q (cev 91 nd 40 [vR 50, vI x1, vI x2, vI x3] [] (SH T, c)) := by
  refine of_cev (Q := Q) ?_
  refine wq_ite (Q := Q) (p := x3 < (c 49 1)) (fun h => ?_) (fun h => ?_)
  · replace k := k.1 h
    have kk0 := k.1
    replace k := k.2
    refine wq_callI (Q := Q) (Nat.ble_eq_true_of_le kk0) k ?_
    intro r1 c2 k
    refine wq_ite (Q := Q) (p := r1 = 0) (fun h => ?_) (fun h => ?_)
    · replace k := k.1 h
      refine wq_pos (Q := Q) k.1.1 ?_
      refine wq_pos (Q := Q) k.1.2.1 ?_
      refine wq_pos (Q := Q) k.1.2.2.1 ?_
      refine wq_pos (Q := Q) k.1.2.2.2.1 ?_
      refine wq_pos (Q := Q) k.1.2.2.2.2.1 ?_
      refine wq_pos (Q := Q) k.1.2.2.2.2.2.1 ?_
      have kk6 := k.1.2.2.2.2.2.2
      replace k := k.2
      refine wq_callI (Q := Q) (Nat.ble_eq_true_of_le kk6) k ?_
      intro r3 c4 k
      refine wq_ite (Q := Q) (p := r3 = 0) (fun h => ?_) (fun h => ?_)
      · replace k := k.1 h
        show Q (cev 91 nd 89 [vR 50, vI x1, vI x2, vI x3] [] (SH T, c4))
        refine of_cev (Q := Q) ?_
        refine wq_pos (Q := Q) k.1.1 ?_
        show Q (cev 91 nd 96 [vR 50, vI x1, vI x2, vI x3] [] (SH T, (up c4 53 x1 (-1))))
        refine of_cev (Q := Q) ?_
        refine wq_pos (Q := Q) k.1.2 ?_
        replace k := k.2
        exact k
      · replace k := k.2 h
        exact k
    · replace k := k.2 h
      show Q (cev 91 nd 96 [vR 50, vI x1, vI x2, vI x3] [] (SH T, c2))
      refine of_cev (Q := Q) ?_
      refine wq_pos (Q := Q) k.1 ?_
      replace k := k.2
      exact k
  · replace k := k.2 h
    show Q (cev 91 nd 102 [vU, vU, vU, vU] [] (SH T, c))
    refine of_cev (Q := Q) ?_
    exact k
set_option maxRecDepth 20000 in
theorem W_X8_leastFrom {T : List Shp} {c : Nat → Int → Int} {Q : Res → Prop} {x1 : Int} (k : Q (cev 92 1 4 [vR 50, vU, vI 0, vI x1, vU, vU] [] (SH T, c))) : Q (ccal 92 [vR 50, vI x1] (SH T, c)) := by
  refine of_cev (Q := Q) ?_
  exact k
set_option maxRecDepth 20000 in
theorem W_X8_leastFrom_4 {T : List Shp} {c : Nat → Int → Int} {Q : Res → Prop} {x2 x3 : Int} (k : ((x3 < (c 49 1) → Q (cev 92 1 19 [vR 50, vU, vI x2, vI x3, vI 12, vI 0] [] (SH T, c))) ∧ (¬ x3 < (c 49 1) → Q (some (some (vI x2), (SH T, c)))))) : Q (cev 92 1 4 [vR 50, vU, vI x2, vI x3, vU, vU] [] (SH T, c)) := by
  refine of_cev (Q := Q) ?_
  refine wq_ite (Q := Q) (p := x3 < (c 49 1)) (fun h => ?_) (fun h => ?_)
  · replace k := k.1 h
    exact k
  · replace k := k.2 h
    show Q (cev 92 1 70 [vU, vU, vI x2, vU, vU, vU] [] (SH T, c))
    refine of_cev (Q := Q) ?_
    exact k
set_option maxRecDepth 20000 in
theorem W_X8_leastFrom_19 {T : List Shp} {c : Nat → Int → Int} {Q : Res → Prop} {x2 x3 x4 x5 : Int} (k : ((x5 < (c 49 1) → ((x5 = x3 → ((-2147483648 ≤ x5 + 1 ∧ x5 + 1 < 2147483648) ∧ Q (cev 92 1 19 [vR 50, vU, vI x2, vI x3, vI x4, vI (x5 + 1)] [] (SH T, c)))) ∧ (¬ x5 = x3 → (((-2147483648 ≤ x3 * 7 ∧ x3 * 7 < 2147483648) ∧ (-2147483648 ≤ (x3 * 7) + x5 ∧ (x3 * 7) + x5 < 2147483648) ∧ (0 ≤ ((x3 * 7) + x5) ∧ ((x3 * 7) + x5) < 49) ∧ (-2147483648 ≤ x5 + 1 ∧ x5 + 1 < 2147483648)) ∧ Q (cev 92 1 19 [vR 50, vU, vI x2, vI x3, vI (if (c 50 ((x3 * 7) + x5)) < x4 then (c 50 ((x3 * 7) + x5)) else x4), vI (x5 + 1)] [] (SH T, c)))))) ∧ (¬ x5 < (c 49 1) → (((-2147483648 ≤ x2 + x4 ∧ x2 + x4 < 2147483648) ∧ (-2147483648 ≤ x3 + 1 ∧ x3 + 1 < 2147483648)) ∧ Q (cev 92 1 4 [vR 50, vU, vI (x2 + x4), vI (x3 + 1), vU, vU] [] (SH T, c)))))) : Q (cev 92 1 19 [vR 50, vU, vI x2, vI x3, vI x4, vI x5] [] (SH T, c)) := by
  refine of_cev (Q := Q) ?_
  refine wq_ite (Q := Q) (p := x5 < (c 49 1)) (fun h => ?_) (fun h => ?_)
  · replace k := k.1 h
    refine wq_ite (Q := Q) (p := x5 = x3) (fun h => ?_) (fun h => ?_)
    · replace k := k.1 h
      show Q (cev 92 1 53 [vR 50, vU, vI x2, vI x3, vI x4, vI x5] [] (SH T, c))
      refine of_cev (Q := Q) ?_
      refine wq_pos (Q := Q) k.1 ?_
      replace k := k.2
      exact k
    · replace k := k.2 h
      refine wq_pos (Q := Q) k.1.1 ?_
      refine wq_pos (Q := Q) k.1.2.1 ?_
      refine wq_pos (Q := Q) k.1.2.2.1 ?_
      show Q (cev 92 1 53 [vR 50, vU, vI x2, vI x3, vI (if (c 50 ((x3 * 7) + x5)) < x4 then (c 50 ((x3 * 7) + x5)) else x4), vI x5] [] (SH T, c))
      refine of_cev (Q := Q) ?_
      refine wq_pos (Q := Q) k.1.2.2.2 ?_
      replace k := k.2
      exact k
  · replace k := k.2 h
    show Q (cev 92 1 59 [vR 50, vU, vI x2, vI x3, vI x4, vU] [] (SH T, c))
    refine of_cev (Q := Q) ?_
    refine wq_pos (Q := Q) k.1.1 ?_
    refine wq_pos (Q := Q) k.1.2 ?_
    replace k := k.2
    exact k
set_option maxRecDepth 20000 in
theorem W_X8_comesFrom {T : List Shp} {c : Nat → Int → Int} {Q : Res → Prop} {x1 x2 : Int} (k : Q (cev 93 1 5 [vR 50, vU, vI x2, vI x1, vI 0] [] (SH T, c))) : Q (ccal 93 [vR 50, vI x1, vI x2] (SH T, c)) := by
  refine of_cev (Q := Q) ?_
  exact k
set_option maxRecDepth 20000 in
theorem W_X8_comesFrom_5 {T : List Shp} {c : Nat → Int → Int} {Q : Res → Prop} {x2 x3 x4 : Int} (k : ((x4 < 7 → ((0 < x3 → ((x3 < 7 → ((x3 = x2 → Q (some (some (vI 1), (SH T, c)))) ∧ (¬ x3 = x2 → (((0 ≤ x3 ∧ x3 < 7) ∧ (-2147483648 ≤ x4 + 1 ∧ x4 + 1 < 2147483648)) ∧ Q (cev 93 1 5 [vR 50, vU, vI x2, vI (c 53 x3), vI (x4 + 1)] [] (SH T, c)))))) ∧ (¬ x3 < 7 → Q (some (some (vI 0), (SH T, c)))))) ∧ (¬ 0 < x3 → Q (some (some (vI 0), (SH T, c)))))) ∧ (¬ x4 < 7 → Q (some (some (vI 0), (SH T, c)))))) : Q (cev 93 1 5 [vR 50, vU, vI x2, vI x3, vI x4] [] (SH T, c)) := by
  refine of_cev (Q := Q) ?_
  refine wq_ite (Q := Q) (p := x4 < 7) (fun h => ?_) (fun h => ?_)
  · replace k := k.1 h
    refine wq_ite (Q := Q) (p := 0 < x3) (fun h => ?_) (fun h => ?_)
    · replace k := k.1 h
      refine wq_ite (Q := Q) (p := x3 < 7) (fun h => ?_) (fun h => ?_)
      · replace k := k.1 h
        refine wq_ite (Q := Q) (p := x3 = x2) (fun h => ?_) (fun h => ?_)
        · replace k := k.1 h
          exact k
        · replace k := k.2 h
          show Q (cev 93 1 29 [vR 50, vU, vI x2, vI x3, vI x4] [] (SH T, c))
          refine of_cev (Q := Q) ?_
          refine wq_pos (Q := Q) k.1.1 ?_
          refine wq_pos (Q := Q) k.1.2 ?_
          replace k := k.2
          exact k
      · replace k := k.2 h
        show Q (cev 93 1 42 [vU, vU, vU, vU, vU] [] (SH T, c))
        refine of_cev (Q := Q) ?_
        exact k
    · replace k := k.2 h
      show Q (cev 93 1 42 [vU, vU, vU, vU, vU] [] (SH T, c))
      refine of_cev (Q := Q) ?_
      exact k
  · replace k := k.2 h
    show Q (cev 93 1 42 [vU, vU, vU, vU, vU] [] (SH T, c))
    refine of_cev (Q := Q) ?_
    exact k
set_option maxRecDepth 20000 in
theorem W_X2_crownTill {T : List Shp} {c : Nat → Int → Int} {Q : Res → Prop} {x1 : Int} (k : Q (cev 13 6 4 [vR 56, vI x1, vI (-1), vI 0] [] (SH T, c))) : Q (ccal 13 [vR 56, vI x1] (SH T, c)) := by
  refine of_cev (Q := Q) ?_
  exact k
set_option maxRecDepth 20000 in
theorem W_X2_crownTill_4 {T : List Shp} {c : Nat → Int → Int} {Q : Res → Prop} {x1 x2 x3 : Int} (k : ((x1 < x3 → Q (some (none, (SH T, c)))) ∧ (¬ x1 < x3 → ((x3 < 100 → ((x2 = (-1) → Q (cev 13 6 32 [vR 56, vI x1, vU, vI x3] [] (SH T, c))) ∧ (¬ x2 = (-1) → (((-2147483648 ≤ x2 * 4 ∧ x2 * 4 < 2147483648) ∧ (0 ≤ x2 * 4 ∧ x2 * 4 + 2 < 32)) ∧ ((c 9 (x2 * 4 + 1) ≤ x3 ∧ x3 < c 9 (x2 * 4 + 2) → (((0 ≤ x3 ∧ x3 < 100) ∧ (-2147483648 ≤ x3 + 1 ∧ x3 + 1 < 2147483648)) ∧ Q (cev 13 6 4 [vR 56, vI x1, vI x2, vI (x3 + 1)] [] (SH T, (up c 57 x3 x2))))) ∧ (¬ (c 9 (x2 * 4 + 1) ≤ x3 ∧ x3 < c 9 (x2 * 4 + 2)) → Q (cev 13 6 32 [vR 56, vI x1, vU, vI x3] [] (SH T, c)))))))) ∧ (¬ x3 < 100 → Q (some (none, (SH T, c)))))))) : Q (cev 13 6 4 [vR 56, vI x1, vI x2, vI x3] [] (SH T, c)) := by
  refine of_cev (Q := Q) ?_
  refine wq_ite (Q := Q) (p := x1 < x3) (fun h => ?_) (fun h => ?_)
  · replace k := k.1 h
    show Q (cev 13 6 68 [vU, vU, vU, vU] [] (SH T, c))
    refine of_cev (Q := Q) ?_
    exact k
  · replace k := k.2 h
    refine wq_ite (Q := Q) (p := x3 < 100) (fun h => ?_) (fun h => ?_)
    · replace k := k.1 h
      refine wq_ite (Q := Q) (p := x2 = (-1)) (fun h => ?_) (fun h => ?_)
      · replace k := k.1 h
        exact k
      · replace k := k.2 h
        refine wq_sum (Q := Q) rfl (S_X7_isAlive T c x2 x3 k.1.1 k.1.2) ?_
        replace k := k.2
        refine wq_b01 (Q := Q) (p := c 9 (x2 * 4 + 1) ≤ x3 ∧ x3 < c 9 (x2 * 4 + 2)) (fun h => ?_) (fun h => ?_)
        · replace k := k.2 h
          exact k
        · replace k := k.1 h
          show Q (cev 13 6 55 [vR 56, vI x1, vI x2, vI x3] [] (SH T, c))
          refine of_cev (Q := Q) ?_
          refine wq_pos (Q := Q) k.1.1 ?_
          refine wq_pos (Q := Q) k.1.2 ?_
          replace k := k.2
          exact k
    · replace k := k.2 h
      show Q (cev 13 6 68 [vU, vU, vU, vU] [] (SH T, c))
      refine of_cev (Q := Q) ?_
      exact k
set_option maxRecDepth 20000 in
theorem W_X2_crownTill_32 {T : List Shp} {c : Nat → Int → Int} {Q : Res → Prop} {x1 x3 : Int} (k : (QV T (fun c1 => ((0 < (c1 55 5) → (((0 ≤ x3 ∧ x3 < 100) ∧ (-2147483648 ≤ x3 + 1 ∧ x3 + 1 < 2147483648)) ∧ Q (cev 13 6 4 [vR 56, vI x1, vI (c1 58 0), vI (x3 + 1)] [] (SH T, (up c1 57 x3 (c1 58 0)))))) ∧ (¬ 0 < (c1 55 5) → (((0 ≤ x3 ∧ x3 < 100) ∧ (-2147483648 ≤ x3 + 1 ∧ x3 + 1 < 2147483648)) ∧ Q (cev 13 6 4 [vR 56, vI x1, vI (-1), vI (x3 + 1)] [] (SH T, (up c1 57 x3 (-1)))))))) (ccal 16 [vR 56, vI x3] (SH T, c)))) : Q (cev 13 6 32 [vR 56, vI x1, vU, vI x3] [] (SH T, c)) := by
  refine of_cev (Q := Q) ?_
  refine wq_callV (Q := Q) rfl k ?_
  intro c1 k
  refine wq_ite (Q := Q) (p := 0 < (c1 55 5)) (fun h => ?_) (fun h => ?_)
  · replace k := k.1 h
    show Q (cev 13 6 55 [vR 56, vI x1, vI (c1 58 0), vI x3] [] (SH T, c1))
    refine of_cev (Q := Q) ?_
    refine wq_pos (Q := Q) k.1.1 ?_
    refine wq_pos (Q := Q) k.1.2 ?_
    replace k := k.2
    exact k
  · replace k := k.2 h
    show Q (cev 13 6 53 [vR 56, vI x1, vU, vI x3] [] (SH T, c1))
    refine of_cev (Q := Q) ?_
    show Q (cev 13 6 55 [vR 56, vI x1, vI (-1), vI x3] [] (SH T, c1))
    refine of_cev (Q := Q) ?_
    refine wq_pos (Q := Q) k.1.1 ?_
    refine wq_pos (Q := Q) k.1.2 ?_
    replace k := k.2
    exact k
set_option maxRecDepth 20000 in
theorem W_X2_reigns {T : List Shp} {c : Nat → Int → Int} {Q : Res → Prop} (k : Q (cev 14 2 4 [vR 56, vI 0, vI 0] [] (SH T, c))) : Q (ccal 14 [vR 56] (SH T, c)) := by
  refine of_cev (Q := Q) ?_
  exact k
set_option maxRecDepth 20000 in
theorem W_X2_reigns_4 {T : List Shp} {c : Nat → Int → Int} {Q : Res → Prop} {x1 x2 : Int} (k : ((x2 < 100 → (QI T (fun r1 c2 => ((r1 = 0 → ((-2147483648 ≤ x2 + 1 ∧ x2 + 1 < 2147483648) ∧ Q (cev 14 2 4 [vR 56, vI x1, vI (x2 + 1)] [] (SH T, c2)))) ∧ (¬ r1 = 0 → (((-2147483648 ≤ x1 + 1 ∧ x1 + 1 < 2147483648) ∧ (-2147483648 ≤ x2 + 1 ∧ x2 + 1 < 2147483648)) ∧ Q (cev 14 2 4 [vR 56, vI (x1 + 1), vI (x2 + 1)] [] (SH T, c2)))))) (ccal 17 [vR 56, vI x2] (SH T, c)))) ∧ (¬ x2 < 100 → Q (some (some (vI x1), (SH T, c)))))) : Q (cev 14 2 4 [vR 56, vI x1, vI x2] [] (SH T, c)) := by
  refine of_cev (Q := Q) ?_
  refine wq_ite (Q := Q) (p := x2 < 100) (fun h => ?_) (fun h => ?_)
  · replace k := k.1 h
    refine wq_callI (Q := Q) rfl k ?_
    intro r1 c2 k
    refine wq_ite (Q := Q) (p := r1 = 0) (fun h => ?_) (fun h => ?_)
    · replace k := k.1 h
      show Q (cev 14 2 21 [vR 56, vI x1, vI x2] [] (SH T, c2))
      refine of_cev (Q := Q) ?_
      refine wq_pos (Q := Q) k.1 ?_
      replace k := k.2
      exact k
    · replace k := k.2 h
      refine wq_pos (Q := Q) k.1.1 ?_
      show Q (cev 14 2 21 [vR 56, vI (x1 + 1), vI x2] [] (SH T, c2))
      refine of_cev (Q := Q) ?_
      refine wq_pos (Q := Q) k.1.2 ?_
      replace k := k.2
      exact k
  · replace k := k.2 h
    show Q (cev 14 2 27 [vU, vI x1, vU] [] (SH T, c))
    refine of_cev (Q := Q) ?_
    exact k
set_option maxRecDepth 20000 in
theorem W_X2_reignOf {T : List Shp} {c : Nat → Int → Int} {Q : Res → Prop} {x1 x2 : Int} (k : Q (cev 15 2 5 [vR 56, vI x1, vI x2, vI 0, vI 0] [] (SH T, c))) : Q (ccal 15 [vR 56, vI x1, vI x2] (SH T, c)) := by
  refine of_cev (Q := Q) ?_
  exact k
set_option maxRecDepth 20000 in
theorem W_X2_reignOf_5 {T : List Shp} {c : Nat → Int → Int} {Q : Res → Prop} {x1 x2 x3 x4 : Int} (k : ((x4 < 100 → (QI T (fun r1 c2 => ((r1 = 0 → ((-2147483648 ≤ x4 + 1 ∧ x4 + 1 < 2147483648) ∧ Q (cev 15 2 5 [vR 56, vI x1, vI x2, vI x3, vI (x4 + 1)] [] (SH T, c2)))) ∧ (¬ r1 = 0 → ((x3 = x1 → ((x2 = 0 → ((0 ≤ x4 ∧ x4 < 100) ∧ Q (some (some (vI (c2 57 x4)), (SH T, c2))))) ∧ (¬ x2 = 0 → ((x2 = 1 → Q (some (some (vI x4), (SH T, c2)))) ∧ (¬ x2 = 1 → (QI T (fun r3 c4 => Q (some (some (vI r3), (SH T, c4)))) (ccal 18 [vR 56, vI x4] (SH T, c2)))))))) ∧ (¬ x3 = x1 → (((-2147483648 ≤ x3 + 1 ∧ x3 + 1 < 2147483648) ∧ (-2147483648 ≤ x4 + 1 ∧ x4 + 1 < 2147483648)) ∧ Q (cev 15 2 5 [vR 56, vI x1, vI x2, vI (x3 + 1), vI (x4 + 1)] [] (SH T, c2)))))))) (ccal 17 [vR 56, vI x4] (SH T, c)))) ∧ (¬ x4 < 100 → Q (some (some (vI (-1)), (SH T, c)))))) : Q (cev 15 2 5 [vR 56, vI x1, vI x2, vI x3, vI x4] [] (SH T, c)) := by
  refine of_cev (Q := Q) ?_
  refine wq_ite (Q := Q) (p := x4 < 100) (fun h => ?_) (fun h => ?_)
  · replace k := k.1 h
    refine wq_callI (Q := Q) rfl k ?_
    intro r1 c2 k
    refine wq_ite (Q := Q) (p := r1 = 0) (fun h => ?_) (fun h => ?_)
    · replace k := k.1 h
      show Q (cev 15 2 60 [vR 56, vI x1, vI x2, vI x3, vI x4] [] (SH T, c2))
      refine of_cev (Q := Q) ?_
      refine wq_pos (Q := Q) k.1 ?_
      replace k := k.2
      exact k
    · replace k := k.2 h
      refine wq_ite (Q := Q) (p := x3 = x1) (fun h => ?_) (fun h => ?_)
      · replace k := k.1 h
        refine wq_ite (Q := Q) (p := x2 = 0) (fun h => ?_) (fun h => ?_)
        · replace k := k.1 h
          refine wq_pos (Q := Q) k.1 ?_
          replace k := k.2
          exact k
        · replace k := k.2 h
          show Q (cev 15 2 40 [vR 56, vU, vI x2, vU, vI x4] [] (SH T, c2))
          refine of_cev (Q := Q) ?_
          refine wq_ite (Q := Q) (p := x2 = 1) (fun h => ?_) (fun h => ?_)
          · replace k := k.1 h
            exact k
          · replace k := k.2 h
            show Q (cev 15 2 50 [vR 56, vU, vU, vU, vI x4] [] (SH T, c2))
            refine of_cev (Q := Q) ?_
            refine wq_callI (Q := Q) rfl k ?_
            intro r3 c4 k
            exact k
      · replace k := k.2 h
        show Q (cev 15 2 57 [vR 56, vI x1, vI x2, vI x3, vI x4] [] (SH T, c2))
        refine of_cev (Q := Q) ?_
        refine wq_pos (Q := Q) k.1.1 ?_
        show Q (cev 15 2 60 [vR 56, vI x1, vI x2, vI (x3 + 1), vI x4] [] (SH T, c2))
        refine of_cev (Q := Q) ?_
        refine wq_pos (Q := Q) k.1.2 ?_
        replace k := k.2
        exact k
  · replace k := k.2 h
    show Q (cev 15 2 66 [vU, vU, vU, vU, vU] [] (SH T, c))
    refine of_cev (Q := Q) ?_
    exact k
set_option maxRecDepth 20000 in
theorem W_X2_standInLine {T : List Shp} {c : Nat → Int → Int} {Q : Res → Prop} {x1 : Int} (k : Q (cev 16 5 7 [vR 56, vI x1, vI 0, vU, vU] [] (SH T, (up c 55 5 0)))) : Q (ccal 16 [vR 56, vI x1] (SH T, c)) := by
  refine of_cev (Q := Q) ?_
  exact k
set_option maxRecDepth 20000 in
theorem W_X2_standInLine_7 {T : List Shp} {c : Nat → Int → Int} {Q : Res → Prop} {x1 x2 : Int} (k : ((x2 < (c 1 13) → (((-2147483648 ≤ x2 * 4 ∧ x2 * 4 < 2147483648) ∧ (0 ≤ x2 * 4 ∧ x2 * 4 + 2 < 32)) ∧ ((c 9 (x2 * 4 + 1) ≤ x1 ∧ x1 < c 9 (x2 * 4 + 2) → (QI T (fun r1 c2 => ((r1 = 0 → (QI T (fun r3 c4 => Q (cev 16 5 58 [vR 56, vI x1, vI x2, vI r3, vI (c4 55 5)] [] (SH T, c4))) (ccal 27 [vR 15, vI x2, vI x1] (SH T, c2)))) ∧ (¬ r1 = 0 → ((-2147483648 ≤ x2 + 1 ∧ x2 + 1 < 2147483648) ∧ Q (cev 16 5 7 [vR 56, vI x1, vI (x2 + 1), vU, vU] [] (SH T, c2)))))) (ccal 28 [vR 15, vI x2, vI x1] (SH T, c)))) ∧ (¬ (c 9 (x2 * 4 + 1) ≤ x1 ∧ x1 < c 9 (x2 * 4 + 2)) → ((-2147483648 ≤ x2 + 1 ∧ x2 + 1 < 2147483648) ∧ Q (cev 16 5 7 [vR 56, vI x1, vI (x2 + 1), vU, vU] [] (SH T, c))))))) ∧ (¬ x2 < (c 1 13) → Q (some (none, (SH T, c)))))) : Q (cev 16 5 7 [vR 56, vI x1, vI x2, vU, vU] [] (SH T, c)) := by
  refine of_cev (Q := Q) ?_
  refine wq_ite (Q := Q) (p := x2 < (c 1 13)) (fun h => ?_) (fun h => ?_)
  · replace k := k.1 h
    refine wq_sum (Q := Q) rfl (S_X7_isAlive T c x2 x1 k.1.1 k.1.2) ?_
    replace k := k.2
    refine wq_b01 (Q := Q) (p := c 9 (x2 * 4 + 1) ≤ x1 ∧ x1 < c 9 (x2 * 4 + 2)) (fun h => ?_) (fun h => ?_)
    · replace k := k.2 h
      show Q (cev 16 5 140 [vR 56, vI x1, vI x2, vU, vU] [] (SH T, c))
      refine of_cev (Q := Q) ?_
      refine wq_pos (Q := Q) k.1 ?_
      replace k := k.2
      exact k
    · replace k := k.1 h
      refine wq_callI (Q := Q) rfl k ?_
      intro r1 c2 k
      refine wq_ite (Q := Q) (p := r1 = 0) (fun h => ?_) (fun h => ?_)
      · replace k := k.1 h
        refine wq_callI (Q := Q) rfl k ?_
        intro r3 c4 k
        exact k
      · replace k := k.2 h
        show Q (cev 16 5 140 [vR 56, vI x1, vI x2, vU, vU] [] (SH T, c2))
        refine of_cev (Q := Q) ?_
        refine wq_pos (Q := Q) k.1 ?_
        replace k := k.2
        exact k
  · replace k := k.2 h
    show Q (cev 16 5 146 [vU, vU, vU, vU, vU] [] (SH T, c))
    refine of_cev (Q := Q) ?_
    exact k
set_option maxRecDepth 20000 in
theorem W_X2_standInLine_58 {T : List Shp} {c : Nat → Int → Int} {Q : Res → Prop} {x1 x2 x3 x4 : Int} (k : ((0 < x4 → (((-2147483648 ≤ x4 - 1 ∧ x4 - 1 < 2147483648) ∧ (0 ≤ (x4 - 1) ∧ (x4 - 1) < 8)) ∧ ((x3 < (c 56 (x4 - 1)) → (((-2147483648 ≤ x4 - 1 ∧ x4 - 1 < 2147483648) ∧ (0 ≤ (x4 - 1) ∧ (x4 - 1) < 8) ∧ (0 ≤ x4 ∧ x4 < 8) ∧ (-2147483648 ≤ x4 + (-1) ∧ x4 + (-1) < 2147483648)) ∧ Q (cev 16 5 58 [vR 56, vI x1, vI x2, vI x3, vI (x4 + (-1))] [] (SH T, (up (up c 56 x4 (c 56 (x4 - 1))) 58 x4 (c 58 (x4 - 1))))))) ∧ (¬ x3 < (c 56 (x4 - 1)) → Q (cev 16 5 114 [vR 56, vI x1, vI x2, vI x3, vI x4] [] (SH T, c)))))) ∧ (¬ 0 < x4 → Q (cev 16 5 114 [vR 56, vI x1, vI x2, vI x3, vI x4] [] (SH T, c))))) : Q (cev 16 5 58 [vR 56, vI x1, vI x2, vI x3, vI x4] [] (SH T, c)) := by
  refine of_cev (Q := Q) ?_
  refine wq_ite (Q := Q) (p := 0 < x4) (fun h => ?_) (fun h => ?_)
  · replace k := k.1 h
    refine wq_pos (Q := Q) k.1.1 ?_
    refine wq_pos (Q := Q) k.1.2 ?_
    replace k := k.2
    refine wq_ite (Q := Q) (p := x3 < (c 56 (x4 - 1))) (fun h => ?_) (fun h => ?_)
    · replace k := k.1 h
      refine wq_pos (Q := Q) k.1.1 ?_
      refine wq_pos (Q := Q) k.1.2.1 ?_
      refine wq_pos (Q := Q) k.1.2.2.1 ?_
      refine wq_pos (Q := Q) k.1.1 ?_
      refine wq_pos (Q := Q) k.1.2.1 ?_
      refine wq_pos (Q := Q) k.1.2.2.1 ?_
      refine wq_pos (Q := Q) k.1.2.2.2 ?_
      replace k := k.2
      exact k
    · replace k := k.2 h
      exact k
  · replace k := k.2 h
    exact k
set_option maxRecDepth 20000 in
theorem W_X2_standInLine_114 {T : List Shp} {c : Nat → Int → Int} {Q : Res → Prop} {x1 x2 x3 x4 : Int} (k : (((0 ≤ x4 ∧ x4 < 8) ∧ (-2147483648 ≤ (c 55 5) + 1 ∧ (c 55 5) + 1 < 2147483648) ∧ (-2147483648 ≤ x2 + 1 ∧ x2 + 1 < 2147483648)) ∧ Q (cev 16 5 7 [vR 56, vI x1, vI (x2 + 1), vU, vU] [] (SH T, (up (up (up c 56 x4 x3) 58 x4 x2) 55 5 ((c 55 5) + 1)))))) : Q (cev 16 5 114 [vR 56, vI x1, vI x2, vI x3, vI x4] [] (SH T, c)) := by
  refine of_cev (Q := Q) ?_
  refine wq_pos (Q := Q) k.1.1 ?_
  refine wq_pos (Q := Q) k.1.1 ?_
  refine wq_pos (Q := Q) k.1.2.1 ?_
  show Q (cev 16 5 140 [vR 56, vI x1, vI x2, vU, vU] [] (SH T, (up (up (up c 56 x4 x3) 58 x4 x2) 55 5 ((c 55 5) + 1))))
  refine of_cev (Q := Q) ?_
  refine wq_pos (Q := Q) k.1.2.2 ?_
  replace k := k.2
  exact k
set_option maxRecDepth 20000 in
theorem W_X2_begins {T : List Shp} {c : Nat → Int → Int} {Q : Res → Prop} {x1 : Int} (k : ((0 ≤ x1 ∧ x1 < 100) ∧ (((c 57 x1) = (-1) → Q (some (some (vI 0), (SH T, c)))) ∧ (¬ (c 57 x1) = (-1) → ((x1 = 0 → Q (some (some (vI 1), (SH T, c)))) ∧ (¬ x1 = 0 → (((-2147483648 ≤ x1 - 1 ∧ x1 - 1 < 2147483648) ∧ (0 ≤ (x1 - 1) ∧ (x1 - 1) < 100) ∧ (0 ≤ x1 ∧ x1 < 100)) ∧ (((c 57 (x1 - 1)) = (c 57 x1) → Q (some (some (vI 0), (SH T, c)))) ∧ (¬ (c 57 (x1 - 1)) = (c 57 x1) → Q (some (some (vI 1), (SH T, c)))))))))))) : Q (ccal 17 [vR 56, vI x1] (SH T, c)) := by
  refine of_cev (Q := Q) ?_
  refine wq_pos (Q := Q) k.1 ?_
  replace k := k.2
  refine wq_ite (Q := Q) (p := (c 57 x1) = (-1)) (fun h => ?_) (fun h => ?_)
  · replace k := k.1 h
    show Q (cev 17 1 35 [vU, vU] [] (SH T, c))
    refine of_cev (Q := Q) ?_
    exact k
  · replace k := k.2 h
    refine wq_ite (Q := Q) (p := x1 = 0) (fun h => ?_) (fun h => ?_)
    · replace k := k.1 h
      show Q (cev 17 1 31 [vU, vU] [] (SH T, c))
      refine of_cev (Q := Q) ?_
      exact k
    · replace k := k.2 h
      refine wq_pos (Q := Q) k.1.1 ?_
      refine wq_pos (Q := Q) k.1.2.1 ?_
      refine wq_pos (Q := Q) k.1.2.2 ?_
      replace k := k.2
      refine wq_ite (Q := Q) (p := (c 57 (x1 - 1)) = (c 57 x1)) (fun h => ?_) (fun h => ?_)
      · replace k := k.1 h
        show Q (cev 17 1 35 [vU, vU] [] (SH T, c))
        refine of_cev (Q := Q) ?_
        exact k
      · replace k := k.2 h
        show Q (cev 17 1 31 [vU, vU] [] (SH T, c))
        refine of_cev (Q := Q) ?_
        exact k
set_option maxRecDepth 20000 in
theorem W_X2_lasts {T : List Shp} {c : Nat → Int → Int} {Q : Res → Prop} {x1 : Int} (k : Q (cev 18 1 2 [vR 56, vI x1, vI x1] [] (SH T, c))) : Q (ccal 18 [vR 56, vI x1] (SH T, c)) := by
  refine of_cev (Q := Q) ?_
  exact k
set_option maxRecDepth 20000 in
theorem W_X2_lasts_2 {T : List Shp} {c : Nat → Int → Int} {Q : Res → Prop} {x1 x2 : Int} (k : ((x2 < 100 → (((0 ≤ x2 ∧ x2 < 100) ∧ (0 ≤ x1 ∧ x1 < 100)) ∧ (((c 57 x2) = (c 57 x1) → ((-2147483648 ≤ x2 + 1 ∧ x2 + 1 < 2147483648) ∧ Q (cev 18 1 2 [vR 56, vI x1, vI (x2 + 1)] [] (SH T, c)))) ∧ (¬ (c 57 x2) = (c 57 x1) → ((-2147483648 ≤ x2 - x1 ∧ x2 - x1 < 2147483648) ∧ Q (some (some (vI (x2 - x1)), (SH T, c)))))))) ∧ (¬ x2 < 100 → ((-2147483648 ≤ x2 - x1 ∧ x2 - x1 < 2147483648) ∧ Q (some (some (vI (x2 - x1)), (SH T, c))))))) : Q (cev 18 1 2 [vR 56, vI x1, vI x2] [] (SH T, c)) := by
  refine of_cev (Q := Q) ?_
  refine wq_ite (Q := Q) (p := x2 < 100) (fun h => ?_) (fun h => ?_)
  · replace k := k.1 h
    refine wq_pos (Q := Q) k.1.1 ?_
    refine wq_pos (Q := Q) k.1.2 ?_
    replace k := k.2
    refine wq_ite (Q := Q) (p := (c 57 x2) = (c 57 x1)) (fun h => ?_) (fun h => ?_)
    · replace k := k.1 h
      refine wq_pos (Q := Q) k.1 ?_
      replace k := k.2
      exact k
    · replace k := k.2 h
      show Q (cev 18 1 29 [vU, vI x1, vI x2] [] (SH T, c))
      refine of_cev (Q := Q) ?_
      refine wq_pos (Q := Q) k.1 ?_
      replace k := k.2
      exact k
  · replace k := k.2 h
    show Q (cev 18 1 29 [vU, vI x1, vI x2] [] (SH T, c))
    refine of_cev (Q := Q) ?_
    refine wq_pos (Q := Q) k.1 ?_
    replace k := k.2
    exact k
set_option maxRecDepth 20000 in
theorem W_X1_runAll {T : List Shp} {c : Nat → Int → Int} {Q : Res → Prop} (k : (QV T (fun c1 => Q (cev 6 19 21 [vR 60, vR 12, vU, vU, vU, vU] [] (SH T, (up (up c1 59 9 0) 59 8 0)))) (ccal 65 [vR 61, vR 2] (SH T, c)))) : Q (ccal 6 [vR 60, vR 12] (SH T, c)) := by
  refine of_cev (Q := Q) ?_
  refine wq_callV (Q := Q) rfl k ?_
  intro c1 k
  exact k
set_option maxRecDepth 20000 in
theorem W_X1_runAll_21 {T : List Shp} {c : Nat → Int → Int} {Q : Res → Prop} (k : (((c 59 8) < (c 11 2) → ((-2147483648 ≤ (c 59 8) * 6 ∧ (c 59 8) * 6 < 2147483648) ∧ Q (cev 6 19 42 [vR 60, vR 12, vI ((c 59 8) * 6), vI 0, vU, vU] [] (SH T, c)))) ∧ (¬ (c 59 8) < (c 11 2) → Q (some (some (vI 0), (SH T, c)))))) : Q (cev 6 19 21 [vR 60, vR 12, vU, vU, vU, vU] [] (SH T, c)) := by
  refine of_cev (Q := Q) ?_
  refine wq_ite (Q := Q) (p := (c 59 8) < (c 11 2)) (fun h => ?_) (fun h => ?_)
  · replace k := k.1 h
    refine wq_pos (Q := Q) k.1 ?_
    replace k := k.2
    exact k
  · replace k := k.2 h
    show Q (cev 6 19 165 [vU, vU, vU, vU, vU, vU] [] (SH T, c))
    refine of_cev (Q := Q) ?_
    exact k
set_option maxRecDepth 20000 in
theorem W_X1_runAll_42 {T : List Shp} {c : Nat → Int → Int} {Q : Res → Prop} {x2 x3 : Int} (k : (((-2147483648 ≤ x2 + 1 ∧ x2 + 1 < 2147483648) ∧ (0 ≤ (x2 + 1) ∧ (x2 + 1) < 72)) ∧ ((x3 < (c 12 (x2 + 1)) → (QV T (fun c1 => (QI T (fun r2 c3 => ((r2 = 0 → ((-2147483648 ≤ x3 + 1 ∧ x3 + 1 < 2147483648) ∧ Q (cev 6 19 42 [vR 60, vR 12, vI x2, vI (x3 + 1), vU, vU] [] (SH T, c3)))) ∧ (¬ r2 = 0 → (QI T (fun r4 c5 => ((r4 = 0 → Q (cev 6 19 117 [vR 60, vR 12, vI x2, vI x3, vI (-3), vU] [] (SH T, c5))) ∧ (¬ r4 = 0 → (((-2147483648 ≤ x2 + 0 ∧ x2 + 0 < 2147483648) ∧ (0 ≤ (x2 + 0) ∧ (x2 + 0) < 72)) ∧ ((2 < (c5 12 (x2 + 0)) → (QI T (fun r6 c7 => Q (cev 6 19 117 [vR 60, vR 12, vI x2, vI x3, vI r6, vU] [] (SH T, c7))) (ccal 11 [vR 60, vI (c5 12 (x2 + 0))] (SH T, c5)))) ∧ (¬ 2 < (c5 12 (x2 + 0)) → (QI T (fun r8 c9 => Q (cev 6 19 117 [vR 60, vR 12, vI x2, vI x3, vI r8, vU] [] (SH T, c9))) (ccal 10 [vR 60, vI (c5 12 (x2 + 0))] (SH T, c5))))))))) (ccal 9 [vR 60, vR 12, vI x2] (SH T, c3)))))) (ccal 8 [vR 60, vR 12, vI x2] (SH T, c1)))) (ccal 7 [vR 60, vI (c 11 4)] (SH T, c)))) ∧ (¬ x3 < (c 12 (x2 + 1)) → ((-2147483648 ≤ (c 59 8) + 1 ∧ (c 59 8) + 1 < 2147483648) ∧ Q (cev 6 19 21 [vR 60, vR 12, vU, vU, vU, vU] [] (SH T, (up c 59 8 ((c 59 8) + 1))))))))) : Q (cev 6 19 42 [vR 60, vR 12, vI x2, vI x3, vU, vU] [] (SH T, c)) := by
  refine of_cev (Q := Q) ?_
  refine wq_pos (Q := Q) k.1.1 ?_
  refine wq_pos (Q := Q) k.1.2 ?_
  replace k := k.2
  refine wq_ite (Q := Q) (p := x3 < (c 12 (x2 + 1))) (fun h => ?_) (fun h => ?_)
  · replace k := k.1 h
    refine wq_callV (Q := Q) rfl k ?_
    intro c1 k
    refine wq_callI (Q := Q) rfl k ?_
    intro r2 c3 k
    refine wq_ite (Q := Q) (p := r2 = 0) (fun h => ?_) (fun h => ?_)
    · replace k := k.1 h
      show Q (cev 6 19 146 [vR 60, vR 12, vI x2, vI x3, vU, vU] [] (SH T, c3))
      refine of_cev (Q := Q) ?_
      refine wq_pos (Q := Q) k.1 ?_
      replace k := k.2
      exact k
    · replace k := k.2 h
      refine wq_callI (Q := Q) rfl k ?_
      intro r4 c5 k
      refine wq_ite (Q := Q) (p := r4 = 0) (fun h => ?_) (fun h => ?_)
      · replace k := k.1 h
        exact k
      · replace k := k.2 h
        refine wq_pos (Q := Q) k.1.1 ?_
        refine wq_pos (Q := Q) k.1.2 ?_
        replace k := k.2
        refine wq_ite (Q := Q) (p := 2 < (c5 12 (x2 + 0))) (fun h => ?_) (fun h => ?_)
        · replace k := k.1 h
          show Q (cev 6 19 109 [vR 60, vR 12, vI x2, vI x3, vU, vI (c5 12 (x2 + 0))] [] (SH T, c5))
          refine of_cev (Q := Q) ?_
          refine wq_callI (Q := Q) rfl k ?_
          intro r6 c7 k
          exact k
        · replace k := k.2 h
          refine wq_callI (Q := Q) rfl k ?_
          intro r8 c9 k
          exact k
  · replace k := k.2 h
    show Q (cev 6 19 152 [vR 60, vR 12, vU, vU, vU, vU] [] (SH T, c))
    refine of_cev (Q := Q) ?_
    refine wq_pos (Q := Q) k.1 ?_
    replace k := k.2
    exact k
set_option maxRecDepth 20000 in
theorem W_X1_runAll_117 {T : List Shp} {c : Nat → Int → Int} {Q : Res → Prop} {x2 x3 x4 : Int} (k : ((x4 = 0 → (((-2147483648 ≤ (c 59 9) + 1 ∧ (c 59 9) + 1 < 2147483648) ∧ (-2147483648 ≤ x3 + 1 ∧ x3 + 1 < 2147483648)) ∧ Q (cev 6 19 42 [vR 60, vR 12, vI x2, vI (x3 + 1), vU, vU] [] (SH T, (up c 59 9 ((c 59 9) + 1)))))) ∧ (¬ x4 = 0 → (QV T (fun c1 => Q (some (some (vI x4), (SH T, c1)))) (ccal 65 [vR 2, vR 61] (SH T, c)))))) : Q (cev 6 19 117 [vR 60, vR 12, vI x2, vI x3, vI x4, vU] [] (SH T, c)) := by
  refine of_cev (Q := Q) ?_
  refine wq_ite (Q := Q) (p := x4 = 0) (fun h => ?_) (fun h => ?_)
  · replace k := k.1 h
    show Q (cev 6 19 136 [vR 60, vR 12, vI x2, vI x3, vU, vU] [] (SH T, c))
    refine of_cev (Q := Q) ?_
    refine wq_pos (Q := Q) k.1.1 ?_
    show Q (cev 6 19 146 [vR 60, vR 12, vI x2, vI x3, vU, vU] [] (SH T, (up c 59 9 ((c 59 9) + 1))))
    refine of_cev (Q := Q) ?_
    refine wq_pos (Q := Q) k.1.2 ?_
    replace k := k.2
    exact k
  · replace k := k.2 h
    refine wq_callV (Q := Q) rfl k ?_
    intro c1 k
    exact k
set_option maxRecDepth 20000 in
theorem W_X1_learnWords {T : List Shp} {c : Nat → Int → Int} {Q : Res → Prop} {x1 : Int} (k : (QI T (fun r1 c2 => Q (cev 7 6 58 [vR 60, vI x1, vI 0] [] (SH T, (up (up c2 71 4 r1) 71 5 (c2 59 9))))) (ccal 69 [vR 2, vI (c 1 8)] (SH T, (up (up c 71 0 (c 1 8)) 71 3 (c 1 11)))))) : Q (ccal 7 [vR 60, vI x1] (SH T, c)) := by
  refine of_cev (Q := Q) ?_
  refine wq_callI (Q := Q) rfl k ?_
  intro r1 c2 k
  exact k
set_option maxRecDepth 20000 in
theorem W_X1_learnWords_58 {T : List Shp} {c : Nat → Int → Int} {Q : Res → Prop} {x1 x2 : Int} (k : ((x2 < 12 → (((-2147483648 ≤ 6 + x2 ∧ 6 + x2 < 2147483648) ∧ (-2147483648 ≤ (c 1 8) * 12 ∧ (c 1 8) * 12 < 2147483648) ∧ (-2147483648 ≤ (c 1 8) * 12 + x2 ∧ (c 1 8) * 12 + x2 < 2147483648) ∧ (0 ≤ (c 1 8) * 12 + x2 ∧ (c 1 8) * 12 + x2 < 204) ∧ (0 ≤ (6 + x2) ∧ (6 + x2) < 18) ∧ (-2147483648 ≤ x2 + 1 ∧ x2 + 1 < 2147483648)) ∧ Q (cev 7 6 58 [vR 60, vI x1, vI (x2 + 1)] [] (SH T, (up c 71 (6 + x2) (c 7 ((c 1 8) * 12 + x2))))))) ∧ (¬ x2 < 12 → (((iand (ishr x1 1) 1) = 1 → (QI T (fun r1 c2 => Q (cev 7 6 116 [vR 60, vI x1, vU] [] (SH T, (up c2 71 1 r1)))) (ccal 96 [vR 19, vI (c 1 8)] (SH T, c)))) ∧ (¬ (iand (ishr x1 1) 1) = 1 → Q (cev 7 6 116 [vR 60, vI x1, vU] [] (SH T, c))))))) : Q (cev 7 6 58 [vR 60, vI x1, vI x2] [] (SH T, c)) := by
  refine of_cev (Q := Q) ?_
  refine wq_ite (Q := Q) (p := x2 < 12) (fun h => ?_) (fun h => ?_)
  · replace k := k.1 h
    refine wq_pos (Q := Q) k.1.1 ?_
    refine wq_sum (Q := Q) rfl (S_X7_seenAt T c x2 k.1.2.1 k.1.2.2.1 k.1.2.2.2.1) ?_
    refine wq_pos (Q := Q) k.1.2.2.2.2.1 ?_
    refine wq_pos (Q := Q) k.1.2.2.2.2.2 ?_
    replace k := k.2
    exact k
  · replace k := k.2 h
    show Q (cev 7 6 87 [vR 60, vI x1, vU] [] (SH T, c))
    refine of_cev (Q := Q) ?_
    refine wq_ite (Q := Q) (p := (iand (ishr x1 1) 1) = 1) (fun h => ?_) (fun h => ?_)
    · replace k := k.1 h
      refine wq_callI (Q := Q) rfl k ?_
      intro r1 c2 k
      exact k
    · replace k := k.2 h
      exact k
set_option maxRecDepth 20000 in
theorem W_X1_learnWords_116 {T : List Shp} {c : Nat → Int → Int} {Q : Res → Prop} {x1 : Int} (k : (((iand (ishr x1 2) 1) = 1 → (QI T (fun r1 c2 => Q (some (none, (SH T, (up c2 71 2 r1))))) (ccal 98 [vR 19, vI (c 1 8)] (SH T, c)))) ∧ (¬ (iand (ishr x1 2) 1) = 1 → Q (some (none, (SH T, c)))))) : Q (cev 7 6 116 [vR 60, vI x1, vU] [] (SH T, c)) := by
  refine of_cev (Q := Q) ?_
  refine wq_ite (Q := Q) (p := (iand (ishr x1 2) 1) = 1) (fun h => ?_) (fun h => ?_)
  · replace k := k.1 h
    refine wq_callI (Q := Q) rfl k ?_
    intro r1 c2 k
    show Q (cev 7 6 145 [vU, vU, vU] [] (SH T, (up c2 71 2 r1)))
    refine of_cev (Q := Q) ?_
    exact k
  · replace k := k.2 h
    show Q (cev 7 6 145 [vU, vU, vU] [] (SH T, c))
    refine of_cev (Q := Q) ?_
    exact k
set_option maxRecDepth 20000 in
theorem W_X1_isWanted {T : List Shp} {c : Nat → Int → Int} {Q : Res → Prop} {x2 : Int} (k : (((-2147483648 ≤ x2 + 2 ∧ x2 + 2 < 2147483648) ∧ (0 ≤ (x2 + 2) ∧ (x2 + 2) < 72)) ∧ (((c 12 (x2 + 2)) = (-1) → Q (some (some (vI 1), (SH T, c)))) ∧ (¬ (c 12 (x2 + 2)) = (-1) → (QI T (fun r1 c2 => ((r1 = 0 → Q (some (some (vI 0), (SH T, c2)))) ∧ (¬ r1 = 0 → (((c2 69 2) = 1 → Q (some (some (vI 1), (SH T, c2)))) ∧ (¬ (c2 69 2) = 1 → Q (some (some (vI 0), (SH T, c2)))))))) (ccal 20 [vR 70, vR 12, vI (c 12 (x2 + 2)), vR 72] (SH T, c))))))) : Q (ccal 8 [vR 60, vR 12, vI x2] (SH T, c)) := by
  refine of_cev (Q := Q) ?_
  refine wq_pos (Q := Q) k.1.1 ?_
  refine wq_pos (Q := Q) k.1.2 ?_
  replace k := k.2
  refine wq_ite (Q := Q) (p := (c 12 (x2 + 2)) = (-1)) (fun h => ?_) (fun h => ?_)
  · replace k := k.1 h
    show Q (cev 8 3 41 [vU, vU, vU, vU] [] (SH T, c))
    refine of_cev (Q := Q) ?_
    exact k
  · replace k := k.2 h
    refine wq_callI (Q := Q) rfl k ?_
    intro r1 c2 k
    refine wq_ite (Q := Q) (p := r1 = 0) (fun h => ?_) (fun h => ?_)
    · replace k := k.1 h
      show Q (cev 8 3 45 [vU, vU, vU, vU] [] (SH T, c2))
      refine of_cev (Q := Q) ?_
      exact k
    · replace k := k.2 h
      refine wq_ite (Q := Q) (p := (c2 69 2) = 1) (fun h => ?_) (fun h => ?_)
      · replace k := k.1 h
        show Q (cev 8 3 41 [vU, vU, vU, vU] [] (SH T, c2))
        refine of_cev (Q := Q) ?_
        exact k
      · replace k := k.2 h
        show Q (cev 8 3 45 [vU, vU, vU, vU] [] (SH T, c2))
        refine of_cev (Q := Q) ?_
        exact k
set_option maxRecDepth 20000 in
theorem W_X1_sumsWork {T : List Shp} {c : Nat → Int → Int} {Q : Res → Prop} {x2 : Int} (k : Q (cev 9 3 2 [vR 60, vR 12, vI x2, vI 0, vU] [] (SH T, c))) : Q (ccal 9 [vR 60, vR 12, vI x2] (SH T, c)) := by
  refine of_cev (Q := Q) ?_
  exact k
set_option maxRecDepth 20000 in
theorem W_X1_sumsWork_2 {T : List Shp} {c : Nat → Int → Int} {Q : Res → Prop} {x2 x3 : Int} (k : ((x3 < 3 → (((-2147483648 ≤ x2 + 3 ∧ x2 + 3 < 2147483648) ∧ (-2147483648 ≤ (x2 + 3) + x3 ∧ (x2 + 3) + x3 < 2147483648) ∧ (0 ≤ ((x2 + 3) + x3) ∧ ((x2 + 3) + x3) < 72)) ∧ (((c 12 ((x2 + 3) + x3)) = (-1) → ((-2147483648 ≤ x3 + 1 ∧ x3 + 1 < 2147483648) ∧ Q (cev 9 3 2 [vR 60, vR 12, vI x2, vI (x3 + 1), vU] [] (SH T, c)))) ∧ (¬ (c 12 ((x2 + 3) + x3)) = (-1) → (QI T (fun r1 c2 => ((r1 = 0 → Q (some (some (vI 0), (SH T, c2)))) ∧ (¬ r1 = 0 → (((0 ≤ x3 ∧ x3 < 3) ∧ (-2147483648 ≤ x3 + 1 ∧ x3 + 1 < 2147483648)) ∧ Q (cev 9 3 2 [vR 60, vR 12, vI x2, vI (x3 + 1), vU] [] (SH T, (up c2 72 x3 (c2 69 2)))))))) (ccal 20 [vR 70, vR 12, vI (c 12 ((x2 + 3) + x3)), vR 72] (SH T, c))))))) ∧ (¬ x3 < 3 → Q (some (some (vI 1), (SH T, c)))))) : Q (cev 9 3 2 [vR 60, vR 12, vI x2, vI x3, vU] [] (SH T, c)) := by
  refine of_cev (Q := Q) ?_
  refine wq_ite (Q := Q) (p := x3 < 3) (fun h => ?_) (fun h => ?_)
  · replace k := k.1 h
    refine wq_pos (Q := Q) k.1.1 ?_
    refine wq_pos (Q := Q) k.1.2.1 ?_
    refine wq_pos (Q := Q) k.1.2.2 ?_
    replace k := k.2
    refine wq_ite (Q := Q) (p := (c 12 ((x2 + 3) + x3)) = (-1)) (fun h => ?_) (fun h => ?_)
    · replace k := k.1 h
      show Q (cev 9 3 61 [vR 60, vR 12, vI x2, vI x3, vU] [] (SH T, c))
      refine of_cev (Q := Q) ?_
      refine wq_pos (Q := Q) k.1 ?_
      replace k := k.2
      exact k
    · replace k := k.2 h
      refine wq_callI (Q := Q) rfl k ?_
      intro r1 c2 k
      refine wq_ite (Q := Q) (p := r1 = 0) (fun h => ?_) (fun h => ?_)
      · replace k := k.1 h
        exact k
      · replace k := k.2 h
        show Q (cev 9 3 48 [vR 60, vR 12, vI x2, vI x3, vU] [] (SH T, c2))
        refine of_cev (Q := Q) ?_
        refine wq_pos (Q := Q) k.1.1 ?_
        show Q (cev 9 3 61 [vR 60, vR 12, vI x2, vI x3, vU] [] (SH T, (up c2 72 x3 (c2 69 2))))
        refine of_cev (Q := Q) ?_
        refine wq_pos (Q := Q) k.1.2 ?_
        replace k := k.2
        exact k
  · replace k := k.2 h
    show Q (cev 9 3 67 [vU, vU, vU, vU, vU] [] (SH T, c))
    refine of_cev (Q := Q) ?_
    exact k
set_option maxRecDepth 20000 in
theorem W_X1_paints {T : List Shp} {c : Nat → Int → Int} {Q : Res → Prop} {x1 : Int} (k : ((x1 = 2 → Q (cev 10 18 45 [vR 60, vU, vI (c 72 0), vU] [] (SH T, c))) ∧ (¬ x1 = 2 → (QV T (fun c1 => ((0 < (c1 21 14) → Q (cev 10 18 45 [vR 60, vU, vI (c1 28 0), vU] [] (SH T, c1))) ∧ (¬ 0 < (c1 21 14) → Q (cev 10 18 45 [vR 60, vU, vI (-1), vU] [] (SH T, c1))))) (ccal 35 [vR 22, vI x1, vI 1] (SH T, c)))))) : Q (ccal 10 [vR 60, vI x1] (SH T, c)) := by
  refine of_cev (Q := Q) ?_
  refine wq_ite (Q := Q) (p := x1 = 2) (fun h => ?_) (fun h => ?_)
  · replace k := k.1 h
    exact k
  · replace k := k.2 h
    refine wq_callV (Q := Q) rfl k ?_
    intro c1 k
    refine wq_ite (Q := Q) (p := 0 < (c1 21 14)) (fun h => ?_) (fun h => ?_)
    · replace k := k.1 h
      exact k
    · replace k := k.2 h
      show Q (cev 10 18 43 [vR 60, vU, vU, vU] [] (SH T, c1))
      refine of_cev (Q := Q) ?_
      exact k
set_option maxRecDepth 20000 in
theorem W_X1_paints_45 {T : List Shp} {c : Nat → Int → Int} {Q : Res → Prop} {x2 : Int} (k : ((-2147483648 ≤ (c 1 8) + 1 ∧ (c 1 8) + 1 < 2147483648) ∧ ((0 ≤ x2 ∧ x2 < (c 1 0) → (QI T (fun r1 c2 => ((r1 = 0 → (QI T (fun r3 c4 => ((r3 = 0 → (((c4 1 8) < 16 → (QV T (fun c5 => Q (some (some (vI 0), (SH T, c5)))) (ccal 95 [vR 19, vI x2] (SH T, c4)))) ∧ (¬ (c4 1 8) < 16 → Q (some (some (vI (-5)), (SH T, c4)))))) ∧ (¬ r3 = 0 → Q (some (some (vI (-3)), (SH T, c4)))))) (ccal 70 [vR 2, vI x2, vI ((c 1 8) + 1)] (SH T, c2)))) ∧ (¬ r1 = 0 → Q (some (some (vI (-3)), (SH T, c2)))))) (ccal 26 [vR 15, vI x2, vI ((c 1 8) + 1)] (SH T, c)))) ∧ (¬ (0 ≤ x2 ∧ x2 < (c 1 0)) → Q (some (some (vI (-3)), (SH T, c))))))) : Q (cev 10 18 45 [vR 60, vU, vI x2, vU] [] (SH T, c)) := by
  refine of_cev (Q := Q) ?_
  refine wq_pos (Q := Q) k.1 ?_
  refine wq_sum (Q := Q) rfl (S_X7_hasPainter T c x2) ?_
  replace k := k.2
  refine wq_b01 (Q := Q) (p := 0 ≤ x2 ∧ x2 < (c 1 0)) (fun h => ?_) (fun h => ?_)
  · replace k := k.2 h
    show Q (cev 10 18 90 [vU, vU, vU, vU] [] (SH T, c))
    refine of_cev (Q := Q) ?_
    exact k
  · replace k := k.1 h
    refine wq_callI (Q := Q) rfl k ?_
    intro r1 c2 k
    refine wq_ite (Q := Q) (p := r1 = 0) (fun h => ?_) (fun h => ?_)
    · replace k := k.1 h
      refine wq_callI (Q := Q) rfl k ?_
      intro r3 c4 k
      refine wq_ite (Q := Q) (p := r3 = 0) (fun h => ?_) (fun h => ?_)
      · replace k := k.1 h
        show Q (cev 10 18 93 [vR 60, vU, vI x2, vU] [] (SH T, c4))
        refine of_cev (Q := Q) ?_
        refine wq_ite (Q := Q) (p := (c4 1 8) < 16) (fun h => ?_) (fun h => ?_)
        · replace k := k.1 h
          show Q (cev 10 18 108 [vR 60, vU, vI x2, vU] [] (SH T, c4))
          refine of_cev (Q := Q) ?_
          refine wq_callV (Q := Q) rfl k ?_
          intro c5 k
          exact k
        · replace k := k.2 h
          exact k
      · replace k := k.2 h
        show Q (cev 10 18 90 [vU, vU, vU, vU] [] (SH T, c4))
        refine of_cev (Q := Q) ?_
        exact k
    · replace k := k.2 h
      show Q (cev 10 18 90 [vU, vU, vU, vU] [] (SH T, c2))
      refine of_cev (Q := Q) ?_
      exact k

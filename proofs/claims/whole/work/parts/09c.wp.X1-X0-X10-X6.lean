set_option maxRecDepth 20000 in
theorem W_X1_changes {T : List Shp} {c : Nat → Int → Int} {Q : Res → Prop} {x1 : Int} (k : ((x1 = 4 → (((c 1 11) < 6 → (QV T (fun c1 => Q (some (some (vI 0), (SH T, c1)))) (ccal 72 [vR 2] (SH T, c)))) ∧ (¬ (c 1 11) < 6 → Q (some (some (vI (-5)), (SH T, c)))))) ∧ (¬ x1 = 4 → ((x1 = 3 → (((c 1 8) = 0 → Q (some (some (vI (-3)), (SH T, c)))) ∧ (¬ (c 1 8) = 0 → ((-2147483648 ≤ (c 1 8) - 1 ∧ (c 1 8) - 1 < 2147483648) ∧ Q (some (some (vI 0), (SH T, (up c 1 8 ((c 1 8) - 1))))))))) ∧ (¬ x1 = 3 → ((0 ≤ (c 72 0) ∧ (c 72 0) < (c 1 11) → ((0 ≤ (c 72 1) ∧ (c 72 1) < 12 → ((0 ≤ (c 72 2) ∧ (c 72 2) < 10 → (((-2147483648 ≤ (c 72 0) * 12 ∧ (c 72 0) * 12 < 2147483648) ∧ (-2147483648 ≤ ((c 72 0) * 12) + (c 72 1) ∧ ((c 72 0) * 12) + (c 72 1) < 2147483648) ∧ (0 ≤ (((c 72 0) * 12) + (c 72 1)) ∧ (((c 72 0) * 12) + (c 72 1)) < 72)) ∧ Q (some (some (vI 0), (SH T, (up c 8 (((c 72 0) * 12) + (c 72 1)) (c 72 2))))))) ∧ (¬ (0 ≤ (c 72 2) ∧ (c 72 2) < 10) → Q (some (some (vI (-3)), (SH T, c)))))) ∧ (¬ (0 ≤ (c 72 1) ∧ (c 72 1) < 12) → Q (some (some (vI (-3)), (SH T, c)))))) ∧ (¬ (0 ≤ (c 72 0) ∧ (c 72 0) < (c 1 11)) → Q (some (some (vI (-3)), (SH T, c)))))))))) : Q (ccal 11 [vR 60, vI x1] (SH T, c)) := by
  refine of_cev (Q := Q) ?_
  refine wq_ite (Q := Q) (p := x1 = 4) (fun h => ?_) (fun h => ?_)
  · replace k := k.1 h
    refine wq_ite (Q := Q) (p := (c 1 11) < 6) (fun h => ?_) (fun h => ?_)
    · replace k := k.1 h
      show Q (cev 11 2 20 [vR 60, vU] [] (SH T, c))
      refine of_cev (Q := Q) ?_
      refine wq_callV (Q := Q) rfl k ?_
      intro c1 k
      exact k
    · replace k := k.2 h
      exact k
  · replace k := k.2 h
    show Q (cev 11 2 29 [vR 60, vI x1] [] (SH T, c))
    refine of_cev (Q := Q) ?_
    refine wq_ite (Q := Q) (p := x1 = 3) (fun h => ?_) (fun h => ?_)
    · replace k := k.1 h
      refine wq_ite (Q := Q) (p := (c 1 8) = 0) (fun h => ?_) (fun h => ?_)
      · replace k := k.1 h
        exact k
      · replace k := k.2 h
        show Q (cev 11 2 47 [vR 60, vU] [] (SH T, c))
        refine of_cev (Q := Q) ?_
        refine wq_pos (Q := Q) k.1 ?_
        replace k := k.2
        exact k
    · replace k := k.2 h
      show Q (cev 11 2 62 [vR 60, vU] [] (SH T, c))
      refine of_cev (Q := Q) ?_
      refine wq_sum (Q := Q) rfl (S_X11_inside T c (c 72 0) (c 1 11)) ?_
      refine wq_b01 (Q := Q) (p := 0 ≤ (c 72 0) ∧ (c 72 0) < (c 1 11)) (fun h => ?_) (fun h => ?_)
      · replace k := k.2 h
        show Q (cev 11 2 105 [vU, vU] [] (SH T, c))
        refine of_cev (Q := Q) ?_
        exact k
      · replace k := k.1 h
        refine wq_sum (Q := Q) rfl (S_X11_isCell T c (c 72 1)) ?_
        refine wq_b01 (Q := Q) (p := 0 ≤ (c 72 1) ∧ (c 72 1) < 12) (fun h => ?_) (fun h => ?_)
        · replace k := k.2 h
          show Q (cev 11 2 105 [vU, vU] [] (SH T, c))
          refine of_cev (Q := Q) ?_
          exact k
        · replace k := k.1 h
          refine wq_sum (Q := Q) rfl (S_X11_isTone T c (c 72 2)) ?_
          refine wq_b01 (Q := Q) (p := 0 ≤ (c 72 2) ∧ (c 72 2) < 10) (fun h => ?_) (fun h => ?_)
          · replace k := k.2 h
            show Q (cev 11 2 105 [vU, vU] [] (SH T, c))
            refine of_cev (Q := Q) ?_
            exact k
          · replace k := k.1 h
            show Q (cev 11 2 108 [vR 60, vU] [] (SH T, c))
            refine of_cev (Q := Q) ?_
            refine wq_pos (Q := Q) k.1.1 ?_
            refine wq_pos (Q := Q) k.1.2.1 ?_
            refine wq_pos (Q := Q) k.1.2.2 ?_
            replace k := k.2
            exact k
set_option maxRecDepth 20000 in
theorem W_X0_pass {T : List Shp} {c : Nat → Int → Int} {Q : Res → Prop} {x1 x2 : Int} (k : (((-2147483648 ≤ (c 1 8) * 12 ∧ (c 1 8) * 12 < 2147483648) ∧ ((0 ≤ ((c 1 8) * 12) ∧ (0 : Int) ≤ 0 ∧ (0 : Int) ≤ 12) ∧ (((c 1 8) * 12) : Int) + 12 ≤ 204 ∧ (0 : Int) + 12 ≤ 12)) ∧ Q (cev 1 6 50 [vR 74, vU, vI x2, vI 0, vU] [] (SH T, (cpy (up (up (up c 73 2 x1) 73 3 (c 1 0)) 73 7 1) 7 ((c 1 8) * 12) 75 0 12))))) : Q (ccal 1 [vR 74, vI x1, vI x2] (SH T, c)) := by
  refine of_cev (Q := Q) ?_
  refine wq_pos (Q := Q) k.1.1 ?_
  refine wq_pos (Q := Q) k.1.2 ?_
  replace k := k.2
  exact k
set_option maxRecDepth 20000 in
theorem W_X0_pass_50 {T : List Shp} {c : Nat → Int → Int} {Q : Res → Prop} {x2 x3 : Int} (k : ((x3 < 5 → (((0 ≤ x3 ∧ x3 < 5) ∧ (-2147483648 ≤ x3 + 1 ∧ x3 + 1 < 2147483648)) ∧ Q (cev 1 6 50 [vR 74, vU, vI x2, vI (x3 + 1), vU] [] (SH T, (up c 74 x3 0))))) ∧ (¬ x3 < 5 → (((-2147483648 ≤ (c 1 8) + x2 ∧ (c 1 8) + x2 < 2147483648) ∧ (-2147483648 ≤ (c 1 8) + 1 ∧ (c 1 8) + 1 < 2147483648)) ∧ Q (cev 1 6 89 [vR 74, vU, vU, vI ((c 1 8) + x2), vI ((c 1 8) + 1)] [] (SH T, c)))))) : Q (cev 1 6 50 [vR 74, vU, vI x2, vI x3, vU] [] (SH T, c)) := by
  refine of_cev (Q := Q) ?_
  refine wq_ite (Q := Q) (p := x3 < 5) (fun h => ?_) (fun h => ?_)
  · replace k := k.1 h
    refine wq_pos (Q := Q) k.1.1 ?_
    refine wq_pos (Q := Q) k.1.2 ?_
    replace k := k.2
    exact k
  · replace k := k.2 h
    show Q (cev 1 6 68 [vR 74, vU, vI x2, vU, vU] [] (SH T, c))
    refine of_cev (Q := Q) ?_
    refine wq_pos (Q := Q) k.1.1 ?_
    refine wq_pos (Q := Q) k.1.2 ?_
    replace k := k.2
    exact k
set_option maxRecDepth 20000 in
theorem W_X0_pass_89 {T : List Shp} {c : Nat → Int → Int} {Q : Res → Prop} {x3 x4 : Int} (k : ((x3 < x4 → Q (cev 1 6 122 [vR 74, vU, vU, vI x3, vI 0] [] (SH T, (up c 73 6 0)))) ∧ (¬ x3 < x4 → ((0 < (c 73 3) → (QV T (fun c1 => ((-2147483648 ≤ x4 + 1 ∧ x4 + 1 < 2147483648) ∧ Q (cev 1 6 89 [vR 74, vU, vU, vI x3, vI (x4 + 1)] [] (SH T, c1)))) (ccal 3 [vR 74, vI x4] (SH T, c)))) ∧ (¬ 0 < (c 73 3) → Q (cev 1 6 122 [vR 74, vU, vU, vI x3, vI 0] [] (SH T, (up c 73 6 0)))))))) : Q (cev 1 6 89 [vR 74, vU, vU, vI x3, vI x4] [] (SH T, c)) := by
  refine of_cev (Q := Q) ?_
  refine wq_ite (Q := Q) (p := x3 < x4) (fun h => ?_) (fun h => ?_)
  · replace k := k.1 h
    show Q (cev 1 6 114 [vR 74, vU, vU, vI x3, vU] [] (SH T, c))
    refine of_cev (Q := Q) ?_
    exact k
  · replace k := k.2 h
    refine wq_ite (Q := Q) (p := 0 < (c 73 3)) (fun h => ?_) (fun h => ?_)
    · replace k := k.1 h
      refine wq_callV (Q := Q) rfl k ?_
      intro c1 k
      refine wq_pos (Q := Q) k.1 ?_
      replace k := k.2
      exact k
    · replace k := k.2 h
      show Q (cev 1 6 114 [vR 74, vU, vU, vI x3, vU] [] (SH T, c))
      refine of_cev (Q := Q) ?_
      exact k
set_option maxRecDepth 20000 in
theorem W_X0_pass_122 {T : List Shp} {c : Nat → Int → Int} {Q : Res → Prop} {x3 x4 : Int} (k : ((x4 < 12 → ((0 ≤ x4 ∧ x4 < 12) ∧ (QI T (fun r1 c2 => (((-2147483648 ≤ (c 75 x4) - r1 ∧ (c 75 x4) - r1 < 2147483648) ∧ (-2147483648 < ((c 75 x4) - r1) ∧ ((c 75 x4) - r1) < 2147483648) ∧ (-2147483648 ≤ (c 73 6) + (abz ((c 75 x4) - r1)) ∧ (c 73 6) + (abz ((c 75 x4) - r1)) < 2147483648) ∧ (-2147483648 ≤ x4 + 1 ∧ x4 + 1 < 2147483648)) ∧ Q (cev 1 6 122 [vR 74, vU, vU, vI x3, vI (x4 + 1)] [] (SH T, (up c2 73 6 ((c 73 6) + (abz ((c 75 x4) - r1)))))))) (ccal 23 [vR 15, vI x4, vI x3] (SH T, c))))) ∧ (¬ x4 < 12 → Q (some (none, (SH T, c)))))) : Q (cev 1 6 122 [vR 74, vU, vU, vI x3, vI x4] [] (SH T, c)) := by
  refine of_cev (Q := Q) ?_
  refine wq_ite (Q := Q) (p := x4 < 12) (fun h => ?_) (fun h => ?_)
  · replace k := k.1 h
    refine wq_pos (Q := Q) k.1 ?_
    replace k := k.2
    refine wq_callI (Q := Q) rfl k ?_
    intro r1 c2 k
    refine wq_pos (Q := Q) k.1.1 ?_
    refine wq_pos (Q := Q) k.1.2.1 ?_
    refine wq_pos (Q := Q) k.1.2.2.1 ?_
    refine wq_pos (Q := Q) k.1.2.2.2 ?_
    replace k := k.2
    exact k
  · replace k := k.2 h
    show Q (cev 1 6 165 [vU, vU, vU, vU, vU] [] (SH T, c))
    refine of_cev (Q := Q) ?_
    exact k
set_option maxRecDepth 20000 in
theorem W_X0_yearsOf {T : List Shp} {c : Nat → Int → Int} {Q : Res → Prop} {x1 : Int} (k : ((0 ≤ x1 ∧ x1 < (c 73 3) → ((0 ≤ x1 ∧ x1 < 5) ∧ Q (some (some (vI (c 74 x1)), (SH T, c))))) ∧ (¬ (0 ≤ x1 ∧ x1 < (c 73 3)) → Q (some (some (vI (-1)), (SH T, c)))))) : Q (ccal 2 [vR 74, vI x1] (SH T, c)) := by
  refine of_cev (Q := Q) ?_
  refine wq_sum (Q := Q) rfl (S_X11_inside T c x1 (c 73 3)) ?_
  refine wq_b01 (Q := Q) (p := 0 ≤ x1 ∧ x1 < (c 73 3)) (fun h => ?_) (fun h => ?_)
  · replace k := k.2 h
    show Q (cev 2 2 20 [vU, vU] [] (SH T, c))
    refine of_cev (Q := Q) ?_
    exact k
  · replace k := k.1 h
    refine wq_pos (Q := Q) k.1 ?_
    replace k := k.2
    exact k
set_option maxRecDepth 20000 in
theorem W_X0_paintOne {T : List Shp} {c : Nat → Int → Int} {Q : Res → Prop} {x1 : Int} (k : (QI T (fun r1 c2 => (((0 ≤ r1 ∧ r1 < 5) ∧ (-2147483648 ≤ (c2 74 r1) + 1 ∧ (c2 74 r1) + 1 < 2147483648)) ∧ Q (cev 3 5 21 [vR 74, vI x1, vI r1, vI 0, vU, vU, vU, vU] [] (SH T, (up c2 74 r1 ((c2 74 r1) + 1)))))) (ccal 4 [vR 74, vI (c 73 3)] (SH T, c)))) : Q (ccal 3 [vR 74, vI x1] (SH T, c)) := by
  refine of_cev (Q := Q) ?_
  refine wq_callI (Q := Q) rfl k ?_
  intro r1 c2 k
  refine wq_pos (Q := Q) k.1.1 ?_
  refine wq_pos (Q := Q) k.1.2 ?_
  refine wq_pos (Q := Q) k.1.1 ?_
  replace k := k.2
  exact k
set_option maxRecDepth 20000 in
theorem W_X0_paintOne_21 {T : List Shp} {c : Nat → Int → Int} {Q : Res → Prop} {x1 x2 x3 : Int} (k : ((x3 < 12 → (QI T (fun r1 c2 => ((0 ≤ x3 ∧ x3 < 12) ∧ (QI T (fun r3 c4 => (QI T (fun r5 c6 => ((r5 = 0 → Q (cev 3 5 85 [vR 74, vI x1, vI x2, vI x3, vU, vI r3, vU, vU] [vI (-1)] (SH T, c6))) ∧ (¬ r5 = 0 → ((r5 = 1 → Q (cev 3 5 85 [vR 74, vI x1, vI x2, vI x3, vU, vI r3, vU, vU] [vI 1] (SH T, c6))) ∧ (¬ r5 = 1 → Q (cev 3 5 85 [vR 74, vI x1, vI x2, vI x3, vU, vI r3, vU, vU] [vI 0] (SH T, c6))))))) (ccal 4 [vR 74, vI 8] (SH T, c4)))) (ccal 76 [vR 2, vI x2, vI x3, vI (c2 75 x3), vI r1] (SH T, c2))))) (ccal 23 [vR 15, vI x3, vI x1] (SH T, c)))) ∧ (¬ x3 < 12 → Q (some (none, (SH T, c)))))) : Q (cev 3 5 21 [vR 74, vI x1, vI x2, vI x3, vU, vU, vU, vU] [] (SH T, c)) := by
  refine of_cev (Q := Q) ?_
  refine wq_ite (Q := Q) (p := x3 < 12) (fun h => ?_) (fun h => ?_)
  · replace k := k.1 h
    refine wq_callI (Q := Q) rfl k ?_
    intro r1 c2 k
    refine wq_pos (Q := Q) k.1 ?_
    replace k := k.2
    refine wq_callI (Q := Q) rfl k ?_
    intro r3 c4 k
    refine wq_callI (Q := Q) rfl k ?_
    intro r5 c6 k
    refine wq_ite (Q := Q) (p := r5 = 0) (fun h => ?_) (fun h => ?_)
    · replace k := k.1 h
      exact k
    · replace k := k.2 h
      show Q (cev 3 5 74 [vR 74, vI x1, vI x2, vI x3, vU, vI r3, vI r5, vU] [] (SH T, c6))
      refine of_cev (Q := Q) ?_
      refine wq_ite (Q := Q) (p := r5 = 1) (fun h => ?_) (fun h => ?_)
      · replace k := k.1 h
        exact k
      · replace k := k.2 h
        show Q (cev 3 5 84 [vR 74, vI x1, vI x2, vI x3, vU, vI r3, vU, vU] [] (SH T, c6))
        refine of_cev (Q := Q) ?_
        exact k
  · replace k := k.2 h
    show Q (cev 3 5 110 [vU, vU, vU, vU, vU, vU, vU, vU] [] (SH T, c))
    refine of_cev (Q := Q) ?_
    exact k
set_option maxRecDepth 20000 in
theorem W_X0_paintOne_85 {T : List Shp} {c : Nat → Int → Int} {Q : Res → Prop} {x1 x2 x3 x5 y0 : Int} (k : (((-2147483648 ≤ x5 + y0 ∧ x5 + y0 < 2147483648) ∧ (0 ≤ x3 ∧ x3 < 12) ∧ (-2147483648 ≤ x3 + 1 ∧ x3 + 1 < 2147483648)) ∧ Q (cev 3 5 21 [vR 74, vI x1, vI x2, vI (x3 + 1), vU, vU, vU, vU] [] (SH T, (up c 75 x3 (clp (x5 + y0) 0 9)))))) : Q (cev 3 5 85 [vR 74, vI x1, vI x2, vI x3, vU, vI x5, vU, vU] [vI y0] (SH T, c)) := by
  refine of_cev (Q := Q) ?_
  refine wq_pos (Q := Q) k.1.1 ?_
  refine wq_sum (Q := Q) rfl (S_X11_nearest T c (x5 + y0) 0 9) ?_
  refine wq_pos (Q := Q) k.1.2.1 ?_
  refine wq_pos (Q := Q) k.1.2.2 ?_
  replace k := k.2
  exact k
set_option maxRecDepth 20000 in
theorem W_X0_draw {T : List Shp} {c : Nat → Int → Int} {Q : Res → Prop} {x1 : Int} (k : (((-2147483648 ≤ (c 73 2) * 1103 ∧ (c 73 2) * 1103 < 2147483648) ∧ (-2147483648 ≤ ((c 73 2) * 1103) + 12345 ∧ ((c 73 2) * 1103) + 12345 < 2147483648) ∧ ((0 ≤ (((c 73 2) * 1103) + 12345) ∧ (((c 73 2) * 1103) + 12345) < 2147483648) ∧ (0 : Int) < 1000003)) ∧ ((0 < x1 → (((0 ≤ ((((c 73 2) * 1103) + 12345) % 1000003) ∧ ((((c 73 2) * 1103) + 12345) % 1000003) < 2147483648) ∧ (0 : Int) < x1) ∧ Q (some (some (vI (((((c 73 2) * 1103) + 12345) % 1000003) % x1)), (SH T, (up c 73 2 ((((c 73 2) * 1103) + 12345) % 1000003))))))) ∧ (¬ 0 < x1 → Q (some (some (vI 0), (SH T, (up c 73 2 ((((c 73 2) * 1103) + 12345) % 1000003))))))))) : Q (ccal 4 [vR 74, vI x1] (SH T, c)) := by
  refine of_cev (Q := Q) ?_
  refine wq_pos (Q := Q) k.1.1 ?_
  refine wq_pos (Q := Q) k.1.2.1 ?_
  refine wq_pos (Q := Q) k.1.2.2 ?_
  replace k := k.2
  refine wq_ite (Q := Q) (p := 0 < x1) (fun h => ?_) (fun h => ?_)
  · replace k := k.1 h
    refine wq_pos (Q := Q) k.1 ?_
    replace k := k.2
    exact k
  · replace k := k.2 h
    show Q (cev 4 1 32 [vU, vU] [] (SH T, (up c 73 2 ((((c 73 2) * 1103) + 12345) % 1000003))))
    refine of_cev (Q := Q) ?_
    exact k
set_option maxRecDepth 20000 in
theorem W_X10_clear {T : List Shp} {c : Nat → Int → Int} {Q : Res → Prop} (k : Q (some (none, (SH T, (up (up (up c 11 2 0) 11 3 0) 11 4 0))))) : Q (ccal 109 [vR 12] (SH T, c)) := by
  refine of_cev (Q := Q) ?_
  exact k
set_option maxRecDepth 20000 in
theorem W_X10_add {T : List Shp} {c : Nat → Int → Int} {Q : Res → Prop} {x1 x2 : Int} (k : (((c 11 3) < 450 → (((-2147483648 ≤ 16 * x2 ∧ 16 * x2 < 2147483648) ∧ (-2147483648 ≤ x1 + (16 * x2) ∧ x1 + (16 * x2) < 2147483648) ∧ (0 ≤ (c 11 3) ∧ (c 11 3) < 450) ∧ (-2147483648 ≤ (c 11 3) + 1 ∧ (c 11 3) + 1 < 2147483648)) ∧ Q (some (none, (SH T, (up (up c 13 (c 11 3) (x1 + (16 * x2))) 11 3 ((c 11 3) + 1))))))) ∧ (¬ (c 11 3) < 450 → Q (some (none, (SH T, c)))))) : Q (ccal 110 [vR 12, vI x1, vI x2] (SH T, c)) := by
  refine of_cev (Q := Q) ?_
  refine wq_ite (Q := Q) (p := (c 11 3) < 450) (fun h => ?_) (fun h => ?_)
  · replace k := k.1 h
    refine wq_pos (Q := Q) k.1.1 ?_
    refine wq_pos (Q := Q) k.1.2.1 ?_
    refine wq_pos (Q := Q) k.1.2.2.1 ?_
    refine wq_pos (Q := Q) k.1.2.2.2 ?_
    show Q (cev 110 1 37 [vU, vU, vU] [] (SH T, (up (up c 13 (c 11 3) (x1 + (16 * x2))) 11 3 ((c 11 3) + 1))))
    refine of_cev (Q := Q) ?_
    replace k := k.2
    exact k
  · replace k := k.2 h
    show Q (cev 110 1 37 [vU, vU, vU] [] (SH T, c))
    refine of_cev (Q := Q) ?_
    exact k
set_option maxRecDepth 20000 in
theorem W_X10_jumpHere {T : List Shp} {c : Nat → Int → Int} {Q : Res → Prop} {x1 : Int} (k : ((x1 < 0 → Q (some (none, (SH T, c)))) ∧ (¬ x1 < 0 → ((x1 < (c 11 3) → (((0 ≤ x1 ∧ x1 < 450) ∧ (-2147483648 ≤ 16 * (c 11 3) ∧ 16 * (c 11 3) < 2147483648) ∧ (-2147483648 ≤ (iand (c 13 x1) 15) + (16 * (c 11 3)) ∧ (iand (c 13 x1) 15) + (16 * (c 11 3)) < 2147483648)) ∧ Q (some (none, (SH T, (up c 13 x1 ((iand (c 13 x1) 15) + (16 * (c 11 3))))))))) ∧ (¬ x1 < (c 11 3) → Q (some (none, (SH T, c)))))))) : Q (ccal 111 [vR 12, vI x1] (SH T, c)) := by
  refine of_cev (Q := Q) ?_
  refine wq_ite (Q := Q) (p := x1 < 0) (fun h => ?_) (fun h => ?_)
  · replace k := k.1 h
    show Q (cev 111 1 35 [vU, vU] [] (SH T, c))
    refine of_cev (Q := Q) ?_
    exact k
  · replace k := k.2 h
    refine wq_ite (Q := Q) (p := x1 < (c 11 3)) (fun h => ?_) (fun h => ?_)
    · replace k := k.1 h
      refine wq_pos (Q := Q) k.1.1 ?_
      refine wq_pos (Q := Q) k.1.2.1 ?_
      refine wq_pos (Q := Q) k.1.2.2 ?_
      refine wq_pos (Q := Q) k.1.1 ?_
      show Q (cev 111 1 35 [vU, vU] [] (SH T, (up c 13 x1 ((iand (c 13 x1) 15) + (16 * (c 11 3))))))
      refine of_cev (Q := Q) ?_
      replace k := k.2
      exact k
    · replace k := k.2 h
      show Q (cev 111 1 35 [vU, vU] [] (SH T, c))
      refine of_cev (Q := Q) ?_
      exact k
set_option maxRecDepth 20000 in
theorem W_X6_faultIn {T : List Shp} {c : Nat → Int → Int} {Q : Res → Prop} {x1 x2 : Int} (k : ((x2 = 0 ∨ x2 = 1) ∧ (QV T (fun c1 => (QV T (fun c2 => Q (cev 43 104 41 [vR 49, vU, vU, vI 0, vU] [] (SH T, c2))) (ccal 62 [vR 49] (SH T, (up (up c1 48 6 0) 48 8 0))))) (ccal 109 [vR 12] (SH T, (up (up c 48 1 (if 400 < x1 then 400 else x1)) 48 3 x2)))))) : Q (ccal 43 [vR 49, vI x1, vI x2] (SH T, c)) := by
  refine of_cev (Q := Q) ?_
  refine wq_pos (Q := Q) k.1 ?_
  replace k := k.2
  refine wq_callV (Q := Q) rfl k ?_
  intro c1 k
  refine wq_callV (Q := Q) rfl k ?_
  intro c2 k
  exact k
set_option maxRecDepth 20000 in
theorem W_X6_faultIn_41 {T : List Shp} {c : Nat → Int → Int} {Q : Res → Prop} {x3 : Int} (k : ((x3 < 12 → ((-2147483648 ≤ x3 * 6 ∧ x3 * 6 < 2147483648) ∧ (QV T (fun c1 => (((c1 48 3) = 0 → (QI T (fun r2 c3 => ((r2 = 0 → Q (some (some (vI (c3 48 5)), (SH T, c3)))) ∧ (¬ r2 = 0 → Q (cev 43 104 87 [vR 49, vU, vU, vI x3, vI (x3 * 6)] [] (SH T, c3))))) (ccal 45 [vR 49, vI (x3 * 6)] (SH T, c1)))) ∧ (¬ (c1 48 3) = 0 → (QI T (fun r4 c5 => ((r4 = 0 → Q (some (some (vI (c5 48 5)), (SH T, c5)))) ∧ (¬ r4 = 0 → Q (cev 43 104 87 [vR 49, vU, vU, vI x3, vI (x3 * 6)] [] (SH T, c5))))) (ccal 46 [vR 49, vI (x3 * 6)] (SH T, c1)))))) (ccal 44 [vR 49, vI (x3 * 6)] (SH T, c))))) ∧ (¬ x3 < 12 → Q (some (some (vI (c 48 5)), (SH T, c)))))) : Q (cev 43 104 41 [vR 49, vU, vU, vI x3, vU] [] (SH T, c)) := by
  refine of_cev (Q := Q) ?_
  refine wq_ite (Q := Q) (p := x3 < 12) (fun h => ?_) (fun h => ?_)
  · replace k := k.1 h
    refine wq_pos (Q := Q) k.1 ?_
    replace k := k.2
    refine wq_callV (Q := Q) rfl k ?_
    intro c1 k
    refine wq_ite (Q := Q) (p := (c1 48 3) = 0) (fun h => ?_) (fun h => ?_)
    · replace k := k.1 h
      show Q (cev 43 104 78 [vR 49, vU, vU, vI x3, vI (x3 * 6)] [] (SH T, c1))
      refine of_cev (Q := Q) ?_
      refine wq_callI (Q := Q) rfl k ?_
      intro r2 c3 k
      refine wq_ite (Q := Q) (p := r2 = 0) (fun h => ?_) (fun h => ?_)
      · replace k := k.1 h
        show Q (cev 43 104 96 [vR 49, vU, vU, vU, vU] [] (SH T, c3))
        refine of_cev (Q := Q) ?_
        exact k
      · replace k := k.2 h
        exact k
    · replace k := k.2 h
      refine wq_callI (Q := Q) rfl k ?_
      intro r4 c5 k
      refine wq_ite (Q := Q) (p := r4 = 0) (fun h => ?_) (fun h => ?_)
      · replace k := k.1 h
        show Q (cev 43 104 96 [vR 49, vU, vU, vU, vU] [] (SH T, c5))
        refine of_cev (Q := Q) ?_
        exact k
      · replace k := k.2 h
        exact k
  · replace k := k.2 h
    show Q (cev 43 104 141 [vR 49, vU, vU, vU, vU] [] (SH T, c))
    refine of_cev (Q := Q) ?_
    exact k
set_option maxRecDepth 20000 in
theorem W_X6_faultIn_87 {T : List Shp} {c : Nat → Int → Int} {Q : Res → Prop} {x3 x4 : Int} (k : (QI T (fun r1 c2 => ((r1 = 0 → Q (some (some (vI (c2 48 5)), (SH T, c2)))) ∧ (¬ r1 = 0 → ((-2147483648 ≤ x3 + 1 ∧ x3 + 1 < 2147483648) ∧ (((c2 48 4) = 3 → Q (some (some (vI (-1)), (SH T, (up c2 11 2 (x3 + 1)))))) ∧ (¬ (c2 48 4) = 3 → (QI T (fun r3 c4 => ((r3 = 0 → Q (some (some (vI (c4 48 5)), (SH T, c4)))) ∧ (¬ r3 = 0 → ((-2147483648 ≤ x3 + 1 ∧ x3 + 1 < 2147483648) ∧ Q (cev 43 104 41 [vR 49, vU, vU, vI (x3 + 1), vU] [] (SH T, c4)))))) (ccal 58 [vR 49, vI 59] (SH T, (up c2 11 2 (x3 + 1))))))))))) (ccal 48 [vR 49, vI x4] (SH T, c)))) : Q (cev 43 104 87 [vR 49, vU, vU, vI x3, vI x4] [] (SH T, c)) := by
  refine of_cev (Q := Q) ?_
  refine wq_callI (Q := Q) rfl k ?_
  intro r1 c2 k
  refine wq_ite (Q := Q) (p := r1 = 0) (fun h => ?_) (fun h => ?_)
  · replace k := k.1 h
    show Q (cev 43 104 96 [vR 49, vU, vU, vU, vU] [] (SH T, c2))
    refine of_cev (Q := Q) ?_
    exact k
  · replace k := k.2 h
    show Q (cev 43 104 101 [vR 49, vU, vU, vI x3, vU] [] (SH T, c2))
    refine of_cev (Q := Q) ?_
    refine wq_pos (Q := Q) k.1 ?_
    replace k := k.2
    refine wq_ite (Q := Q) (p := (c2 48 4) = 3) (fun h => ?_) (fun h => ?_)
    · replace k := k.1 h
      exact k
    · replace k := k.2 h
      show Q (cev 43 104 121 [vR 49, vU, vU, vI x3, vU] [] (SH T, (up c2 11 2 (x3 + 1))))
      refine of_cev (Q := Q) ?_
      refine wq_callI (Q := Q) rfl k ?_
      intro r3 c4 k
      refine wq_ite (Q := Q) (p := r3 = 0) (fun h => ?_) (fun h => ?_)
      · replace k := k.1 h
        exact k
      · replace k := k.2 h
        show Q (cev 43 104 135 [vR 49, vU, vU, vI x3, vU] [] (SH T, c4))
        refine of_cev (Q := Q) ?_
        refine wq_pos (Q := Q) k.1 ?_
        replace k := k.2
        exact k
set_option maxRecDepth 20000 in
theorem W_X6_clearRow {T : List Shp} {c : Nat → Int → Int} {Q : Res → Prop} {x1 : Int} (k : Q (cev 44 1 2 [vR 49, vI x1, vI 0] [] (SH T, c))) : Q (ccal 44 [vR 49, vI x1] (SH T, c)) := by
  refine of_cev (Q := Q) ?_
  exact k
set_option maxRecDepth 20000 in
theorem W_X6_clearRow_2 {T : List Shp} {c : Nat → Int → Int} {Q : Res → Prop} {x1 x2 : Int} (k : ((x2 < 6 → (((-2147483648 ≤ x1 + x2 ∧ x1 + x2 < 2147483648) ∧ (0 ≤ (x1 + x2) ∧ (x1 + x2) < 72) ∧ (-2147483648 ≤ x2 + 1 ∧ x2 + 1 < 2147483648)) ∧ Q (cev 44 1 2 [vR 49, vI x1, vI (x2 + 1)] [] (SH T, (up c 12 (x1 + x2) (-1)))))) ∧ (¬ x2 < 6 → (((-2147483648 ≤ x1 + 1 ∧ x1 + 1 < 2147483648) ∧ (0 ≤ (x1 + 1) ∧ (x1 + 1) < 72)) ∧ Q (some (none, (SH T, (up c 12 (x1 + 1) 1)))))))) : Q (cev 44 1 2 [vR 49, vI x1, vI x2] [] (SH T, c)) := by
  refine of_cev (Q := Q) ?_
  refine wq_ite (Q := Q) (p := x2 < 6) (fun h => ?_) (fun h => ?_)
  · replace k := k.1 h
    refine wq_pos (Q := Q) k.1.1 ?_
    refine wq_pos (Q := Q) k.1.2.1 ?_
    refine wq_pos (Q := Q) k.1.2.2 ?_
    replace k := k.2
    exact k
  · replace k := k.2 h
    show Q (cev 44 1 26 [vR 49, vI x1, vU] [] (SH T, c))
    refine of_cev (Q := Q) ?_
    refine wq_pos (Q := Q) k.1.1 ?_
    refine wq_pos (Q := Q) k.1.2 ?_
    replace k := k.2
    exact k
set_option maxRecDepth 20000 in
theorem W_X6_readClause {T : List Shp} {c : Nat → Int → Int} {Q : Res → Prop} {x1 : Int} (k : (QI T (fun r1 c2 => ((r1 = (-1) → Q (some (some (vI 0), (SH T, c2)))) ∧ (¬ r1 = (-1) → (((-2147483648 ≤ x1 + 0 ∧ x1 + 0 < 2147483648) ∧ (0 ≤ (x1 + 0) ∧ (x1 + 0) < 72)) ∧ (QV T (fun c3 => ((r1 = 4 → Q (some (some (vI 1), (SH T, c3)))) ∧ (¬ r1 = 4 → (QI T (fun r4 c5 => ((r4 = 0 → Q (some (some (vI 0), (SH T, c5)))) ∧ (¬ r4 = 0 → Q (some (some (vI 1), (SH T, c5)))))) (ccal 49 [vR 49, vI x1, vI 0] (SH T, c3)))))) (ccal 62 [vR 49] (SH T, (up c2 12 (x1 + 0) r1)))))))) (ccal 60 [vR 49, vR (-100)] (SH T, c)))) : Q (ccal 45 [vR 49, vI x1] (SH T, c)) := by
  refine of_cev (Q := Q) ?_
  refine wq_callI (Q := Q) rfl k ?_
  intro r1 c2 k
  refine wq_ite (Q := Q) (p := r1 = (-1)) (fun h => ?_) (fun h => ?_)
  · replace k := k.1 h
    exact k
  · replace k := k.2 h
    show Q (cev 45 101 14 [vR 49, vI x1, vI r1] [] (SH T, c2))
    refine of_cev (Q := Q) ?_
    refine wq_pos (Q := Q) k.1.1 ?_
    refine wq_pos (Q := Q) k.1.2 ?_
    replace k := k.2
    refine wq_callV (Q := Q) rfl k ?_
    intro c3 k
    refine wq_ite (Q := Q) (p := r1 = 4) (fun h => ?_) (fun h => ?_)
    · replace k := k.1 h
      show Q (cev 45 101 44 [vU, vU, vU] [] (SH T, c3))
      refine of_cev (Q := Q) ?_
      exact k
    · replace k := k.2 h
      refine wq_callI (Q := Q) rfl k ?_
      intro r4 c5 k
      refine wq_ite (Q := Q) (p := r4 = 0) (fun h => ?_) (fun h => ?_)
      · replace k := k.1 h
        show Q (cev 45 101 48 [vU, vU, vU] [] (SH T, c5))
        refine of_cev (Q := Q) ?_
        exact k
      · replace k := k.2 h
        show Q (cev 45 101 44 [vU, vU, vU] [] (SH T, c5))
        refine of_cev (Q := Q) ?_
        exact k
set_option maxRecDepth 20000 in
theorem W_X6_readOrder {T : List Shp} {c : Nat → Int → Int} {Q : Res → Prop} {x1 : Int} (k : (QI T (fun r1 c2 => ((r1 = (-1) → Q (some (some (vI 0), (SH T, c2)))) ∧ (¬ r1 = (-1) → (QV T (fun c3 => ((r1 = 0 → (QI T (fun r4 c5 => ((r4 = (-1) → Q (some (some (vI 0), (SH T, c5)))) ∧ (¬ r4 = (-1) → (QV T (fun c6 => Q (cev 46 101 46 [vR 49, vI x1, vI r4] [] (SH T, c6))) (ccal 62 [vR 49] (SH T, c5)))))) (ccal 60 [vR 49, vR (-102)] (SH T, c3)))) ∧ (¬ r1 = 0 → ((-2147483648 ≤ r1 + 2 ∧ r1 + 2 < 2147483648) ∧ Q (cev 46 101 46 [vR 49, vI x1, vI (r1 + 2)] [] (SH T, c3)))))) (ccal 62 [vR 49] (SH T, c2)))))) (ccal 60 [vR 49, vR (-101)] (SH T, c)))) : Q (ccal 46 [vR 49, vI x1] (SH T, c)) := by
  refine of_cev (Q := Q) ?_
  refine wq_callI (Q := Q) rfl k ?_
  intro r1 c2 k
  refine wq_ite (Q := Q) (p := r1 = (-1)) (fun h => ?_) (fun h => ?_)
  · replace k := k.1 h
    exact k
  · replace k := k.2 h
    show Q (cev 46 101 14 [vR 49, vI x1, vI r1] [] (SH T, c2))
    refine of_cev (Q := Q) ?_
    refine wq_callV (Q := Q) rfl k ?_
    intro c3 k
    refine wq_ite (Q := Q) (p := r1 = 0) (fun h => ?_) (fun h => ?_)
    · replace k := k.1 h
      refine wq_callI (Q := Q) rfl k ?_
      intro r4 c5 k
      refine wq_ite (Q := Q) (p := r4 = (-1)) (fun h => ?_) (fun h => ?_)
      · replace k := k.1 h
        exact k
      · replace k := k.2 h
        show Q (cev 46 101 36 [vR 49, vI x1, vI r4] [] (SH T, c5))
        refine of_cev (Q := Q) ?_
        refine wq_callV (Q := Q) rfl k ?_
        intro c6 k
        exact k
    · replace k := k.2 h
      show Q (cev 46 101 43 [vR 49, vI x1, vI r1] [] (SH T, c3))
      refine of_cev (Q := Q) ?_
      refine wq_pos (Q := Q) k.1 ?_
      replace k := k.2
      exact k
set_option maxRecDepth 20000 in
theorem W_X6_readOrder_46 {T : List Shp} {c : Nat → Int → Int} {Q : Res → Prop} {x1 x2 : Int} (k : (((-2147483648 ≤ x1 + 0 ∧ x1 + 0 < 2147483648) ∧ (0 ≤ (x1 + 0) ∧ (x1 + 0) < 72)) ∧ ((x2 = 2 → (QI T (fun r1 c2 => ((r1 = 0 → Q (some (some (vI 0), (SH T, c2)))) ∧ (¬ r1 = 0 → Q (cev 46 101 74 [vR 49, vI x1, vI x2] [] (SH T, c2))))) (ccal 49 [vR 49, vI x1, vI 0] (SH T, (up c 12 (x1 + 0) x2))))) ∧ (¬ x2 = 2 → Q (cev 46 101 74 [vR 49, vI x1, vI x2] [] (SH T, (up c 12 (x1 + 0) x2))))))) : Q (cev 46 101 46 [vR 49, vI x1, vI x2] [] (SH T, c)) := by
  refine of_cev (Q := Q) ?_
  refine wq_pos (Q := Q) k.1.1 ?_
  refine wq_pos (Q := Q) k.1.2 ?_
  replace k := k.2
  refine wq_ite (Q := Q) (p := x2 = 2) (fun h => ?_) (fun h => ?_)
  · replace k := k.1 h
    refine wq_callI (Q := Q) rfl k ?_
    intro r1 c2 k
    refine wq_ite (Q := Q) (p := r1 = 0) (fun h => ?_) (fun h => ?_)
    · replace k := k.1 h
      exact k
    · replace k := k.2 h
      exact k
  · replace k := k.2 h
    exact k
set_option maxRecDepth 20000 in
theorem W_X6_readOrder_74 {T : List Shp} {c : Nat → Int → Int} {Q : Res → Prop} {x1 x2 : Int} (k : ((x2 = 5 → (QI T (fun r1 c2 => ((r1 = 0 → Q (some (some (vI 0), (SH T, c2)))) ∧ (¬ r1 = 0 → (QI T (fun r3 c4 => ((r3 = 0 → Q (some (some (vI 0), (SH T, c4)))) ∧ (¬ r3 = 0 → (QI T (fun r5 c6 => ((r5 = 0 → Q (some (some (vI 0), (SH T, c6)))) ∧ (¬ r5 = 0 → (QI T (fun r7 c8 => ((r7 = 0 → Q (some (some (vI 0), (SH T, c8)))) ∧ (¬ r7 = 0 → (QI T (fun r9 c10 => ((r9 = 0 → Q (some (some (vI 0), (SH T, c10)))) ∧ (¬ r9 = 0 → Q (cev 46 101 126 [vR 49, vI x1, vU] [] (SH T, c10))))) (ccal 49 [vR 49, vI x1, vI 2] (SH T, c8)))))) (ccal 59 [vR 49, vR (-104)] (SH T, c6)))))) (ccal 49 [vR 49, vI x1, vI 1] (SH T, c4)))))) (ccal 59 [vR 49, vR (-103)] (SH T, c2)))))) (ccal 49 [vR 49, vI x1, vI 0] (SH T, c)))) ∧ (¬ x2 = 5 → Q (cev 46 101 126 [vR 49, vI x1, vU] [] (SH T, c))))) : Q (cev 46 101 74 [vR 49, vI x1, vI x2] [] (SH T, c)) := by
  refine of_cev (Q := Q) ?_
  refine wq_ite (Q := Q) (p := x2 = 5) (fun h => ?_) (fun h => ?_)
  · replace k := k.1 h
    refine wq_callI (Q := Q) rfl k ?_
    intro r1 c2 k
    refine wq_ite (Q := Q) (p := r1 = 0) (fun h => ?_) (fun h => ?_)
    · replace k := k.1 h
      show Q (cev 46 101 124 [vU, vU, vU] [] (SH T, c2))
      refine of_cev (Q := Q) ?_
      exact k
    · replace k := k.2 h
      refine wq_callI (Q := Q) rfl k ?_
      intro r3 c4 k
      refine wq_ite (Q := Q) (p := r3 = 0) (fun h => ?_) (fun h => ?_)
      · replace k := k.1 h
        show Q (cev 46 101 124 [vU, vU, vU] [] (SH T, c4))
        refine of_cev (Q := Q) ?_
        exact k
      · replace k := k.2 h
        refine wq_callI (Q := Q) rfl k ?_
        intro r5 c6 k
        refine wq_ite (Q := Q) (p := r5 = 0) (fun h => ?_) (fun h => ?_)
        · replace k := k.1 h
          show Q (cev 46 101 124 [vU, vU, vU] [] (SH T, c6))
          refine of_cev (Q := Q) ?_
          exact k
        · replace k := k.2 h
          refine wq_callI (Q := Q) rfl k ?_
          intro r7 c8 k
          refine wq_ite (Q := Q) (p := r7 = 0) (fun h => ?_) (fun h => ?_)
          · replace k := k.1 h
            show Q (cev 46 101 124 [vU, vU, vU] [] (SH T, c8))
            refine of_cev (Q := Q) ?_
            exact k
          · replace k := k.2 h
            refine wq_callI (Q := Q) rfl k ?_
            intro r9 c10 k
            refine wq_ite (Q := Q) (p := r9 = 0) (fun h => ?_) (fun h => ?_)
            · replace k := k.1 h
              show Q (cev 46 101 124 [vU, vU, vU] [] (SH T, c10))
              refine of_cev (Q := Q) ?_
              exact k
            · replace k := k.2 h
              exact k
  · replace k := k.2 h
    exact k
set_option maxRecDepth 20000 in
theorem W_X6_readOrder_126 {T : List Shp} {c : Nat → Int → Int} {Q : Res → Prop} {x1 : Int} (k : (QI T (fun r1 c2 => ((r1 = 0 ∨ r1 = 1) ∧ Q (some (some (vI r1), (SH T, c2))))) (ccal 47 [vR 49, vI x1] (SH T, c)))) : Q (cev 46 101 126 [vR 49, vI x1, vU] [] (SH T, c)) := by
  refine of_cev (Q := Q) ?_
  refine wq_callI (Q := Q) rfl k ?_
  intro r1 c2 k
  refine wq_pos (Q := Q) k.1 ?_
  replace k := k.2
  exact k
set_option maxRecDepth 20000 in
theorem W_X6_readTimes {T : List Shp} {c : Nat → Int → Int} {Q : Res → Prop} {x1 : Int} (k : (QI T (fun r1 c2 => ((r1 = 0 → Q (some (some (vI 1), (SH T, c2)))) ∧ (¬ r1 = 0 → (((c2 48 4) = 1 → (((c2 48 7) < 1 → Q (some (some (vI 0), (SH T, c2)))) ∧ (¬ (c2 48 7) < 1 → ((20 < (c2 48 7) → Q (some (some (vI 0), (SH T, c2)))) ∧ (¬ 20 < (c2 48 7) → (((-2147483648 ≤ x1 + 1 ∧ x1 + 1 < 2147483648) ∧ (0 ≤ (x1 + 1) ∧ (x1 + 1) < 72)) ∧ (QV T (fun c3 => Q (some (some (vI 1), (SH T, c3)))) (ccal 62 [vR 49] (SH T, (up c2 12 (x1 + 1) (c2 48 7))))))))))) ∧ (¬ (c2 48 4) = 1 → Q (some (some (vI 0), (SH T, c2)))))))) (ccal 59 [vR 49, vR (-105)] (SH T, c)))) : Q (ccal 47 [vR 49, vI x1] (SH T, c)) := by
  refine of_cev (Q := Q) ?_
  refine wq_callI (Q := Q) rfl k ?_
  intro r1 c2 k
  refine wq_ite (Q := Q) (p := r1 = 0) (fun h => ?_) (fun h => ?_)
  · replace k := k.1 h
    exact k
  · replace k := k.2 h
    show Q (cev 47 7 11 [vR 49, vI x1] [] (SH T, c2))
    refine of_cev (Q := Q) ?_
    refine wq_ite (Q := Q) (p := (c2 48 4) = 1) (fun h => ?_) (fun h => ?_)
    · replace k := k.1 h
      refine wq_ite (Q := Q) (p := (c2 48 7) < 1) (fun h => ?_) (fun h => ?_)
      · replace k := k.1 h
        show Q (cev 47 7 36 [vU, vU] [] (SH T, c2))
        refine of_cev (Q := Q) ?_
        exact k
      · replace k := k.2 h
        refine wq_ite (Q := Q) (p := 20 < (c2 48 7)) (fun h => ?_) (fun h => ?_)
        · replace k := k.1 h
          show Q (cev 47 7 36 [vU, vU] [] (SH T, c2))
          refine of_cev (Q := Q) ?_
          exact k
        · replace k := k.2 h
          show Q (cev 47 7 38 [vR 49, vI x1] [] (SH T, c2))
          refine of_cev (Q := Q) ?_
          refine wq_pos (Q := Q) k.1.1 ?_
          refine wq_pos (Q := Q) k.1.2 ?_
          replace k := k.2
          refine wq_callV (Q := Q) rfl k ?_
          intro c3 k
          exact k
    · replace k := k.2 h
      show Q (cev 47 7 36 [vU, vU] [] (SH T, c2))
      refine of_cev (Q := Q) ?_
      exact k
set_option maxRecDepth 20000 in
theorem W_X6_readIf {T : List Shp} {c : Nat → Int → Int} {Q : Res → Prop} {x1 : Int} (k : (QI T (fun r1 c2 => ((r1 = 0 → Q (some (some (vI 1), (SH T, c2)))) ∧ (¬ r1 = 0 → (((-2147483648 ≤ x1 + 2 ∧ x1 + 2 < 2147483648) ∧ (0 ≤ (x1 + 2) ∧ (x1 + 2) < 72)) ∧ (QI T (fun r3 c4 => (QV T (fun c5 => ((r3 = 0 ∨ r3 = 1) ∧ Q (some (some (vI r3), (SH T, c5))))) (ccal 110 [vR 12, vI 12, vI 0] (SH T, c4)))) (ccal 50 [vR 49, vI 0] (SH T, (up c2 12 (x1 + 2) (c2 11 3))))))))) (ccal 59 [vR 49, vR (-106)] (SH T, c)))) : Q (ccal 48 [vR 49, vI x1] (SH T, c)) := by
  refine of_cev (Q := Q) ?_
  refine wq_callI (Q := Q) rfl k ?_
  intro r1 c2 k
  refine wq_ite (Q := Q) (p := r1 = 0) (fun h => ?_) (fun h => ?_)
  · replace k := k.1 h
    exact k
  · replace k := k.2 h
    show Q (cev 48 103 11 [vR 49, vI x1, vU] [] (SH T, c2))
    refine of_cev (Q := Q) ?_
    refine wq_pos (Q := Q) k.1.1 ?_
    refine wq_pos (Q := Q) k.1.2 ?_
    replace k := k.2
    refine wq_callI (Q := Q) rfl k ?_
    intro r3 c4 k
    refine wq_callV (Q := Q) rfl k ?_
    intro c5 k
    refine wq_pos (Q := Q) k.1 ?_
    replace k := k.2
    exact k
set_option maxRecDepth 20000 in
theorem W_X6_readSumOf {T : List Shp} {c : Nat → Int → Int} {Q : Res → Prop} {x1 x2 : Int} (k : (((-2147483648 ≤ x1 + 3 ∧ x1 + 3 < 2147483648) ∧ (-2147483648 ≤ (x1 + 3) + x2 ∧ (x1 + 3) + x2 < 2147483648) ∧ (0 ≤ ((x1 + 3) + x2) ∧ ((x1 + 3) + x2) < 72)) ∧ (QI T (fun r1 c2 => (QV T (fun c3 => ((r1 = 0 ∨ r1 = 1) ∧ Q (some (some (vI r1), (SH T, c3))))) (ccal 110 [vR 12, vI 12, vI 0] (SH T, c2)))) (ccal 53 [vR 49, vI 0] (SH T, (up c 12 ((x1 + 3) + x2) (c 11 3))))))) : Q (ccal 49 [vR 49, vI x1, vI x2] (SH T, c)) := by
  refine of_cev (Q := Q) ?_
  refine wq_pos (Q := Q) k.1.1 ?_
  refine wq_pos (Q := Q) k.1.2.1 ?_
  refine wq_pos (Q := Q) k.1.2.2 ?_
  replace k := k.2
  refine wq_callI (Q := Q) rfl k ?_
  intro r1 c2 k
  refine wq_callV (Q := Q) rfl k ?_
  intro c3 k
  refine wq_pos (Q := Q) k.1 ?_
  replace k := k.2
  exact k
set_option maxRecDepth 20000 in
theorem W_X6_readTest {T : List Shp} {c : Nat → Int → Int} {Q : Res → Prop} {x1 : Int} (k : (((11 + 10 * (9 - x1).toNat) + 1 ≤ (12 + 10 * (9 - x1).toNat)) ∧ (QI T (fun r1 c2 => Q (cev 50 (12 + 10 * (9 - x1).toNat) 8 [vR 49, vI x1, vI r1, vI 0, vU] [] (SH T, c2))) (ccal 51 [vR 49, vI x1] (SH T, c))))) : Q (ccal 50 [vR 49, vI x1] (SH T, c)) := by
  refine of_cev (Q := Q) ?_
  have kk0 := k.1
  replace k := k.2
  refine wq_callI (Q := Q) (Nat.ble_eq_true_of_le kk0) k ?_
  intro r1 c2 k
  exact k
set_option maxRecDepth 20000 in
theorem W_X6_readTest_8 {T : List Shp} {c : Nat → Int → Int} {Q : Res → Prop} {nd : Nat} {x1 x2 x3 : Int} (k : ((x2 = 0 → ((x2 = 0 ∨ x2 = 1) ∧ Q (some (some (vI x2), (SH T, c))))) ∧ (¬ x2 = 0 → ((x3 < 400 → ((6 + 1 ≤ nd) ∧ (QI T (fun r1 c2 => ((r1 = 0 → ((x2 = 0 ∨ x2 = 1) ∧ Q (some (some (vI x2), (SH T, c2))))) ∧ (¬ r1 = 0 → ((1 + 1 ≤ nd) ∧ (QV T (fun c3 => (((11 + 10 * (9 - x1).toNat) + 1 ≤ nd) ∧ (QI T (fun r4 c5 => ((1 + 1 ≤ nd) ∧ (QV T (fun c6 => ((-2147483648 ≤ x3 + 1 ∧ x3 + 1 < 2147483648) ∧ Q (cev 50 nd 8 [vR 49, vI x1, vI r4, vI (x3 + 1), vU] [] (SH T, c6)))) (ccal 111 [vR 12, vI (c2 11 3)] (SH T, c5))))) (ccal 51 [vR 49, vI x1] (SH T, c3))))) (ccal 110 [vR 12, vI 10, vI 0] (SH T, c2))))))) (ccal 59 [vR 49, vR (-107)] (SH T, c))))) ∧ (¬ x3 < 400 → ((x2 = 0 ∨ x2 = 1) ∧ Q (some (some (vI x2), (SH T, c))))))))) : Q (cev 50 nd 8 [vR 49, vI x1, vI x2, vI x3, vU] [] (SH T, c)) := by
  refine of_cev (Q := Q) ?_
  refine wq_ite (Q := Q) (p := x2 = 0) (fun h => ?_) (fun h => ?_)
  · replace k := k.1 h
    show Q (cev 50 nd 68 [vU, vU, vI x2, vU, vU] [] (SH T, c))
    refine of_cev (Q := Q) ?_
    refine wq_pos (Q := Q) k.1 ?_
    replace k := k.2
    exact k
  · replace k := k.2 h
    refine wq_ite (Q := Q) (p := x3 < 400) (fun h => ?_) (fun h => ?_)
    · replace k := k.1 h
      have kk0 := k.1
      replace k := k.2
      refine wq_callI (Q := Q) (Nat.ble_eq_true_of_le kk0) k ?_
      intro r1 c2 k
      refine wq_ite (Q := Q) (p := r1 = 0) (fun h => ?_) (fun h => ?_)
      · replace k := k.1 h
        show Q (cev 50 nd 68 [vU, vU, vI x2, vU, vU] [] (SH T, c2))
        refine of_cev (Q := Q) ?_
        refine wq_pos (Q := Q) k.1 ?_
        replace k := k.2
        exact k
      · replace k := k.2 h
        have kk0 := k.1
        replace k := k.2
        refine wq_callV (Q := Q) (Nat.ble_eq_true_of_le kk0) k ?_
        intro c3 k
        have kk0 := k.1
        replace k := k.2
        refine wq_callI (Q := Q) (Nat.ble_eq_true_of_le kk0) k ?_
        intro r4 c5 k
        have kk0 := k.1
        replace k := k.2
        refine wq_callV (Q := Q) (Nat.ble_eq_true_of_le kk0) k ?_
        intro c6 k
        refine wq_pos (Q := Q) k.1 ?_
        replace k := k.2
        exact k
    · replace k := k.2 h
      show Q (cev 50 nd 68 [vU, vU, vI x2, vU, vU] [] (SH T, c))
      refine of_cev (Q := Q) ?_
      refine wq_pos (Q := Q) k.1 ?_
      replace k := k.2
      exact k
set_option maxRecDepth 20000 in
theorem W_X6_readBoth {T : List Shp} {c : Nat → Int → Int} {Q : Res → Prop} {x1 : Int} (k : (((10 + 10 * (9 - x1).toNat) + 1 ≤ (11 + 10 * (9 - x1).toNat)) ∧ (QI T (fun r1 c2 => Q (cev 51 (11 + 10 * (9 - x1).toNat) 8 [vR 49, vI x1, vI r1, vI 0, vU] [] (SH T, c2))) (ccal 52 [vR 49, vI x1] (SH T, c))))) : Q (ccal 51 [vR 49, vI x1] (SH T, c)) := by
  refine of_cev (Q := Q) ?_
  have kk0 := k.1
  replace k := k.2
  refine wq_callI (Q := Q) (Nat.ble_eq_true_of_le kk0) k ?_
  intro r1 c2 k
  exact k
set_option maxRecDepth 20000 in
theorem W_X6_readBoth_8 {T : List Shp} {c : Nat → Int → Int} {Q : Res → Prop} {nd : Nat} {x1 x2 x3 : Int} (k : ((x2 = 0 → ((x2 = 0 ∨ x2 = 1) ∧ Q (some (some (vI x2), (SH T, c))))) ∧ (¬ x2 = 0 → ((x3 < 400 → ((6 + 1 ≤ nd) ∧ (QI T (fun r1 c2 => ((r1 = 0 → ((x2 = 0 ∨ x2 = 1) ∧ Q (some (some (vI x2), (SH T, c2))))) ∧ (¬ r1 = 0 → ((1 + 1 ≤ nd) ∧ (QV T (fun c3 => (((10 + 10 * (9 - x1).toNat) + 1 ≤ nd) ∧ (QI T (fun r4 c5 => ((1 + 1 ≤ nd) ∧ (QV T (fun c6 => ((-2147483648 ≤ x3 + 1 ∧ x3 + 1 < 2147483648) ∧ Q (cev 51 nd 8 [vR 49, vI x1, vI r4, vI (x3 + 1), vU] [] (SH T, c6)))) (ccal 111 [vR 12, vI (c2 11 3)] (SH T, c5))))) (ccal 52 [vR 49, vI x1] (SH T, c3))))) (ccal 110 [vR 12, vI 11, vI 0] (SH T, c2))))))) (ccal 59 [vR 49, vR (-108)] (SH T, c))))) ∧ (¬ x3 < 400 → ((x2 = 0 ∨ x2 = 1) ∧ Q (some (some (vI x2), (SH T, c))))))))) : Q (cev 51 nd 8 [vR 49, vI x1, vI x2, vI x3, vU] [] (SH T, c)) := by
  refine of_cev (Q := Q) ?_
  refine wq_ite (Q := Q) (p := x2 = 0) (fun h => ?_) (fun h => ?_)
  · replace k := k.1 h
    show Q (cev 51 nd 68 [vU, vU, vI x2, vU, vU] [] (SH T, c))
    refine of_cev (Q := Q) ?_
    refine wq_pos (Q := Q) k.1 ?_
    replace k := k.2
    exact k
  · replace k := k.2 h
    refine wq_ite (Q := Q) (p := x3 < 400) (fun h => ?_) (fun h => ?_)
    · replace k := k.1 h
      have kk0 := k.1
      replace k := k.2
      refine wq_callI (Q := Q) (Nat.ble_eq_true_of_le kk0) k ?_
      intro r1 c2 k
      refine wq_ite (Q := Q) (p := r1 = 0) (fun h => ?_) (fun h => ?_)
      · replace k := k.1 h
        show Q (cev 51 nd 68 [vU, vU, vI x2, vU, vU] [] (SH T, c2))
        refine of_cev (Q := Q) ?_
        refine wq_pos (Q := Q) k.1 ?_
        replace k := k.2
        exact k
      · replace k := k.2 h
        have kk0 := k.1
        replace k := k.2
        refine wq_callV (Q := Q) (Nat.ble_eq_true_of_le kk0) k ?_
        intro c3 k
        have kk0 := k.1
        replace k := k.2
        refine wq_callI (Q := Q) (Nat.ble_eq_true_of_le kk0) k ?_
        intro r4 c5 k
        have kk0 := k.1
        replace k := k.2
        refine wq_callV (Q := Q) (Nat.ble_eq_true_of_le kk0) k ?_
        intro c6 k
        refine wq_pos (Q := Q) k.1 ?_
        replace k := k.2
        exact k
    · replace k := k.2 h
      show Q (cev 51 nd 68 [vU, vU, vI x2, vU, vU] [] (SH T, c))
      refine of_cev (Q := Q) ?_
      refine wq_pos (Q := Q) k.1 ?_
      replace k := k.2
      exact k
set_option maxRecDepth 20000 in
theorem W_X6_readPlain {T : List Shp} {c : Nat → Int → Int} {Q : Res → Prop} {x1 : Int} (k : Q (cev 52 (10 + 10 * (9 - x1).toNat) 4 [vR 49, vI x1, vI 0, vI 0, vU] [] (SH T, c))) : Q (ccal 52 [vR 49, vI x1] (SH T, c)) := by
  refine of_cev (Q := Q) ?_
  exact k
set_option maxRecDepth 20000 in
theorem W_X6_readPlain_4 {T : List Shp} {c : Nat → Int → Int} {Q : Res → Prop} {nd : Nat} {x1 x2 x3 : Int} (k : ((x3 < 400 → ((6 + 1 ≤ nd) ∧ (QI T (fun r1 c2 => ((r1 = 0 → Q (cev 52 nd 36 [vR 49, vI x1, vI x2, vU, vU] [] (SH T, c2))) ∧ (¬ r1 = 0 → ((x2 = 0 → ((-2147483648 ≤ x3 + 1 ∧ x3 + 1 < 2147483648) ∧ Q (cev 52 nd 4 [vR 49, vI x1, vI 1, vI (x3 + 1), vU] [] (SH T, c2)))) ∧ (¬ x2 = 0 → ((-2147483648 ≤ x3 + 1 ∧ x3 + 1 < 2147483648) ∧ Q (cev 52 nd 4 [vR 49, vI x1, vI 0, vI (x3 + 1), vU] [] (SH T, c2)))))))) (ccal 59 [vR 49, vR (-109)] (SH T, c))))) ∧ (¬ x3 < 400 → Q (cev 52 nd 36 [vR 49, vI x1, vI x2, vU, vU] [] (SH T, c))))) : Q (cev 52 nd 4 [vR 49, vI x1, vI x2, vI x3, vU] [] (SH T, c)) := by
  refine of_cev (Q := Q) ?_
  refine wq_ite (Q := Q) (p := x3 < 400) (fun h => ?_) (fun h => ?_)
  · replace k := k.1 h
    have kk0 := k.1
    replace k := k.2
    refine wq_callI (Q := Q) (Nat.ble_eq_true_of_le kk0) k ?_
    intro r1 c2 k
    refine wq_ite (Q := Q) (p := r1 = 0) (fun h => ?_) (fun h => ?_)
    · replace k := k.1 h
      exact k
    · replace k := k.2 h
      refine wq_ite (Q := Q) (p := x2 = 0) (fun h => ?_) (fun h => ?_)
      · replace k := k.1 h
        refine wq_pos (Q := Q) k.1 ?_
        replace k := k.2
        exact k
      · replace k := k.2 h
        show Q (cev 52 nd 28 [vR 49, vI x1, vU, vI x3, vU] [] (SH T, c2))
        refine of_cev (Q := Q) ?_
        refine wq_pos (Q := Q) k.1 ?_
        replace k := k.2
        exact k
  · replace k := k.2 h
    exact k
set_option maxRecDepth 20000 in
theorem W_X6_readPlain_36 {T : List Shp} {c : Nat → Int → Int} {Q : Res → Prop} {nd : Nat} {x1 x2 : Int} (k : ((1 + 1 ≤ nd) ∧ (QI T (fun r1 c2 => ((r1 = 0 → (((9 + 10 * (9 - x1).toNat) + 1 ≤ nd) ∧ (QI T (fun r3 c4 => ((1 + 1 ≤ nd) ∧ (QI T (fun r5 c6 => ((r5 = 0 → ((1 + 1 ≤ nd) ∧ (QI T (fun r7 c8 => ((r7 = 0 → Q (cev 52 nd 117 [vR 49, vI x1, vI x2, vI r3, vU] [vI 8] (SH T, c8))) ∧ (¬ r7 = 0 → Q (cev 52 nd 117 [vR 49, vI x1, vI x2, vI r3, vU] [vI 7] (SH T, c8))))) (ccal 57 [vR 49, vI 62] (SH T, c6))))) ∧ (¬ r5 = 0 → Q (cev 52 nd 117 [vR 49, vI x1, vI x2, vI r3, vU] [vI 6] (SH T, c6))))) (ccal 57 [vR 49, vI 60] (SH T, c4))))) (ccal 53 [vR 49, vI x1] (SH T, c2))))) ∧ (¬ r1 = 0 → ((3 + 1 ≤ nd) ∧ (QI T (fun r9 c10 => ((r9 = 0 → Q (cev 52 nd 174 [vR 49, vU, vI x2, vI 0, vU] [] (SH T, c10))) ∧ (¬ r9 = 0 → (((-2147483648 ≤ x1 + 1 ∧ x1 + 1 < 2147483648) ∧ ((12 + 10 * (9 - (x1 + 1)).toNat) + 1 ≤ nd)) ∧ (QI T (fun r11 c12 => ((r11 = 0 → Q (cev 52 nd 174 [vR 49, vU, vI x2, vI 0, vU] [] (SH T, c12))) ∧ (¬ r11 = 0 → ((3 + 1 ≤ nd) ∧ (QI T (fun r13 c14 => ((r13 = 0 → Q (cev 52 nd 174 [vR 49, vU, vI x2, vI 0, vU] [] (SH T, c14))) ∧ (¬ r13 = 0 → Q (cev 52 nd 174 [vR 49, vU, vI x2, vI 1, vU] [] (SH T, c14))))) (ccal 58 [vR 49, vI 41] (SH T, c12))))))) (ccal 50 [vR 49, vI (x1 + 1)] (SH T, c10))))))) (ccal 56 [vR 49, vI x1] (SH T, c2))))))) (ccal 57 [vR 49, vI 40] (SH T, c))))) : Q (cev 52 nd 36 [vR 49, vI x1, vI x2, vU, vU] [] (SH T, c)) := by
  refine of_cev (Q := Q) ?_
  have kk0 := k.1
  replace k := k.2
  refine wq_callI (Q := Q) (Nat.ble_eq_true_of_le kk0) k ?_
  intro r1 c2 k
  refine wq_ite (Q := Q) (p := r1 = 0) (fun h => ?_) (fun h => ?_)
  · replace k := k.1 h
    show Q (cev 52 nd 81 [vR 49, vI x1, vI x2, vU, vU] [] (SH T, c2))
    refine of_cev (Q := Q) ?_
    have kk2 := k.1
    replace k := k.2
    refine wq_callI (Q := Q) (Nat.ble_eq_true_of_le kk2) k ?_
    intro r3 c4 k
    have kk0 := k.1
    replace k := k.2
    refine wq_callI (Q := Q) (Nat.ble_eq_true_of_le kk0) k ?_
    intro r5 c6 k
    refine wq_ite (Q := Q) (p := r5 = 0) (fun h => ?_) (fun h => ?_)
    · replace k := k.1 h
      show Q (cev 52 nd 101 [vR 49, vI x1, vI x2, vI r3, vU] [] (SH T, c6))
      refine of_cev (Q := Q) ?_
      have kk2 := k.1
      replace k := k.2
      refine wq_callI (Q := Q) (Nat.ble_eq_true_of_le kk2) k ?_
      intro r7 c8 k
      refine wq_ite (Q := Q) (p := r7 = 0) (fun h => ?_) (fun h => ?_)
      · replace k := k.1 h
        show Q (cev 52 nd 115 [vR 49, vI x1, vI x2, vI r3, vU] [] (SH T, c8))
        refine of_cev (Q := Q) ?_
        exact k
      · replace k := k.2 h
        exact k
    · replace k := k.2 h
      exact k
  · replace k := k.2 h
    have kk0 := k.1
    replace k := k.2
    refine wq_callI (Q := Q) (Nat.ble_eq_true_of_le kk0) k ?_
    intro r9 c10 k
    refine wq_ite (Q := Q) (p := r9 = 0) (fun h => ?_) (fun h => ?_)
    · replace k := k.1 h
      show Q (cev 52 nd 76 [vR 49, vU, vI x2, vU, vU] [] (SH T, c10))
      refine of_cev (Q := Q) ?_
      show Q (cev 52 nd 77 [vR 49, vU, vI x2, vU, vU] [vI 0] (SH T, c10))
      refine of_cev (Q := Q) ?_
      exact k
    · replace k := k.2 h
      refine wq_pos (Q := Q) k.1.1 ?_
      have kk1 := k.1.2
      replace k := k.2
      refine wq_callI (Q := Q) (Nat.ble_eq_true_of_le kk1) k ?_
      intro r11 c12 k
      refine wq_ite (Q := Q) (p := r11 = 0) (fun h => ?_) (fun h => ?_)
      · replace k := k.1 h
        show Q (cev 52 nd 76 [vR 49, vU, vI x2, vU, vU] [] (SH T, c12))
        refine of_cev (Q := Q) ?_
        show Q (cev 52 nd 77 [vR 49, vU, vI x2, vU, vU] [vI 0] (SH T, c12))
        refine of_cev (Q := Q) ?_
        exact k
      · replace k := k.2 h
        have kk0 := k.1
        replace k := k.2
        refine wq_callI (Q := Q) (Nat.ble_eq_true_of_le kk0) k ?_
        intro r13 c14 k
        refine wq_ite (Q := Q) (p := r13 = 0) (fun h => ?_) (fun h => ?_)
        · replace k := k.1 h
          show Q (cev 52 nd 76 [vR 49, vU, vI x2, vU, vU] [] (SH T, c14))
          refine of_cev (Q := Q) ?_
          show Q (cev 52 nd 77 [vR 49, vU, vI x2, vU, vU] [vI 0] (SH T, c14))
          refine of_cev (Q := Q) ?_
          exact k
        · replace k := k.2 h
          show Q (cev 52 nd 77 [vR 49, vU, vI x2, vU, vU] [vI 1] (SH T, c14))
          refine of_cev (Q := Q) ?_
          exact k
set_option maxRecDepth 20000 in
theorem W_X6_readPlain_117 {T : List Shp} {c : Nat → Int → Int} {Q : Res → Prop} {nd : Nat} {x1 x2 x3 y0 : Int} (k : ((x3 = 0 → Q (cev 52 nd 163 [vR 49, vU, vI x2, vU, vI y0] [vI 0] (SH T, c))) ∧ (¬ x3 = 0 → ((3 + 1 ≤ nd) ∧ (QI T (fun r1 c2 => ((r1 = 0 → ((3 + 1 ≤ nd) ∧ (QI T (fun r3 c4 => ((r3 = 0 → ((3 + 1 ≤ nd) ∧ (QI T (fun r5 c6 => ((r5 = 0 → Q (cev 52 nd 163 [vR 49, vU, vI x2, vU, vI y0] [vI 0] (SH T, c6))) ∧ (¬ r5 = 0 → Q (cev 52 nd 150 [vR 49, vI x1, vI x2, vU, vI y0] [] (SH T, c6))))) (ccal 58 [vR 49, vI 61] (SH T, c4))))) ∧ (¬ r3 = 0 → Q (cev 52 nd 150 [vR 49, vI x1, vI x2, vU, vI y0] [] (SH T, c4))))) (ccal 58 [vR 49, vI 62] (SH T, c2))))) ∧ (¬ r1 = 0 → Q (cev 52 nd 150 [vR 49, vI x1, vI x2, vU, vI y0] [] (SH T, c2))))) (ccal 58 [vR 49, vI 60] (SH T, c))))))) : Q (cev 52 nd 117 [vR 49, vI x1, vI x2, vI x3, vU] [vI y0] (SH T, c)) := by
  refine of_cev (Q := Q) ?_
  refine wq_ite (Q := Q) (p := x3 = 0) (fun h => ?_) (fun h => ?_)
  · replace k := k.1 h
    show Q (cev 52 nd 162 [vR 49, vU, vI x2, vU, vI y0] [] (SH T, c))
    refine of_cev (Q := Q) ?_
    exact k
  · replace k := k.2 h
    have kk0 := k.1
    replace k := k.2
    refine wq_callI (Q := Q) (Nat.ble_eq_true_of_le kk0) k ?_
    intro r1 c2 k
    refine wq_ite (Q := Q) (p := r1 = 0) (fun h => ?_) (fun h => ?_)
    · replace k := k.1 h
      have kk0 := k.1
      replace k := k.2
      refine wq_callI (Q := Q) (Nat.ble_eq_true_of_le kk0) k ?_
      intro r3 c4 k
      refine wq_ite (Q := Q) (p := r3 = 0) (fun h => ?_) (fun h => ?_)
      · replace k := k.1 h
        have kk0 := k.1
        replace k := k.2
        refine wq_callI (Q := Q) (Nat.ble_eq_true_of_le kk0) k ?_
        intro r5 c6 k
        refine wq_ite (Q := Q) (p := r5 = 0) (fun h => ?_) (fun h => ?_)
        · replace k := k.1 h
          show Q (cev 52 nd 162 [vR 49, vU, vI x2, vU, vI y0] [] (SH T, c6))
          refine of_cev (Q := Q) ?_
          exact k
        · replace k := k.2 h
          exact k
      · replace k := k.2 h
        exact k
    · replace k := k.2 h
      exact k
set_option maxRecDepth 20000 in
theorem W_X6_readPlain_150 {T : List Shp} {c : Nat → Int → Int} {Q : Res → Prop} {nd : Nat} {x1 x2 x4 : Int} (k : (((9 + 10 * (9 - x1).toNat) + 1 ≤ nd) ∧ (QI T (fun r1 c2 => ((r1 = 0 → Q (cev 52 nd 163 [vR 49, vU, vI x2, vU, vI x4] [vI 0] (SH T, c2))) ∧ (¬ r1 = 0 → Q (cev 52 nd 163 [vR 49, vU, vI x2, vU, vI x4] [vI 1] (SH T, c2))))) (ccal 53 [vR 49, vI x1] (SH T, c))))) : Q (cev 52 nd 150 [vR 49, vI x1, vI x2, vU, vI x4] [] (SH T, c)) := by
  refine of_cev (Q := Q) ?_
  have kk0 := k.1
  replace k := k.2
  refine wq_callI (Q := Q) (Nat.ble_eq_true_of_le kk0) k ?_
  intro r1 c2 k
  refine wq_ite (Q := Q) (p := r1 = 0) (fun h => ?_) (fun h => ?_)
  · replace k := k.1 h
    show Q (cev 52 nd 162 [vR 49, vU, vI x2, vU, vI x4] [] (SH T, c2))
    refine of_cev (Q := Q) ?_
    exact k
  · replace k := k.2 h
    exact k
set_option maxRecDepth 20000 in
theorem W_X6_readPlain_163 {T : List Shp} {c : Nat → Int → Int} {Q : Res → Prop} {nd : Nat} {x2 x4 y0 : Int} (k : ((1 + 1 ≤ nd) ∧ (QV T (fun c1 => Q (cev 52 nd 174 [vR 49, vU, vI x2, vI y0, vU] [] (SH T, c1))) (ccal 110 [vR 12, vI x4, vI 0] (SH T, c))))) : Q (cev 52 nd 163 [vR 49, vU, vI x2, vU, vI x4] [vI y0] (SH T, c)) := by
  refine of_cev (Q := Q) ?_
  have kk0 := k.1
  replace k := k.2
  refine wq_callV (Q := Q) (Nat.ble_eq_true_of_le kk0) k ?_
  intro c1 k
  exact k
set_option maxRecDepth 20000 in
theorem W_X6_readPlain_174 {T : List Shp} {c : Nat → Int → Int} {Q : Res → Prop} {nd : Nat} {x2 x3 : Int} (k : ((x2 = 0 → ((x3 = 0 ∨ x3 = 1) ∧ Q (some (some (vI x3), (SH T, c))))) ∧ (¬ x2 = 0 → ((1 + 1 ≤ nd) ∧ (QV T (fun c1 => ((x3 = 0 ∨ x3 = 1) ∧ Q (some (some (vI x3), (SH T, c1))))) (ccal 110 [vR 12, vI 9, vI 0] (SH T, c))))))) : Q (cev 52 nd 174 [vR 49, vU, vI x2, vI x3, vU] [] (SH T, c)) := by
  refine of_cev (Q := Q) ?_
  refine wq_ite (Q := Q) (p := x2 = 0) (fun h => ?_) (fun h => ?_)
  · replace k := k.1 h
    show Q (cev 52 nd 188 [vU, vU, vU, vI x3, vU] [] (SH T, c))
    refine of_cev (Q := Q) ?_
    refine wq_pos (Q := Q) k.1 ?_
    replace k := k.2
    exact k
  · replace k := k.2 h
    have kk0 := k.1
    replace k := k.2
    refine wq_callV (Q := Q) (Nat.ble_eq_true_of_le kk0) k ?_
    intro c1 k
    show Q (cev 52 nd 188 [vU, vU, vU, vI x3, vU] [] (SH T, c1))
    refine of_cev (Q := Q) ?_
    refine wq_pos (Q := Q) k.1 ?_
    replace k := k.2
    exact k
set_option maxRecDepth 20000 in
theorem W_X6_readSum {T : List Shp} {c : Nat → Int → Int} {Q : Res → Prop} {x1 : Int} (k : (((8 + 10 * (9 - x1).toNat) + 1 ≤ (9 + 10 * (9 - x1).toNat)) ∧ (QI T (fun r1 c2 => Q (cev 53 (9 + 10 * (9 - x1).toNat) 8 [vR 49, vI x1, vI r1, vI 0, vU] [] (SH T, c2))) (ccal 54 [vR 49, vI x1] (SH T, c))))) : Q (ccal 53 [vR 49, vI x1] (SH T, c)) := by
  refine of_cev (Q := Q) ?_
  have kk0 := k.1
  replace k := k.2
  refine wq_callI (Q := Q) (Nat.ble_eq_true_of_le kk0) k ?_
  intro r1 c2 k
  exact k
set_option maxRecDepth 20000 in
theorem W_X6_readSum_8 {T : List Shp} {c : Nat → Int → Int} {Q : Res → Prop} {nd : Nat} {x1 x2 x3 : Int} (k : ((x2 = 0 → ((x2 = 0 ∨ x2 = 1) ∧ Q (some (some (vI x2), (SH T, c))))) ∧ (¬ x2 = 0 → ((x3 < 400 → ((1 + 1 ≤ nd) ∧ (QI T (fun r1 c2 => ((r1 = 0 → ((1 + 1 ≤ nd) ∧ (QI T (fun r3 c4 => ((r3 = 0 → ((x2 = 0 ∨ x2 = 1) ∧ Q (some (some (vI x2), (SH T, c4))))) ∧ (¬ r3 = 0 → Q (cev 53 nd 37 [vR 49, vI x1, vU, vI x3, vU] [] (SH T, c4))))) (ccal 57 [vR 49, vI 45] (SH T, c2))))) ∧ (¬ r1 = 0 → Q (cev 53 nd 37 [vR 49, vI x1, vU, vI x3, vU] [] (SH T, c2))))) (ccal 57 [vR 49, vI 43] (SH T, c))))) ∧ (¬ x3 < 400 → ((x2 = 0 ∨ x2 = 1) ∧ Q (some (some (vI x2), (SH T, c))))))))) : Q (cev 53 nd 8 [vR 49, vI x1, vI x2, vI x3, vU] [] (SH T, c)) := by
  refine of_cev (Q := Q) ?_
  refine wq_ite (Q := Q) (p := x2 = 0) (fun h => ?_) (fun h => ?_)
  · replace k := k.1 h
    show Q (cev 53 nd 79 [vU, vU, vI x2, vU, vU] [] (SH T, c))
    refine of_cev (Q := Q) ?_
    refine wq_pos (Q := Q) k.1 ?_
    replace k := k.2
    exact k
  · replace k := k.2 h
    refine wq_ite (Q := Q) (p := x3 < 400) (fun h => ?_) (fun h => ?_)
    · replace k := k.1 h
      have kk0 := k.1
      replace k := k.2
      refine wq_callI (Q := Q) (Nat.ble_eq_true_of_le kk0) k ?_
      intro r1 c2 k
      refine wq_ite (Q := Q) (p := r1 = 0) (fun h => ?_) (fun h => ?_)
      · replace k := k.1 h
        have kk0 := k.1
        replace k := k.2
        refine wq_callI (Q := Q) (Nat.ble_eq_true_of_le kk0) k ?_
        intro r3 c4 k
        refine wq_ite (Q := Q) (p := r3 = 0) (fun h => ?_) (fun h => ?_)
        · replace k := k.1 h
          show Q (cev 53 nd 79 [vU, vU, vI x2, vU, vU] [] (SH T, c4))
          refine of_cev (Q := Q) ?_
          refine wq_pos (Q := Q) k.1 ?_
          replace k := k.2
          exact k
        · replace k := k.2 h
          exact k
      · replace k := k.2 h
        exact k
    · replace k := k.2 h
      show Q (cev 53 nd 79 [vU, vU, vI x2, vU, vU] [] (SH T, c))
      refine of_cev (Q := Q) ?_
      refine wq_pos (Q := Q) k.1 ?_
      replace k := k.2
      exact k
set_option maxRecDepth 20000 in
theorem W_X6_readSum_37 {T : List Shp} {c : Nat → Int → Int} {Q : Res → Prop} {nd : Nat} {x1 x3 : Int} (k : ((1 + 1 ≤ nd) ∧ (QI T (fun r1 c2 => ((r1 = 0 → Q (cev 53 nd 51 [vR 49, vI x1, vU, vI x3, vU] [vI 3] (SH T, c2))) ∧ (¬ r1 = 0 → Q (cev 53 nd 51 [vR 49, vI x1, vU, vI x3, vU] [vI 2] (SH T, c2))))) (ccal 57 [vR 49, vI 43] (SH T, c))))) : Q (cev 53 nd 37 [vR 49, vI x1, vU, vI x3, vU] [] (SH T, c)) := by
  refine of_cev (Q := Q) ?_
  have kk0 := k.1
  replace k := k.2
  refine wq_callI (Q := Q) (Nat.ble_eq_true_of_le kk0) k ?_
  intro r1 c2 k
  refine wq_ite (Q := Q) (p := r1 = 0) (fun h => ?_) (fun h => ?_)
  · replace k := k.1 h
    show Q (cev 53 nd 50 [vR 49, vI x1, vU, vI x3, vU] [] (SH T, c2))
    refine of_cev (Q := Q) ?_
    exact k
  · replace k := k.2 h
    exact k
set_option maxRecDepth 20000 in
theorem W_X6_readSum_51 {T : List Shp} {c : Nat → Int → Int} {Q : Res → Prop} {nd : Nat} {x1 x3 y0 : Int} (k : ((2 + 1 ≤ nd) ∧ (QV T (fun c1 => (((8 + 10 * (9 - x1).toNat) + 1 ≤ nd) ∧ (QI T (fun r2 c3 => ((1 + 1 ≤ nd) ∧ (QV T (fun c4 => ((-2147483648 ≤ x3 + 1 ∧ x3 + 1 < 2147483648) ∧ Q (cev 53 nd 8 [vR 49, vI x1, vI r2, vI (x3 + 1), vU] [] (SH T, c4)))) (ccal 110 [vR 12, vI y0, vI 0] (SH T, c3))))) (ccal 54 [vR 49, vI x1] (SH T, c1))))) (ccal 62 [vR 49] (SH T, c))))) : Q (cev 53 nd 51 [vR 49, vI x1, vU, vI x3, vU] [vI y0] (SH T, c)) := by
  refine of_cev (Q := Q) ?_
  have kk0 := k.1
  replace k := k.2
  refine wq_callV (Q := Q) (Nat.ble_eq_true_of_le kk0) k ?_
  intro c1 k
  have kk0 := k.1
  replace k := k.2
  refine wq_callI (Q := Q) (Nat.ble_eq_true_of_le kk0) k ?_
  intro r2 c3 k
  have kk0 := k.1
  replace k := k.2
  refine wq_callV (Q := Q) (Nat.ble_eq_true_of_le kk0) k ?_
  intro c4 k
  refine wq_pos (Q := Q) k.1 ?_
  replace k := k.2
  exact k
set_option maxRecDepth 20000 in
theorem W_X6_readTerm {T : List Shp} {c : Nat → Int → Int} {Q : Res → Prop} {x1 : Int} (k : (((7 + 10 * (9 - x1).toNat) + 1 ≤ (8 + 10 * (9 - x1).toNat)) ∧ (QI T (fun r1 c2 => Q (cev 54 (8 + 10 * (9 - x1).toNat) 8 [vR 49, vI x1, vI r1, vI 0, vU] [] (SH T, c2))) (ccal 55 [vR 49, vI x1] (SH T, c))))) : Q (ccal 54 [vR 49, vI x1] (SH T, c)) := by
  refine of_cev (Q := Q) ?_
  have kk0 := k.1
  replace k := k.2
  refine wq_callI (Q := Q) (Nat.ble_eq_true_of_le kk0) k ?_
  intro r1 c2 k
  exact k
set_option maxRecDepth 20000 in
theorem W_X6_readTerm_8 {T : List Shp} {c : Nat → Int → Int} {Q : Res → Prop} {nd : Nat} {x1 x2 x3 : Int} (k : ((x2 = 0 → ((x2 = 0 ∨ x2 = 1) ∧ Q (some (some (vI x2), (SH T, c))))) ∧ (¬ x2 = 0 → ((x3 < 400 → ((1 + 1 ≤ nd) ∧ (QI T (fun r1 c2 => ((r1 = 0 → ((1 + 1 ≤ nd) ∧ (QI T (fun r3 c4 => ((r3 = 0 → ((x2 = 0 ∨ x2 = 1) ∧ Q (some (some (vI x2), (SH T, c4))))) ∧ (¬ r3 = 0 → Q (cev 54 nd 37 [vR 49, vI x1, vU, vI x3, vU] [] (SH T, c4))))) (ccal 57 [vR 49, vI 47] (SH T, c2))))) ∧ (¬ r1 = 0 → Q (cev 54 nd 37 [vR 49, vI x1, vU, vI x3, vU] [] (SH T, c2))))) (ccal 57 [vR 49, vI 42] (SH T, c))))) ∧ (¬ x3 < 400 → ((x2 = 0 ∨ x2 = 1) ∧ Q (some (some (vI x2), (SH T, c))))))))) : Q (cev 54 nd 8 [vR 49, vI x1, vI x2, vI x3, vU] [] (SH T, c)) := by
  refine of_cev (Q := Q) ?_
  refine wq_ite (Q := Q) (p := x2 = 0) (fun h => ?_) (fun h => ?_)
  · replace k := k.1 h
    show Q (cev 54 nd 79 [vU, vU, vI x2, vU, vU] [] (SH T, c))
    refine of_cev (Q := Q) ?_
    refine wq_pos (Q := Q) k.1 ?_
    replace k := k.2
    exact k
  · replace k := k.2 h
    refine wq_ite (Q := Q) (p := x3 < 400) (fun h => ?_) (fun h => ?_)
    · replace k := k.1 h
      have kk0 := k.1
      replace k := k.2
      refine wq_callI (Q := Q) (Nat.ble_eq_true_of_le kk0) k ?_
      intro r1 c2 k
      refine wq_ite (Q := Q) (p := r1 = 0) (fun h => ?_) (fun h => ?_)
      · replace k := k.1 h
        have kk0 := k.1
        replace k := k.2
        refine wq_callI (Q := Q) (Nat.ble_eq_true_of_le kk0) k ?_
        intro r3 c4 k
        refine wq_ite (Q := Q) (p := r3 = 0) (fun h => ?_) (fun h => ?_)
        · replace k := k.1 h
          show Q (cev 54 nd 79 [vU, vU, vI x2, vU, vU] [] (SH T, c4))
          refine of_cev (Q := Q) ?_
          refine wq_pos (Q := Q) k.1 ?_
          replace k := k.2
          exact k
        · replace k := k.2 h
          exact k
      · replace k := k.2 h
        exact k
    · replace k := k.2 h
      show Q (cev 54 nd 79 [vU, vU, vI x2, vU, vU] [] (SH T, c))
      refine of_cev (Q := Q) ?_
      refine wq_pos (Q := Q) k.1 ?_
      replace k := k.2
      exact k
set_option maxRecDepth 20000 in
theorem W_X6_readTerm_37 {T : List Shp} {c : Nat → Int → Int} {Q : Res → Prop} {nd : Nat} {x1 x3 : Int} (k : ((1 + 1 ≤ nd) ∧ (QI T (fun r1 c2 => ((r1 = 0 → Q (cev 54 nd 51 [vR 49, vI x1, vU, vI x3, vU] [vI 5] (SH T, c2))) ∧ (¬ r1 = 0 → Q (cev 54 nd 51 [vR 49, vI x1, vU, vI x3, vU] [vI 4] (SH T, c2))))) (ccal 57 [vR 49, vI 42] (SH T, c))))) : Q (cev 54 nd 37 [vR 49, vI x1, vU, vI x3, vU] [] (SH T, c)) := by
  refine of_cev (Q := Q) ?_
  have kk0 := k.1
  replace k := k.2
  refine wq_callI (Q := Q) (Nat.ble_eq_true_of_le kk0) k ?_
  intro r1 c2 k
  refine wq_ite (Q := Q) (p := r1 = 0) (fun h => ?_) (fun h => ?_)
  · replace k := k.1 h
    show Q (cev 54 nd 50 [vR 49, vI x1, vU, vI x3, vU] [] (SH T, c2))
    refine of_cev (Q := Q) ?_
    exact k
  · replace k := k.2 h
    exact k
set_option maxRecDepth 20000 in
theorem W_X6_readTerm_51 {T : List Shp} {c : Nat → Int → Int} {Q : Res → Prop} {nd : Nat} {x1 x3 y0 : Int} (k : ((2 + 1 ≤ nd) ∧ (QV T (fun c1 => (((7 + 10 * (9 - x1).toNat) + 1 ≤ nd) ∧ (QI T (fun r2 c3 => ((1 + 1 ≤ nd) ∧ (QV T (fun c4 => ((-2147483648 ≤ x3 + 1 ∧ x3 + 1 < 2147483648) ∧ Q (cev 54 nd 8 [vR 49, vI x1, vI r2, vI (x3 + 1), vU] [] (SH T, c4)))) (ccal 110 [vR 12, vI y0, vI 0] (SH T, c3))))) (ccal 55 [vR 49, vI x1] (SH T, c1))))) (ccal 62 [vR 49] (SH T, c))))) : Q (cev 54 nd 51 [vR 49, vI x1, vU, vI x3, vU] [vI y0] (SH T, c)) := by
  refine of_cev (Q := Q) ?_
  have kk0 := k.1
  replace k := k.2
  refine wq_callV (Q := Q) (Nat.ble_eq_true_of_le kk0) k ?_
  intro c1 k
  have kk0 := k.1
  replace k := k.2
  refine wq_callI (Q := Q) (Nat.ble_eq_true_of_le kk0) k ?_
  intro r2 c3 k
  have kk0 := k.1
  replace k := k.2
  refine wq_callV (Q := Q) (Nat.ble_eq_true_of_le kk0) k ?_
  intro c4 k
  refine wq_pos (Q := Q) k.1 ?_
  replace k := k.2
  exact k
set_option maxRecDepth 20000 in
theorem W_X6_readPart {T : List Shp} {c : Nat → Int → Int} {Q : Res → Prop} {x1 : Int} (k : ((1 + 1 ≤ (7 + 10 * (9 - x1).toNat)) ∧ (QI T (fun r1 c2 => ((r1 = 0 → (((c2 48 4) = 1 → ((1000 < (c2 48 7) → Q (some (some (vI 0), (SH T, c2)))) ∧ (¬ 1000 < (c2 48 7) → (((c2 48 8) < 50 → ((1 + 1 ≤ (7 + 10 * (9 - x1).toNat)) ∧ (QV T (fun c3 => (((-2147483648 ≤ (c3 48 8) + 1 ∧ (c3 48 8) + 1 < 2147483648) ∧ (2 + 1 ≤ (7 + 10 * (9 - x1).toNat))) ∧ (QV T (fun c4 => Q (some (some (vI 1), (SH T, c4)))) (ccal 62 [vR 49] (SH T, (up c3 48 8 ((c3 48 8) + 1))))))) (ccal 110 [vR 12, vI 0, vI (c2 48 7)] (SH T, c2))))) ∧ (¬ (c2 48 8) < 50 → Q (some (some (vI 0), (SH T, c2)))))))) ∧ (¬ (c2 48 4) = 1 → (((c2 48 3) = 0 → Q (cev 55 (7 + 10 * (9 - x1).toNat) 114 [vR 49, vU, vU] [vR (-111), vR 49] (SH T, c2))) ∧ (¬ (c2 48 3) = 0 → Q (cev 55 (7 + 10 * (9 - x1).toNat) 114 [vR 49, vU, vU] [vR (-110), vR 49] (SH T, c2))))))) ∧ (¬ r1 = 0 → ((3 + 1 ≤ (7 + 10 * (9 - x1).toNat)) ∧ (QI T (fun r5 c6 => ((r5 = 0 → Q (some (some (vI 0), (SH T, c6)))) ∧ (¬ r5 = 0 → (((-2147483648 ≤ x1 + 1 ∧ x1 + 1 < 2147483648) ∧ ((9 + 10 * (9 - (x1 + 1)).toNat) + 1 ≤ (7 + 10 * (9 - x1).toNat))) ∧ (QI T (fun r7 c8 => ((r7 = 0 → Q (some (some (vI 0), (SH T, c8)))) ∧ (¬ r7 = 0 → ((3 + 1 ≤ (7 + 10 * (9 - x1).toNat)) ∧ (QI T (fun r9 c10 => ((r9 = 0 → Q (some (some (vI 0), (SH T, c10)))) ∧ (¬ r9 = 0 → Q (some (some (vI 1), (SH T, c10)))))) (ccal 58 [vR 49, vI 93] (SH T, c8))))))) (ccal 53 [vR 49, vI (x1 + 1)] (SH T, c6))))))) (ccal 56 [vR 49, vI x1] (SH T, c2))))))) (ccal 57 [vR 49, vI 91] (SH T, c))))) : Q (ccal 55 [vR 49, vI x1] (SH T, c)) := by
  refine of_cev (Q := Q) ?_
  have kk0 := k.1
  replace k := k.2
  refine wq_callI (Q := Q) (Nat.ble_eq_true_of_le kk0) k ?_
  intro r1 c2 k
  refine wq_ite (Q := Q) (p := r1 = 0) (fun h => ?_) (fun h => ?_)
  · replace k := k.1 h
    show Q (cev 55 (7 + 10 * (9 - x1).toNat) 42 [vR 49, vU, vU] [] (SH T, c2))
    refine of_cev (Q := Q) ?_
    refine wq_ite (Q := Q) (p := (c2 48 4) = 1) (fun h => ?_) (fun h => ?_)
    · replace k := k.1 h
      refine wq_ite (Q := Q) (p := 1000 < (c2 48 7)) (fun h => ?_) (fun h => ?_)
      · replace k := k.1 h
        show Q (cev 55 (7 + 10 * (9 - x1).toNat) 69 [vU, vU, vU] [] (SH T, c2))
        refine of_cev (Q := Q) ?_
        exact k
      · replace k := k.2 h
        refine wq_ite (Q := Q) (p := (c2 48 8) < 50) (fun h => ?_) (fun h => ?_)
        · replace k := k.1 h
          show Q (cev 55 (7 + 10 * (9 - x1).toNat) 71 [vR 49, vU, vU] [] (SH T, c2))
          refine of_cev (Q := Q) ?_
          have kk2 := k.1
          replace k := k.2
          refine wq_callV (Q := Q) (Nat.ble_eq_true_of_le kk2) k ?_
          intro c3 k
          refine wq_pos (Q := Q) k.1.1 ?_
          have kk1 := k.1.2
          replace k := k.2
          refine wq_callV (Q := Q) (Nat.ble_eq_true_of_le kk1) k ?_
          intro c4 k
          exact k
        · replace k := k.2 h
          show Q (cev 55 (7 + 10 * (9 - x1).toNat) 69 [vU, vU, vU] [] (SH T, c2))
          refine of_cev (Q := Q) ?_
          exact k
    · replace k := k.2 h
      show Q (cev 55 (7 + 10 * (9 - x1).toNat) 99 [vR 49, vU, vU] [] (SH T, c2))
      refine of_cev (Q := Q) ?_
      refine wq_ite (Q := Q) (p := (c2 48 3) = 0) (fun h => ?_) (fun h => ?_)
      · replace k := k.1 h
        show Q (cev 55 (7 + 10 * (9 - x1).toNat) 112 [vR 49, vU, vU] [vR 49] (SH T, c2))
        refine of_cev (Q := Q) ?_
        exact k
      · replace k := k.2 h
        exact k
  · replace k := k.2 h
    have kk0 := k.1
    replace k := k.2
    refine wq_callI (Q := Q) (Nat.ble_eq_true_of_le kk0) k ?_
    intro r5 c6 k
    refine wq_ite (Q := Q) (p := r5 = 0) (fun h => ?_) (fun h => ?_)
    · replace k := k.1 h
      show Q (cev 55 (7 + 10 * (9 - x1).toNat) 40 [vU, vU, vU] [] (SH T, c6))
      refine of_cev (Q := Q) ?_
      exact k
    · replace k := k.2 h
      refine wq_pos (Q := Q) k.1.1 ?_
      have kk1 := k.1.2
      replace k := k.2
      refine wq_callI (Q := Q) (Nat.ble_eq_true_of_le kk1) k ?_
      intro r7 c8 k
      refine wq_ite (Q := Q) (p := r7 = 0) (fun h => ?_) (fun h => ?_)
      · replace k := k.1 h
        show Q (cev 55 (7 + 10 * (9 - x1).toNat) 40 [vU, vU, vU] [] (SH T, c8))
        refine of_cev (Q := Q) ?_
        exact k
      · replace k := k.2 h
        have kk0 := k.1
        replace k := k.2
        refine wq_callI (Q := Q) (Nat.ble_eq_true_of_le kk0) k ?_
        intro r9 c10 k
        refine wq_ite (Q := Q) (p := r9 = 0) (fun h => ?_) (fun h => ?_)
        · replace k := k.1 h
          show Q (cev 55 (7 + 10 * (9 - x1).toNat) 40 [vU, vU, vU] [] (SH T, c10))
          refine of_cev (Q := Q) ?_
          exact k
        · replace k := k.2 h
          exact k
set_option maxRecDepth 20000 in
theorem W_X6_readPart_114 {T : List Shp} {c : Nat → Int → Int} {Q : Res → Prop} {nd : Nat} {y0 : Int} (k : ((6 + 1 ≤ nd) ∧ (QI T (fun r1 c2 => ((r1 = (-1) → Q (some (some (vI 0), (SH T, c2)))) ∧ (¬ r1 = (-1) → (((c2 48 8) < 50 → (((-2147483648 ≤ (c2 48 8) + 1 ∧ (c2 48 8) + 1 < 2147483648) ∧ (2 + 1 ≤ nd)) ∧ (QV T (fun c3 => (((c3 48 3) = 0 → Q (cev 55 nd 191 [vR 49, vU, vI r1] [] (SH T, c3))) ∧ (¬ (c3 48 3) = 0 → ((r1 = 6 → (((c3 48 4) = 1 → (((c3 48 7) < 12 → (((-2147483648 ≤ r1 + (c3 48 7) ∧ r1 + (c3 48 7) < 2147483648) ∧ (2 + 1 ≤ nd)) ∧ (QV T (fun c4 => Q (cev 55 nd 191 [vR 49, vU, vI (r1 + (c3 48 7))] [] (SH T, c4))) (ccal 62 [vR 49] (SH T, c3))))) ∧ (¬ (c3 48 7) < 12 → Q (some (some (vI 0), (SH T, c3)))))) ∧ (¬ (c3 48 4) = 1 → Q (some (some (vI 0), (SH T, c3)))))) ∧ (¬ r1 = 6 → Q (cev 55 nd 191 [vR 49, vU, vI r1] [] (SH T, c3))))))) (ccal 62 [vR 49] (SH T, (up c2 48 8 ((c2 48 8) + 1))))))) ∧ (¬ (c2 48 8) < 50 → Q (some (some (vI 0), (SH T, c2)))))))) (ccal 60 [vR 49, vR y0] (SH T, c))))) : Q (cev 55 nd 114 [vR 49, vU, vU] [vR y0, vR 49] (SH T, c)) := by
  refine of_cev (Q := Q) ?_
  have kk0 := k.1
  replace k := k.2
  refine wq_callI (Q := Q) (Nat.ble_eq_true_of_le kk0) k ?_
  intro r1 c2 k
  refine wq_ite (Q := Q) (p := r1 = (-1)) (fun h => ?_) (fun h => ?_)
  · replace k := k.1 h
    show Q (cev 55 nd 132 [vU, vU, vU] [] (SH T, c2))
    refine of_cev (Q := Q) ?_
    exact k
  · replace k := k.2 h
    refine wq_ite (Q := Q) (p := (c2 48 8) < 50) (fun h => ?_) (fun h => ?_)
    · replace k := k.1 h
      show Q (cev 55 nd 134 [vR 49, vU, vI r1] [] (SH T, c2))
      refine of_cev (Q := Q) ?_
      refine wq_pos (Q := Q) k.1.1 ?_
      have kk3 := k.1.2
      replace k := k.2
      refine wq_callV (Q := Q) (Nat.ble_eq_true_of_le kk3) k ?_
      intro c3 k
      refine wq_ite (Q := Q) (p := (c3 48 3) = 0) (fun h => ?_) (fun h => ?_)
      · replace k := k.1 h
        exact k
      · replace k := k.2 h
        refine wq_ite (Q := Q) (p := r1 = 6) (fun h => ?_) (fun h => ?_)
        · replace k := k.1 h
          refine wq_ite (Q := Q) (p := (c3 48 4) = 1) (fun h => ?_) (fun h => ?_)
          · replace k := k.1 h
            refine wq_ite (Q := Q) (p := (c3 48 7) < 12) (fun h => ?_) (fun h => ?_)
            · replace k := k.1 h
              show Q (cev 55 nd 180 [vR 49, vU, vI r1] [] (SH T, c3))
              refine of_cev (Q := Q) ?_
              refine wq_pos (Q := Q) k.1.1 ?_
              have kk3 := k.1.2
              replace k := k.2
              refine wq_callV (Q := Q) (Nat.ble_eq_true_of_le kk3) k ?_
              intro c4 k
              exact k
            · replace k := k.2 h
              show Q (cev 55 nd 178 [vU, vU, vU] [] (SH T, c3))
              refine of_cev (Q := Q) ?_
              exact k
          · replace k := k.2 h
            show Q (cev 55 nd 178 [vU, vU, vU] [] (SH T, c3))
            refine of_cev (Q := Q) ?_
            exact k
        · replace k := k.2 h
          exact k
    · replace k := k.2 h
      show Q (cev 55 nd 132 [vU, vU, vU] [] (SH T, c2))
      refine of_cev (Q := Q) ?_
      exact k
set_option maxRecDepth 20000 in
theorem W_X6_readPart_191 {T : List Shp} {c : Nat → Int → Int} {Q : Res → Prop} {nd : Nat} {x2 : Int} (k : ((1 + 1 ≤ nd) ∧ (QV T (fun c1 => Q (some (some (vI 1), (SH T, (up c1 11 4 (ior (c1 11 4) (ishl 1 x2))))))) (ccal 110 [vR 12, vI 1, vI x2] (SH T, c))))) : Q (cev 55 nd 191 [vR 49, vU, vI x2] [] (SH T, c)) := by
  refine of_cev (Q := Q) ?_
  have kk0 := k.1
  replace k := k.2
  refine wq_callV (Q := Q) (Nat.ble_eq_true_of_le kk0) k ?_
  intro c1 k
  exact k
set_option maxRecDepth 20000 in
theorem W_X6_opens {T : List Shp} {c : Nat → Int → Int} {Q : Res → Prop} {x1 : Int} (k : ((x1 < 8 → (QV T (fun c1 => Q (some (some (vI 1), (SH T, c1)))) (ccal 62 [vR 49] (SH T, c)))) ∧ (¬ x1 < 8 → Q (some (some (vI 0), (SH T, c)))))) : Q (ccal 56 [vR 49, vI x1] (SH T, c)) := by
  refine of_cev (Q := Q) ?_
  refine wq_ite (Q := Q) (p := x1 < 8) (fun h => ?_) (fun h => ?_)
  · replace k := k.1 h
    show Q (cev 56 3 8 [vR 49, vU] [] (SH T, c))
    refine of_cev (Q := Q) ?_
    refine wq_callV (Q := Q) rfl k ?_
    intro c1 k
    exact k
  · replace k := k.2 h
    exact k
set_option maxRecDepth 20000 in
theorem W_X6_isSign {T : List Shp} {c : Nat → Int → Int} {Q : Res → Prop} {x1 : Int} (k : (((c 48 4) = 2 → (((c 48 5) < (c 48 1) → ((0 ≤ (c 48 5) ∧ (c 48 5) < 400) ∧ (((c 10 (c 48 5)) = x1 → Q (some (some (vI 1), (SH T, c)))) ∧ (¬ (c 10 (c 48 5)) = x1 → Q (some (some (vI 0), (SH T, c))))))) ∧ (¬ (c 48 5) < (c 48 1) → Q (some (some (vI 0), (SH T, c)))))) ∧ (¬ (c 48 4) = 2 → Q (some (some (vI 0), (SH T, c)))))) : Q (ccal 57 [vR 49, vI x1] (SH T, c)) := by
  refine of_cev (Q := Q) ?_
  refine wq_ite (Q := Q) (p := (c 48 4) = 2) (fun h => ?_) (fun h => ?_)
  · replace k := k.1 h
    refine wq_ite (Q := Q) (p := (c 48 5) < (c 48 1)) (fun h => ?_) (fun h => ?_)
    · replace k := k.1 h
      refine wq_pos (Q := Q) k.1 ?_
      replace k := k.2
      refine wq_ite (Q := Q) (p := (c 10 (c 48 5)) = x1) (fun h => ?_) (fun h => ?_)
      · replace k := k.1 h
        exact k
      · replace k := k.2 h
        show Q (cev 57 1 36 [vU, vU] [] (SH T, c))
        refine of_cev (Q := Q) ?_
        exact k
    · replace k := k.2 h
      show Q (cev 57 1 36 [vU, vU] [] (SH T, c))
      refine of_cev (Q := Q) ?_
      exact k
  · replace k := k.2 h
    show Q (cev 57 1 36 [vU, vU] [] (SH T, c))
    refine of_cev (Q := Q) ?_
    exact k
set_option maxRecDepth 20000 in
theorem W_X6_takes {T : List Shp} {c : Nat → Int → Int} {Q : Res → Prop} {x1 : Int} (k : (QI T (fun r1 c2 => ((r1 = 0 → ((r1 = 0 ∨ r1 = 1) ∧ Q (some (some (vI r1), (SH T, c2))))) ∧ (¬ r1 = 0 → (QV T (fun c3 => ((r1 = 0 ∨ r1 = 1) ∧ Q (some (some (vI r1), (SH T, c3))))) (ccal 62 [vR 49] (SH T, c2)))))) (ccal 57 [vR 49, vI x1] (SH T, c)))) : Q (ccal 58 [vR 49, vI x1] (SH T, c)) := by
  refine of_cev (Q := Q) ?_
  refine wq_callI (Q := Q) rfl k ?_
  intro r1 c2 k
  refine wq_ite (Q := Q) (p := r1 = 0) (fun h => ?_) (fun h => ?_)
  · replace k := k.1 h
    show Q (cev 58 3 14 [vU, vU, vI r1] [] (SH T, c2))
    refine of_cev (Q := Q) ?_
    refine wq_pos (Q := Q) k.1 ?_
    replace k := k.2
    exact k
  · replace k := k.2 h
    refine wq_callV (Q := Q) rfl k ?_
    intro c3 k
    show Q (cev 58 3 14 [vU, vU, vI r1] [] (SH T, c3))
    refine of_cev (Q := Q) ?_
    refine wq_pos (Q := Q) k.1 ?_
    replace k := k.2
    exact k
set_option maxRecDepth 20000 in
theorem W_X6_takesWord_s3 {T : List Shp} {c : Nat → Int → Int} {Q : Res → Prop} (k : (QI T (fun r1 c2 => ((r1 = 0 → ((r1 = 0 ∨ r1 = 1) ∧ Q (some (some (vI r1), (SH T, c2))))) ∧ (¬ r1 = 0 → (QV T (fun c3 => ((r1 = 0 ∨ r1 = 1) ∧ Q (some (some (vI r1), (SH T, c3))))) (ccal 62 [vR 49] (SH T, c2)))))) (ccal 61 [vR 49, vR (-103), vI 0, vI 2] (SH T, c)))) : Q (ccal 59 [vR 49, vR (-103)] (SH T, c)) := by
  refine of_cev (Q := Q) ?_
  refine wq_sum (Q := Q) rfl (S_len_3 T c) ?_
  refine wq_callI (Q := Q) rfl k ?_
  intro r1 c2 k
  refine wq_ite (Q := Q) (p := r1 = 0) (fun h => ?_) (fun h => ?_)
  · replace k := k.1 h
    show Q (cev 59 6 19 [vU, vU, vI r1] [] (SH T, c2))
    refine of_cev (Q := Q) ?_
    refine wq_pos (Q := Q) k.1 ?_
    replace k := k.2
    exact k
  · replace k := k.2 h
    refine wq_callV (Q := Q) rfl k ?_
    intro c3 k
    show Q (cev 59 6 19 [vU, vU, vI r1] [] (SH T, c3))
    refine of_cev (Q := Q) ?_
    refine wq_pos (Q := Q) k.1 ?_
    replace k := k.2
    exact k
set_option maxRecDepth 20000 in
theorem W_X6_takesWord_s4 {T : List Shp} {c : Nat → Int → Int} {Q : Res → Prop} (k : (QI T (fun r1 c2 => ((r1 = 0 → ((r1 = 0 ∨ r1 = 1) ∧ Q (some (some (vI r1), (SH T, c2))))) ∧ (¬ r1 = 0 → (QV T (fun c3 => ((r1 = 0 ∨ r1 = 1) ∧ Q (some (some (vI r1), (SH T, c3))))) (ccal 62 [vR 49] (SH T, c2)))))) (ccal 61 [vR 49, vR (-104), vI 0, vI 4] (SH T, c)))) : Q (ccal 59 [vR 49, vR (-104)] (SH T, c)) := by
  refine of_cev (Q := Q) ?_
  refine wq_sum (Q := Q) rfl (S_len_4 T c) ?_
  refine wq_callI (Q := Q) rfl k ?_
  intro r1 c2 k
  refine wq_ite (Q := Q) (p := r1 = 0) (fun h => ?_) (fun h => ?_)
  · replace k := k.1 h
    show Q (cev 59 6 19 [vU, vU, vI r1] [] (SH T, c2))
    refine of_cev (Q := Q) ?_
    refine wq_pos (Q := Q) k.1 ?_
    replace k := k.2
    exact k
  · replace k := k.2 h
    refine wq_callV (Q := Q) rfl k ?_
    intro c3 k
    show Q (cev 59 6 19 [vU, vU, vI r1] [] (SH T, c3))
    refine of_cev (Q := Q) ?_
    refine wq_pos (Q := Q) k.1 ?_
    replace k := k.2
    exact k
set_option maxRecDepth 20000 in
theorem W_X6_takesWord_s5 {T : List Shp} {c : Nat → Int → Int} {Q : Res → Prop} (k : (QI T (fun r1 c2 => ((r1 = 0 → ((r1 = 0 ∨ r1 = 1) ∧ Q (some (some (vI r1), (SH T, c2))))) ∧ (¬ r1 = 0 → (QV T (fun c3 => ((r1 = 0 ∨ r1 = 1) ∧ Q (some (some (vI r1), (SH T, c3))))) (ccal 62 [vR 49] (SH T, c2)))))) (ccal 61 [vR 49, vR (-105), vI 0, vI 5] (SH T, c)))) : Q (ccal 59 [vR 49, vR (-105)] (SH T, c)) := by
  refine of_cev (Q := Q) ?_
  refine wq_sum (Q := Q) rfl (S_len_5 T c) ?_
  refine wq_callI (Q := Q) rfl k ?_
  intro r1 c2 k
  refine wq_ite (Q := Q) (p := r1 = 0) (fun h => ?_) (fun h => ?_)
  · replace k := k.1 h
    show Q (cev 59 6 19 [vU, vU, vI r1] [] (SH T, c2))
    refine of_cev (Q := Q) ?_
    refine wq_pos (Q := Q) k.1 ?_
    replace k := k.2
    exact k
  · replace k := k.2 h
    refine wq_callV (Q := Q) rfl k ?_
    intro c3 k
    show Q (cev 59 6 19 [vU, vU, vI r1] [] (SH T, c3))
    refine of_cev (Q := Q) ?_
    refine wq_pos (Q := Q) k.1 ?_
    replace k := k.2
    exact k
set_option maxRecDepth 20000 in
theorem W_X6_takesWord_s6 {T : List Shp} {c : Nat → Int → Int} {Q : Res → Prop} (k : (QI T (fun r1 c2 => ((r1 = 0 → ((r1 = 0 ∨ r1 = 1) ∧ Q (some (some (vI r1), (SH T, c2))))) ∧ (¬ r1 = 0 → (QV T (fun c3 => ((r1 = 0 ∨ r1 = 1) ∧ Q (some (some (vI r1), (SH T, c3))))) (ccal 62 [vR 49] (SH T, c2)))))) (ccal 61 [vR 49, vR (-106), vI 0, vI 2] (SH T, c)))) : Q (ccal 59 [vR 49, vR (-106)] (SH T, c)) := by
  refine of_cev (Q := Q) ?_
  refine wq_sum (Q := Q) rfl (S_len_6 T c) ?_
  refine wq_callI (Q := Q) rfl k ?_
  intro r1 c2 k
  refine wq_ite (Q := Q) (p := r1 = 0) (fun h => ?_) (fun h => ?_)
  · replace k := k.1 h
    show Q (cev 59 6 19 [vU, vU, vI r1] [] (SH T, c2))
    refine of_cev (Q := Q) ?_
    refine wq_pos (Q := Q) k.1 ?_
    replace k := k.2
    exact k
  · replace k := k.2 h
    refine wq_callV (Q := Q) rfl k ?_
    intro c3 k
    show Q (cev 59 6 19 [vU, vU, vI r1] [] (SH T, c3))
    refine of_cev (Q := Q) ?_
    refine wq_pos (Q := Q) k.1 ?_
    replace k := k.2
    exact k
set_option maxRecDepth 20000 in
theorem W_X6_takesWord_s7 {T : List Shp} {c : Nat → Int → Int} {Q : Res → Prop} (k : (QI T (fun r1 c2 => ((r1 = 0 → ((r1 = 0 ∨ r1 = 1) ∧ Q (some (some (vI r1), (SH T, c2))))) ∧ (¬ r1 = 0 → (QV T (fun c3 => ((r1 = 0 ∨ r1 = 1) ∧ Q (some (some (vI r1), (SH T, c3))))) (ccal 62 [vR 49] (SH T, c2)))))) (ccal 61 [vR 49, vR (-107), vI 0, vI 2] (SH T, c)))) : Q (ccal 59 [vR 49, vR (-107)] (SH T, c)) := by
  refine of_cev (Q := Q) ?_
  refine wq_sum (Q := Q) rfl (S_len_7 T c) ?_
  refine wq_callI (Q := Q) rfl k ?_
  intro r1 c2 k
  refine wq_ite (Q := Q) (p := r1 = 0) (fun h => ?_) (fun h => ?_)
  · replace k := k.1 h
    show Q (cev 59 6 19 [vU, vU, vI r1] [] (SH T, c2))
    refine of_cev (Q := Q) ?_
    refine wq_pos (Q := Q) k.1 ?_
    replace k := k.2
    exact k
  · replace k := k.2 h
    refine wq_callV (Q := Q) rfl k ?_
    intro c3 k
    show Q (cev 59 6 19 [vU, vU, vI r1] [] (SH T, c3))
    refine of_cev (Q := Q) ?_
    refine wq_pos (Q := Q) k.1 ?_
    replace k := k.2
    exact k
set_option maxRecDepth 20000 in
theorem W_X6_takesWord_s8 {T : List Shp} {c : Nat → Int → Int} {Q : Res → Prop} (k : (QI T (fun r1 c2 => ((r1 = 0 → ((r1 = 0 ∨ r1 = 1) ∧ Q (some (some (vI r1), (SH T, c2))))) ∧ (¬ r1 = 0 → (QV T (fun c3 => ((r1 = 0 ∨ r1 = 1) ∧ Q (some (some (vI r1), (SH T, c3))))) (ccal 62 [vR 49] (SH T, c2)))))) (ccal 61 [vR 49, vR (-108), vI 0, vI 3] (SH T, c)))) : Q (ccal 59 [vR 49, vR (-108)] (SH T, c)) := by
  refine of_cev (Q := Q) ?_
  refine wq_sum (Q := Q) rfl (S_len_8 T c) ?_
  refine wq_callI (Q := Q) rfl k ?_
  intro r1 c2 k
  refine wq_ite (Q := Q) (p := r1 = 0) (fun h => ?_) (fun h => ?_)
  · replace k := k.1 h
    show Q (cev 59 6 19 [vU, vU, vI r1] [] (SH T, c2))
    refine of_cev (Q := Q) ?_
    refine wq_pos (Q := Q) k.1 ?_
    replace k := k.2
    exact k
  · replace k := k.2 h
    refine wq_callV (Q := Q) rfl k ?_
    intro c3 k
    show Q (cev 59 6 19 [vU, vU, vI r1] [] (SH T, c3))
    refine of_cev (Q := Q) ?_
    refine wq_pos (Q := Q) k.1 ?_
    replace k := k.2
    exact k
set_option maxRecDepth 20000 in
theorem W_X6_takesWord_s9 {T : List Shp} {c : Nat → Int → Int} {Q : Res → Prop} (k : (QI T (fun r1 c2 => ((r1 = 0 → ((r1 = 0 ∨ r1 = 1) ∧ Q (some (some (vI r1), (SH T, c2))))) ∧ (¬ r1 = 0 → (QV T (fun c3 => ((r1 = 0 ∨ r1 = 1) ∧ Q (some (some (vI r1), (SH T, c3))))) (ccal 62 [vR 49] (SH T, c2)))))) (ccal 61 [vR 49, vR (-109), vI 0, vI 3] (SH T, c)))) : Q (ccal 59 [vR 49, vR (-109)] (SH T, c)) := by
  refine of_cev (Q := Q) ?_
  refine wq_sum (Q := Q) rfl (S_len_9 T c) ?_
  refine wq_callI (Q := Q) rfl k ?_
  intro r1 c2 k
  refine wq_ite (Q := Q) (p := r1 = 0) (fun h => ?_) (fun h => ?_)
  · replace k := k.1 h
    show Q (cev 59 6 19 [vU, vU, vI r1] [] (SH T, c2))
    refine of_cev (Q := Q) ?_
    refine wq_pos (Q := Q) k.1 ?_
    replace k := k.2
    exact k
  · replace k := k.2 h
    refine wq_callV (Q := Q) rfl k ?_
    intro c3 k
    show Q (cev 59 6 19 [vU, vU, vI r1] [] (SH T, c3))
    refine of_cev (Q := Q) ?_
    refine wq_pos (Q := Q) k.1 ?_
    replace k := k.2
    exact k
set_option maxRecDepth 20000 in
theorem W_X6_placeIn_s0 {T : List Shp} {c : Nat → Int → Int} {Q : Res → Prop} (k : Q (cev 60 6 7 [vR 49, vR (-100), vI 0, vI 0, vI 0] [] (SH T, c))) : Q (ccal 60 [vR 49, vR (-100)] (SH T, c)) := by
  refine of_cev (Q := Q) ?_
  exact k
set_option maxRecDepth 20000 in
theorem W_X6_placeIn_s0_7 {T : List Shp} {c : Nat → Int → Int} {Q : Res → Prop} {x2 x3 x4 : Int} (k : ((26 < x4 → Q (some (some (vI (-1)), (SH T, c)))) ∧ (¬ 26 < x4 → ((x4 = 26 → Q (cev 60 6 36 [vR 49, vR (-100), vI x2, vI x3, vI x4] [] (SH T, c))) ∧ (¬ x4 = 26 → ((0 ≤ x4 ∧ x4 < 26) ∧ ((((strb 0).getD x4.toNat 0) = 32 → Q (cev 60 6 36 [vR 49, vR (-100), vI x2, vI x3, vI x4] [] (SH T, c))) ∧ (¬ ((strb 0).getD x4.toNat 0) = 32 → ((-2147483648 ≤ x4 + 1 ∧ x4 + 1 < 2147483648) ∧ Q (cev 60 6 7 [vR 49, vR (-100), vI x2, vI x3, vI (x4 + 1)] [] (SH T, c))))))))))) : Q (cev 60 6 7 [vR 49, vR (-100), vI x2, vI x3, vI x4] [] (SH T, c)) := by
  refine of_cev (Q := Q) ?_
  refine wq_sum (Q := Q) rfl (S_len_0 T c) ?_
  refine wq_ite (Q := Q) (p := 26 < x4) (fun h => ?_) (fun h => ?_)
  · replace k := k.1 h
    show Q (cev 60 6 63 [vU, vU, vU, vU, vU] [] (SH T, c))
    refine of_cev (Q := Q) ?_
    exact k
  · replace k := k.2 h
    refine wq_sum (Q := Q) rfl (S_len_0 T c) ?_
    refine wq_ite (Q := Q) (p := x4 = 26) (fun h => ?_) (fun h => ?_)
    · replace k := k.1 h
      exact k
    · replace k := k.2 h
      refine wq_sum (Q := Q) rfl (S_chr_0 T c x4 k.1) ?_
      replace k := k.2
      refine wq_ite (Q := Q) (p := ((strb 0).getD x4.toNat 0) = 32) (fun h => ?_) (fun h => ?_)
      · replace k := k.1 h
        exact k
      · replace k := k.2 h
        show Q (cev 60 6 57 [vR 49, vR (-100), vI x2, vI x3, vI x4] [] (SH T, c))
        refine of_cev (Q := Q) ?_
        refine wq_pos (Q := Q) k.1 ?_
        replace k := k.2
        exact k
set_option maxRecDepth 20000 in
theorem W_X6_placeIn_s0_36 {T : List Shp} {c : Nat → Int → Int} {Q : Res → Prop} {x2 x3 x4 : Int} (k : (QI T (fun r1 c2 => ((r1 = 0 → (((-2147483648 ≤ x2 + 1 ∧ x2 + 1 < 2147483648) ∧ (-2147483648 ≤ x4 + 1 ∧ x4 + 1 < 2147483648)) ∧ Q (cev 60 6 7 [vR 49, vR (-100), vI (x2 + 1), vI (x4 + 1), vI (x4 + 1)] [] (SH T, c2)))) ∧ (¬ r1 = 0 → Q (some (some (vI x2), (SH T, c2)))))) (ccal 61 [vR 49, vR (-100), vI x3, vI x4] (SH T, c)))) : Q (cev 60 6 36 [vR 49, vR (-100), vI x2, vI x3, vI x4] [] (SH T, c)) := by
  refine of_cev (Q := Q) ?_
  refine wq_callI (Q := Q) rfl k ?_
  intro r1 c2 k
  refine wq_ite (Q := Q) (p := r1 = 0) (fun h => ?_) (fun h => ?_)
  · replace k := k.1 h
    show Q (cev 60 6 49 [vR 49, vR (-100), vI x2, vU, vI x4] [] (SH T, c2))
    refine of_cev (Q := Q) ?_
    refine wq_pos (Q := Q) k.1.1 ?_
    refine wq_pos (Q := Q) k.1.2 ?_
    show Q (cev 60 6 57 [vR 49, vR (-100), vI (x2 + 1), vI (x4 + 1), vI x4] [] (SH T, c2))
    refine of_cev (Q := Q) ?_
    refine wq_pos (Q := Q) k.1.2 ?_
    replace k := k.2
    exact k
  · replace k := k.2 h
    exact k
set_option maxRecDepth 20000 in
theorem W_X6_placeIn_s1 {T : List Shp} {c : Nat → Int → Int} {Q : Res → Prop} (k : Q (cev 60 6 7 [vR 49, vR (-101), vI 0, vI 0, vI 0] [] (SH T, c))) : Q (ccal 60 [vR 49, vR (-101)] (SH T, c)) := by
  refine of_cev (Q := Q) ?_
  exact k
set_option maxRecDepth 20000 in
theorem W_X6_placeIn_s1_7 {T : List Shp} {c : Nat → Int → Int} {Q : Res → Prop} {x2 x3 x4 : Int} (k : ((23 < x4 → Q (some (some (vI (-1)), (SH T, c)))) ∧ (¬ 23 < x4 → ((x4 = 23 → Q (cev 60 6 36 [vR 49, vR (-101), vI x2, vI x3, vI x4] [] (SH T, c))) ∧ (¬ x4 = 23 → ((0 ≤ x4 ∧ x4 < 23) ∧ ((((strb 1).getD x4.toNat 0) = 32 → Q (cev 60 6 36 [vR 49, vR (-101), vI x2, vI x3, vI x4] [] (SH T, c))) ∧ (¬ ((strb 1).getD x4.toNat 0) = 32 → ((-2147483648 ≤ x4 + 1 ∧ x4 + 1 < 2147483648) ∧ Q (cev 60 6 7 [vR 49, vR (-101), vI x2, vI x3, vI (x4 + 1)] [] (SH T, c))))))))))) : Q (cev 60 6 7 [vR 49, vR (-101), vI x2, vI x3, vI x4] [] (SH T, c)) := by
  refine of_cev (Q := Q) ?_
  refine wq_sum (Q := Q) rfl (S_len_1 T c) ?_
  refine wq_ite (Q := Q) (p := 23 < x4) (fun h => ?_) (fun h => ?_)
  · replace k := k.1 h
    show Q (cev 60 6 63 [vU, vU, vU, vU, vU] [] (SH T, c))
    refine of_cev (Q := Q) ?_
    exact k
  · replace k := k.2 h
    refine wq_sum (Q := Q) rfl (S_len_1 T c) ?_
    refine wq_ite (Q := Q) (p := x4 = 23) (fun h => ?_) (fun h => ?_)
    · replace k := k.1 h
      exact k
    · replace k := k.2 h
      refine wq_sum (Q := Q) rfl (S_chr_1 T c x4 k.1) ?_
      replace k := k.2
      refine wq_ite (Q := Q) (p := ((strb 1).getD x4.toNat 0) = 32) (fun h => ?_) (fun h => ?_)
      · replace k := k.1 h
        exact k
      · replace k := k.2 h
        show Q (cev 60 6 57 [vR 49, vR (-101), vI x2, vI x3, vI x4] [] (SH T, c))
        refine of_cev (Q := Q) ?_
        refine wq_pos (Q := Q) k.1 ?_
        replace k := k.2
        exact k
set_option maxRecDepth 20000 in
theorem W_X6_placeIn_s1_36 {T : List Shp} {c : Nat → Int → Int} {Q : Res → Prop} {x2 x3 x4 : Int} (k : (QI T (fun r1 c2 => ((r1 = 0 → (((-2147483648 ≤ x2 + 1 ∧ x2 + 1 < 2147483648) ∧ (-2147483648 ≤ x4 + 1 ∧ x4 + 1 < 2147483648)) ∧ Q (cev 60 6 7 [vR 49, vR (-101), vI (x2 + 1), vI (x4 + 1), vI (x4 + 1)] [] (SH T, c2)))) ∧ (¬ r1 = 0 → Q (some (some (vI x2), (SH T, c2)))))) (ccal 61 [vR 49, vR (-101), vI x3, vI x4] (SH T, c)))) : Q (cev 60 6 36 [vR 49, vR (-101), vI x2, vI x3, vI x4] [] (SH T, c)) := by
  refine of_cev (Q := Q) ?_
  refine wq_callI (Q := Q) rfl k ?_
  intro r1 c2 k
  refine wq_ite (Q := Q) (p := r1 = 0) (fun h => ?_) (fun h => ?_)
  · replace k := k.1 h
    show Q (cev 60 6 49 [vR 49, vR (-101), vI x2, vU, vI x4] [] (SH T, c2))
    refine of_cev (Q := Q) ?_
    refine wq_pos (Q := Q) k.1.1 ?_
    refine wq_pos (Q := Q) k.1.2 ?_
    show Q (cev 60 6 57 [vR 49, vR (-101), vI (x2 + 1), vI (x4 + 1), vI x4] [] (SH T, c2))
    refine of_cev (Q := Q) ?_
    refine wq_pos (Q := Q) k.1.2 ?_
    replace k := k.2
    exact k
  · replace k := k.2 h
    exact k
set_option maxRecDepth 20000 in
theorem W_X6_placeIn_s2 {T : List Shp} {c : Nat → Int → Int} {Q : Res → Prop} (k : Q (cev 60 6 7 [vR 49, vR (-102), vI 0, vI 0, vI 0] [] (SH T, c))) : Q (ccal 60 [vR 49, vR (-102)] (SH T, c)) := by
  refine of_cev (Q := Q) ?_
  exact k
set_option maxRecDepth 20000 in
theorem W_X6_placeIn_s2_7 {T : List Shp} {c : Nat → Int → Int} {Q : Res → Prop} {x2 x3 x4 : Int} (k : ((18 < x4 → Q (some (some (vI (-1)), (SH T, c)))) ∧ (¬ 18 < x4 → ((x4 = 18 → Q (cev 60 6 36 [vR 49, vR (-102), vI x2, vI x3, vI x4] [] (SH T, c))) ∧ (¬ x4 = 18 → ((0 ≤ x4 ∧ x4 < 18) ∧ ((((strb 2).getD x4.toNat 0) = 32 → Q (cev 60 6 36 [vR 49, vR (-102), vI x2, vI x3, vI x4] [] (SH T, c))) ∧ (¬ ((strb 2).getD x4.toNat 0) = 32 → ((-2147483648 ≤ x4 + 1 ∧ x4 + 1 < 2147483648) ∧ Q (cev 60 6 7 [vR 49, vR (-102), vI x2, vI x3, vI (x4 + 1)] [] (SH T, c))))))))))) : Q (cev 60 6 7 [vR 49, vR (-102), vI x2, vI x3, vI x4] [] (SH T, c)) := by
  refine of_cev (Q := Q) ?_
  refine wq_sum (Q := Q) rfl (S_len_2 T c) ?_
  refine wq_ite (Q := Q) (p := 18 < x4) (fun h => ?_) (fun h => ?_)
  · replace k := k.1 h
    show Q (cev 60 6 63 [vU, vU, vU, vU, vU] [] (SH T, c))
    refine of_cev (Q := Q) ?_
    exact k
  · replace k := k.2 h
    refine wq_sum (Q := Q) rfl (S_len_2 T c) ?_
    refine wq_ite (Q := Q) (p := x4 = 18) (fun h => ?_) (fun h => ?_)
    · replace k := k.1 h
      exact k
    · replace k := k.2 h
      refine wq_sum (Q := Q) rfl (S_chr_2 T c x4 k.1) ?_
      replace k := k.2
      refine wq_ite (Q := Q) (p := ((strb 2).getD x4.toNat 0) = 32) (fun h => ?_) (fun h => ?_)
      · replace k := k.1 h
        exact k
      · replace k := k.2 h
        show Q (cev 60 6 57 [vR 49, vR (-102), vI x2, vI x3, vI x4] [] (SH T, c))
        refine of_cev (Q := Q) ?_
        refine wq_pos (Q := Q) k.1 ?_
        replace k := k.2
        exact k
set_option maxRecDepth 20000 in
theorem W_X6_placeIn_s2_36 {T : List Shp} {c : Nat → Int → Int} {Q : Res → Prop} {x2 x3 x4 : Int} (k : (QI T (fun r1 c2 => ((r1 = 0 → (((-2147483648 ≤ x2 + 1 ∧ x2 + 1 < 2147483648) ∧ (-2147483648 ≤ x4 + 1 ∧ x4 + 1 < 2147483648)) ∧ Q (cev 60 6 7 [vR 49, vR (-102), vI (x2 + 1), vI (x4 + 1), vI (x4 + 1)] [] (SH T, c2)))) ∧ (¬ r1 = 0 → Q (some (some (vI x2), (SH T, c2)))))) (ccal 61 [vR 49, vR (-102), vI x3, vI x4] (SH T, c)))) : Q (cev 60 6 36 [vR 49, vR (-102), vI x2, vI x3, vI x4] [] (SH T, c)) := by
  refine of_cev (Q := Q) ?_
  refine wq_callI (Q := Q) rfl k ?_
  intro r1 c2 k
  refine wq_ite (Q := Q) (p := r1 = 0) (fun h => ?_) (fun h => ?_)
  · replace k := k.1 h
    show Q (cev 60 6 49 [vR 49, vR (-102), vI x2, vU, vI x4] [] (SH T, c2))
    refine of_cev (Q := Q) ?_
    refine wq_pos (Q := Q) k.1.1 ?_
    refine wq_pos (Q := Q) k.1.2 ?_
    show Q (cev 60 6 57 [vR 49, vR (-102), vI (x2 + 1), vI (x4 + 1), vI x4] [] (SH T, c2))
    refine of_cev (Q := Q) ?_
    refine wq_pos (Q := Q) k.1.2 ?_
    replace k := k.2
    exact k
  · replace k := k.2 h
    exact k
set_option maxRecDepth 20000 in
theorem W_X6_placeIn_s10 {T : List Shp} {c : Nat → Int → Int} {Q : Res → Prop} (k : Q (cev 60 6 7 [vR 49, vR (-110), vI 0, vI 0, vI 0] [] (SH T, c))) : Q (ccal 60 [vR 49, vR (-110)] (SH T, c)) := by
  refine of_cev (Q := Q) ?_
  exact k
set_option maxRecDepth 20000 in
theorem W_X6_placeIn_s10_7 {T : List Shp} {c : Nat → Int → Int} {Q : Res → Prop} {x2 x3 x4 : Int} (k : ((39 < x4 → Q (some (some (vI (-1)), (SH T, c)))) ∧ (¬ 39 < x4 → ((x4 = 39 → Q (cev 60 6 36 [vR 49, vR (-110), vI x2, vI x3, vI x4] [] (SH T, c))) ∧ (¬ x4 = 39 → ((0 ≤ x4 ∧ x4 < 39) ∧ ((((strb 10).getD x4.toNat 0) = 32 → Q (cev 60 6 36 [vR 49, vR (-110), vI x2, vI x3, vI x4] [] (SH T, c))) ∧ (¬ ((strb 10).getD x4.toNat 0) = 32 → ((-2147483648 ≤ x4 + 1 ∧ x4 + 1 < 2147483648) ∧ Q (cev 60 6 7 [vR 49, vR (-110), vI x2, vI x3, vI (x4 + 1)] [] (SH T, c))))))))))) : Q (cev 60 6 7 [vR 49, vR (-110), vI x2, vI x3, vI x4] [] (SH T, c)) := by
  refine of_cev (Q := Q) ?_
  refine wq_sum (Q := Q) rfl (S_len_10 T c) ?_
  refine wq_ite (Q := Q) (p := 39 < x4) (fun h => ?_) (fun h => ?_)
  · replace k := k.1 h
    show Q (cev 60 6 63 [vU, vU, vU, vU, vU] [] (SH T, c))
    refine of_cev (Q := Q) ?_
    exact k
  · replace k := k.2 h
    refine wq_sum (Q := Q) rfl (S_len_10 T c) ?_
    refine wq_ite (Q := Q) (p := x4 = 39) (fun h => ?_) (fun h => ?_)
    · replace k := k.1 h
      exact k
    · replace k := k.2 h
      refine wq_sum (Q := Q) rfl (S_chr_10 T c x4 k.1) ?_
      replace k := k.2
      refine wq_ite (Q := Q) (p := ((strb 10).getD x4.toNat 0) = 32) (fun h => ?_) (fun h => ?_)
      · replace k := k.1 h
        exact k
      · replace k := k.2 h
        show Q (cev 60 6 57 [vR 49, vR (-110), vI x2, vI x3, vI x4] [] (SH T, c))
        refine of_cev (Q := Q) ?_
        refine wq_pos (Q := Q) k.1 ?_
        replace k := k.2
        exact k
set_option maxRecDepth 20000 in
theorem W_X6_placeIn_s10_36 {T : List Shp} {c : Nat → Int → Int} {Q : Res → Prop} {x2 x3 x4 : Int} (k : (QI T (fun r1 c2 => ((r1 = 0 → (((-2147483648 ≤ x2 + 1 ∧ x2 + 1 < 2147483648) ∧ (-2147483648 ≤ x4 + 1 ∧ x4 + 1 < 2147483648)) ∧ Q (cev 60 6 7 [vR 49, vR (-110), vI (x2 + 1), vI (x4 + 1), vI (x4 + 1)] [] (SH T, c2)))) ∧ (¬ r1 = 0 → Q (some (some (vI x2), (SH T, c2)))))) (ccal 61 [vR 49, vR (-110), vI x3, vI x4] (SH T, c)))) : Q (cev 60 6 36 [vR 49, vR (-110), vI x2, vI x3, vI x4] [] (SH T, c)) := by
  refine of_cev (Q := Q) ?_
  refine wq_callI (Q := Q) rfl k ?_
  intro r1 c2 k
  refine wq_ite (Q := Q) (p := r1 = 0) (fun h => ?_) (fun h => ?_)
  · replace k := k.1 h
    show Q (cev 60 6 49 [vR 49, vR (-110), vI x2, vU, vI x4] [] (SH T, c2))
    refine of_cev (Q := Q) ?_
    refine wq_pos (Q := Q) k.1.1 ?_
    refine wq_pos (Q := Q) k.1.2 ?_
    show Q (cev 60 6 57 [vR 49, vR (-110), vI (x2 + 1), vI (x4 + 1), vI x4] [] (SH T, c2))
    refine of_cev (Q := Q) ?_
    refine wq_pos (Q := Q) k.1.2 ?_
    replace k := k.2
    exact k
  · replace k := k.2 h
    exact k
set_option maxRecDepth 20000 in
theorem W_X6_placeIn_s11 {T : List Shp} {c : Nat → Int → Int} {Q : Res → Prop} (k : Q (cev 60 6 7 [vR 49, vR (-111), vI 0, vI 0, vI 0] [] (SH T, c))) : Q (ccal 60 [vR 49, vR (-111)] (SH T, c)) := by
  refine of_cev (Q := Q) ?_
  exact k
set_option maxRecDepth 20000 in
theorem W_X6_placeIn_s11_7 {T : List Shp} {c : Nat → Int → Int} {Q : Res → Prop} {x2 x3 x4 : Int} (k : ((60 < x4 → Q (some (some (vI (-1)), (SH T, c)))) ∧ (¬ 60 < x4 → ((x4 = 60 → Q (cev 60 6 36 [vR 49, vR (-111), vI x2, vI x3, vI x4] [] (SH T, c))) ∧ (¬ x4 = 60 → ((0 ≤ x4 ∧ x4 < 60) ∧ ((((strb 11).getD x4.toNat 0) = 32 → Q (cev 60 6 36 [vR 49, vR (-111), vI x2, vI x3, vI x4] [] (SH T, c))) ∧ (¬ ((strb 11).getD x4.toNat 0) = 32 → ((-2147483648 ≤ x4 + 1 ∧ x4 + 1 < 2147483648) ∧ Q (cev 60 6 7 [vR 49, vR (-111), vI x2, vI x3, vI (x4 + 1)] [] (SH T, c))))))))))) : Q (cev 60 6 7 [vR 49, vR (-111), vI x2, vI x3, vI x4] [] (SH T, c)) := by
  refine of_cev (Q := Q) ?_
  refine wq_sum (Q := Q) rfl (S_len_11 T c) ?_
  refine wq_ite (Q := Q) (p := 60 < x4) (fun h => ?_) (fun h => ?_)
  · replace k := k.1 h
    show Q (cev 60 6 63 [vU, vU, vU, vU, vU] [] (SH T, c))
    refine of_cev (Q := Q) ?_
    exact k
  · replace k := k.2 h
    refine wq_sum (Q := Q) rfl (S_len_11 T c) ?_
    refine wq_ite (Q := Q) (p := x4 = 60) (fun h => ?_) (fun h => ?_)
    · replace k := k.1 h
      exact k
    · replace k := k.2 h
      refine wq_sum (Q := Q) rfl (S_chr_11 T c x4 k.1) ?_
      replace k := k.2
      refine wq_ite (Q := Q) (p := ((strb 11).getD x4.toNat 0) = 32) (fun h => ?_) (fun h => ?_)
      · replace k := k.1 h
        exact k
      · replace k := k.2 h
        show Q (cev 60 6 57 [vR 49, vR (-111), vI x2, vI x3, vI x4] [] (SH T, c))
        refine of_cev (Q := Q) ?_
        refine wq_pos (Q := Q) k.1 ?_
        replace k := k.2
        exact k
set_option maxRecDepth 20000 in
theorem W_X6_placeIn_s11_36 {T : List Shp} {c : Nat → Int → Int} {Q : Res → Prop} {x2 x3 x4 : Int} (k : (QI T (fun r1 c2 => ((r1 = 0 → (((-2147483648 ≤ x2 + 1 ∧ x2 + 1 < 2147483648) ∧ (-2147483648 ≤ x4 + 1 ∧ x4 + 1 < 2147483648)) ∧ Q (cev 60 6 7 [vR 49, vR (-111), vI (x2 + 1), vI (x4 + 1), vI (x4 + 1)] [] (SH T, c2)))) ∧ (¬ r1 = 0 → Q (some (some (vI x2), (SH T, c2)))))) (ccal 61 [vR 49, vR (-111), vI x3, vI x4] (SH T, c)))) : Q (cev 60 6 36 [vR 49, vR (-111), vI x2, vI x3, vI x4] [] (SH T, c)) := by
  refine of_cev (Q := Q) ?_
  refine wq_callI (Q := Q) rfl k ?_
  intro r1 c2 k
  refine wq_ite (Q := Q) (p := r1 = 0) (fun h => ?_) (fun h => ?_)
  · replace k := k.1 h
    show Q (cev 60 6 49 [vR 49, vR (-111), vI x2, vU, vI x4] [] (SH T, c2))
    refine of_cev (Q := Q) ?_
    refine wq_pos (Q := Q) k.1.1 ?_
    refine wq_pos (Q := Q) k.1.2 ?_
    show Q (cev 60 6 57 [vR 49, vR (-111), vI (x2 + 1), vI (x4 + 1), vI x4] [] (SH T, c2))
    refine of_cev (Q := Q) ?_
    refine wq_pos (Q := Q) k.1.2 ?_
    replace k := k.2
    exact k
  · replace k := k.2 h
    exact k
set_option maxRecDepth 20000 in
theorem W_X6_isSame_s0 {T : List Shp} {c : Nat → Int → Int} {Q : Res → Prop} {x2 x3 : Int} (k : (((c 48 4) = 0 → (((-2147483648 ≤ x3 - x2 ∧ x3 - x2 < 2147483648) ∧ (-2147483648 ≤ (c 48 6) - (c 48 5) ∧ (c 48 6) - (c 48 5) < 2147483648)) ∧ (((x3 - x2) = ((c 48 6) - (c 48 5)) → Q (cev 61 5 27 [vR 49, vR (-100), vI x2, vI x3, vI 0] [] (SH T, c))) ∧ (¬ (x3 - x2) = ((c 48 6) - (c 48 5)) → Q (some (some (vI 0), (SH T, c))))))) ∧ (¬ (c 48 4) = 0 → Q (some (some (vI 0), (SH T, c)))))) : Q (ccal 61 [vR 49, vR (-100), vI x2, vI x3] (SH T, c)) := by
  refine of_cev (Q := Q) ?_
  refine wq_ite (Q := Q) (p := (c 48 4) = 0) (fun h => ?_) (fun h => ?_)
  · replace k := k.1 h
    refine wq_pos (Q := Q) k.1.1 ?_
    refine wq_pos (Q := Q) k.1.2 ?_
    replace k := k.2
    refine wq_ite (Q := Q) (p := (x3 - x2) = ((c 48 6) - (c 48 5))) (fun h => ?_) (fun h => ?_)
    · replace k := k.1 h
      show Q (cev 61 5 24 [vR 49, vR (-100), vI x2, vI x3, vU] [] (SH T, c))
      refine of_cev (Q := Q) ?_
      exact k
    · replace k := k.2 h
      show Q (cev 61 5 22 [vU, vU, vU, vU, vU] [] (SH T, c))
      refine of_cev (Q := Q) ?_
      exact k
  · replace k := k.2 h
    show Q (cev 61 5 22 [vU, vU, vU, vU, vU] [] (SH T, c))
    refine of_cev (Q := Q) ?_
    exact k
set_option maxRecDepth 20000 in
theorem W_X6_isSame_s0_27 {T : List Shp} {c : Nat → Int → Int} {Q : Res → Prop} {x2 x3 x4 : Int} (k : ((-2147483648 ≤ x3 - x2 ∧ x3 - x2 < 2147483648) ∧ ((x4 < (x3 - x2) → (((-2147483648 ≤ x2 + x4 ∧ x2 + x4 < 2147483648) ∧ (0 ≤ (x2 + x4) ∧ (x2 + x4) < 26) ∧ (-2147483648 ≤ (c 48 5) + x4 ∧ (c 48 5) + x4 < 2147483648) ∧ (0 ≤ ((c 48 5) + x4) ∧ ((c 48 5) + x4) < 400)) ∧ ((((strb 0).getD (x2 + x4).toNat 0) = (c 10 ((c 48 5) + x4)) → ((-2147483648 ≤ x4 + 1 ∧ x4 + 1 < 2147483648) ∧ Q (cev 61 5 27 [vR 49, vR (-100), vI x2, vI x3, vI (x4 + 1)] [] (SH T, c)))) ∧ (¬ ((strb 0).getD (x2 + x4).toNat 0) = (c 10 ((c 48 5) + x4)) → Q (some (some (vI 0), (SH T, c))))))) ∧ (¬ x4 < (x3 - x2) → Q (some (some (vI 1), (SH T, c))))))) : Q (cev 61 5 27 [vR 49, vR (-100), vI x2, vI x3, vI x4] [] (SH T, c)) := by
  refine of_cev (Q := Q) ?_
  refine wq_pos (Q := Q) k.1 ?_
  replace k := k.2
  refine wq_ite (Q := Q) (p := x4 < (x3 - x2)) (fun h => ?_) (fun h => ?_)
  · replace k := k.1 h
    refine wq_pos (Q := Q) k.1.1 ?_
    refine wq_sum (Q := Q) rfl (S_chr_0 T c (x2 + x4) k.1.2.1) ?_
    refine wq_pos (Q := Q) k.1.2.2.1 ?_
    refine wq_pos (Q := Q) k.1.2.2.2 ?_
    replace k := k.2
    refine wq_ite (Q := Q) (p := ((strb 0).getD (x2 + x4).toNat 0) = (c 10 ((c 48 5) + x4))) (fun h => ?_) (fun h => ?_)
    · replace k := k.1 h
      show Q (cev 61 5 60 [vR 49, vR (-100), vI x2, vI x3, vI x4] [] (SH T, c))
      refine of_cev (Q := Q) ?_
      refine wq_pos (Q := Q) k.1 ?_
      replace k := k.2
      exact k
    · replace k := k.2 h
      exact k
  · replace k := k.2 h
    show Q (cev 61 5 66 [vU, vU, vU, vU, vU] [] (SH T, c))
    refine of_cev (Q := Q) ?_
    exact k
set_option maxRecDepth 20000 in
theorem W_X6_isSame_s1 {T : List Shp} {c : Nat → Int → Int} {Q : Res → Prop} {x2 x3 : Int} (k : (((c 48 4) = 0 → (((-2147483648 ≤ x3 - x2 ∧ x3 - x2 < 2147483648) ∧ (-2147483648 ≤ (c 48 6) - (c 48 5) ∧ (c 48 6) - (c 48 5) < 2147483648)) ∧ (((x3 - x2) = ((c 48 6) - (c 48 5)) → Q (cev 61 5 27 [vR 49, vR (-101), vI x2, vI x3, vI 0] [] (SH T, c))) ∧ (¬ (x3 - x2) = ((c 48 6) - (c 48 5)) → Q (some (some (vI 0), (SH T, c))))))) ∧ (¬ (c 48 4) = 0 → Q (some (some (vI 0), (SH T, c)))))) : Q (ccal 61 [vR 49, vR (-101), vI x2, vI x3] (SH T, c)) := by
  refine of_cev (Q := Q) ?_
  refine wq_ite (Q := Q) (p := (c 48 4) = 0) (fun h => ?_) (fun h => ?_)
  · replace k := k.1 h
    refine wq_pos (Q := Q) k.1.1 ?_
    refine wq_pos (Q := Q) k.1.2 ?_
    replace k := k.2
    refine wq_ite (Q := Q) (p := (x3 - x2) = ((c 48 6) - (c 48 5))) (fun h => ?_) (fun h => ?_)
    · replace k := k.1 h
      show Q (cev 61 5 24 [vR 49, vR (-101), vI x2, vI x3, vU] [] (SH T, c))
      refine of_cev (Q := Q) ?_
      exact k
    · replace k := k.2 h
      show Q (cev 61 5 22 [vU, vU, vU, vU, vU] [] (SH T, c))
      refine of_cev (Q := Q) ?_
      exact k
  · replace k := k.2 h
    show Q (cev 61 5 22 [vU, vU, vU, vU, vU] [] (SH T, c))
    refine of_cev (Q := Q) ?_
    exact k
set_option maxRecDepth 20000 in
theorem W_X6_isSame_s1_27 {T : List Shp} {c : Nat → Int → Int} {Q : Res → Prop} {x2 x3 x4 : Int} (k : ((-2147483648 ≤ x3 - x2 ∧ x3 - x2 < 2147483648) ∧ ((x4 < (x3 - x2) → (((-2147483648 ≤ x2 + x4 ∧ x2 + x4 < 2147483648) ∧ (0 ≤ (x2 + x4) ∧ (x2 + x4) < 23) ∧ (-2147483648 ≤ (c 48 5) + x4 ∧ (c 48 5) + x4 < 2147483648) ∧ (0 ≤ ((c 48 5) + x4) ∧ ((c 48 5) + x4) < 400)) ∧ ((((strb 1).getD (x2 + x4).toNat 0) = (c 10 ((c 48 5) + x4)) → ((-2147483648 ≤ x4 + 1 ∧ x4 + 1 < 2147483648) ∧ Q (cev 61 5 27 [vR 49, vR (-101), vI x2, vI x3, vI (x4 + 1)] [] (SH T, c)))) ∧ (¬ ((strb 1).getD (x2 + x4).toNat 0) = (c 10 ((c 48 5) + x4)) → Q (some (some (vI 0), (SH T, c))))))) ∧ (¬ x4 < (x3 - x2) → Q (some (some (vI 1), (SH T, c))))))) : Q (cev 61 5 27 [vR 49, vR (-101), vI x2, vI x3, vI x4] [] (SH T, c)) := by
  refine of_cev (Q := Q) ?_
  refine wq_pos (Q := Q) k.1 ?_
  replace k := k.2
  refine wq_ite (Q := Q) (p := x4 < (x3 - x2)) (fun h => ?_) (fun h => ?_)
  · replace k := k.1 h
    refine wq_pos (Q := Q) k.1.1 ?_
    refine wq_sum (Q := Q) rfl (S_chr_1 T c (x2 + x4) k.1.2.1) ?_
    refine wq_pos (Q := Q) k.1.2.2.1 ?_
    refine wq_pos (Q := Q) k.1.2.2.2 ?_
    replace k := k.2
    refine wq_ite (Q := Q) (p := ((strb 1).getD (x2 + x4).toNat 0) = (c 10 ((c 48 5) + x4))) (fun h => ?_) (fun h => ?_)
    · replace k := k.1 h
      show Q (cev 61 5 60 [vR 49, vR (-101), vI x2, vI x3, vI x4] [] (SH T, c))
      refine of_cev (Q := Q) ?_
      refine wq_pos (Q := Q) k.1 ?_
      replace k := k.2
      exact k
    · replace k := k.2 h
      exact k
  · replace k := k.2 h
    show Q (cev 61 5 66 [vU, vU, vU, vU, vU] [] (SH T, c))
    refine of_cev (Q := Q) ?_
    exact k
set_option maxRecDepth 20000 in
theorem W_X6_isSame_s2 {T : List Shp} {c : Nat → Int → Int} {Q : Res → Prop} {x2 x3 : Int} (k : (((c 48 4) = 0 → (((-2147483648 ≤ x3 - x2 ∧ x3 - x2 < 2147483648) ∧ (-2147483648 ≤ (c 48 6) - (c 48 5) ∧ (c 48 6) - (c 48 5) < 2147483648)) ∧ (((x3 - x2) = ((c 48 6) - (c 48 5)) → Q (cev 61 5 27 [vR 49, vR (-102), vI x2, vI x3, vI 0] [] (SH T, c))) ∧ (¬ (x3 - x2) = ((c 48 6) - (c 48 5)) → Q (some (some (vI 0), (SH T, c))))))) ∧ (¬ (c 48 4) = 0 → Q (some (some (vI 0), (SH T, c)))))) : Q (ccal 61 [vR 49, vR (-102), vI x2, vI x3] (SH T, c)) := by
  refine of_cev (Q := Q) ?_
  refine wq_ite (Q := Q) (p := (c 48 4) = 0) (fun h => ?_) (fun h => ?_)
  · replace k := k.1 h
    refine wq_pos (Q := Q) k.1.1 ?_
    refine wq_pos (Q := Q) k.1.2 ?_
    replace k := k.2
    refine wq_ite (Q := Q) (p := (x3 - x2) = ((c 48 6) - (c 48 5))) (fun h => ?_) (fun h => ?_)
    · replace k := k.1 h
      show Q (cev 61 5 24 [vR 49, vR (-102), vI x2, vI x3, vU] [] (SH T, c))
      refine of_cev (Q := Q) ?_
      exact k
    · replace k := k.2 h
      show Q (cev 61 5 22 [vU, vU, vU, vU, vU] [] (SH T, c))
      refine of_cev (Q := Q) ?_
      exact k
  · replace k := k.2 h
    show Q (cev 61 5 22 [vU, vU, vU, vU, vU] [] (SH T, c))
    refine of_cev (Q := Q) ?_
    exact k
set_option maxRecDepth 20000 in
theorem W_X6_isSame_s2_27 {T : List Shp} {c : Nat → Int → Int} {Q : Res → Prop} {x2 x3 x4 : Int} (k : ((-2147483648 ≤ x3 - x2 ∧ x3 - x2 < 2147483648) ∧ ((x4 < (x3 - x2) → (((-2147483648 ≤ x2 + x4 ∧ x2 + x4 < 2147483648) ∧ (0 ≤ (x2 + x4) ∧ (x2 + x4) < 18) ∧ (-2147483648 ≤ (c 48 5) + x4 ∧ (c 48 5) + x4 < 2147483648) ∧ (0 ≤ ((c 48 5) + x4) ∧ ((c 48 5) + x4) < 400)) ∧ ((((strb 2).getD (x2 + x4).toNat 0) = (c 10 ((c 48 5) + x4)) → ((-2147483648 ≤ x4 + 1 ∧ x4 + 1 < 2147483648) ∧ Q (cev 61 5 27 [vR 49, vR (-102), vI x2, vI x3, vI (x4 + 1)] [] (SH T, c)))) ∧ (¬ ((strb 2).getD (x2 + x4).toNat 0) = (c 10 ((c 48 5) + x4)) → Q (some (some (vI 0), (SH T, c))))))) ∧ (¬ x4 < (x3 - x2) → Q (some (some (vI 1), (SH T, c))))))) : Q (cev 61 5 27 [vR 49, vR (-102), vI x2, vI x3, vI x4] [] (SH T, c)) := by
  refine of_cev (Q := Q) ?_
  refine wq_pos (Q := Q) k.1 ?_
  replace k := k.2
  refine wq_ite (Q := Q) (p := x4 < (x3 - x2)) (fun h => ?_) (fun h => ?_)
  · replace k := k.1 h
    refine wq_pos (Q := Q) k.1.1 ?_
    refine wq_sum (Q := Q) rfl (S_chr_2 T c (x2 + x4) k.1.2.1) ?_
    refine wq_pos (Q := Q) k.1.2.2.1 ?_
    refine wq_pos (Q := Q) k.1.2.2.2 ?_
    replace k := k.2
    refine wq_ite (Q := Q) (p := ((strb 2).getD (x2 + x4).toNat 0) = (c 10 ((c 48 5) + x4))) (fun h => ?_) (fun h => ?_)
    · replace k := k.1 h
      show Q (cev 61 5 60 [vR 49, vR (-102), vI x2, vI x3, vI x4] [] (SH T, c))
      refine of_cev (Q := Q) ?_
      refine wq_pos (Q := Q) k.1 ?_
      replace k := k.2
      exact k
    · replace k := k.2 h
      exact k
  · replace k := k.2 h
    show Q (cev 61 5 66 [vU, vU, vU, vU, vU] [] (SH T, c))
    refine of_cev (Q := Q) ?_
    exact k
set_option maxRecDepth 20000 in
theorem W_X6_isSame_s3 {T : List Shp} {c : Nat → Int → Int} {Q : Res → Prop} {x2 x3 : Int} (k : (((c 48 4) = 0 → (((-2147483648 ≤ x3 - x2 ∧ x3 - x2 < 2147483648) ∧ (-2147483648 ≤ (c 48 6) - (c 48 5) ∧ (c 48 6) - (c 48 5) < 2147483648)) ∧ (((x3 - x2) = ((c 48 6) - (c 48 5)) → Q (cev 61 5 27 [vR 49, vR (-103), vI x2, vI x3, vI 0] [] (SH T, c))) ∧ (¬ (x3 - x2) = ((c 48 6) - (c 48 5)) → Q (some (some (vI 0), (SH T, c))))))) ∧ (¬ (c 48 4) = 0 → Q (some (some (vI 0), (SH T, c)))))) : Q (ccal 61 [vR 49, vR (-103), vI x2, vI x3] (SH T, c)) := by
  refine of_cev (Q := Q) ?_
  refine wq_ite (Q := Q) (p := (c 48 4) = 0) (fun h => ?_) (fun h => ?_)
  · replace k := k.1 h
    refine wq_pos (Q := Q) k.1.1 ?_
    refine wq_pos (Q := Q) k.1.2 ?_
    replace k := k.2
    refine wq_ite (Q := Q) (p := (x3 - x2) = ((c 48 6) - (c 48 5))) (fun h => ?_) (fun h => ?_)
    · replace k := k.1 h
      show Q (cev 61 5 24 [vR 49, vR (-103), vI x2, vI x3, vU] [] (SH T, c))
      refine of_cev (Q := Q) ?_
      exact k
    · replace k := k.2 h
      show Q (cev 61 5 22 [vU, vU, vU, vU, vU] [] (SH T, c))
      refine of_cev (Q := Q) ?_
      exact k
  · replace k := k.2 h
    show Q (cev 61 5 22 [vU, vU, vU, vU, vU] [] (SH T, c))
    refine of_cev (Q := Q) ?_
    exact k
set_option maxRecDepth 20000 in
theorem W_X6_isSame_s3_27 {T : List Shp} {c : Nat → Int → Int} {Q : Res → Prop} {x2 x3 x4 : Int} (k : ((-2147483648 ≤ x3 - x2 ∧ x3 - x2 < 2147483648) ∧ ((x4 < (x3 - x2) → (((-2147483648 ≤ x2 + x4 ∧ x2 + x4 < 2147483648) ∧ (0 ≤ (x2 + x4) ∧ (x2 + x4) < 2) ∧ (-2147483648 ≤ (c 48 5) + x4 ∧ (c 48 5) + x4 < 2147483648) ∧ (0 ≤ ((c 48 5) + x4) ∧ ((c 48 5) + x4) < 400)) ∧ ((((strb 3).getD (x2 + x4).toNat 0) = (c 10 ((c 48 5) + x4)) → ((-2147483648 ≤ x4 + 1 ∧ x4 + 1 < 2147483648) ∧ Q (cev 61 5 27 [vR 49, vR (-103), vI x2, vI x3, vI (x4 + 1)] [] (SH T, c)))) ∧ (¬ ((strb 3).getD (x2 + x4).toNat 0) = (c 10 ((c 48 5) + x4)) → Q (some (some (vI 0), (SH T, c))))))) ∧ (¬ x4 < (x3 - x2) → Q (some (some (vI 1), (SH T, c))))))) : Q (cev 61 5 27 [vR 49, vR (-103), vI x2, vI x3, vI x4] [] (SH T, c)) := by
  refine of_cev (Q := Q) ?_
  refine wq_pos (Q := Q) k.1 ?_
  replace k := k.2
  refine wq_ite (Q := Q) (p := x4 < (x3 - x2)) (fun h => ?_) (fun h => ?_)
  · replace k := k.1 h
    refine wq_pos (Q := Q) k.1.1 ?_
    refine wq_sum (Q := Q) rfl (S_chr_3 T c (x2 + x4) k.1.2.1) ?_
    refine wq_pos (Q := Q) k.1.2.2.1 ?_
    refine wq_pos (Q := Q) k.1.2.2.2 ?_
    replace k := k.2
    refine wq_ite (Q := Q) (p := ((strb 3).getD (x2 + x4).toNat 0) = (c 10 ((c 48 5) + x4))) (fun h => ?_) (fun h => ?_)
    · replace k := k.1 h
      show Q (cev 61 5 60 [vR 49, vR (-103), vI x2, vI x3, vI x4] [] (SH T, c))
      refine of_cev (Q := Q) ?_
      refine wq_pos (Q := Q) k.1 ?_
      replace k := k.2
      exact k
    · replace k := k.2 h
      exact k
  · replace k := k.2 h
    show Q (cev 61 5 66 [vU, vU, vU, vU, vU] [] (SH T, c))
    refine of_cev (Q := Q) ?_
    exact k
set_option maxRecDepth 20000 in
theorem W_X6_isSame_s4 {T : List Shp} {c : Nat → Int → Int} {Q : Res → Prop} {x2 x3 : Int} (k : (((c 48 4) = 0 → (((-2147483648 ≤ x3 - x2 ∧ x3 - x2 < 2147483648) ∧ (-2147483648 ≤ (c 48 6) - (c 48 5) ∧ (c 48 6) - (c 48 5) < 2147483648)) ∧ (((x3 - x2) = ((c 48 6) - (c 48 5)) → Q (cev 61 5 27 [vR 49, vR (-104), vI x2, vI x3, vI 0] [] (SH T, c))) ∧ (¬ (x3 - x2) = ((c 48 6) - (c 48 5)) → Q (some (some (vI 0), (SH T, c))))))) ∧ (¬ (c 48 4) = 0 → Q (some (some (vI 0), (SH T, c)))))) : Q (ccal 61 [vR 49, vR (-104), vI x2, vI x3] (SH T, c)) := by
  refine of_cev (Q := Q) ?_
  refine wq_ite (Q := Q) (p := (c 48 4) = 0) (fun h => ?_) (fun h => ?_)
  · replace k := k.1 h
    refine wq_pos (Q := Q) k.1.1 ?_
    refine wq_pos (Q := Q) k.1.2 ?_
    replace k := k.2
    refine wq_ite (Q := Q) (p := (x3 - x2) = ((c 48 6) - (c 48 5))) (fun h => ?_) (fun h => ?_)
    · replace k := k.1 h
      show Q (cev 61 5 24 [vR 49, vR (-104), vI x2, vI x3, vU] [] (SH T, c))
      refine of_cev (Q := Q) ?_
      exact k
    · replace k := k.2 h
      show Q (cev 61 5 22 [vU, vU, vU, vU, vU] [] (SH T, c))
      refine of_cev (Q := Q) ?_
      exact k
  · replace k := k.2 h
    show Q (cev 61 5 22 [vU, vU, vU, vU, vU] [] (SH T, c))
    refine of_cev (Q := Q) ?_
    exact k
set_option maxRecDepth 20000 in
theorem W_X6_isSame_s4_27 {T : List Shp} {c : Nat → Int → Int} {Q : Res → Prop} {x2 x3 x4 : Int} (k : ((-2147483648 ≤ x3 - x2 ∧ x3 - x2 < 2147483648) ∧ ((x4 < (x3 - x2) → (((-2147483648 ≤ x2 + x4 ∧ x2 + x4 < 2147483648) ∧ (0 ≤ (x2 + x4) ∧ (x2 + x4) < 4) ∧ (-2147483648 ≤ (c 48 5) + x4 ∧ (c 48 5) + x4 < 2147483648) ∧ (0 ≤ ((c 48 5) + x4) ∧ ((c 48 5) + x4) < 400)) ∧ ((((strb 4).getD (x2 + x4).toNat 0) = (c 10 ((c 48 5) + x4)) → ((-2147483648 ≤ x4 + 1 ∧ x4 + 1 < 2147483648) ∧ Q (cev 61 5 27 [vR 49, vR (-104), vI x2, vI x3, vI (x4 + 1)] [] (SH T, c)))) ∧ (¬ ((strb 4).getD (x2 + x4).toNat 0) = (c 10 ((c 48 5) + x4)) → Q (some (some (vI 0), (SH T, c))))))) ∧ (¬ x4 < (x3 - x2) → Q (some (some (vI 1), (SH T, c))))))) : Q (cev 61 5 27 [vR 49, vR (-104), vI x2, vI x3, vI x4] [] (SH T, c)) := by
  refine of_cev (Q := Q) ?_
  refine wq_pos (Q := Q) k.1 ?_
  replace k := k.2
  refine wq_ite (Q := Q) (p := x4 < (x3 - x2)) (fun h => ?_) (fun h => ?_)
  · replace k := k.1 h
    refine wq_pos (Q := Q) k.1.1 ?_
    refine wq_sum (Q := Q) rfl (S_chr_4 T c (x2 + x4) k.1.2.1) ?_
    refine wq_pos (Q := Q) k.1.2.2.1 ?_
    refine wq_pos (Q := Q) k.1.2.2.2 ?_
    replace k := k.2
    refine wq_ite (Q := Q) (p := ((strb 4).getD (x2 + x4).toNat 0) = (c 10 ((c 48 5) + x4))) (fun h => ?_) (fun h => ?_)
    · replace k := k.1 h
      show Q (cev 61 5 60 [vR 49, vR (-104), vI x2, vI x3, vI x4] [] (SH T, c))
      refine of_cev (Q := Q) ?_
      refine wq_pos (Q := Q) k.1 ?_
      replace k := k.2
      exact k
    · replace k := k.2 h
      exact k
  · replace k := k.2 h
    show Q (cev 61 5 66 [vU, vU, vU, vU, vU] [] (SH T, c))
    refine of_cev (Q := Q) ?_
    exact k
set_option maxRecDepth 20000 in
theorem W_X6_isSame_s5 {T : List Shp} {c : Nat → Int → Int} {Q : Res → Prop} {x2 x3 : Int} (k : (((c 48 4) = 0 → (((-2147483648 ≤ x3 - x2 ∧ x3 - x2 < 2147483648) ∧ (-2147483648 ≤ (c 48 6) - (c 48 5) ∧ (c 48 6) - (c 48 5) < 2147483648)) ∧ (((x3 - x2) = ((c 48 6) - (c 48 5)) → Q (cev 61 5 27 [vR 49, vR (-105), vI x2, vI x3, vI 0] [] (SH T, c))) ∧ (¬ (x3 - x2) = ((c 48 6) - (c 48 5)) → Q (some (some (vI 0), (SH T, c))))))) ∧ (¬ (c 48 4) = 0 → Q (some (some (vI 0), (SH T, c)))))) : Q (ccal 61 [vR 49, vR (-105), vI x2, vI x3] (SH T, c)) := by
  refine of_cev (Q := Q) ?_
  refine wq_ite (Q := Q) (p := (c 48 4) = 0) (fun h => ?_) (fun h => ?_)
  · replace k := k.1 h
    refine wq_pos (Q := Q) k.1.1 ?_
    refine wq_pos (Q := Q) k.1.2 ?_
    replace k := k.2
    refine wq_ite (Q := Q) (p := (x3 - x2) = ((c 48 6) - (c 48 5))) (fun h => ?_) (fun h => ?_)
    · replace k := k.1 h
      show Q (cev 61 5 24 [vR 49, vR (-105), vI x2, vI x3, vU] [] (SH T, c))
      refine of_cev (Q := Q) ?_
      exact k
    · replace k := k.2 h
      show Q (cev 61 5 22 [vU, vU, vU, vU, vU] [] (SH T, c))
      refine of_cev (Q := Q) ?_
      exact k
  · replace k := k.2 h
    show Q (cev 61 5 22 [vU, vU, vU, vU, vU] [] (SH T, c))
    refine of_cev (Q := Q) ?_
    exact k
set_option maxRecDepth 20000 in
theorem W_X6_isSame_s5_27 {T : List Shp} {c : Nat → Int → Int} {Q : Res → Prop} {x2 x3 x4 : Int} (k : ((-2147483648 ≤ x3 - x2 ∧ x3 - x2 < 2147483648) ∧ ((x4 < (x3 - x2) → (((-2147483648 ≤ x2 + x4 ∧ x2 + x4 < 2147483648) ∧ (0 ≤ (x2 + x4) ∧ (x2 + x4) < 5) ∧ (-2147483648 ≤ (c 48 5) + x4 ∧ (c 48 5) + x4 < 2147483648) ∧ (0 ≤ ((c 48 5) + x4) ∧ ((c 48 5) + x4) < 400)) ∧ ((((strb 5).getD (x2 + x4).toNat 0) = (c 10 ((c 48 5) + x4)) → ((-2147483648 ≤ x4 + 1 ∧ x4 + 1 < 2147483648) ∧ Q (cev 61 5 27 [vR 49, vR (-105), vI x2, vI x3, vI (x4 + 1)] [] (SH T, c)))) ∧ (¬ ((strb 5).getD (x2 + x4).toNat 0) = (c 10 ((c 48 5) + x4)) → Q (some (some (vI 0), (SH T, c))))))) ∧ (¬ x4 < (x3 - x2) → Q (some (some (vI 1), (SH T, c))))))) : Q (cev 61 5 27 [vR 49, vR (-105), vI x2, vI x3, vI x4] [] (SH T, c)) := by
  refine of_cev (Q := Q) ?_
  refine wq_pos (Q := Q) k.1 ?_
  replace k := k.2
  refine wq_ite (Q := Q) (p := x4 < (x3 - x2)) (fun h => ?_) (fun h => ?_)
  · replace k := k.1 h
    refine wq_pos (Q := Q) k.1.1 ?_
    refine wq_sum (Q := Q) rfl (S_chr_5 T c (x2 + x4) k.1.2.1) ?_
    refine wq_pos (Q := Q) k.1.2.2.1 ?_
    refine wq_pos (Q := Q) k.1.2.2.2 ?_
    replace k := k.2
    refine wq_ite (Q := Q) (p := ((strb 5).getD (x2 + x4).toNat 0) = (c 10 ((c 48 5) + x4))) (fun h => ?_) (fun h => ?_)
    · replace k := k.1 h
      show Q (cev 61 5 60 [vR 49, vR (-105), vI x2, vI x3, vI x4] [] (SH T, c))
      refine of_cev (Q := Q) ?_
      refine wq_pos (Q := Q) k.1 ?_
      replace k := k.2
      exact k
    · replace k := k.2 h
      exact k
  · replace k := k.2 h
    show Q (cev 61 5 66 [vU, vU, vU, vU, vU] [] (SH T, c))
    refine of_cev (Q := Q) ?_
    exact k
set_option maxRecDepth 20000 in
theorem W_X6_isSame_s6 {T : List Shp} {c : Nat → Int → Int} {Q : Res → Prop} {x2 x3 : Int} (k : (((c 48 4) = 0 → (((-2147483648 ≤ x3 - x2 ∧ x3 - x2 < 2147483648) ∧ (-2147483648 ≤ (c 48 6) - (c 48 5) ∧ (c 48 6) - (c 48 5) < 2147483648)) ∧ (((x3 - x2) = ((c 48 6) - (c 48 5)) → Q (cev 61 5 27 [vR 49, vR (-106), vI x2, vI x3, vI 0] [] (SH T, c))) ∧ (¬ (x3 - x2) = ((c 48 6) - (c 48 5)) → Q (some (some (vI 0), (SH T, c))))))) ∧ (¬ (c 48 4) = 0 → Q (some (some (vI 0), (SH T, c)))))) : Q (ccal 61 [vR 49, vR (-106), vI x2, vI x3] (SH T, c)) := by
  refine of_cev (Q := Q) ?_
  refine wq_ite (Q := Q) (p := (c 48 4) = 0) (fun h => ?_) (fun h => ?_)
  · replace k := k.1 h
    refine wq_pos (Q := Q) k.1.1 ?_
    refine wq_pos (Q := Q) k.1.2 ?_
    replace k := k.2
    refine wq_ite (Q := Q) (p := (x3 - x2) = ((c 48 6) - (c 48 5))) (fun h => ?_) (fun h => ?_)
    · replace k := k.1 h
      show Q (cev 61 5 24 [vR 49, vR (-106), vI x2, vI x3, vU] [] (SH T, c))
      refine of_cev (Q := Q) ?_
      exact k
    · replace k := k.2 h
      show Q (cev 61 5 22 [vU, vU, vU, vU, vU] [] (SH T, c))
      refine of_cev (Q := Q) ?_
      exact k
  · replace k := k.2 h
    show Q (cev 61 5 22 [vU, vU, vU, vU, vU] [] (SH T, c))
    refine of_cev (Q := Q) ?_
    exact k

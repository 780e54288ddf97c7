set_option maxRecDepth 20000 in
theorem W_X12_behindTest_22 {T : List Shp} {c : Nat → Int → Int} {Q : Res → Prop} {x1 : Int} (k : ((x1 = 0 → Q (cev 239 4 32 [vR 78, vI x1] [vI 1, vR 78] (SH T, c))) ∧ (¬ x1 = 0 → Q (cev 239 4 32 [vR 78, vI x1] [vI 2, vR 78] (SH T, c))))) : Q (cev 239 4 22 [vR 78, vI x1] [] (SH T, c)) := by
  refine of_cev (Q := Q) ?_
  refine wq_ite (Q := Q) (p := x1 = 0) (fun h => ?_) (fun h => ?_)
  · replace k := k.1 h
    show Q (cev 239 4 31 [vR 78, vI x1] [vR 78] (SH T, c))
    refine of_cev (Q := Q) ?_
    exact k
  · replace k := k.2 h
    exact k
set_option maxRecDepth 20000 in
theorem W_X12_behindTest_32 {T : List Shp} {c : Nat → Int → Int} {Q : Res → Prop} {x1 y0 : Int} (k : (QV T (fun c1 => ((x1 = 0 → Q (cev 239 4 47 [vR 78, vI x1] [vI 29, vR 78] (SH T, c1))) ∧ (¬ x1 = 0 → Q (cev 239 4 47 [vR 78, vI x1] [vI 28, vR 78] (SH T, c1))))) (ccal 229 [vR 78, vI y0] (SH T, c)))) : Q (cev 239 4 32 [vR 78, vI x1] [vI y0, vR 78] (SH T, c)) := by
  refine of_cev (Q := Q) ?_
  refine wq_callV (Q := Q) rfl k ?_
  intro c1 k
  refine wq_ite (Q := Q) (p := x1 = 0) (fun h => ?_) (fun h => ?_)
  · replace k := k.1 h
    show Q (cev 239 4 45 [vR 78, vI x1] [vR 78] (SH T, c1))
    refine of_cev (Q := Q) ?_
    exact k
  · replace k := k.2 h
    exact k
set_option maxRecDepth 20000 in
theorem W_X12_behindTest_47 {T : List Shp} {c : Nat → Int → Int} {Q : Res → Prop} {x1 y0 : Int} (k : ((0 ≤ (c 77 25) ∧ (c 77 25) < 400) ∧ ((x1 = 0 → ((0 ≤ (c 77 19) ∧ (c 77 19) < 400) ∧ (QV T (fun c1 => Q (some (some (vI 0), (SH T, c1)))) (ccal 220 [vR 78] (SH T, (up (up (up (up (up (up c 87 (c 77 25) y0) 88 (c 77 25) (c 77 19)) 77 25 ((c 77 25) + 1)) 85 (c 77 19) 29) 86 (c 77 19) 0) 77 19 ((c 77 19) + 1))))))) ∧ (¬ x1 = 0 → ((0 ≤ (c 77 19) ∧ (c 77 19) < 400) ∧ (QV T (fun c2 => Q (some (some (vI 0), (SH T, c2)))) (ccal 220 [vR 78] (SH T, (up (up (up (up (up (up c 87 (c 77 25) y0) 88 (c 77 25) (c 77 19)) 77 25 ((c 77 25) + 1)) 85 (c 77 19) 28) 86 (c 77 19) 0) 77 19 ((c 77 19) + 1)))))))))) : Q (cev 239 4 47 [vR 78, vI x1] [vI y0, vR 78] (SH T, c)) := by
  refine of_cev (Q := Q) ?_
  refine wq_sum (Q := Q) rfl (S_X12_push T c y0 (c 77 19) k.1) ?_
  replace k := k.2
  refine wq_ite (Q := Q) (p := x1 = 0) (fun h => ?_) (fun h => ?_)
  · replace k := k.1 h
    show Q (cev 239 4 64 [vR 78, vU] [vR 78] (SH T, (up (up (up c 87 (c 77 25) y0) 88 (c 77 25) (c 77 19)) 77 25 ((c 77 25) + 1))))
    refine of_cev (Q := Q) ?_
    refine wq_sum (Q := Q) rfl (S_X12_emit T (up (up (up c 87 (c 77 25) y0) 88 (c 77 25) (c 77 19)) 77 25 ((c 77 25) + 1)) 29 0 k.1) ?_
    replace k := k.2
    refine wq_callV (Q := Q) rfl k ?_
    intro c1 k
    exact k
  · replace k := k.2 h
    refine wq_sum (Q := Q) rfl (S_X12_emit T (up (up (up c 87 (c 77 25) y0) 88 (c 77 25) (c 77 19)) 77 25 ((c 77 25) + 1)) 28 0 k.1) ?_
    replace k := k.2
    refine wq_callV (Q := Q) rfl k ?_
    intro c2 k
    exact k
set_option maxRecDepth 20000 in
theorem W_X12_readExpression {T : List Shp} {c : Nat → Int → Int} {Q : Res → Prop} {x1 : Int} (k : ((x1 = 0 → Q (cev 240 7 20 [vR 78, vI x1, vI 1] [] (SH T, (up (up c 77 25 0) 77 26 0)))) ∧ (¬ x1 = 0 → Q (cev 240 7 20 [vR 78, vI x1, vI 0] [] (SH T, (up (up c 77 25 0) 77 26 0)))))) : Q (ccal 240 [vR 78, vI x1] (SH T, c)) := by
  refine of_cev (Q := Q) ?_
  refine wq_ite (Q := Q) (p := x1 = 0) (fun h => ?_) (fun h => ?_)
  · replace k := k.1 h
    show Q (cev 240 7 18 [vR 78, vI x1, vU] [] (SH T, (up (up c 77 25 0) 77 26 0)))
    refine of_cev (Q := Q) ?_
    exact k
  · replace k := k.2 h
    exact k
set_option maxRecDepth 20000 in
theorem W_X12_readExpression_20 {T : List Shp} {c : Nat → Int → Int} {Q : Res → Prop} {x1 x2 : Int} (k : (((c 77 15) = 0 → ((x2 = 4 → Q (cev 240 7 76 [vR 78, vU, vU] [] (SH T, c))) ∧ (¬ x2 = 4 → ((x2 = 0 → (QI T (fun r1 c2 => Q (cev 240 7 20 [vR 78, vI x1, vI r1] [] (SH T, c2))) (ccal 237 [vR 78] (SH T, c)))) ∧ (¬ x2 = 0 → ((x2 = 1 → (QI T (fun r3 c4 => Q (cev 240 7 20 [vR 78, vI x1, vI r3] [] (SH T, c4))) (ccal 236 [vR 78] (SH T, c)))) ∧ (¬ x2 = 1 → ((x2 = 3 → (QI T (fun r5 c6 => Q (cev 240 7 20 [vR 78, vI x1, vI r5] [] (SH T, c6))) (ccal 238 [vR 78, vI x1] (SH T, c)))) ∧ (¬ x2 = 3 → (QI T (fun r7 c8 => Q (cev 240 7 20 [vR 78, vI x1, vI r7] [] (SH T, c8))) (ccal 239 [vR 78] (SH T, c)))))))))))) ∧ (¬ (c 77 15) = 0 → Q (cev 240 7 76 [vR 78, vU, vU] [] (SH T, c))))) : Q (cev 240 7 20 [vR 78, vI x1, vI x2] [] (SH T, c)) := by
  refine of_cev (Q := Q) ?_
  refine wq_ite (Q := Q) (p := (c 77 15) = 0) (fun h => ?_) (fun h => ?_)
  · replace k := k.1 h
    refine wq_ite (Q := Q) (p := x2 = 4) (fun h => ?_) (fun h => ?_)
    · replace k := k.1 h
      exact k
    · replace k := k.2 h
      refine wq_ite (Q := Q) (p := x2 = 0) (fun h => ?_) (fun h => ?_)
      · replace k := k.1 h
        refine wq_callI (Q := Q) rfl k ?_
        intro r1 c2 k
        exact k
      · replace k := k.2 h
        show Q (cev 240 7 43 [vR 78, vI x1, vI x2] [] (SH T, c))
        refine of_cev (Q := Q) ?_
        refine wq_ite (Q := Q) (p := x2 = 1) (fun h => ?_) (fun h => ?_)
        · replace k := k.1 h
          refine wq_callI (Q := Q) rfl k ?_
          intro r3 c4 k
          exact k
        · replace k := k.2 h
          show Q (cev 240 7 55 [vR 78, vI x1, vI x2] [] (SH T, c))
          refine of_cev (Q := Q) ?_
          refine wq_ite (Q := Q) (p := x2 = 3) (fun h => ?_) (fun h => ?_)
          · replace k := k.1 h
            refine wq_callI (Q := Q) rfl k ?_
            intro r5 c6 k
            exact k
          · replace k := k.2 h
            show Q (cev 240 7 68 [vR 78, vI x1, vU] [] (SH T, c))
            refine of_cev (Q := Q) ?_
            refine wq_callI (Q := Q) rfl k ?_
            intro r7 c8 k
            exact k
  · replace k := k.2 h
    exact k
set_option maxRecDepth 20000 in
theorem W_X12_readExpression_76 {T : List Shp} {c : Nat → Int → Int} {Q : Res → Prop} (k : (QV T (fun c1 => Q (some (none, (SH T, c1)))) (ccal 229 [vR 78, vI 1] (SH T, c)))) : Q (cev 240 7 76 [vR 78, vU, vU] [] (SH T, c)) := by
  refine of_cev (Q := Q) ?_
  refine wq_callV (Q := Q) rfl k ?_
  intro c1 k
  exact k
set_option maxRecDepth 20000 in
theorem W_X12_readClause {T : List Shp} {c : Nat → Int → Int} {Q : Res → Prop} (k : Q (cev 241 8 4 [vR 78, vI (-1), vI 0, vU] [] (SH T, c))) : Q (ccal 241 [vR 78] (SH T, c)) := by
  refine of_cev (Q := Q) ?_
  exact k
set_option maxRecDepth 20000 in
theorem W_X12_readClause_4 {T : List Shp} {c : Nat → Int → Int} {Q : Res → Prop} {x1 x2 : Int} (k : ((x2 < 5 → ((0 ≤ x2 ∧ x2 < 5) ∧ (((c 77 12) = 1 ∧ (c 77 13) = (c 91 x2) → ((-2147483648 ≤ x2 + 1 ∧ x2 + 1 < 2147483648) ∧ Q (cev 241 8 4 [vR 78, vI x2, vI (x2 + 1), vU] [] (SH T, c)))) ∧ (¬ ((c 77 12) = 1 ∧ (c 77 13) = (c 91 x2)) → ((-2147483648 ≤ x2 + 1 ∧ x2 + 1 < 2147483648) ∧ Q (cev 241 8 4 [vR 78, vI x1, vI (x2 + 1), vU] [] (SH T, c))))))) ∧ (¬ x2 < 5 → ((x1 = (-1) → Q (cev 241 8 54 [vR 78, vI x1, vU, vU] [vI 0, vR 78] (SH T, c))) ∧ (¬ x1 = (-1) → (((c 77 17) < 12 → Q (cev 241 8 54 [vR 78, vI x1, vU, vU] [vI 1, vR 78] (SH T, c))) ∧ (¬ (c 77 17) < 12 → Q (cev 241 8 54 [vR 78, vI x1, vU, vU] [vI 0, vR 78] (SH T, c))))))))) : Q (cev 241 8 4 [vR 78, vI x1, vI x2, vU] [] (SH T, c)) := by
  refine of_cev (Q := Q) ?_
  refine wq_ite (Q := Q) (p := x2 < 5) (fun h => ?_) (fun h => ?_)
  · replace k := k.1 h
    refine wq_pos (Q := Q) k.1 ?_
    refine wq_sum (Q := Q) rfl (S_X12_isWord T c (c 91 x2)) ?_
    replace k := k.2
    refine wq_b01 (Q := Q) (p := (c 77 12) = 1 ∧ (c 77 13) = (c 91 x2)) (fun h => ?_) (fun h => ?_)
    · replace k := k.2 h
      show Q (cev 241 8 26 [vR 78, vI x1, vI x2, vU] [] (SH T, c))
      refine of_cev (Q := Q) ?_
      refine wq_pos (Q := Q) k.1 ?_
      replace k := k.2
      exact k
    · replace k := k.1 h
      refine wq_pos (Q := Q) k.1 ?_
      replace k := k.2
      exact k
  · replace k := k.2 h
    show Q (cev 241 8 34 [vR 78, vI x1, vU, vU] [] (SH T, c))
    refine of_cev (Q := Q) ?_
    refine wq_ite (Q := Q) (p := x1 = (-1)) (fun h => ?_) (fun h => ?_)
    · replace k := k.1 h
      show Q (cev 241 8 53 [vR 78, vI x1, vU, vU] [vR 78] (SH T, c))
      refine of_cev (Q := Q) ?_
      exact k
    · replace k := k.2 h
      refine wq_ite (Q := Q) (p := (c 77 17) < 12) (fun h => ?_) (fun h => ?_)
      · replace k := k.1 h
        exact k
      · replace k := k.2 h
        show Q (cev 241 8 53 [vR 78, vI x1, vU, vU] [vR 78] (SH T, c))
        refine of_cev (Q := Q) ?_
        exact k
set_option maxRecDepth 20000 in
theorem W_X12_readClause_54 {T : List Shp} {c : Nat → Int → Int} {Q : Res → Prop} {x1 y0 : Int} (k : (QV T (fun c1 => (((c1 77 15) = 0 → ((-2147483648 ≤ 8 * (c1 77 17) ∧ 8 * (c1 77 17) < 2147483648) ∧ Q (cev 241 8 75 [vR 78, vI x1, vI (8 * (c1 77 17)), vI 0] [] (SH T, c1)))) ∧ (¬ (c1 77 15) = 0 → Q (some (none, (SH T, c1)))))) (ccal 223 [vR 78, vI y0] (SH T, c)))) : Q (cev 241 8 54 [vR 78, vI x1, vU, vU] [vI y0, vR 78] (SH T, c)) := by
  refine of_cev (Q := Q) ?_
  refine wq_callV (Q := Q) rfl k ?_
  intro c1 k
  refine wq_ite (Q := Q) (p := (c1 77 15) = 0) (fun h => ?_) (fun h => ?_)
  · replace k := k.1 h
    show Q (cev 241 8 65 [vR 78, vI x1, vU, vU] [] (SH T, c1))
    refine of_cev (Q := Q) ?_
    refine wq_pos (Q := Q) k.1 ?_
    replace k := k.2
    exact k
  · replace k := k.2 h
    exact k
set_option maxRecDepth 20000 in
theorem W_X12_readClause_75 {T : List Shp} {c : Nat → Int → Int} {Q : Res → Prop} {x1 x2 x3 : Int} (k : ((x3 < 8 → (((-2147483648 ≤ x2 + x3 ∧ x2 + x3 < 2147483648) ∧ (0 ≤ (x2 + x3) ∧ (x2 + x3) < 96) ∧ (-2147483648 ≤ x3 + 1 ∧ x3 + 1 < 2147483648)) ∧ Q (cev 241 8 75 [vR 78, vI x1, vI x2, vI (x3 + 1)] [] (SH T, (up c 84 (x2 + x3) 0))))) ∧ (¬ x3 < 8 → (((0 ≤ x2 ∧ x2 < 96) ∧ (-2147483648 ≤ (c 77 17) + 1 ∧ (c 77 17) + 1 < 2147483648) ∧ (-2147483648 ≤ x2 + 3 ∧ x2 + 3 < 2147483648) ∧ (0 ≤ (x2 + 3) ∧ (x2 + 3) < 96)) ∧ ((x1 = 4 → Q (cev 241 8 135 [vR 78, vU, vI x2, vU] [] (SH T, (up (up (up c 84 x2 x1) 77 17 ((c 77 17) + 1)) 84 (x2 + 3) (c 77 19))))) ∧ (¬ x1 = 4 → (QV T (fun c1 => Q (cev 241 8 135 [vR 78, vU, vI x2, vU] [] (SH T, c1))) (ccal 240 [vR 78, vI 0] (SH T, (up (up (up c 84 x2 x1) 77 17 ((c 77 17) + 1)) 84 (x2 + 3) (c 77 19))))))))))) : Q (cev 241 8 75 [vR 78, vI x1, vI x2, vI x3] [] (SH T, c)) := by
  refine of_cev (Q := Q) ?_
  refine wq_ite (Q := Q) (p := x3 < 8) (fun h => ?_) (fun h => ?_)
  · replace k := k.1 h
    refine wq_pos (Q := Q) k.1.1 ?_
    refine wq_pos (Q := Q) k.1.2.1 ?_
    refine wq_pos (Q := Q) k.1.2.2 ?_
    replace k := k.2
    exact k
  · replace k := k.2 h
    show Q (cev 241 8 96 [vR 78, vI x1, vI x2, vU] [] (SH T, c))
    refine of_cev (Q := Q) ?_
    refine wq_pos (Q := Q) k.1.1 ?_
    refine wq_pos (Q := Q) k.1.2.1 ?_
    refine wq_pos (Q := Q) k.1.2.2.1 ?_
    refine wq_pos (Q := Q) k.1.2.2.2 ?_
    replace k := k.2
    refine wq_ite (Q := Q) (p := x1 = 4) (fun h => ?_) (fun h => ?_)
    · replace k := k.1 h
      exact k
    · replace k := k.2 h
      refine wq_callV (Q := Q) rfl k ?_
      intro c1 k
      exact k
set_option maxRecDepth 20000 in
theorem W_X12_readClause_135 {T : List Shp} {c : Nat → Int → Int} {Q : Res → Prop} {x2 : Int} (k : (((-2147483648 ≤ x2 + 4 ∧ x2 + 4 < 2147483648) ∧ (0 ≤ (x2 + 4) ∧ (x2 + 4) < 96) ∧ (-2147483648 ≤ x2 + 5 ∧ x2 + 5 < 2147483648) ∧ (0 ≤ (x2 + 5) ∧ (x2 + 5) < 96)) ∧ (((c 77 15) = 0 → (((c 77 12) = 1 ∧ (c 77 13) = 294 → (QV T (fun c1 => (QV T (fun c2 => (((-2147483648 ≤ x2 + 6 ∧ x2 + 6 < 2147483648) ∧ (0 ≤ (x2 + 6) ∧ (x2 + 6) < 96)) ∧ Q (some (none, (SH T, (up c2 84 (x2 + 6) (c2 77 19))))))) (ccal 240 [vR 78, vI 1] (SH T, c1)))) (ccal 220 [vR 78] (SH T, (up (up c 84 (x2 + 4) (c 77 19)) 84 (x2 + 5) (c 77 19)))))) ∧ (¬ ((c 77 12) = 1 ∧ (c 77 13) = 294) → (((-2147483648 ≤ x2 + 6 ∧ x2 + 6 < 2147483648) ∧ (0 ≤ (x2 + 6) ∧ (x2 + 6) < 96)) ∧ Q (some (none, (SH T, (up (up (up c 84 (x2 + 4) (c 77 19)) 84 (x2 + 5) (c 77 19)) 84 (x2 + 6) (c 77 19))))))))) ∧ (¬ (c 77 15) = 0 → (((-2147483648 ≤ x2 + 6 ∧ x2 + 6 < 2147483648) ∧ (0 ≤ (x2 + 6) ∧ (x2 + 6) < 96)) ∧ Q (some (none, (SH T, (up (up (up c 84 (x2 + 4) (c 77 19)) 84 (x2 + 5) (c 77 19)) 84 (x2 + 6) (c 77 19)))))))))) : Q (cev 241 8 135 [vR 78, vU, vI x2, vU] [] (SH T, c)) := by
  refine of_cev (Q := Q) ?_
  refine wq_pos (Q := Q) k.1.1 ?_
  refine wq_pos (Q := Q) k.1.2.1 ?_
  refine wq_pos (Q := Q) k.1.2.2.1 ?_
  refine wq_pos (Q := Q) k.1.2.2.2 ?_
  replace k := k.2
  refine wq_ite (Q := Q) (p := (c 77 15) = 0) (fun h => ?_) (fun h => ?_)
  · replace k := k.1 h
    refine wq_sum (Q := Q) rfl (S_X12_isWord T (up (up c 84 (x2 + 4) (c 77 19)) 84 (x2 + 5) (c 77 19)) 294) ?_
    refine wq_b01 (Q := Q) (p := (c 77 12) = 1 ∧ (c 77 13) = 294) (fun h => ?_) (fun h => ?_)
    · replace k := k.2 h
      show Q (cev 241 8 185 [vR 78, vU, vI x2, vU] [] (SH T, (up (up c 84 (x2 + 4) (c 77 19)) 84 (x2 + 5) (c 77 19))))
      refine of_cev (Q := Q) ?_
      refine wq_pos (Q := Q) k.1.1 ?_
      refine wq_pos (Q := Q) k.1.2 ?_
      replace k := k.2
      exact k
    · replace k := k.1 h
      refine wq_callV (Q := Q) rfl k ?_
      intro c1 k
      refine wq_callV (Q := Q) rfl k ?_
      intro c2 k
      show Q (cev 241 8 185 [vR 78, vU, vI x2, vU] [] (SH T, c2))
      refine of_cev (Q := Q) ?_
      refine wq_pos (Q := Q) k.1.1 ?_
      refine wq_pos (Q := Q) k.1.2 ?_
      replace k := k.2
      exact k
  · replace k := k.2 h
    show Q (cev 241 8 185 [vR 78, vU, vI x2, vU] [] (SH T, (up (up c 84 (x2 + 4) (c 77 19)) 84 (x2 + 5) (c 77 19))))
    refine of_cev (Q := Q) ?_
    refine wq_pos (Q := Q) k.1.1 ?_
    refine wq_pos (Q := Q) k.1.2 ?_
    replace k := k.2
    exact k
set_option maxRecDepth 20000 in
theorem W_X12_beginText {T : List Shp} {c : Nat → Int → Int} {Q : Res → Prop} {x1 : Int} (k : ((x1 = 0 ∨ x1 = 1) ∧ (QV T (fun c1 => Q (some (none, (SH T, (up (up (up c1 77 17 0) 77 19 0) 77 22 0))))) (ccal 219 [vR 78] (SH T, (up c 77 16 x1)))))) : Q (ccal 242 [vR 78, vI x1] (SH T, c)) := by
  refine of_cev (Q := Q) ?_
  refine wq_pos (Q := Q) k.1 ?_
  replace k := k.2
  refine wq_callV (Q := Q) rfl k ?_
  intro c1 k
  exact k
set_option maxRecDepth 20000 in
theorem W_X12_endText {T : List Shp} {c : Nat → Int → Int} {Q : Res → Prop} (k : (((c 77 15) = 0 → (((c 77 12) = 0 → Q (some (none, (SH T, (up (up c 77 16 0) 77 9 0))))) ∧ (¬ (c 77 12) = 0 → (QV T (fun c1 => Q (some (none, (SH T, (up (up c1 77 16 0) 77 9 0))))) (ccal 223 [vR 78, vI 0] (SH T, c)))))) ∧ (¬ (c 77 15) = 0 → Q (some (none, (SH T, (up (up c 77 16 0) 77 9 0))))))) : Q (ccal 243 [vR 78] (SH T, c)) := by
  refine of_cev (Q := Q) ?_
  refine wq_ite (Q := Q) (p := (c 77 15) = 0) (fun h => ?_) (fun h => ?_)
  · replace k := k.1 h
    refine wq_ite (Q := Q) (p := (c 77 12) = 0) (fun h => ?_) (fun h => ?_)
    · replace k := k.1 h
      show Q (cev 243 4 19 [vR 78] [] (SH T, c))
      refine of_cev (Q := Q) ?_
      exact k
    · replace k := k.2 h
      refine wq_callV (Q := Q) rfl k ?_
      intro c1 k
      show Q (cev 243 4 19 [vR 78] [] (SH T, c1))
      refine of_cev (Q := Q) ?_
      exact k
  · replace k := k.2 h
    show Q (cev 243 4 19 [vR 78] [] (SH T, c))
    refine of_cev (Q := Q) ?_
    exact k
set_option maxRecDepth 20000 in
theorem W_X12_law {T : List Shp} {c : Nat → Int → Int} {Q : Res → Prop} (k : (((c 79 1) = 6 → ((-2147483648 ≤ (c 78 5) + 1 ∧ (c 78 5) + 1 < 2147483648) ∧ Q (some (some (vI (-5)), (SH T, (up (up (up (up c 77 0 0) 77 9 0) 77 1 (-5)) 78 5 ((c 78 5) + 1))))))) ∧ (¬ (c 79 1) = 6 → (QV T (fun c1 => (QV T (fun c2 => Q (cev 244 9 37 [vR 78, vU, vU] [] (SH T, c2))) (ccal 241 [vR 78] (SH T, c1)))) (ccal 242 [vR 78, vI 0] (SH T, (up c 77 0 0))))))) : Q (ccal 244 [vR 78] (SH T, c)) := by
  refine of_cev (Q := Q) ?_
  refine wq_ite (Q := Q) (p := (c 79 1) = 6) (fun h => ?_) (fun h => ?_)
  · replace k := k.1 h
    refine wq_sum (Q := Q) rfl (S_X12_tell_5 T (up (up c 77 0 0) 77 9 0) k.1) ?_
    replace k := k.2
    exact k
  · replace k := k.2 h
    show Q (cev 244 9 28 [vR 78, vU, vU] [] (SH T, (up c 77 0 0)))
    refine of_cev (Q := Q) ?_
    refine wq_callV (Q := Q) rfl k ?_
    intro c1 k
    refine wq_callV (Q := Q) rfl k ?_
    intro c2 k
    exact k
set_option maxRecDepth 20000 in
theorem W_X12_law_37 {T : List Shp} {c : Nat → Int → Int} {Q : Res → Prop} (k : (((c 77 15) = 0 → (((c 77 12) = 3 ∧ (c 77 13) = 59 → (QV T (fun c1 => (QV T (fun c2 => Q (cev 244 9 37 [vR 78, vU, vU] [] (SH T, c2))) (ccal 241 [vR 78] (SH T, c1)))) (ccal 220 [vR 78] (SH T, c)))) ∧ (¬ ((c 77 12) = 3 ∧ (c 77 13) = 59) → Q (cev 244 9 64 [vR 78, vU, vU] [] (SH T, c))))) ∧ (¬ (c 77 15) = 0 → Q (cev 244 9 64 [vR 78, vU, vU] [] (SH T, c))))) : Q (cev 244 9 37 [vR 78, vU, vU] [] (SH T, c)) := by
  refine of_cev (Q := Q) ?_
  refine wq_ite (Q := Q) (p := (c 77 15) = 0) (fun h => ?_) (fun h => ?_)
  · replace k := k.1 h
    refine wq_sum (Q := Q) rfl (S_X12_isSign T c 59) ?_
    refine wq_b01 (Q := Q) (p := (c 77 12) = 3 ∧ (c 77 13) = 59) (fun h => ?_) (fun h => ?_)
    · replace k := k.2 h
      exact k
    · replace k := k.1 h
      refine wq_callV (Q := Q) rfl k ?_
      intro c1 k
      refine wq_callV (Q := Q) rfl k ?_
      intro c2 k
      exact k
  · replace k := k.2 h
    exact k
set_option maxRecDepth 20000 in
theorem W_X12_law_64 {T : List Shp} {c : Nat → Int → Int} {Q : Res → Prop} (k : (QV T (fun c1 => (((c1 77 15) = 0 → (((-2147483648 ≤ 900 * (c1 79 1) ∧ 900 * (c1 79 1) < 2147483648) ∧ (-2147483648 ≤ 380 + (900 * (c1 79 1)) ∧ 380 + (900 * (c1 79 1)) < 2147483648) ∧ (-2147483648 ≤ (380 + (900 * (c1 79 1))) + 1 ∧ (380 + (900 * (c1 79 1))) + 1 < 2147483648) ∧ (0 ≤ ((380 + (900 * (c1 79 1))) + 1) ∧ ((380 + (900 * (c1 79 1))) + 1) < 5780)) ∧ Q (cev 244 9 111 [vR 78, vI (380 + (900 * (c1 79 1))), vI 0] [] (SH T, (up c1 79 ((380 + (900 * (c1 79 1))) + 1) (c1 77 17)))))) ∧ (¬ (c1 77 15) = 0 → ((-2147483648 ≤ (c1 78 6) + 1 ∧ (c1 78 6) + 1 < 2147483648) ∧ Q (some (some (vI (-6)), (SH T, (up (up c1 77 1 (-6)) 78 6 ((c1 78 6) + 1))))))))) (ccal 243 [vR 78] (SH T, c)))) : Q (cev 244 9 64 [vR 78, vU, vU] [] (SH T, c)) := by
  refine of_cev (Q := Q) ?_
  refine wq_callV (Q := Q) rfl k ?_
  intro c1 k
  refine wq_ite (Q := Q) (p := (c1 77 15) = 0) (fun h => ?_) (fun h => ?_)
  · replace k := k.1 h
    show Q (cev 244 9 82 [vR 78, vU, vU] [] (SH T, c1))
    refine of_cev (Q := Q) ?_
    refine wq_pos (Q := Q) k.1.1 ?_
    refine wq_pos (Q := Q) k.1.2.1 ?_
    refine wq_pos (Q := Q) k.1.2.2.1 ?_
    refine wq_pos (Q := Q) k.1.2.2.2 ?_
    replace k := k.2
    exact k
  · replace k := k.2 h
    refine wq_sum (Q := Q) rfl (S_X12_tell_6 T c1 k.1) ?_
    replace k := k.2
    exact k
set_option maxRecDepth 20000 in
theorem W_X12_law_111 {T : List Shp} {c : Nat → Int → Int} {Q : Res → Prop} {x1 x2 : Int} (k : ((-2147483648 ≤ 8 * (c 77 17) ∧ 8 * (c 77 17) < 2147483648) ∧ ((x2 < (8 * (c 77 17)) → (((-2147483648 ≤ x1 + 2 ∧ x1 + 2 < 2147483648) ∧ (-2147483648 ≤ (x1 + 2) + x2 ∧ (x1 + 2) + x2 < 2147483648) ∧ (0 ≤ x2 ∧ x2 < 96) ∧ (0 ≤ ((x1 + 2) + x2) ∧ ((x1 + 2) + x2) < 5780) ∧ (-2147483648 ≤ x2 + 1 ∧ x2 + 1 < 2147483648)) ∧ Q (cev 244 9 111 [vR 78, vI x1, vI (x2 + 1)] [] (SH T, (up c 79 ((x1 + 2) + x2) (c 84 x2)))))) ∧ (¬ x2 < (8 * (c 77 17)) → Q (cev 244 9 146 [vR 78, vI x1, vI 0] [] (SH T, c)))))) : Q (cev 244 9 111 [vR 78, vI x1, vI x2] [] (SH T, c)) := by
  refine of_cev (Q := Q) ?_
  refine wq_pos (Q := Q) k.1 ?_
  replace k := k.2
  refine wq_ite (Q := Q) (p := x2 < (8 * (c 77 17))) (fun h => ?_) (fun h => ?_)
  · replace k := k.1 h
    refine wq_pos (Q := Q) k.1.1 ?_
    refine wq_pos (Q := Q) k.1.2.1 ?_
    refine wq_pos (Q := Q) k.1.2.2.1 ?_
    refine wq_pos (Q := Q) k.1.2.2.2.1 ?_
    refine wq_pos (Q := Q) k.1.2.2.2.2 ?_
    replace k := k.2
    exact k
  · replace k := k.2 h
    show Q (cev 244 9 144 [vR 78, vI x1, vU] [] (SH T, c))
    refine of_cev (Q := Q) ?_
    exact k
set_option maxRecDepth 20000 in
theorem W_X12_law_146 {T : List Shp} {c : Nat → Int → Int} {Q : Res → Prop} {x1 x2 : Int} (k : ((x2 < (c 77 19) → (((-2147483648 ≤ x1 + 98 ∧ x1 + 98 < 2147483648) ∧ (-2147483648 ≤ 2 * x2 ∧ 2 * x2 < 2147483648) ∧ (-2147483648 ≤ (x1 + 98) + (2 * x2) ∧ (x1 + 98) + (2 * x2) < 2147483648) ∧ (0 ≤ x2 ∧ x2 < 400) ∧ (0 ≤ ((x1 + 98) + (2 * x2)) ∧ ((x1 + 98) + (2 * x2)) < 5780) ∧ (-2147483648 ≤ ((x1 + 98) + (2 * x2)) + 1 ∧ ((x1 + 98) + (2 * x2)) + 1 < 2147483648) ∧ (0 ≤ (((x1 + 98) + (2 * x2)) + 1) ∧ (((x1 + 98) + (2 * x2)) + 1) < 5780) ∧ (-2147483648 ≤ x2 + 1 ∧ x2 + 1 < 2147483648)) ∧ Q (cev 244 9 146 [vR 78, vI x1, vI (x2 + 1)] [] (SH T, (up (up c 79 ((x1 + 98) + (2 * x2)) (c 85 x2)) 79 (((x1 + 98) + (2 * x2)) + 1) (c 86 x2)))))) ∧ (¬ x2 < (c 77 19) → (((-2147483648 ≤ (c 79 1) + 1 ∧ (c 79 1) + 1 < 2147483648) ∧ (-2147483648 ≤ ((c 79 1) + 1) - 1 ∧ ((c 79 1) + 1) - 1 < 2147483648) ∧ (0 ≤ (((c 79 1) + 1) - 1))) ∧ Q (some (some (vI (((c 79 1) + 1) - 1)), (SH T, (up (up c 79 1 ((c 79 1) + 1)) 77 1 0)))))))) : Q (cev 244 9 146 [vR 78, vI x1, vI x2] [] (SH T, c)) := by
  refine of_cev (Q := Q) ?_
  refine wq_ite (Q := Q) (p := x2 < (c 77 19)) (fun h => ?_) (fun h => ?_)
  · replace k := k.1 h
    refine wq_pos (Q := Q) k.1.1 ?_
    refine wq_pos (Q := Q) k.1.2.1 ?_
    refine wq_pos (Q := Q) k.1.2.2.1 ?_
    refine wq_pos (Q := Q) k.1.2.2.2.1 ?_
    refine wq_pos (Q := Q) k.1.2.2.2.2.1 ?_
    refine wq_pos (Q := Q) k.1.1 ?_
    refine wq_pos (Q := Q) k.1.2.1 ?_
    refine wq_pos (Q := Q) k.1.2.2.1 ?_
    refine wq_pos (Q := Q) k.1.2.2.2.2.2.1 ?_
    refine wq_pos (Q := Q) k.1.2.2.2.1 ?_
    refine wq_pos (Q := Q) k.1.2.2.2.2.2.2.1 ?_
    refine wq_pos (Q := Q) k.1.2.2.2.2.2.2.2 ?_
    replace k := k.2
    exact k
  · replace k := k.2 h
    show Q (cev 244 9 200 [vR 78, vU, vU] [] (SH T, c))
    refine of_cev (Q := Q) ?_
    refine wq_pos (Q := Q) k.1.1 ?_
    refine wq_pos (Q := Q) k.1.2.1 ?_
    refine wq_sum (Q := Q) rfl (S_X12_tell T (up c 79 1 ((c 79 1) + 1)) (((c 79 1) + 1) - 1) k.1.2.2) ?_
    replace k := k.2
    exact k
set_option maxRecDepth 20000 in
theorem W_X12_force {T : List Shp} {c : Nat → Int → Int} {Q : Res → Prop} {x1 : Int} (k : ((x1 = (-1) → Q (some (some (vI (c 79 2)), (SH T, (up (up (up c 77 0 0) 79 2 x1) 77 1 0))))) ∧ (¬ x1 = (-1) → ((-9223372036854775808 ≤ (c 79 1) - 1 ∧ (c 79 1) - 1 < 9223372036854775808) ∧ ((0 ≤ x1 ∧ x1 ≤ ((c 79 1) - 1) → Q (some (some (vI (c 79 2)), (SH T, (up (up (up c 77 0 0) 79 2 x1) 77 1 0))))) ∧ (¬ (0 ≤ x1 ∧ x1 ≤ ((c 79 1) - 1)) → ((-2147483648 ≤ (c 78 2) + 1 ∧ (c 78 2) + 1 < 2147483648) ∧ Q (some (some (vI (-2)), (SH T, (up (up (up c 77 0 0) 77 1 (-2)) 78 2 ((c 78 2) + 1)))))))))))) : Q (ccal 245 [vR 78, vI x1] (SH T, c)) := by
  refine of_cev (Q := Q) ?_
  refine wq_ite (Q := Q) (p := x1 = (-1)) (fun h => ?_) (fun h => ?_)
  · replace k := k.1 h
    show Q (cev 245 2 28 [vR 78, vI x1] [] (SH T, (up c 77 0 0)))
    refine of_cev (Q := Q) ?_
    refine wq_sum (Q := Q) rfl (S_X12_change T (up c 77 0 0) 2 x1 (by decide)) ?_
    exact k
  · replace k := k.2 h
    refine wq_pos (Q := Q) k.1 ?_
    refine wq_sum (Q := Q) rfl (S_X12_in T (up c 77 0 0) x1 0 ((c 79 1) - 1)) ?_
    replace k := k.2
    refine wq_b01 (Q := Q) (p := 0 ≤ x1 ∧ x1 ≤ ((c 79 1) - 1)) (fun h => ?_) (fun h => ?_)
    · replace k := k.2 h
      show Q (cev 245 2 37 [vR 78, vU] [] (SH T, (up c 77 0 0)))
      refine of_cev (Q := Q) ?_
      refine wq_sum (Q := Q) rfl (S_X12_tell_2 T (up c 77 0 0) k.1) ?_
      replace k := k.2
      exact k
    · replace k := k.1 h
      show Q (cev 245 2 28 [vR 78, vI x1] [] (SH T, (up c 77 0 0)))
      refine of_cev (Q := Q) ?_
      refine wq_sum (Q := Q) rfl (S_X12_change T (up c 77 0 0) 2 x1 (by decide)) ?_
      exact k
set_option maxRecDepth 20000 in
theorem W_X12_reckon {T : List Shp} {c : Nat → Int → Int} {Q : Res → Prop} {x1 x2 x4 : Int} (k : ((x1 = 20 → ((-9223372036854775808 ≤ x2 + x4 ∧ x2 + x4 < 9223372036854775808) ∧ Q (some (some (vL (x2 + x4)), (SH T, c))))) ∧ ((x1 = 21 → ((-9223372036854775808 ≤ x2 - x4 ∧ x2 - x4 < 9223372036854775808) ∧ Q (some (some (vL (x2 - x4)), (SH T, c))))) ∧ ((x1 = 22 → ((-9223372036854775808 ≤ x2 * x4 ∧ x2 * x4 < 9223372036854775808) ∧ Q (some (some (vL (x2 * x4)), (SH T, c))))) ∧ ((x1 = 23 → ((x4 = 0 → Q (cev 246 1 68 [vR 78, vU, vL x2, vU, vL x4, vU] [vI 1, vR 78] (SH T, c))) ∧ (¬ x4 = 0 → Q (cev 246 1 68 [vR 78, vU, vL x2, vU, vL x4, vU] [vI 0, vR 78] (SH T, c))))) ∧ ((x1 = 24 → ((x2 < x4 → Q (some (some (vL 1), (SH T, c)))) ∧ (¬ x2 < x4 → Q (some (some (vL 0), (SH T, c)))))) ∧ ((x1 = 25 → ((x4 < x2 → Q (some (some (vL 1), (SH T, c)))) ∧ (¬ x4 < x2 → Q (some (some (vL 0), (SH T, c)))))) ∧ (¬ (x1 = 20 ∨ x1 = 21 ∨ x1 = 22 ∨ x1 = 23 ∨ x1 = 24 ∨ x1 = 25) → ((x2 = x4 → Q (some (some (vL 1), (SH T, c)))) ∧ (¬ x2 = x4 → Q (some (some (vL 0), (SH T, c))))))))))))) : Q (ccal 246 [vR 78, vI x1, vL x2, vL x4] (SH T, c)) := by
  refine of_cev (Q := Q) ?_
  refine wq_ite (Q := Q) (p := x1 = 20) (fun h0 => ?_) (fun h0 => ?_)
  · replace k := k.1 h0
    show Q (cev 246 1 40 [vU, vU, vL x2, vU, vL x4, vU] [] (SH T, c))
    refine of_cev (Q := Q) ?_
    refine wq_pos (Q := Q) k.1 ?_
    replace k := k.2
    exact k
  replace k := k.2
  refine wq_ite (Q := Q) (p := x1 = 21) (fun h1 => ?_) (fun h1 => ?_)
  · replace k := k.1 h1
    show Q (cev 246 1 45 [vU, vU, vL x2, vU, vL x4, vU] [] (SH T, c))
    refine of_cev (Q := Q) ?_
    refine wq_pos (Q := Q) k.1 ?_
    replace k := k.2
    exact k
  replace k := k.2
  refine wq_ite (Q := Q) (p := x1 = 22) (fun h2 => ?_) (fun h2 => ?_)
  · replace k := k.1 h2
    show Q (cev 246 1 50 [vU, vU, vL x2, vU, vL x4, vU] [] (SH T, c))
    refine of_cev (Q := Q) ?_
    refine wq_pos (Q := Q) k.1 ?_
    replace k := k.2
    exact k
  replace k := k.2
  refine wq_ite (Q := Q) (p := x1 = 23) (fun h3 => ?_) (fun h3 => ?_)
  · replace k := k.1 h3
    show Q (cev 246 1 55 [vR 78, vU, vL x2, vU, vL x4, vU] [] (SH T, c))
    refine of_cev (Q := Q) ?_
    refine wq_lc1 (Q := Q) (x := x4) (y := 0) (fun h => ?_) (fun h => ?_)
    · replace k := k.1 h
      exact k
    · replace k := k.2 h
      show Q (cev 246 1 67 [vR 78, vU, vL x2, vU, vL x4, vU] [vR 78] (SH T, c))
      refine of_cev (Q := Q) ?_
      exact k
  replace k := k.2
  refine wq_ite (Q := Q) (p := x1 = 24) (fun h4 => ?_) (fun h4 => ?_)
  · replace k := k.1 h4
    show Q (cev 246 1 87 [vU, vU, vL x2, vU, vL x4, vU] [] (SH T, c))
    refine of_cev (Q := Q) ?_
    refine wq_lc3 (Q := Q) (x := x2) (y := x4) (fun h => ?_) (fun h => ?_)
    · replace k := k.1 h
      exact k
    · replace k := k.2 h
      show Q (cev 246 1 98 [vU, vU, vU, vU, vU, vU] [] (SH T, c))
      refine of_cev (Q := Q) ?_
      exact k
  replace k := k.2
  refine wq_ite (Q := Q) (p := x1 = 25) (fun h5 => ?_) (fun h5 => ?_)
  · replace k := k.1 h5
    show Q (cev 246 1 100 [vU, vU, vL x2, vU, vL x4, vU] [] (SH T, c))
    refine of_cev (Q := Q) ?_
    refine wq_lc5 (Q := Q) (x := x2) (y := x4) (fun h => ?_) (fun h => ?_)
    · replace k := k.1 h
      exact k
    · replace k := k.2 h
      show Q (cev 246 1 111 [vU, vU, vU, vU, vU, vU] [] (SH T, c))
      refine of_cev (Q := Q) ?_
      exact k
  replace k := k.2
  replace k := k (fun h => by rcases h with h | h | h | h | h | h <;> first | exact h0 h | exact h1 h | exact h2 h | exact h3 h | exact h4 h | exact h5 h)
  show Q (cev 246 1 113 [vU, vU, vL x2, vU, vL x4, vU] [] (SH T, c))
  refine of_cev (Q := Q) ?_
  refine wq_lc1 (Q := Q) (x := x2) (y := x4) (fun h => ?_) (fun h => ?_)
  · replace k := k.1 h
    exact k
  · replace k := k.2 h
    show Q (cev 246 1 124 [vU, vU, vU, vU, vU, vU] [] (SH T, c))
    refine of_cev (Q := Q) ?_
    exact k
set_option maxRecDepth 20000 in
theorem W_X12_reckon_68 {T : List Shp} {c : Nat → Int → Int} {Q : Res → Prop} {x2 x4 y0 : Int} (k : ((y0 = 0 ∨ y0 = 1) ∧ ((y0 = 0 → (((-9223372036854775808 ≤ (Int.tdiv x2 x4) ∧ (Int.tdiv x2 x4) < 9223372036854775808) ∧ ¬ x4 = 0) ∧ Q (some (some (vL (Int.tdiv x2 x4)), (SH T, (up c 77 34 y0)))))) ∧ (¬ y0 = 0 → Q (some (some (vL 0), (SH T, (up c 77 34 y0)))))))) : Q (cev 246 1 68 [vR 78, vU, vL x2, vU, vL x4, vU] [vI y0, vR 78] (SH T, c)) := by
  refine of_cev (Q := Q) ?_
  refine wq_pos (Q := Q) k.1 ?_
  replace k := k.2
  refine wq_ite (Q := Q) (p := y0 = 0) (fun h => ?_) (fun h => ?_)
  · replace k := k.1 h
    show Q (cev 246 1 82 [vU, vU, vL x2, vU, vL x4, vU] [] (SH T, (up c 77 34 y0)))
    refine of_cev (Q := Q) ?_
    refine wq_pos (Q := Q) k.1 ?_
    replace k := k.2
    exact k
  · replace k := k.2 h
    exact k
set_option maxRecDepth 20000 in
theorem W_X12_reckonAll {T : List Shp} {c : Nat → Int → Int} {Q : Res → Prop} {x1 x2 : Int} (k : Q (cev 247 3 10 [vR 78, vU, vI x2, vI 0, vI x1, vU, vU] [] (SH T, (up c 77 34 0)))) : Q (ccal 247 [vR 78, vI x1, vI x2] (SH T, c)) := by
  refine of_cev (Q := Q) ?_
  exact k
set_option maxRecDepth 20000 in
theorem W_X12_reckonAll_10 {T : List Shp} {c : Nat → Int → Int} {Q : Res → Prop} {x2 x3 x4 : Int} (k : ((x4 < x2 → (((c 77 34) = 0 → (((c 77 16) = 0 → (((-2147483648 ≤ (c 77 30) + 98 ∧ (c 77 30) + 98 < 2147483648) ∧ (-2147483648 ≤ 2 * x4 ∧ 2 * x4 < 2147483648) ∧ (-2147483648 ≤ ((c 77 30) + 98) + (2 * x4) ∧ ((c 77 30) + 98) + (2 * x4) < 2147483648) ∧ (0 ≤ (((c 77 30) + 98) + (2 * x4)) ∧ (((c 77 30) + 98) + (2 * x4)) < 5780)) ∧ Q (cev 247 3 57 [vR 78, vU, vI x2, vI x3, vI x4, vU, vU] [vI (c 79 (((c 77 30) + 98) + (2 * x4)))] (SH T, c)))) ∧ (¬ (c 77 16) = 0 → ((0 ≤ x4 ∧ x4 < 400) ∧ Q (cev 247 3 57 [vR 78, vU, vI x2, vI x3, vI x4, vU, vU] [vI (c 85 x4)] (SH T, c)))))) ∧ (¬ (c 77 34) = 0 → Q (cev 247 3 313 [vR 78, vU, vU, vI x3, vU, vU, vU] [] (SH T, c))))) ∧ (¬ x4 < x2 → Q (cev 247 3 313 [vR 78, vU, vU, vI x3, vU, vU, vU] [] (SH T, c))))) : Q (cev 247 3 10 [vR 78, vU, vI x2, vI x3, vI x4, vU, vU] [] (SH T, c)) := by
  refine of_cev (Q := Q) ?_
  refine wq_ite (Q := Q) (p := x4 < x2) (fun h => ?_) (fun h => ?_)
  · replace k := k.1 h
    refine wq_ite (Q := Q) (p := (c 77 34) = 0) (fun h => ?_) (fun h => ?_)
    · replace k := k.1 h
      refine wq_ite (Q := Q) (p := (c 77 16) = 0) (fun h => ?_) (fun h => ?_)
      · replace k := k.1 h
        show Q (cev 247 3 40 [vR 78, vU, vI x2, vI x3, vI x4, vU, vU] [] (SH T, c))
        refine of_cev (Q := Q) ?_
        refine wq_pos (Q := Q) k.1.1 ?_
        refine wq_pos (Q := Q) k.1.2.1 ?_
        refine wq_pos (Q := Q) k.1.2.2.1 ?_
        refine wq_pos (Q := Q) k.1.2.2.2 ?_
        replace k := k.2
        exact k
      · replace k := k.2 h
        refine wq_pos (Q := Q) k.1 ?_
        replace k := k.2
        exact k
    · replace k := k.2 h
      exact k
  · replace k := k.2 h
    exact k
set_option maxRecDepth 20000 in
theorem W_X12_reckonAll_57 {T : List Shp} {c : Nat → Int → Int} {Q : Res → Prop} {x2 x3 x4 y0 : Int} (k : (((c 77 16) = 0 → (((-2147483648 ≤ (c 77 30) + 98 ∧ (c 77 30) + 98 < 2147483648) ∧ (-2147483648 ≤ 2 * x4 ∧ 2 * x4 < 2147483648) ∧ (-2147483648 ≤ ((c 77 30) + 98) + (2 * x4) ∧ ((c 77 30) + 98) + (2 * x4) < 2147483648) ∧ (-2147483648 ≤ (((c 77 30) + 98) + (2 * x4)) + 1 ∧ (((c 77 30) + 98) + (2 * x4)) + 1 < 2147483648) ∧ (0 ≤ ((((c 77 30) + 98) + (2 * x4)) + 1) ∧ ((((c 77 30) + 98) + (2 * x4)) + 1) < 5780)) ∧ Q (cev 247 3 95 [vR 78, vU, vI x2, vI x3, vI x4, vI y0, vU] [vI (c 79 ((((c 77 30) + 98) + (2 * x4)) + 1))] (SH T, c)))) ∧ (¬ (c 77 16) = 0 → ((0 ≤ x4 ∧ x4 < 400) ∧ Q (cev 247 3 95 [vR 78, vU, vI x2, vI x3, vI x4, vI y0, vU] [vI (c 86 x4)] (SH T, c)))))) : Q (cev 247 3 57 [vR 78, vU, vI x2, vI x3, vI x4, vU, vU] [vI y0] (SH T, c)) := by
  refine of_cev (Q := Q) ?_
  refine wq_ite (Q := Q) (p := (c 77 16) = 0) (fun h => ?_) (fun h => ?_)
  · replace k := k.1 h
    show Q (cev 247 3 76 [vR 78, vU, vI x2, vI x3, vI x4, vI y0, vU] [] (SH T, c))
    refine of_cev (Q := Q) ?_
    refine wq_pos (Q := Q) k.1.1 ?_
    refine wq_pos (Q := Q) k.1.2.1 ?_
    refine wq_pos (Q := Q) k.1.2.2.1 ?_
    refine wq_pos (Q := Q) k.1.2.2.2.1 ?_
    refine wq_pos (Q := Q) k.1.2.2.2.2 ?_
    replace k := k.2
    exact k
  · replace k := k.2 h
    refine wq_pos (Q := Q) k.1 ?_
    replace k := k.2
    exact k
set_option maxRecDepth 20000 in
theorem W_X12_reckonAll_95 {T : List Shp} {c : Nat → Int → Int} {Q : Res → Prop} {x2 x3 x4 x5 y0 : Int} (k : ((-2147483648 ≤ x4 + 1 ∧ x4 + 1 < 2147483648) ∧ ((x5 < 20 → ((x5 = 0 → (((0 ≤ x3 ∧ x3 < 400) ∧ (-2147483648 ≤ x3 + 1 ∧ x3 + 1 < 2147483648)) ∧ Q (cev 247 3 10 [vR 78, vU, vI x2, vI (x3 + 1), vI (x4 + 1), vU, vU] [] (SH T, (up c 94 x3 y0))))) ∧ (¬ x5 = 0 → (((c 77 16) = 0 → (((0 ≤ x5 ∧ x5 < 13) ∧ (0 ≤ x3 ∧ x3 < 400) ∧ (-2147483648 ≤ x3 + 1 ∧ x3 + 1 < 2147483648)) ∧ Q (cev 247 3 10 [vR 78, vU, vI x2, vI (x3 + 1), vI (x4 + 1), vU, vU] [] (SH T, (up c 94 x3 (c 92 x5)))))) ∧ (¬ (c 77 16) = 0 → ((x5 = 7 → (((0 ≤ (c 79 4) ∧ (c 79 4) < 100) ∧ (0 ≤ y0 ∧ y0 < 12) ∧ (0 ≤ x3 ∧ x3 < 400) ∧ (-2147483648 ≤ x3 + 1 ∧ x3 + 1 < 2147483648)) ∧ Q (cev 247 3 10 [vR 78, vU, vI x2, vI (x3 + 1), vI (x4 + 1), vU, vU] [] (SH T, (up c 94 x3 (c 79 (12 + 12 * (c 79 4) + y0))))))) ∧ (¬ x5 = 7 → (((0 ≤ x5 ∧ x5 < 13) ∧ (0 ≤ x3 ∧ x3 < 400) ∧ (-2147483648 ≤ x3 + 1 ∧ x3 + 1 < 2147483648)) ∧ Q (cev 247 3 10 [vR 78, vU, vI x2, vI (x3 + 1), vI (x4 + 1), vU, vU] [] (SH T, (up c 94 x3 (c 93 x5)))))))))))) ∧ (¬ x5 < 20 → ((x5 < 27 → (((-2147483648 ≤ x3 + (-1) ∧ x3 + (-1) < 2147483648) ∧ (-2147483648 ≤ (x3 + (-1)) - 1 ∧ (x3 + (-1)) - 1 < 2147483648) ∧ (0 ≤ ((x3 + (-1)) - 1) ∧ ((x3 + (-1)) - 1) < 400) ∧ (0 ≤ (x3 + (-1)) ∧ (x3 + (-1)) < 400)) ∧ (QL T (fun r1 c2 => ((0 ≤ ((x3 + (-1)) - 1) ∧ ((x3 + (-1)) - 1) < 400) ∧ (((c2 77 34) = 0 → (((-2147483648 ≤ (x3 + (-1)) - 1 ∧ (x3 + (-1)) - 1 < 2147483648) ∧ (0 ≤ ((x3 + (-1)) - 1) ∧ ((x3 + (-1)) - 1) < 400)) ∧ (((-1000000000) ≤ ((up c2 94 ((x3 + (-1)) - 1) r1) 94 ((x3 + (-1)) - 1)) ∧ ((up c2 94 ((x3 + (-1)) - 1) r1) 94 ((x3 + (-1)) - 1)) ≤ 1000000000 → Q (cev 247 3 10 [vR 78, vU, vI x2, vI (x3 + (-1)), vI (x4 + 1), vU, vU] [] (SH T, (up (up c2 94 ((x3 + (-1)) - 1) r1) 77 34 0)))) ∧ (¬ ((-1000000000) ≤ ((up c2 94 ((x3 + (-1)) - 1) r1) 94 ((x3 + (-1)) - 1)) ∧ ((up c2 94 ((x3 + (-1)) - 1) r1) 94 ((x3 + (-1)) - 1)) ≤ 1000000000) → Q (cev 247 3 10 [vR 78, vU, vI x2, vI (x3 + (-1)), vI (x4 + 1), vU, vU] [] (SH T, (up (up c2 94 ((x3 + (-1)) - 1) r1) 77 34 1))))))) ∧ (¬ (c2 77 34) = 0 → Q (cev 247 3 10 [vR 78, vU, vI x2, vI (x3 + (-1)), vI (x4 + 1), vU, vU] [] (SH T, (up (up c2 94 ((x3 + (-1)) - 1) r1) 77 34 1))))))) (ccal 246 [vR 78, vI x5, vL (c 94 ((x3 + (-1)) - 1)), vL (c 94 (x3 + (-1)))] (SH T, c))))) ∧ (¬ x5 < 27 → ((x5 = 27 → (((-2147483648 ≤ x3 - 1 ∧ x3 - 1 < 2147483648) ∧ (0 ≤ (x3 - 1) ∧ (x3 - 1) < 400) ∧ (-9223372036854775808 ≤ 1 - (c 94 (x3 - 1)) ∧ 1 - (c 94 (x3 - 1)) < 9223372036854775808)) ∧ Q (cev 247 3 10 [vR 78, vU, vI x2, vI x3, vI (x4 + 1), vU, vU] [] (SH T, (up c 94 (x3 - 1) (1 - (c 94 (x3 - 1)))))))) ∧ (¬ x5 = 27 → (((-2147483648 ≤ x3 - 1 ∧ x3 - 1 < 2147483648) ∧ (0 ≤ (x3 - 1) ∧ (x3 - 1) < 400)) ∧ ((x5 = 28 → Q (cev 247 3 296 [vR 78, vU, vI x2, vI x3, vI (x4 + 1), vU, vI y0] [vL 0, vL (c 94 (x3 - 1))] (SH T, c))) ∧ (¬ x5 = 28 → Q (cev 247 3 296 [vR 78, vU, vI x2, vI x3, vI (x4 + 1), vU, vI y0] [vL 1, vL (c 94 (x3 - 1))] (SH T, c))))))))))))) : Q (cev 247 3 95 [vR 78, vU, vI x2, vI x3, vI x4, vI x5, vU] [vI y0] (SH T, c)) := by
  refine of_cev (Q := Q) ?_
  refine wq_pos (Q := Q) k.1 ?_
  replace k := k.2
  refine wq_ite (Q := Q) (p := x5 < 20) (fun h => ?_) (fun h => ?_)
  · replace k := k.1 h
    refine wq_ite (Q := Q) (p := x5 = 0) (fun h => ?_) (fun h => ?_)
    · replace k := k.1 h
      refine wq_pos (Q := Q) k.1.1 ?_
      refine wq_pos (Q := Q) k.1.2 ?_
      replace k := k.2
      exact k
    · replace k := k.2 h
      show Q (cev 247 3 123 [vR 78, vU, vI x2, vI x3, vI (x4 + 1), vI x5, vI y0] [vI x3, vR 95] (SH T, c))
      refine of_cev (Q := Q) ?_
      refine wq_ite (Q := Q) (p := (c 77 16) = 0) (fun h => ?_) (fun h => ?_)
      · replace k := k.1 h
        refine wq_pos (Q := Q) k.1.1 ?_
        refine wq_pos (Q := Q) k.1.2.1 ?_
        refine wq_pos (Q := Q) k.1.2.2 ?_
        replace k := k.2
        exact k
      · replace k := k.2 h
        show Q (cev 247 3 140 [vR 78, vU, vI x2, vI x3, vI (x4 + 1), vI x5, vI y0] [vI x3, vR 95] (SH T, c))
        refine of_cev (Q := Q) ?_
        refine wq_ite (Q := Q) (p := x5 = 7) (fun h => ?_) (fun h => ?_)
        · replace k := k.1 h
          refine wq_sum (Q := Q) rfl (S_X12_seen T c y0 k.1.1 k.1.2.1) ?_
          refine wq_pos (Q := Q) k.1.2.2.1 ?_
          refine wq_pos (Q := Q) k.1.2.2.2 ?_
          replace k := k.2
          exact k
        · replace k := k.2 h
          show Q (cev 247 3 157 [vR 78, vU, vI x2, vI x3, vI (x4 + 1), vI x5, vU] [vI x3, vR 95] (SH T, c))
          refine of_cev (Q := Q) ?_
          refine wq_pos (Q := Q) k.1.1 ?_
          refine wq_pos (Q := Q) k.1.2.1 ?_
          refine wq_pos (Q := Q) k.1.2.2 ?_
          replace k := k.2
          exact k
  · replace k := k.2 h
    show Q (cev 247 3 171 [vR 78, vU, vI x2, vI x3, vI (x4 + 1), vI x5, vI y0] [] (SH T, c))
    refine of_cev (Q := Q) ?_
    refine wq_ite (Q := Q) (p := x5 < 27) (fun h => ?_) (fun h => ?_)
    · replace k := k.1 h
      refine wq_pos (Q := Q) k.1.1 ?_
      refine wq_pos (Q := Q) k.1.2.1 ?_
      refine wq_pos (Q := Q) k.1.2.1 ?_
      refine wq_pos (Q := Q) k.1.2.2.1 ?_
      refine wq_pos (Q := Q) k.1.2.2.2 ?_
      replace k := k.2
      refine wq_callL (Q := Q) rfl k ?_
      intro r1 c2 k
      refine wq_pos (Q := Q) k.1 ?_
      replace k := k.2
      refine wq_ite (Q := Q) (p := (c2 77 34) = 0) (fun h => ?_) (fun h => ?_)
      · replace k := k.1 h
        refine wq_pos (Q := Q) k.1.1 ?_
        refine wq_pos (Q := Q) k.1.2 ?_
        refine wq_sum (Q := Q) rfl (S_X12_in T (up c2 94 ((x3 + (-1)) - 1) r1) ((up c2 94 ((x3 + (-1)) - 1) r1) 94 ((x3 + (-1)) - 1)) (-1000000000) 1000000000) ?_
        replace k := k.2
        refine wq_b01 (Q := Q) (p := (-1000000000) ≤ ((up c2 94 ((x3 + (-1)) - 1) r1) 94 ((x3 + (-1)) - 1)) ∧ ((up c2 94 ((x3 + (-1)) - 1) r1) 94 ((x3 + (-1)) - 1)) ≤ 1000000000) (fun h => ?_) (fun h => ?_)
        · replace k := k.2 h
          show Q (cev 247 3 237 [vR 78, vU, vI x2, vI (x3 + (-1)), vI (x4 + 1), vU, vU] [vR 78] (SH T, (up c2 94 ((x3 + (-1)) - 1) r1)))
          refine of_cev (Q := Q) ?_
          exact k
        · replace k := k.1 h
          show Q (cev 247 3 241 [vR 78, vU, vI x2, vI (x3 + (-1)), vI (x4 + 1), vU, vU] [vR 78] (SH T, (up c2 94 ((x3 + (-1)) - 1) r1)))
          refine of_cev (Q := Q) ?_
          exact k
      · replace k := k.2 h
        show Q (cev 247 3 237 [vR 78, vU, vI x2, vI (x3 + (-1)), vI (x4 + 1), vU, vU] [vR 78] (SH T, (up c2 94 ((x3 + (-1)) - 1) r1)))
        refine of_cev (Q := Q) ?_
        exact k
    · replace k := k.2 h
      show Q (cev 247 3 248 [vR 78, vU, vI x2, vI x3, vI (x4 + 1), vI x5, vI y0] [] (SH T, c))
      refine of_cev (Q := Q) ?_
      refine wq_ite (Q := Q) (p := x5 = 27) (fun h => ?_) (fun h => ?_)
      · replace k := k.1 h
        refine wq_pos (Q := Q) k.1.1 ?_
        refine wq_pos (Q := Q) k.1.1 ?_
        refine wq_pos (Q := Q) k.1.2.1 ?_
        refine wq_pos (Q := Q) k.1.2.2 ?_
        refine wq_pos (Q := Q) k.1.2.1 ?_
        replace k := k.2
        exact k
      · replace k := k.2 h
        show Q (cev 247 3 276 [vR 78, vU, vI x2, vI x3, vI (x4 + 1), vI x5, vI y0] [] (SH T, c))
        refine of_cev (Q := Q) ?_
        refine wq_pos (Q := Q) k.1.1 ?_
        refine wq_pos (Q := Q) k.1.2 ?_
        replace k := k.2
        refine wq_ite (Q := Q) (p := x5 = 28) (fun h => ?_) (fun h => ?_)
        · replace k := k.1 h
          exact k
        · replace k := k.2 h
          show Q (cev 247 3 295 [vR 78, vU, vI x2, vI x3, vI (x4 + 1), vU, vI y0] [vL (c 94 (x3 - 1))] (SH T, c))
          refine of_cev (Q := Q) ?_
          exact k
set_option maxRecDepth 20000 in
theorem W_X12_reckonAll_296 {T : List Shp} {c : Nat → Int → Int} {Q : Res → Prop} {x2 x3 x4 x6 y0 y1 : Int} (k : ((y1 = y0 → Q (cev 247 3 10 [vR 78, vU, vI x2, vI x3, vI x6, vU, vU] [] (SH T, c))) ∧ (¬ y1 = y0 → ((-2147483648 ≤ x3 + (-1) ∧ x3 + (-1) < 2147483648) ∧ Q (cev 247 3 10 [vR 78, vU, vI x2, vI (x3 + (-1)), vI x4, vU, vU] [] (SH T, c)))))) : Q (cev 247 3 296 [vR 78, vU, vI x2, vI x3, vI x4, vU, vI x6] [vL y0, vL y1] (SH T, c)) := by
  refine of_cev (Q := Q) ?_
  refine wq_lc1 (Q := Q) (x := y1) (y := y0) (fun h => ?_) (fun h => ?_)
  · replace k := k.1 h
    exact k
  · replace k := k.2 h
    show Q (cev 247 3 307 [vR 78, vU, vI x2, vI x3, vI x4, vU, vU] [] (SH T, c))
    refine of_cev (Q := Q) ?_
    refine wq_pos (Q := Q) k.1 ?_
    replace k := k.2
    exact k
set_option maxRecDepth 20000 in
theorem W_X12_reckonAll_313 {T : List Shp} {c : Nat → Int → Int} {Q : Res → Prop} {x3 : Int} (k : ((0 < x3 → Q (some (none, (SH T, (up c 77 35 (c 94 0)))))) ∧ (¬ 0 < x3 → Q (some (none, (SH T, (up c 77 35 0))))))) : Q (cev 247 3 313 [vR 78, vU, vU, vI x3, vU, vU, vU] [] (SH T, c)) := by
  refine of_cev (Q := Q) ?_
  refine wq_ite (Q := Q) (p := 0 < x3) (fun h => ?_) (fun h => ?_)
  · replace k := k.1 h
    exact k
  · replace k := k.2 h
    show Q (cev 247 3 327 [vU, vU, vU, vU, vU, vU, vU] [vR 78] (SH T, c))
    refine of_cev (Q := Q) ?_
    exact k
set_option maxRecDepth 20000 in
theorem W_X12_isSo {T : List Shp} {c : Nat → Int → Int} {Q : Res → Prop} {x1 : Int} (k : (((-2147483648 ≤ x1 + 5 ∧ x1 + 5 < 2147483648) ∧ (0 ≤ (x1 + 5) ∧ (x1 + 5) < 5780) ∧ (-2147483648 ≤ x1 + 6 ∧ x1 + 6 < 2147483648) ∧ (0 ≤ (x1 + 6) ∧ (x1 + 6) < 5780)) ∧ (((c 79 (x1 + 5)) < (c 79 (x1 + 6)) → (((-2147483648 ≤ x1 + 5 ∧ x1 + 5 < 2147483648) ∧ (0 ≤ (x1 + 5) ∧ (x1 + 5) < 5780) ∧ (-2147483648 ≤ x1 + 6 ∧ x1 + 6 < 2147483648) ∧ (0 ≤ (x1 + 6) ∧ (x1 + 6) < 5780)) ∧ (QV T (fun c1 => (((c1 77 34) = 0 → (((c1 77 35) = 0 → Q (some (some (vI 0), (SH T, c1)))) ∧ (¬ (c1 77 35) = 0 → Q (cev 248 4 59 [vR 78, vI x1] [] (SH T, c1))))) ∧ (¬ (c1 77 34) = 0 → Q (some (some (vI 0), (SH T, c1)))))) (ccal 247 [vR 78, vI (c 79 (x1 + 5)), vI (c 79 (x1 + 6))] (SH T, c))))) ∧ (¬ (c 79 (x1 + 5)) < (c 79 (x1 + 6)) → Q (cev 248 4 59 [vR 78, vI x1] [] (SH T, c)))))) : Q (ccal 248 [vR 78, vI x1] (SH T, c)) := by
  refine of_cev (Q := Q) ?_
  refine wq_pos (Q := Q) k.1.1 ?_
  refine wq_pos (Q := Q) k.1.2.1 ?_
  refine wq_pos (Q := Q) k.1.2.2.1 ?_
  refine wq_pos (Q := Q) k.1.2.2.2 ?_
  replace k := k.2
  refine wq_ite (Q := Q) (p := (c 79 (x1 + 5)) < (c 79 (x1 + 6))) (fun h => ?_) (fun h => ?_)
  · replace k := k.1 h
    refine wq_pos (Q := Q) k.1.1 ?_
    refine wq_pos (Q := Q) k.1.2.1 ?_
    refine wq_pos (Q := Q) k.1.2.2.1 ?_
    refine wq_pos (Q := Q) k.1.2.2.2 ?_
    replace k := k.2
    refine wq_callV (Q := Q) rfl k ?_
    intro c1 k
    refine wq_ite (Q := Q) (p := (c1 77 34) = 0) (fun h => ?_) (fun h => ?_)
    · replace k := k.1 h
      refine wq_lc1 (Q := Q) (x := (c1 77 35)) (y := 0) (fun h => ?_) (fun h => ?_)
      · replace k := k.1 h
        show Q (cev 248 4 57 [vU, vU] [] (SH T, c1))
        refine of_cev (Q := Q) ?_
        exact k
      · replace k := k.2 h
        exact k
    · replace k := k.2 h
      show Q (cev 248 4 57 [vU, vU] [] (SH T, c1))
      refine of_cev (Q := Q) ?_
      exact k
  · replace k := k.2 h
    exact k
set_option maxRecDepth 20000 in
theorem W_X12_isSo_59 {T : List Shp} {c : Nat → Int → Int} {Q : Res → Prop} {x1 : Int} (k : ((0 ≤ x1 ∧ x1 < 5780) ∧ (((c 79 x1) = 4 → Q (some (some (vI 1), (SH T, c)))) ∧ (¬ (c 79 x1) = 4 → (((-2147483648 ≤ x1 + 3 ∧ x1 + 3 < 2147483648) ∧ (0 ≤ (x1 + 3) ∧ (x1 + 3) < 5780) ∧ (-2147483648 ≤ x1 + 4 ∧ x1 + 4 < 2147483648) ∧ (0 ≤ (x1 + 4) ∧ (x1 + 4) < 5780)) ∧ (QV T (fun c1 => (((c1 77 34) = 0 → Q (some (some (vI 1), (SH T, (up c1 77 36 (c1 77 35)))))) ∧ (¬ (c1 77 34) = 0 → Q (some (some (vI 0), (SH T, (up c1 77 36 (c1 77 35)))))))) (ccal 247 [vR 78, vI (c 79 (x1 + 3)), vI (c 79 (x1 + 4))] (SH T, c)))))))) : Q (cev 248 4 59 [vR 78, vI x1] [] (SH T, c)) := by
  refine of_cev (Q := Q) ?_
  refine wq_pos (Q := Q) k.1 ?_
  replace k := k.2
  refine wq_ite (Q := Q) (p := (c 79 x1) = 4) (fun h => ?_) (fun h => ?_)
  · replace k := k.1 h
    show Q (cev 248 4 110 [vU, vU] [] (SH T, c))
    refine of_cev (Q := Q) ?_
    exact k
  · replace k := k.2 h
    refine wq_pos (Q := Q) k.1.1 ?_
    refine wq_pos (Q := Q) k.1.2.1 ?_
    refine wq_pos (Q := Q) k.1.2.2.1 ?_
    refine wq_pos (Q := Q) k.1.2.2.2 ?_
    replace k := k.2
    refine wq_callV (Q := Q) rfl k ?_
    intro c1 k
    refine wq_ite (Q := Q) (p := (c1 77 34) = 0) (fun h => ?_) (fun h => ?_)
    · replace k := k.1 h
      exact k
    · replace k := k.2 h
      show Q (cev 248 4 108 [vU, vU] [] (SH T, (up c1 77 36 (c1 77 35))))
      refine of_cev (Q := Q) ?_
      exact k
set_option maxRecDepth 20000 in
theorem W_X12_tells {T : List Shp} {c : Nat → Int → Int} {Q : Res → Prop} {x1 x2 : Int} (k : (((c 79 2) = (-1) → Q (some (some (vL x2), (SH T, c)))) ∧ (¬ (c 79 2) = (-1) → (((-2147483648 ≤ 900 * (c 79 2) ∧ 900 * (c 79 2) < 2147483648) ∧ (-2147483648 ≤ 380 + (900 * (c 79 2)) ∧ 380 + (900 * (c 79 2)) < 2147483648)) ∧ Q (cev 249 5 36 [vR 78, vI x1, vU, vU, vL x2, vU, vI 0, vU] [] (SH T, (up c 77 30 (380 + (900 * (c 79 2)))))))))) : Q (ccal 249 [vR 78, vI x1, vL x2] (SH T, c)) := by
  refine of_cev (Q := Q) ?_
  refine wq_ite (Q := Q) (p := (c 79 2) = (-1)) (fun h => ?_) (fun h => ?_)
  · replace k := k.1 h
    exact k
  · replace k := k.2 h
    show Q (cev 249 5 12 [vR 78, vI x1, vL x2, vU, vU, vU, vU, vU] [] (SH T, c))
    refine of_cev (Q := Q) ?_
    refine wq_pos (Q := Q) k.1.1 ?_
    refine wq_pos (Q := Q) k.1.2 ?_
    replace k := k.2
    exact k
set_option maxRecDepth 20000 in
theorem W_X12_tells_36 {T : List Shp} {c : Nat → Int → Int} {Q : Res → Prop} {x1 x4 x6 : Int} (k : (((-2147483648 ≤ (c 77 30) + 1 ∧ (c 77 30) + 1 < 2147483648) ∧ (0 ≤ ((c 77 30) + 1) ∧ ((c 77 30) + 1) < 5780)) ∧ ((x6 < (c 79 ((c 77 30) + 1)) → (((-2147483648 ≤ (c 77 30) + 2 ∧ (c 77 30) + 2 < 2147483648) ∧ (-2147483648 ≤ 8 * x6 ∧ 8 * x6 < 2147483648) ∧ (-2147483648 ≤ ((c 77 30) + 2) + (8 * x6) ∧ ((c 77 30) + 2) + (8 * x6) < 2147483648) ∧ (0 ≤ (((c 77 30) + 2) + (8 * x6)) ∧ (((c 77 30) + 2) + (8 * x6)) < 5780)) ∧ (((c 79 (((c 77 30) + 2) + (8 * x6))) = x1 → (QI T (fun r1 c2 => ((r1 = 0 → ((-2147483648 ≤ x6 + 1 ∧ x6 + 1 < 2147483648) ∧ Q (cev 249 5 36 [vR 78, vI x1, vU, vU, vL x4, vU, vI (x6 + 1), vU] [] (SH T, c2)))) ∧ (¬ r1 = 0 → ((x1 = 4 → ((-2147483648 ≤ x6 + 1 ∧ x6 + 1 < 2147483648) ∧ Q (cev 249 5 36 [vR 78, vI x1, vU, vU, vL 1, vU, vI (x6 + 1), vU] [] (SH T, c2)))) ∧ (¬ x1 = 4 → ((-2147483648 ≤ x6 + 1 ∧ x6 + 1 < 2147483648) ∧ Q (cev 249 5 36 [vR 78, vI x1, vU, vU, vL (c2 77 36), vU, vI (x6 + 1), vU] [] (SH T, c2)))))))) (ccal 248 [vR 78, vI (((c 77 30) + 2) + (8 * x6))] (SH T, c)))) ∧ (¬ (c 79 (((c 77 30) + 2) + (8 * x6))) = x1 → ((-2147483648 ≤ x6 + 1 ∧ x6 + 1 < 2147483648) ∧ Q (cev 249 5 36 [vR 78, vI x1, vU, vU, vL x4, vU, vI (x6 + 1), vU] [] (SH T, c))))))) ∧ (¬ x6 < (c 79 ((c 77 30) + 1)) → Q (some (some (vL x4), (SH T, c))))))) : Q (cev 249 5 36 [vR 78, vI x1, vU, vU, vL x4, vU, vI x6, vU] [] (SH T, c)) := by
  refine of_cev (Q := Q) ?_
  refine wq_pos (Q := Q) k.1.1 ?_
  refine wq_pos (Q := Q) k.1.2 ?_
  replace k := k.2
  refine wq_ite (Q := Q) (p := x6 < (c 79 ((c 77 30) + 1))) (fun h => ?_) (fun h => ?_)
  · replace k := k.1 h
    refine wq_pos (Q := Q) k.1.1 ?_
    refine wq_pos (Q := Q) k.1.2.1 ?_
    refine wq_pos (Q := Q) k.1.2.2.1 ?_
    refine wq_pos (Q := Q) k.1.2.2.2 ?_
    replace k := k.2
    refine wq_ite (Q := Q) (p := (c 79 (((c 77 30) + 2) + (8 * x6))) = x1) (fun h => ?_) (fun h => ?_)
    · replace k := k.1 h
      refine wq_callI (Q := Q) rfl k ?_
      intro r1 c2 k
      refine wq_ite (Q := Q) (p := r1 = 0) (fun h => ?_) (fun h => ?_)
      · replace k := k.1 h
        show Q (cev 249 5 101 [vR 78, vI x1, vU, vU, vL x4, vU, vI x6, vU] [] (SH T, c2))
        refine of_cev (Q := Q) ?_
        refine wq_pos (Q := Q) k.1 ?_
        replace k := k.2
        exact k
      · replace k := k.2 h
        refine wq_ite (Q := Q) (p := x1 = 4) (fun h => ?_) (fun h => ?_)
        · replace k := k.1 h
          show Q (cev 249 5 101 [vR 78, vI x1, vU, vU, vL 1, vU, vI x6, vU] [] (SH T, c2))
          refine of_cev (Q := Q) ?_
          refine wq_pos (Q := Q) k.1 ?_
          replace k := k.2
          exact k
        · replace k := k.2 h
          show Q (cev 249 5 95 [vR 78, vI x1, vU, vU, vU, vU, vI x6, vU] [] (SH T, c2))
          refine of_cev (Q := Q) ?_
          show Q (cev 249 5 101 [vR 78, vI x1, vU, vU, vL (c2 77 36), vU, vI x6, vU] [] (SH T, c2))
          refine of_cev (Q := Q) ?_
          refine wq_pos (Q := Q) k.1 ?_
          replace k := k.2
          exact k
    · replace k := k.2 h
      show Q (cev 249 5 101 [vR 78, vI x1, vU, vU, vL x4, vU, vI x6, vU] [] (SH T, c))
      refine of_cev (Q := Q) ?_
      refine wq_pos (Q := Q) k.1 ?_
      replace k := k.2
      exact k
  · replace k := k.2 h
    show Q (cev 249 5 107 [vU, vU, vU, vU, vL x4, vU, vU, vU] [] (SH T, c))
    refine of_cev (Q := Q) ?_
    exact k
set_option maxRecDepth 20000 in
theorem W_X12_setNone {T : List Shp} {c : Nat → Int → Int} {Q : Res → Prop} {x1 : Int} (k : Q (cev 250 1 2 [vR 78, vI x1, vI 0] [] (SH T, c))) : Q (ccal 250 [vR 78, vI x1] (SH T, c)) := by
  refine of_cev (Q := Q) ?_
  exact k
set_option maxRecDepth 20000 in
theorem W_X12_setNone_2 {T : List Shp} {c : Nat → Int → Int} {Q : Res → Prop} {x1 x2 : Int} (k : ((x2 < 13 → (((0 ≤ x2 ∧ x2 < 13) ∧ (-2147483648 ≤ x2 + 1 ∧ x2 + 1 < 2147483648)) ∧ Q (cev 250 1 2 [vR 78, vI x1, vI (x2 + 1)] [] (SH T, (up c 92 x2 (-1)))))) ∧ (¬ x2 < 13 → Q (some (none, (SH T, (up (up c 92 3 x1) 92 6 (c 79 9)))))))) : Q (cev 250 1 2 [vR 78, vI x1, vI x2] [] (SH T, c)) := by
  refine of_cev (Q := Q) ?_
  refine wq_ite (Q := Q) (p := x2 < 13) (fun h => ?_) (fun h => ?_)
  · replace k := k.1 h
    refine wq_pos (Q := Q) k.1.1 ?_
    refine wq_pos (Q := Q) k.1.2 ?_
    replace k := k.2
    exact k
  · replace k := k.2 h
    show Q (cev 250 1 23 [vR 78, vI x1, vU] [] (SH T, c))
    refine of_cev (Q := Q) ?_
    exact k
set_option maxRecDepth 20000 in
theorem W_X12_ageIn {T : List Shp} {c : Nat → Int → Int} {Q : Res → Prop} {x1 : Int} (k : (((-2147483648 ≤ (c 79 8) - 2 ∧ (c 79 8) - 2 < 2147483648) ∧ (-2147483648 ≤ ((c 79 8) - 2) * x1 ∧ ((c 79 8) - 2) * x1 < 2147483648) ∧ (-2147483648 ≤ (c 79 7) + (((c 79 8) - 2) * x1) ∧ (c 79 7) + (((c 79 8) - 2) * x1) < 2147483648)) ∧ Q (some (some (vI (clp ((c 79 7) + (((c 79 8) - 2) * x1)) 0 199)), (SH T, c))))) : Q (ccal 251 [vR 78, vI x1] (SH T, c)) := by
  refine of_cev (Q := Q) ?_
  refine wq_pos (Q := Q) k.1.1 ?_
  refine wq_pos (Q := Q) k.1.2.1 ?_
  refine wq_pos (Q := Q) k.1.2.2 ?_
  refine wq_sum (Q := Q) rfl (S_X12_within T c ((c 79 7) + (((c 79 8) - 2) * x1)) 0 199 (by decide)) ?_
  replace k := k.2
  exact k
set_option maxRecDepth 20000 in
theorem W_X12_looksOf {T : List Shp} {c : Nat → Int → Int} {Q : Res → Prop} {x1 x2 : Int} (k : Q (cev 252 6 8 [vR 78, vI x1, vI x2, vI (-1), vI (-1), vI 0, vU] [] (SH T, c))) : Q (ccal 252 [vR 78, vI x1, vI x2] (SH T, c)) := by
  refine of_cev (Q := Q) ?_
  exact k
set_option maxRecDepth 20000 in
theorem W_X12_looksOf_8 {T : List Shp} {c : Nat → Int → Int} {Q : Res → Prop} {x1 x2 x3 x4 x5 : Int} (k : ((x5 < (c 79 3) → (((-2147483648 ≤ 3 * x5 ∧ 3 * x5 < 2147483648) ∧ (-2147483648 ≤ 258 + (3 * x5) ∧ 258 + (3 * x5) < 2147483648) ∧ (0 ≤ (258 + (3 * x5)) ∧ (258 + (3 * x5)) < 5780)) ∧ (((c 79 (258 + (3 * x5))) = x1 → (((-2147483648 ≤ (258 + (3 * x5)) + 1 ∧ (258 + (3 * x5)) + 1 < 2147483648) ∧ (0 ≤ ((258 + (3 * x5)) + 1) ∧ ((258 + (3 * x5)) + 1) < 5780)) ∧ ((x2 < (c 79 ((258 + (3 * x5)) + 1)) → ((-2147483648 ≤ x5 + 1 ∧ x5 + 1 < 2147483648) ∧ Q (cev 252 6 8 [vR 78, vI x1, vI x2, vI x3, vI x4, vI (x5 + 1), vU] [] (SH T, c)))) ∧ (¬ x2 < (c 79 ((258 + (3 * x5)) + 1)) → (((-2147483648 ≤ (258 + (3 * x5)) + 1 ∧ (258 + (3 * x5)) + 1 < 2147483648) ∧ (0 ≤ ((258 + (3 * x5)) + 1) ∧ ((258 + (3 * x5)) + 1) < 5780)) ∧ (((c 79 ((258 + (3 * x5)) + 1)) < x4 → ((-2147483648 ≤ x5 + 1 ∧ x5 + 1 < 2147483648) ∧ Q (cev 252 6 8 [vR 78, vI x1, vI x2, vI x3, vI x4, vI (x5 + 1), vU] [] (SH T, c)))) ∧ (¬ (c 79 ((258 + (3 * x5)) + 1)) < x4 → (((-2147483648 ≤ (258 + (3 * x5)) + 1 ∧ (258 + (3 * x5)) + 1 < 2147483648) ∧ (0 ≤ ((258 + (3 * x5)) + 1) ∧ ((258 + (3 * x5)) + 1) < 5780) ∧ (-2147483648 ≤ (258 + (3 * x5)) + 2 ∧ (258 + (3 * x5)) + 2 < 2147483648) ∧ (0 ≤ ((258 + (3 * x5)) + 2) ∧ ((258 + (3 * x5)) + 2) < 5780) ∧ (-2147483648 ≤ x5 + 1 ∧ x5 + 1 < 2147483648)) ∧ Q (cev 252 6 8 [vR 78, vI x1, vI x2, vI (c 79 ((258 + (3 * x5)) + 2)), vI (c 79 ((258 + (3 * x5)) + 1)), vI (x5 + 1), vU] [] (SH T, c)))))))))) ∧ (¬ (c 79 (258 + (3 * x5))) = x1 → ((-2147483648 ≤ x5 + 1 ∧ x5 + 1 < 2147483648) ∧ Q (cev 252 6 8 [vR 78, vI x1, vI x2, vI x3, vI x4, vI (x5 + 1), vU] [] (SH T, c))))))) ∧ (¬ x5 < (c 79 3) → ((x3 = (-1) → (QV T (fun c1 => (QI T (fun r2 c3 => (QI T (fun r4 c5 => (((0 ≤ r4 ∧ r4 < 2147483648) ∧ (0 : Int) < 10) ∧ (QL T (fun r6 c7 => Q (some (some (vI (clp r6 0 9)), (SH T, c7)))) (ccal 249 [vR 78, vI 0, vL (clp (r4 / 10) 0 9)] (SH T, c5))))) (ccal 251 [vR 78, vI x2] (SH T, (up c3 92 2 r2))))) (ccal 251 [vR 78, vI x2] (SH T, (up c1 92 1 x1))))) (ccal 250 [vR 78, vI x2] (SH T, c)))) ∧ (¬ x3 = (-1) → Q (some (some (vI x3), (SH T, c)))))))) : Q (cev 252 6 8 [vR 78, vI x1, vI x2, vI x3, vI x4, vI x5, vU] [] (SH T, c)) := by
  refine of_cev (Q := Q) ?_
  refine wq_ite (Q := Q) (p := x5 < (c 79 3)) (fun h => ?_) (fun h => ?_)
  · replace k := k.1 h
    refine wq_pos (Q := Q) k.1.1 ?_
    refine wq_pos (Q := Q) k.1.2.1 ?_
    refine wq_pos (Q := Q) k.1.2.2 ?_
    replace k := k.2
    refine wq_ite (Q := Q) (p := (c 79 (258 + (3 * x5))) = x1) (fun h => ?_) (fun h => ?_)
    · replace k := k.1 h
      refine wq_pos (Q := Q) k.1.1 ?_
      refine wq_pos (Q := Q) k.1.2 ?_
      replace k := k.2
      refine wq_ite (Q := Q) (p := x2 < (c 79 ((258 + (3 * x5)) + 1))) (fun h => ?_) (fun h => ?_)
      · replace k := k.1 h
        show Q (cev 252 6 88 [vR 78, vI x1, vI x2, vI x3, vI x4, vI x5, vU] [] (SH T, c))
        refine of_cev (Q := Q) ?_
        refine wq_pos (Q := Q) k.1 ?_
        replace k := k.2
        exact k
      · replace k := k.2 h
        refine wq_pos (Q := Q) k.1.1 ?_
        refine wq_pos (Q := Q) k.1.2 ?_
        replace k := k.2
        refine wq_ite (Q := Q) (p := (c 79 ((258 + (3 * x5)) + 1)) < x4) (fun h => ?_) (fun h => ?_)
        · replace k := k.1 h
          show Q (cev 252 6 88 [vR 78, vI x1, vI x2, vI x3, vI x4, vI x5, vU] [] (SH T, c))
          refine of_cev (Q := Q) ?_
          refine wq_pos (Q := Q) k.1 ?_
          replace k := k.2
          exact k
        · replace k := k.2 h
          refine wq_pos (Q := Q) k.1.1 ?_
          refine wq_pos (Q := Q) k.1.2.1 ?_
          refine wq_pos (Q := Q) k.1.2.2.1 ?_
          refine wq_pos (Q := Q) k.1.2.2.2.1 ?_
          show Q (cev 252 6 88 [vR 78, vI x1, vI x2, vI (c 79 ((258 + (3 * x5)) + 2)), vI (c 79 ((258 + (3 * x5)) + 1)), vI x5, vU] [] (SH T, c))
          refine of_cev (Q := Q) ?_
          refine wq_pos (Q := Q) k.1.2.2.2.2 ?_
          replace k := k.2
          exact k
    · replace k := k.2 h
      show Q (cev 252 6 88 [vR 78, vI x1, vI x2, vI x3, vI x4, vI x5, vU] [] (SH T, c))
      refine of_cev (Q := Q) ?_
      refine wq_pos (Q := Q) k.1 ?_
      replace k := k.2
      exact k
  · replace k := k.2 h
    show Q (cev 252 6 94 [vR 78, vI x1, vI x2, vI x3, vU, vU, vU] [] (SH T, c))
    refine of_cev (Q := Q) ?_
    refine wq_ite (Q := Q) (p := x3 = (-1)) (fun h => ?_) (fun h => ?_)
    · replace k := k.1 h
      show Q (cev 252 6 101 [vR 78, vI x1, vI x2, vU, vU, vU, vU] [] (SH T, c))
      refine of_cev (Q := Q) ?_
      refine wq_callV (Q := Q) rfl k ?_
      intro c1 k
      refine wq_callI (Q := Q) rfl k ?_
      intro r2 c3 k
      refine wq_callI (Q := Q) rfl k ?_
      intro r4 c5 k
      refine wq_pos (Q := Q) k.1 ?_
      refine wq_sum (Q := Q) rfl (S_X12_within T c5 (r4 / 10) 0 9 (by decide)) ?_
      replace k := k.2
      refine wq_callL (Q := Q) rfl k ?_
      intro r6 c7 k
      refine wq_sum (Q := Q) rfl (S_X12_within T c7 r6 0 9 (by decide)) ?_
      exact k
    · replace k := k.2 h
      exact k
set_option maxRecDepth 20000 in
theorem W_X12_letsOf {T : List Shp} {c : Nat → Int → Int} {Q : Res → Prop} {x1 x2 : Int} (k : (QV T (fun c1 => (QI T (fun r2 c3 => (QL T (fun r4 c5 => Q (some (some (vI (clp r4 0 9)), (SH T, c5)))) (ccal 249 [vR 78, vI 1, vL 9] (SH T, (up c3 92 2 r2))))) (ccal 251 [vR 78, vI x2] (SH T, (up c1 92 1 x1))))) (ccal 250 [vR 78, vI x2] (SH T, c)))) : Q (ccal 253 [vR 78, vI x1, vI x2] (SH T, c)) := by
  refine of_cev (Q := Q) ?_
  refine wq_callV (Q := Q) rfl k ?_
  intro c1 k
  refine wq_callI (Q := Q) rfl k ?_
  intro r2 c3 k
  refine wq_callL (Q := Q) rfl k ?_
  intro r4 c5 k
  refine wq_sum (Q := Q) rfl (S_X12_within T c5 r4 0 9 (by decide)) ?_
  exact k
set_option maxRecDepth 20000 in
theorem W_X12_setPainter {T : List Shp} {c : Nat → Int → Int} {Q : Res → Prop} {x1 x2 : Int} (k : (QV T (fun c1 => (QI T (fun r2 c3 => (((-2147483648 ≤ 5 * x1 ∧ 5 * x1 < 2147483648) ∧ (-2147483648 ≤ 233 + (5 * x1) ∧ 233 + (5 * x1) < 2147483648) ∧ (-2147483648 ≤ (233 + (5 * x1)) + 1 ∧ (233 + (5 * x1)) + 1 < 2147483648) ∧ (0 ≤ ((233 + (5 * x1)) + 1) ∧ ((233 + (5 * x1)) + 1) < 5780)) ∧ Q (some (none, (SH T, (up (up (up c3 92 2 r2) 92 4 x1) 92 5 (c3 79 ((233 + (5 * x1)) + 1)))))))) (ccal 251 [vR 78, vI x2] (SH T, c1)))) (ccal 250 [vR 78, vI x2] (SH T, c)))) : Q (ccal 254 [vR 78, vI x1, vI x2] (SH T, c)) := by
  refine of_cev (Q := Q) ?_
  refine wq_callV (Q := Q) rfl k ?_
  intro c1 k
  refine wq_callI (Q := Q) rfl k ?_
  intro r2 c3 k
  refine wq_pos (Q := Q) k.1.1 ?_
  refine wq_pos (Q := Q) k.1.2.1 ?_
  refine wq_pos (Q := Q) k.1.2.2.1 ?_
  refine wq_pos (Q := Q) k.1.2.2.2 ?_
  replace k := k.2
  exact k
set_option maxRecDepth 20000 in
theorem W_X12_asksOf {T : List Shp} {c : Nat → Int → Int} {Q : Res → Prop} {x1 x2 : Int} (k : (QV T (fun c1 => (((-2147483648 ≤ 5 * x1 ∧ 5 * x1 < 2147483648) ∧ (-2147483648 ≤ 233 + (5 * x1) ∧ 233 + (5 * x1) < 2147483648) ∧ (-2147483648 ≤ (233 + (5 * x1)) + 1 ∧ (233 + (5 * x1)) + 1 < 2147483648) ∧ (0 ≤ ((233 + (5 * x1)) + 1) ∧ ((233 + (5 * x1)) + 1) < 5780)) ∧ (QL T (fun r2 c3 => Q (some (some (vI (clp r2 0 999)), (SH T, c3)))) (ccal 249 [vR 78, vI 2, vL (c1 79 ((233 + (5 * x1)) + 1))] (SH T, c1))))) (ccal 254 [vR 78, vI x1, vI x2] (SH T, c)))) : Q (ccal 255 [vR 78, vI x1, vI x2] (SH T, c)) := by
  refine of_cev (Q := Q) ?_
  refine wq_callV (Q := Q) rfl k ?_
  intro c1 k
  refine wq_pos (Q := Q) k.1.1 ?_
  refine wq_pos (Q := Q) k.1.2.1 ?_
  refine wq_pos (Q := Q) k.1.2.2.1 ?_
  refine wq_pos (Q := Q) k.1.2.2.2 ?_
  replace k := k.2
  refine wq_callL (Q := Q) rfl k ?_
  intro r2 c3 k
  refine wq_sum (Q := Q) rfl (S_X12_within T c3 r2 0 999 (by decide)) ?_
  exact k
set_option maxRecDepth 20000 in
theorem W_X12_isBarred {T : List Shp} {c : Nat → Int → Int} {Q : Res → Prop} {x1 x2 : Int} (k : (QV T (fun c1 => (QL T (fun r2 c3 => ((r2 = 1 → Q (some (some (vI 1), (SH T, c3)))) ∧ (¬ r2 = 1 → Q (some (some (vI 0), (SH T, c3)))))) (ccal 249 [vR 78, vI 4, vL 0] (SH T, c1)))) (ccal 254 [vR 78, vI x1, vI x2] (SH T, c)))) : Q (ccal 256 [vR 78, vI x1, vI x2] (SH T, c)) := by
  refine of_cev (Q := Q) ?_
  refine wq_callV (Q := Q) rfl k ?_
  intro c1 k
  refine wq_callL (Q := Q) rfl k ?_
  intro r2 c3 k
  refine wq_lc1 (Q := Q) (x := r2) (y := 1) (fun h => ?_) (fun h => ?_)
  · replace k := k.1 h
    exact k
  · replace k := k.2 h
    show Q (cev 256 6 21 [vU, vU, vU] [] (SH T, c3))
    refine of_cev (Q := Q) ?_
    exact k
set_option maxRecDepth 20000 in
theorem W_X12_looks {T : List Shp} {c : Nat → Int → Int} {Q : Res → Prop} {x1 x2 x3 : Int} (k : ((0 ≤ x2 ∧ x2 < 100 → ((x1 = (-1) → Q (cev 257 7 36 [vR 78, vI x1, vI x2, vI x3] [] (SH T, (up c 77 0 0)))) ∧ (¬ x1 = (-1) → ((0 ≤ x1 ∧ x1 < 12 → ((0 ≤ x3 ∧ x3 ≤ 1 → Q (cev 257 7 36 [vR 78, vI x1, vI x2, vI x3] [] (SH T, (up c 77 0 0)))) ∧ (¬ (0 ≤ x3 ∧ x3 ≤ 1) → Q (some (some (vI (-1)), (SH T, (up c 77 0 0))))))) ∧ (¬ (0 ≤ x1 ∧ x1 < 12) → Q (some (some (vI (-1)), (SH T, (up c 77 0 0))))))))) ∧ (¬ (0 ≤ x2 ∧ x2 < 100) → Q (some (some (vI (-1)), (SH T, (up c 77 0 0))))))) : Q (ccal 257 [vR 78, vI x1, vI x2, vI x3] (SH T, c)) := by
  refine of_cev (Q := Q) ?_
  refine wq_sum (Q := Q) rfl (S_X12_isYear T (up c 77 0 0) x2) ?_
  refine wq_b01 (Q := Q) (p := 0 ≤ x2 ∧ x2 < 100) (fun h => ?_) (fun h => ?_)
  · replace k := k.2 h
    show Q (cev 257 7 34 [vU, vU, vU, vU] [] (SH T, (up c 77 0 0)))
    refine of_cev (Q := Q) ?_
    exact k
  · replace k := k.1 h
    refine wq_ite (Q := Q) (p := x1 = (-1)) (fun h => ?_) (fun h => ?_)
    · replace k := k.1 h
      exact k
    · replace k := k.2 h
      refine wq_sum (Q := Q) rfl (S_X12_isCell T (up c 77 0 0) x1) ?_
      refine wq_b01 (Q := Q) (p := 0 ≤ x1 ∧ x1 < 12) (fun h => ?_) (fun h => ?_)
      · replace k := k.2 h
        show Q (cev 257 7 34 [vU, vU, vU, vU] [] (SH T, (up c 77 0 0)))
        refine of_cev (Q := Q) ?_
        exact k
      · replace k := k.1 h
        refine wq_sum (Q := Q) rfl (S_X12_in T (up c 77 0 0) x3 0 1) ?_
        refine wq_b01 (Q := Q) (p := 0 ≤ x3 ∧ x3 ≤ 1) (fun h => ?_) (fun h => ?_)
        · replace k := k.2 h
          show Q (cev 257 7 34 [vU, vU, vU, vU] [] (SH T, (up c 77 0 0)))
          refine of_cev (Q := Q) ?_
          exact k
        · replace k := k.1 h
          exact k
set_option maxRecDepth 20000 in
theorem W_X12_looks_36 {T : List Shp} {c : Nat → Int → Int} {Q : Res → Prop} {x1 x2 x3 : Int} (k : ((x1 = (-1) → (QI T (fun r1 c2 => Q (some (some (vI r1), (SH T, c2)))) (ccal 251 [vR 78, vI x2] (SH T, c)))) ∧ (¬ x1 = (-1) → ((x3 = 0 → (QI T (fun r3 c4 => Q (some (some (vI r3), (SH T, c4)))) (ccal 252 [vR 78, vI x1, vI x2] (SH T, c)))) ∧ (¬ x3 = 0 → (QI T (fun r5 c6 => Q (some (some (vI r5), (SH T, c6)))) (ccal 253 [vR 78, vI x1, vI x2] (SH T, c)))))))) : Q (cev 257 7 36 [vR 78, vI x1, vI x2, vI x3] [] (SH T, c)) := by
  refine of_cev (Q := Q) ?_
  refine wq_ite (Q := Q) (p := x1 = (-1)) (fun h => ?_) (fun h => ?_)
  · replace k := k.1 h
    refine wq_callI (Q := Q) rfl k ?_
    intro r1 c2 k
    exact k
  · replace k := k.2 h
    show Q (cev 257 7 49 [vR 78, vI x1, vI x2, vI x3] [] (SH T, c))
    refine of_cev (Q := Q) ?_
    refine wq_ite (Q := Q) (p := x3 = 0) (fun h => ?_) (fun h => ?_)
    · replace k := k.1 h
      refine wq_callI (Q := Q) rfl k ?_
      intro r3 c4 k
      exact k
    · replace k := k.2 h
      show Q (cev 257 7 62 [vR 78, vI x1, vI x2, vU] [] (SH T, c))
      refine of_cev (Q := Q) ?_
      refine wq_callI (Q := Q) rfl k ?_
      intro r5 c6 k
      exact k
set_option maxRecDepth 20000 in
theorem W_X12_asks {T : List Shp} {c : Nat → Int → Int} {Q : Res → Prop} {x1 x2 x3 : Int} (k : ((-9223372036854775808 ≤ (c 79 0) - 1 ∧ (c 79 0) - 1 < 9223372036854775808) ∧ ((0 ≤ x1 ∧ x1 < (c 79 0) → ((0 ≤ x2 ∧ x2 < 100 → ((0 ≤ x3 ∧ x3 ≤ 1 → ((x3 = 0 → (QI T (fun r1 c2 => Q (some (some (vI r1), (SH T, c2)))) (ccal 255 [vR 78, vI x1, vI x2] (SH T, (up c 77 0 0))))) ∧ (¬ x3 = 0 → (QI T (fun r3 c4 => ((r3 = 0 → Q (some (some (vI 0), (SH T, c4)))) ∧ (¬ r3 = 0 → Q (some (some (vI 1), (SH T, c4)))))) (ccal 256 [vR 78, vI x1, vI x2] (SH T, (up c 77 0 0))))))) ∧ (¬ (0 ≤ x3 ∧ x3 ≤ 1) → Q (some (some (vI (-1)), (SH T, (up c 77 0 0))))))) ∧ (¬ (0 ≤ x2 ∧ x2 < 100) → Q (some (some (vI (-1)), (SH T, (up c 77 0 0))))))) ∧ (¬ (0 ≤ x1 ∧ x1 < (c 79 0)) → Q (some (some (vI (-1)), (SH T, (up c 77 0 0)))))))) : Q (ccal 258 [vR 78, vI x1, vI x2, vI x3] (SH T, c)) := by
  refine of_cev (Q := Q) ?_
  refine wq_sum (Q := Q) rfl (S_X12_isPainter T (up c 77 0 0) x1 k.1) ?_
  replace k := k.2
  refine wq_b01 (Q := Q) (p := 0 ≤ x1 ∧ x1 < (c 79 0)) (fun h => ?_) (fun h => ?_)
  · replace k := k.2 h
    show Q (cev 258 7 30 [vU, vU, vU, vU] [] (SH T, (up c 77 0 0)))
    refine of_cev (Q := Q) ?_
    exact k
  · replace k := k.1 h
    refine wq_sum (Q := Q) rfl (S_X12_isYear T (up c 77 0 0) x2) ?_
    refine wq_b01 (Q := Q) (p := 0 ≤ x2 ∧ x2 < 100) (fun h => ?_) (fun h => ?_)
    · replace k := k.2 h
      show Q (cev 258 7 30 [vU, vU, vU, vU] [] (SH T, (up c 77 0 0)))
      refine of_cev (Q := Q) ?_
      exact k
    · replace k := k.1 h
      refine wq_sum (Q := Q) rfl (S_X12_in T (up c 77 0 0) x3 0 1) ?_
      refine wq_b01 (Q := Q) (p := 0 ≤ x3 ∧ x3 ≤ 1) (fun h => ?_) (fun h => ?_)
      · replace k := k.2 h
        show Q (cev 258 7 30 [vU, vU, vU, vU] [] (SH T, (up c 77 0 0)))
        refine of_cev (Q := Q) ?_
        exact k
      · replace k := k.1 h
        show Q (cev 258 7 32 [vR 78, vI x1, vI x2, vI x3] [] (SH T, (up c 77 0 0)))
        refine of_cev (Q := Q) ?_
        refine wq_ite (Q := Q) (p := x3 = 0) (fun h => ?_) (fun h => ?_)
        · replace k := k.1 h
          refine wq_callI (Q := Q) rfl k ?_
          intro r1 c2 k
          exact k
        · replace k := k.2 h
          show Q (cev 258 7 45 [vR 78, vI x1, vI x2, vU] [] (SH T, (up c 77 0 0)))
          refine of_cev (Q := Q) ?_
          refine wq_callI (Q := Q) rfl k ?_
          intro r3 c4 k
          refine wq_ite (Q := Q) (p := r3 = 0) (fun h => ?_) (fun h => ?_)
          · replace k := k.1 h
            show Q (cev 258 7 58 [vU, vU, vU, vU] [] (SH T, c4))
            refine of_cev (Q := Q) ?_
            exact k
          · replace k := k.2 h
            exact k
set_option maxRecDepth 20000 in
theorem W_X12_layLooks {T : List Shp} {c : Nat → Int → Int} {Q : Res → Prop} {x1 : Int} (k : Q (cev 259 7 2 [vR 78, vI x1, vI 0] [] (SH T, c))) : Q (ccal 259 [vR 78, vI x1] (SH T, c)) := by
  refine of_cev (Q := Q) ?_
  exact k
set_option maxRecDepth 20000 in
theorem W_X12_layLooks_2 {T : List Shp} {c : Nat → Int → Int} {Q : Res → Prop} {x1 x2 : Int} (k : ((x2 < 12 → (((-2147483648 ≤ 12 * x1 ∧ 12 * x1 < 2147483648) ∧ (-2147483648 ≤ (12 * x1) + x2 ∧ (12 * x1) + x2 < 2147483648)) ∧ (QI T (fun r1 c2 => (((0 ≤ ((12 * x1) + x2) ∧ ((12 * x1) + x2) < 1200) ∧ (-2147483648 ≤ x2 + 1 ∧ x2 + 1 < 2147483648)) ∧ Q (cev 259 7 2 [vR 78, vI x1, vI (x2 + 1)] [] (SH T, (up c2 95 ((12 * x1) + x2) r1))))) (ccal 252 [vR 78, vI x2, vI x1] (SH T, c))))) ∧ (¬ x2 < 12 → Q (some (none, (SH T, c)))))) : Q (cev 259 7 2 [vR 78, vI x1, vI x2] [] (SH T, c)) := by
  refine of_cev (Q := Q) ?_
  refine wq_ite (Q := Q) (p := x2 < 12) (fun h => ?_) (fun h => ?_)
  · replace k := k.1 h
    refine wq_pos (Q := Q) k.1.1 ?_
    refine wq_pos (Q := Q) k.1.2 ?_
    replace k := k.2
    refine wq_callI (Q := Q) rfl k ?_
    intro r1 c2 k
    refine wq_pos (Q := Q) k.1.1 ?_
    refine wq_pos (Q := Q) k.1.2 ?_
    replace k := k.2
    exact k
  · replace k := k.2 h
    show Q (cev 259 7 31 [vU, vU, vU] [] (SH T, c))
    refine of_cev (Q := Q) ?_
    exact k
set_option maxRecDepth 20000 in
theorem W_X12_painted {T : List Shp} {c : Nat → Int → Int} {Q : Res → Prop} {x1 x2 x3 x4 : Int} (k : (((-2147483648 ≤ 5 * x1 ∧ 5 * x1 < 2147483648) ∧ (-2147483648 ≤ 233 + (5 * x1) ∧ 233 + (5 * x1) < 2147483648) ∧ (-2147483648 ≤ 12 * x3 ∧ 12 * x3 < 2147483648) ∧ (-2147483648 ≤ (12 * x3) + x2 ∧ (12 * x3) + x2 < 2147483648) ∧ (0 ≤ ((12 * x3) + x2) ∧ ((12 * x3) + x2) < 1200) ∧ (-2147483648 ≤ (c 95 ((12 * x3) + x2)) - x4 ∧ (c 95 ((12 * x3) + x2)) - x4 < 2147483648) ∧ (0 ≤ (233 + (5 * x1)) ∧ (233 + (5 * x1)) < 5780) ∧ (-2147483648 ≤ -(c 79 (233 + (5 * x1))) ∧ -(c 79 (233 + (5 * x1))) < 2147483648) ∧ (-2147483648 ≤ (-(c 79 (233 + (5 * x1)))) ∧ (c 79 (233 + (5 * x1))) < 2147483648) ∧ (-2147483648 ≤ x4 + (clp ((c 95 ((12 * x3) + x2)) - x4) (-(c 79 (233 + (5 * x1)))) (c 79 (233 + (5 * x1)))) ∧ x4 + (clp ((c 95 ((12 * x3) + x2)) - x4) (-(c 79 (233 + (5 * x1)))) (c 79 (233 + (5 * x1)))) < 2147483648) ∧ (-2147483648 ≤ (233 + (5 * x1)) + 2 ∧ (233 + (5 * x1)) + 2 < 2147483648) ∧ ((0 ≤ x2 ∧ x2 < 2147483648) ∧ (0 : Int) < 3) ∧ (-2147483648 ≤ ((233 + (5 * x1)) + 2) + (x2 % 3) ∧ ((233 + (5 * x1)) + 2) + (x2 % 3) < 2147483648) ∧ (0 ≤ (((233 + (5 * x1)) + 2) + (x2 % 3)) ∧ (((233 + (5 * x1)) + 2) + (x2 % 3)) < 5780) ∧ (-2147483648 ≤ (x4 + (clp ((c 95 ((12 * x3) + x2)) - x4) (-(c 79 (233 + (5 * x1)))) (c 79 (233 + (5 * x1))))) + (c 79 (((233 + (5 * x1)) + 2) + (x2 % 3))) ∧ (x4 + (clp ((c 95 ((12 * x3) + x2)) - x4) (-(c 79 (233 + (5 * x1)))) (c 79 (233 + (5 * x1))))) + (c 79 (((233 + (5 * x1)) + 2) + (x2 % 3))) < 2147483648) ∧ (-2147483648 ≤ ((x4 + (clp ((c 95 ((12 * x3) + x2)) - x4) (-(c 79 (233 + (5 * x1)))) (c 79 (233 + (5 * x1))))) + (c 79 (((233 + (5 * x1)) + 2) + (x2 % 3)))) - 3 ∧ ((x4 + (clp ((c 95 ((12 * x3) + x2)) - x4) (-(c 79 (233 + (5 * x1)))) (c 79 (233 + (5 * x1))))) + (c 79 (((233 + (5 * x1)) + 2) + (x2 % 3)))) - 3 < 2147483648)) ∧ Q (some (some (vI (clp (((x4 + (clp ((c 95 ((12 * x3) + x2)) - x4) (-(c 79 (233 + (5 * x1)))) (c 79 (233 + (5 * x1))))) + (c 79 (((233 + (5 * x1)) + 2) + (x2 % 3)))) - 3) 0 9)), (SH T, c))))) : Q (ccal 260 [vR 78, vI x1, vI x2, vI x3, vI x4] (SH T, c)) := by
  refine of_cev (Q := Q) ?_
  refine wq_pos (Q := Q) k.1.1 ?_
  refine wq_pos (Q := Q) k.1.2.1 ?_
  refine wq_pos (Q := Q) k.1.2.2.1 ?_
  refine wq_pos (Q := Q) k.1.2.2.2.1 ?_
  refine wq_pos (Q := Q) k.1.2.2.2.2.1 ?_
  refine wq_pos (Q := Q) k.1.2.2.2.2.2.1 ?_
  refine wq_pos (Q := Q) k.1.2.2.2.2.2.2.1 ?_
  refine wq_pos (Q := Q) k.1.2.2.2.2.2.2.2.1 ?_
  refine wq_pos (Q := Q) k.1.2.2.2.2.2.2.1 ?_
  refine wq_sum (Q := Q) rfl (S_X12_within T c ((c 95 ((12 * x3) + x2)) - x4) (-(c 79 (233 + (5 * x1)))) (c 79 (233 + (5 * x1))) k.1.2.2.2.2.2.2.2.2.1) ?_
  refine wq_pos (Q := Q) k.1.2.2.2.2.2.2.2.2.2.1 ?_
  refine wq_pos (Q := Q) k.1.2.2.2.2.2.2.2.2.2.2.1 ?_
  refine wq_pos (Q := Q) k.1.2.2.2.2.2.2.2.2.2.2.2.1 ?_
  refine wq_pos (Q := Q) k.1.2.2.2.2.2.2.2.2.2.2.2.2.1 ?_
  refine wq_pos (Q := Q) k.1.2.2.2.2.2.2.2.2.2.2.2.2.2.1 ?_
  refine wq_pos (Q := Q) k.1.2.2.2.2.2.2.2.2.2.2.2.2.2.2.1 ?_
  refine wq_pos (Q := Q) k.1.2.2.2.2.2.2.2.2.2.2.2.2.2.2.2 ?_
  refine wq_sum (Q := Q) rfl (S_X12_within T c (((x4 + (clp ((c 95 ((12 * x3) + x2)) - x4) (-(c 79 (233 + (5 * x1)))) (c 79 (233 + (5 * x1))))) + (c 79 (((233 + (5 * x1)) + 2) + (x2 % 3)))) - 3) 0 9 (by decide)) ?_
  replace k := k.2
  exact k
set_option maxRecDepth 20000 in
theorem W_X12_paintPaper {T : List Shp} {c : Nat → Int → Int} {Q : Res → Prop} {x1 x2 x3 x4 : Int} (k : Q (cev 261 3 3 [vR 78, vI x1, vI x2, vI x3, vI x4, vI 0] [] (SH T, c))) : Q (ccal 261 [vR 78, vI x1, vI x2, vI x3, vI x4] (SH T, c)) := by
  refine of_cev (Q := Q) ?_
  exact k
set_option maxRecDepth 20000 in
theorem W_X12_paintPaper_3 {T : List Shp} {c : Nat → Int → Int} {Q : Res → Prop} {x1 x2 x3 x4 x5 : Int} (k : ((x5 < 12 → (((-2147483648 ≤ 12 * x2 ∧ 12 * x2 < 2147483648) ∧ (-2147483648 ≤ (12 * x2) + x5 ∧ (12 * x2) + x5 < 2147483648) ∧ (-2147483648 ≤ 12 * x1 ∧ 12 * x1 < 2147483648) ∧ (-2147483648 ≤ (12 * x1) + x5 ∧ (12 * x1) + x5 < 2147483648) ∧ (0 ≤ ((12 * x1) + x5) ∧ ((12 * x1) + x5) < 600)) ∧ (QI T (fun r1 c2 => (((0 ≤ ((12 * x2) + x5) ∧ ((12 * x2) + x5) < 600) ∧ (-2147483648 ≤ x5 + 1 ∧ x5 + 1 < 2147483648)) ∧ Q (cev 261 3 3 [vR 78, vI x1, vI x2, vI x3, vI x4, vI (x5 + 1)] [] (SH T, (up c2 96 ((12 * x2) + x5) r1))))) (ccal 260 [vR 78, vI x3, vI x5, vI x4, vI (c 96 ((12 * x1) + x5))] (SH T, c))))) ∧ (¬ x5 < 12 → Q (some (none, (SH T, c)))))) : Q (cev 261 3 3 [vR 78, vI x1, vI x2, vI x3, vI x4, vI x5] [] (SH T, c)) := by
  refine of_cev (Q := Q) ?_
  refine wq_ite (Q := Q) (p := x5 < 12) (fun h => ?_) (fun h => ?_)
  · replace k := k.1 h
    refine wq_pos (Q := Q) k.1.1 ?_
    refine wq_pos (Q := Q) k.1.2.1 ?_
    refine wq_pos (Q := Q) k.1.2.2.1 ?_
    refine wq_pos (Q := Q) k.1.2.2.2.1 ?_
    refine wq_pos (Q := Q) k.1.2.2.2.2 ?_
    replace k := k.2
    refine wq_callI (Q := Q) rfl k ?_
    intro r1 c2 k
    refine wq_pos (Q := Q) k.1.1 ?_
    refine wq_pos (Q := Q) k.1.2 ?_
    replace k := k.2
    exact k
  · replace k := k.2 h
    show Q (cev 261 3 49 [vU, vU, vU, vU, vU, vU] [] (SH T, c))
    refine of_cev (Q := Q) ?_
    exact k
set_option maxRecDepth 20000 in
theorem W_X12_loadPaper {T : List Shp} {c : Nat → Int → Int} {Q : Res → Prop} {x1 x2 : Int} (k : Q (cev 262 2 2 [vR 78, vI x1, vI x2, vI 0] [] (SH T, c))) : Q (ccal 262 [vR 78, vI x1, vI x2] (SH T, c)) := by
  refine of_cev (Q := Q) ?_
  exact k
set_option maxRecDepth 20000 in
theorem W_X12_loadPaper_2 {T : List Shp} {c : Nat → Int → Int} {Q : Res → Prop} {x1 x2 x3 : Int} (k : ((x3 < 12 → (((-2147483648 ≤ 12 * x1 ∧ 12 * x1 < 2147483648) ∧ (-2147483648 ≤ (12 * x1) + x3 ∧ (12 * x1) + x3 < 2147483648) ∧ (0 ≤ x2 ∧ x2 < 100) ∧ (0 ≤ x3 ∧ x3 < 12) ∧ (0 ≤ ((12 * x1) + x3) ∧ ((12 * x1) + x3) < 600) ∧ (-2147483648 ≤ x3 + 1 ∧ x3 + 1 < 2147483648)) ∧ Q (cev 262 2 2 [vR 78, vI x1, vI x2, vI (x3 + 1)] [] (SH T, (up c 96 ((12 * x1) + x3) (c 79 (12 + 12 * x2 + x3))))))) ∧ (¬ x3 < 12 → Q (some (none, (SH T, c)))))) : Q (cev 262 2 2 [vR 78, vI x1, vI x2, vI x3] [] (SH T, c)) := by
  refine of_cev (Q := Q) ?_
  refine wq_ite (Q := Q) (p := x3 < 12) (fun h => ?_) (fun h => ?_)
  · replace k := k.1 h
    refine wq_pos (Q := Q) k.1.1 ?_
    refine wq_pos (Q := Q) k.1.2.1 ?_
    refine wq_sum (Q := Q) rfl (S_X12_toneAt T c x2 x3 k.1.2.2.1 k.1.2.2.2.1) ?_
    refine wq_pos (Q := Q) k.1.2.2.2.2.1 ?_
    refine wq_pos (Q := Q) k.1.2.2.2.2.2 ?_
    replace k := k.2
    exact k
  · replace k := k.2 h
    show Q (cev 262 2 31 [vU, vU, vU, vU] [] (SH T, c))
    refine of_cev (Q := Q) ?_
    exact k
set_option maxRecDepth 20000 in
theorem W_X12_unlikePaper {T : List Shp} {c : Nat → Int → Int} {Q : Res → Prop} {x1 x2 : Int} (k : Q (cev 263 2 5 [vR 78, vI x1, vI x2, vI 0, vI 0] [] (SH T, c))) : Q (ccal 263 [vR 78, vI x1, vI x2] (SH T, c)) := by
  refine of_cev (Q := Q) ?_
  exact k
set_option maxRecDepth 20000 in
theorem W_X12_unlikePaper_5 {T : List Shp} {c : Nat → Int → Int} {Q : Res → Prop} {x1 x2 x3 x4 : Int} (k : ((x4 < 12 → (((-2147483648 ≤ 12 * x1 ∧ 12 * x1 < 2147483648) ∧ (-2147483648 ≤ (12 * x1) + x4 ∧ (12 * x1) + x4 < 2147483648) ∧ (0 ≤ ((12 * x1) + x4) ∧ ((12 * x1) + x4) < 600) ∧ (-2147483648 ≤ 12 * x2 ∧ 12 * x2 < 2147483648) ∧ (-2147483648 ≤ (12 * x2) + x4 ∧ (12 * x2) + x4 < 2147483648) ∧ (0 ≤ ((12 * x2) + x4) ∧ ((12 * x2) + x4) < 1200) ∧ (-2147483648 ≤ (c 96 ((12 * x1) + x4)) - (c 95 ((12 * x2) + x4)) ∧ (c 96 ((12 * x1) + x4)) - (c 95 ((12 * x2) + x4)) < 2147483648) ∧ (-2147483648 ≤ -((c 96 ((12 * x1) + x4)) - (c 95 ((12 * x2) + x4))) ∧ -((c 96 ((12 * x1) + x4)) - (c 95 ((12 * x2) + x4))) < 2147483648) ∧ (-2147483648 ≤ x3 + (abz ((c 96 ((12 * x1) + x4)) - (c 95 ((12 * x2) + x4)))) ∧ x3 + (abz ((c 96 ((12 * x1) + x4)) - (c 95 ((12 * x2) + x4)))) < 2147483648) ∧ (-2147483648 ≤ x4 + 1 ∧ x4 + 1 < 2147483648)) ∧ Q (cev 263 2 5 [vR 78, vI x1, vI x2, vI (x3 + (abz ((c 96 ((12 * x1) + x4)) - (c 95 ((12 * x2) + x4))))), vI (x4 + 1)] [] (SH T, c)))) ∧ (¬ x4 < 12 → Q (some (some (vI x3), (SH T, c)))))) : Q (cev 263 2 5 [vR 78, vI x1, vI x2, vI x3, vI x4] [] (SH T, c)) := by
  refine of_cev (Q := Q) ?_
  refine wq_ite (Q := Q) (p := x4 < 12) (fun h => ?_) (fun h => ?_)
  · replace k := k.1 h
    refine wq_pos (Q := Q) k.1.1 ?_
    refine wq_pos (Q := Q) k.1.2.1 ?_
    refine wq_pos (Q := Q) k.1.2.2.1 ?_
    refine wq_pos (Q := Q) k.1.2.2.2.1 ?_
    refine wq_pos (Q := Q) k.1.2.2.2.2.1 ?_
    refine wq_pos (Q := Q) k.1.2.2.2.2.2.1 ?_
    refine wq_pos (Q := Q) k.1.2.2.2.2.2.2.1 ?_
    refine wq_sum (Q := Q) rfl (S_X12_size T c ((c 96 ((12 * x1) + x4)) - (c 95 ((12 * x2) + x4))) k.1.2.2.2.2.2.2.2.1) ?_
    refine wq_pos (Q := Q) k.1.2.2.2.2.2.2.2.2.1 ?_
    refine wq_pos (Q := Q) k.1.2.2.2.2.2.2.2.2.2 ?_
    replace k := k.2
    exact k
  · replace k := k.2 h
    show Q (cev 263 2 49 [vU, vU, vU, vI x3, vU] [] (SH T, c))
    refine of_cev (Q := Q) ?_
    exact k
set_option maxRecDepth 20000 in
theorem W_X12_unlikeOf {T : List Shp} {c : Nat → Int → Int} {Q : Res → Prop} {x1 : Int} (k : (QV T (fun c1 => (QV T (fun c2 => (QI T (fun r3 c4 => Q (some (some (vI r3), (SH T, c4)))) (ccal 263 [vR 78, vI 0, vI x1] (SH T, c2)))) (ccal 262 [vR 78, vI 0, vI x1] (SH T, c1)))) (ccal 259 [vR 78, vI x1] (SH T, c)))) : Q (ccal 264 [vR 78, vI x1] (SH T, c)) := by
  refine of_cev (Q := Q) ?_
  refine wq_callV (Q := Q) rfl k ?_
  intro c1 k
  refine wq_callV (Q := Q) rfl k ?_
  intro c2 k
  refine wq_callI (Q := Q) rfl k ?_
  intro r3 c4 k
  exact k
set_option maxRecDepth 20000 in
theorem W_X12_rests {T : List Shp} {c : Nat → Int → Int} {Q : Res → Prop} {x1 x2 : Int} (k : Q (cev 265 2 5 [vR 78, vI x1, vI x2, vI 0, vI 1] [] (SH T, c))) : Q (ccal 265 [vR 78, vI x1, vI x2] (SH T, c)) := by
  refine of_cev (Q := Q) ?_
  exact k
set_option maxRecDepth 20000 in
theorem W_X12_rests_5 {T : List Shp} {c : Nat → Int → Int} {Q : Res → Prop} {x1 x2 x3 x4 : Int} (k : (((c 79 11) < x4 → ((x3 = 0 ∨ x3 = 1) ∧ Q (some (some (vI x3), (SH T, c))))) ∧ (¬ (c 79 11) < x4 → ((x3 = 0 → ((-2147483648 ≤ x2 - x4 ∧ x2 - x4 < 2147483648) ∧ ((1 ≤ (x2 - x4) ∧ (x2 - x4) ≤ (c 79 4) → (((-2147483648 ≤ 216 + x2 ∧ 216 + x2 < 2147483648) ∧ (-2147483648 ≤ (216 + x2) - x4 ∧ (216 + x2) - x4 < 2147483648) ∧ (0 ≤ ((216 + x2) - x4) ∧ ((216 + x2) - x4) < 5780)) ∧ (((c 79 ((216 + x2) - x4)) = x1 → ((-2147483648 ≤ x4 + 1 ∧ x4 + 1 < 2147483648) ∧ Q (cev 265 2 5 [vR 78, vI x1, vI x2, vI 1, vI (x4 + 1)] [] (SH T, c)))) ∧ (¬ (c 79 ((216 + x2) - x4)) = x1 → ((-2147483648 ≤ x4 + 1 ∧ x4 + 1 < 2147483648) ∧ Q (cev 265 2 5 [vR 78, vI x1, vI x2, vI 0, vI (x4 + 1)] [] (SH T, c))))))) ∧ (¬ (1 ≤ (x2 - x4) ∧ (x2 - x4) ≤ (c 79 4)) → ((-2147483648 ≤ x4 + 1 ∧ x4 + 1 < 2147483648) ∧ Q (cev 265 2 5 [vR 78, vI x1, vI x2, vI 0, vI (x4 + 1)] [] (SH T, c))))))) ∧ (¬ x3 = 0 → ((-2147483648 ≤ x4 + 1 ∧ x4 + 1 < 2147483648) ∧ Q (cev 265 2 5 [vR 78, vI x1, vI x2, vI 1, vI (x4 + 1)] [] (SH T, c)))))))) : Q (cev 265 2 5 [vR 78, vI x1, vI x2, vI x3, vI x4] [] (SH T, c)) := by
  refine of_cev (Q := Q) ?_
  refine wq_ite (Q := Q) (p := (c 79 11) < x4) (fun h => ?_) (fun h => ?_)
  · replace k := k.1 h
    show Q (cev 265 2 67 [vU, vU, vU, vI x3, vU] [] (SH T, c))
    refine of_cev (Q := Q) ?_
    refine wq_pos (Q := Q) k.1 ?_
    replace k := k.2
    exact k
  · replace k := k.2 h
    refine wq_ite (Q := Q) (p := x3 = 0) (fun h => ?_) (fun h => ?_)
    · replace k := k.1 h
      refine wq_pos (Q := Q) k.1 ?_
      refine wq_sum (Q := Q) rfl (S_X12_years T c ) ?_
      refine wq_sum (Q := Q) rfl (S_X12_in T c (x2 - x4) 1 (c 79 4)) ?_
      replace k := k.2
      refine wq_b01 (Q := Q) (p := 1 ≤ (x2 - x4) ∧ (x2 - x4) ≤ (c 79 4)) (fun h => ?_) (fun h => ?_)
      · replace k := k.2 h
        show Q (cev 265 2 59 [vR 78, vI x1, vI x2, vU, vI x4] [] (SH T, c))
        refine of_cev (Q := Q) ?_
        refine wq_pos (Q := Q) k.1 ?_
        replace k := k.2
        exact k
      · replace k := k.1 h
        refine wq_pos (Q := Q) k.1.1 ?_
        refine wq_pos (Q := Q) k.1.2.1 ?_
        refine wq_pos (Q := Q) k.1.2.2 ?_
        replace k := k.2
        refine wq_ite (Q := Q) (p := (c 79 ((216 + x2) - x4)) = x1) (fun h => ?_) (fun h => ?_)
        · replace k := k.1 h
          show Q (cev 265 2 55 [vR 78, vI x1, vI x2, vU, vI x4] [] (SH T, c))
          refine of_cev (Q := Q) ?_
          refine wq_pos (Q := Q) k.1 ?_
          replace k := k.2
          exact k
        · replace k := k.2 h
          show Q (cev 265 2 59 [vR 78, vI x1, vI x2, vU, vI x4] [] (SH T, c))
          refine of_cev (Q := Q) ?_
          refine wq_pos (Q := Q) k.1 ?_
          replace k := k.2
          exact k
    · replace k := k.2 h
      show Q (cev 265 2 55 [vR 78, vI x1, vI x2, vU, vI x4] [] (SH T, c))
      refine of_cev (Q := Q) ?_
      refine wq_pos (Q := Q) k.1 ?_
      replace k := k.2
      exact k
set_option maxRecDepth 20000 in
theorem W_X12_paintNow {T : List Shp} {c : Nat → Int → Int} {Q : Res → Prop} {x1 : Int} (k : ((-2147483648 ≤ (c 79 4) + 1 ∧ (c 79 4) + 1 < 2147483648) ∧ (QI T (fun r1 c2 => ((r1 = 0 → (QI T (fun r3 c4 => ((r3 = 0 → ((16 < ((c 79 4) + 1) → Q (some (some (vI (-5)), (SH T, c4)))) ∧ (¬ 16 < ((c 79 4) + 1) → (QV T (fun c5 => ((-2147483648 ≤ ((c 79 4) + 1) - 1 ∧ ((c 79 4) + 1) - 1 < 2147483648) ∧ (QV T (fun c6 => (QV T (fun c7 => Q (cev 266 8 60 [vR 78, vI x1, vI ((c 79 4) + 1), vI 0] [] (SH T, c7))) (ccal 261 [vR 78, vI 0, vI 1, vI x1, vI ((c 79 4) + 1)] (SH T, c6)))) (ccal 262 [vR 78, vI 0, vI (((c 79 4) + 1) - 1)] (SH T, c5))))) (ccal 259 [vR 78, vI ((c 79 4) + 1)] (SH T, c4)))))) ∧ (¬ r3 = 0 → Q (some (some (vI (-3)), (SH T, c4)))))) (ccal 265 [vR 78, vI x1, vI ((c 79 4) + 1)] (SH T, c2)))) ∧ (¬ r1 = 0 → Q (some (some (vI (-3)), (SH T, c2)))))) (ccal 256 [vR 78, vI x1, vI ((c 79 4) + 1)] (SH T, c))))) : Q (ccal 266 [vR 78, vI x1] (SH T, c)) := by
  refine of_cev (Q := Q) ?_
  refine wq_sum (Q := Q) rfl (S_X12_years T c ) ?_
  refine wq_pos (Q := Q) k.1 ?_
  replace k := k.2
  refine wq_callI (Q := Q) rfl k ?_
  intro r1 c2 k
  refine wq_ite (Q := Q) (p := r1 = 0) (fun h => ?_) (fun h => ?_)
  · replace k := k.1 h
    refine wq_callI (Q := Q) rfl k ?_
    intro r3 c4 k
    refine wq_ite (Q := Q) (p := r3 = 0) (fun h => ?_) (fun h => ?_)
    · replace k := k.1 h
      show Q (cev 266 8 28 [vR 78, vI x1, vI ((c 79 4) + 1), vU] [] (SH T, c4))
      refine of_cev (Q := Q) ?_
      refine wq_ite (Q := Q) (p := 16 < ((c 79 4) + 1)) (fun h => ?_) (fun h => ?_)
      · replace k := k.1 h
        exact k
      · replace k := k.2 h
        show Q (cev 266 8 37 [vR 78, vI x1, vI ((c 79 4) + 1), vU] [] (SH T, c4))
        refine of_cev (Q := Q) ?_
        refine wq_callV (Q := Q) rfl k ?_
        intro c5 k
        refine wq_pos (Q := Q) k.1 ?_
        replace k := k.2
        refine wq_callV (Q := Q) rfl k ?_
        intro c6 k
        refine wq_callV (Q := Q) rfl k ?_
        intro c7 k
        exact k
    · replace k := k.2 h
      show Q (cev 266 8 25 [vU, vU, vU, vU] [] (SH T, c4))
      refine of_cev (Q := Q) ?_
      exact k
  · replace k := k.2 h
    show Q (cev 266 8 25 [vU, vU, vU, vU] [] (SH T, c2))
    refine of_cev (Q := Q) ?_
    exact k
set_option maxRecDepth 20000 in
theorem W_X12_paintNow_60 {T : List Shp} {c : Nat → Int → Int} {Q : Res → Prop} {x1 x2 x3 : Int} (k : ((x3 < 12 → (((-2147483648 ≤ 12 * x2 ∧ 12 * x2 < 2147483648) ∧ (-2147483648 ≤ 12 + (12 * x2) ∧ 12 + (12 * x2) < 2147483648) ∧ (-2147483648 ≤ (12 + (12 * x2)) + x3 ∧ (12 + (12 * x2)) + x3 < 2147483648) ∧ (-2147483648 ≤ 12 + x3 ∧ 12 + x3 < 2147483648) ∧ (0 ≤ (12 + x3) ∧ (12 + x3) < 600) ∧ (0 ≤ ((12 + (12 * x2)) + x3) ∧ ((12 + (12 * x2)) + x3) < 5780) ∧ (-2147483648 ≤ x3 + 1 ∧ x3 + 1 < 2147483648)) ∧ Q (cev 266 8 60 [vR 78, vI x1, vI x2, vI (x3 + 1)] [] (SH T, (up c 79 ((12 + (12 * x2)) + x3) (c 96 (12 + x3))))))) ∧ (¬ x3 < 12 → (((-2147483648 ≤ 216 + x2 ∧ 216 + x2 < 2147483648) ∧ (0 ≤ (216 + x2) ∧ (216 + x2) < 5780)) ∧ (QI T (fun r1 c2 => Q (some (some (vI r1), (SH T, c2)))) (ccal 263 [vR 78, vI 1, vI x2] (SH T, (up (up c 79 (216 + x2) x1) 79 4 x2)))))))) : Q (cev 266 8 60 [vR 78, vI x1, vI x2, vI x3] [] (SH T, c)) := by
  refine of_cev (Q := Q) ?_
  refine wq_ite (Q := Q) (p := x3 < 12) (fun h => ?_) (fun h => ?_)
  · replace k := k.1 h
    refine wq_pos (Q := Q) k.1.1 ?_
    refine wq_pos (Q := Q) k.1.2.1 ?_
    refine wq_pos (Q := Q) k.1.2.2.1 ?_
    refine wq_pos (Q := Q) k.1.2.2.2.1 ?_
    refine wq_pos (Q := Q) k.1.2.2.2.2.1 ?_
    refine wq_pos (Q := Q) k.1.2.2.2.2.2.1 ?_
    refine wq_pos (Q := Q) k.1.2.2.2.2.2.2 ?_
    replace k := k.2
    exact k
  · replace k := k.2 h
    show Q (cev 266 8 95 [vR 78, vI x1, vI x2, vU] [] (SH T, c))
    refine of_cev (Q := Q) ?_
    refine wq_pos (Q := Q) k.1.1 ?_
    refine wq_pos (Q := Q) k.1.2 ?_
    replace k := k.2
    refine wq_callI (Q := Q) rfl k ?_
    intro r1 c2 k
    exact k
set_option maxRecDepth 20000 in
theorem W_X12_paint {T : List Shp} {c : Nat → Int → Int} {Q : Res → Prop} {x1 : Int} (k : ((-9223372036854775808 ≤ (c 79 0) - 1 ∧ (c 79 0) - 1 < 9223372036854775808) ∧ ((0 ≤ x1 ∧ x1 < (c 79 0) → (QI T (fun r1 c2 => (QI T (fun r3 c4 => Q (some (some (vI r3), (SH T, c4)))) (ccal 190 [vR 78, vI r1] (SH T, c2)))) (ccal 266 [vR 78, vI x1] (SH T, (up c 77 0 0))))) ∧ (¬ (0 ≤ x1 ∧ x1 < (c 79 0)) → ((-2147483648 ≤ (c 78 2) + 1 ∧ (c 78 2) + 1 < 2147483648) ∧ Q (some (some (vI (-2)), (SH T, (up (up (up c 77 0 0) 77 1 (-2)) 78 2 ((c 78 2) + 1)))))))))) : Q (ccal 267 [vR 78, vI x1] (SH T, c)) := by
  refine of_cev (Q := Q) ?_
  refine wq_sum (Q := Q) rfl (S_X12_isPainter T (up c 77 0 0) x1 k.1) ?_
  replace k := k.2
  refine wq_b01 (Q := Q) (p := 0 ≤ x1 ∧ x1 < (c 79 0)) (fun h => ?_) (fun h => ?_)
  · replace k := k.2 h
    show Q (cev 267 9 22 [vU, vU] [vR 78] (SH T, (up c 77 0 0)))
    refine of_cev (Q := Q) ?_
    refine wq_sum (Q := Q) rfl (S_X12_tell_2 T (up c 77 0 0) k.1) ?_
    replace k := k.2
    exact k
  · replace k := k.1 h
    refine wq_callI (Q := Q) rfl k ?_
    intro r1 c2 k
    refine wq_callI (Q := Q) rfl k ?_
    intro r3 c4 k
    exact k
set_option maxRecDepth 20000 in
theorem W_X12_scrape {T : List Shp} {c : Nat → Int → Int} {Q : Res → Prop} (k : (((c 79 4) = 0 → ((-2147483648 ≤ (c 78 3) + 1 ∧ (c 78 3) + 1 < 2147483648) ∧ Q (some (some (vI (-3)), (SH T, (up (up (up c 77 0 0) 77 1 (-3)) 78 3 ((c 78 3) + 1))))))) ∧ (¬ (c 79 4) = 0 → (((-2147483648 ≤ (c 79 4) - 1 ∧ (c 79 4) - 1 < 2147483648) ∧ (-2147483648 ≤ 216 + ((c 79 4) - 1) ∧ 216 + ((c 79 4) - 1) < 2147483648) ∧ (-2147483648 ≤ (216 + ((c 79 4) - 1)) + 1 ∧ (216 + ((c 79 4) - 1)) + 1 < 2147483648) ∧ (0 ≤ ((216 + ((c 79 4) - 1)) + 1) ∧ ((216 + ((c 79 4) - 1)) + 1) < 5780) ∧ (0 ≤ ((up c 79 4 ((c 79 4) - 1)) 79 ((216 + ((c 79 4) - 1)) + 1)))) ∧ Q (some (some (vI ((up c 79 4 ((c 79 4) - 1)) 79 ((216 + ((c 79 4) - 1)) + 1))), (SH T, (up (up (up c 77 0 0) 79 4 ((c 79 4) - 1)) 77 1 0)))))))) : Q (ccal 268 [vR 78] (SH T, c)) := by
  refine of_cev (Q := Q) ?_
  refine wq_sum (Q := Q) rfl (S_X12_years T (up c 77 0 0) ) ?_
  refine wq_ite (Q := Q) (p := (c 79 4) = 0) (fun h => ?_) (fun h => ?_)
  · replace k := k.1 h
    refine wq_sum (Q := Q) rfl (S_X12_tell_3 T (up c 77 0 0) k.1) ?_
    replace k := k.2
    exact k
  · replace k := k.2 h
    show Q (cev 268 2 19 [vR 78] [] (SH T, (up c 77 0 0)))
    refine of_cev (Q := Q) ?_
    refine wq_pos (Q := Q) k.1.1 ?_
    refine wq_sum (Q := Q) rfl (S_X12_years T (up (up c 77 0 0) 79 4 ((c 79 4) - 1)) ) ?_
    refine wq_pos (Q := Q) k.1.2.1 ?_
    refine wq_pos (Q := Q) k.1.2.2.1 ?_
    refine wq_pos (Q := Q) k.1.2.2.2.1 ?_
    refine wq_sum (Q := Q) rfl (S_X12_tell T (up (up c 77 0 0) 79 4 ((c 79 4) - 1)) ((up c 79 4 ((c 79 4) - 1)) 79 ((216 + ((c 79 4) - 1)) + 1)) k.1.2.2.2.2) ?_
    replace k := k.2
    exact k
set_option maxRecDepth 20000 in
theorem W_X12_tone {T : List Shp} {c : Nat → Int → Int} {Q : Res → Prop} {x1 x2 : Int} (k : ((0 ≤ x1 ∧ x1 ≤ (c 79 4) → ((0 ≤ x2 ∧ x2 < 12 → (((0 ≤ x1 ∧ x1 < 100) ∧ (0 ≤ x2 ∧ x2 < 12)) ∧ Q (some (some (vI (c 79 (12 + 12 * x1 + x2))), (SH T, (up c 77 0 0)))))) ∧ (¬ (0 ≤ x2 ∧ x2 < 12) → Q (some (some (vI (-1)), (SH T, (up c 77 0 0))))))) ∧ (¬ (0 ≤ x1 ∧ x1 ≤ (c 79 4)) → Q (some (some (vI (-1)), (SH T, (up c 77 0 0))))))) : Q (ccal 269 [vR 78, vI x1, vI x2] (SH T, c)) := by
  refine of_cev (Q := Q) ?_
  refine wq_sum (Q := Q) rfl (S_X12_isLayer T (up c 77 0 0) x1) ?_
  refine wq_b01 (Q := Q) (p := 0 ≤ x1 ∧ x1 ≤ (c 79 4)) (fun h => ?_) (fun h => ?_)
  · replace k := k.2 h
    show Q (cev 269 3 29 [vU, vU, vU] [] (SH T, (up c 77 0 0)))
    refine of_cev (Q := Q) ?_
    exact k
  · replace k := k.1 h
    refine wq_sum (Q := Q) rfl (S_X12_isCell T (up c 77 0 0) x2) ?_
    refine wq_b01 (Q := Q) (p := 0 ≤ x2 ∧ x2 < 12) (fun h => ?_) (fun h => ?_)
    · replace k := k.2 h
      show Q (cev 269 3 29 [vU, vU, vU] [] (SH T, (up c 77 0 0)))
      refine of_cev (Q := Q) ?_
      exact k
    · replace k := k.1 h
      refine wq_sum (Q := Q) rfl (S_X12_toneAt T (up c 77 0 0) x1 x2 k.1.1 k.1.2) ?_
      replace k := k.2
      exact k
set_option maxRecDepth 20000 in
theorem W_X12_tooFar {T : List Shp} {c : Nat → Int → Int} {Q : Res → Prop} {x1 x2 : Int} (k : Q (cev 270 7 2 [vR 78, vI x1, vI x2, vI 0] [] (SH T, c))) : Q (ccal 270 [vR 78, vI x1, vI x2] (SH T, c)) := by
  refine of_cev (Q := Q) ?_
  exact k
set_option maxRecDepth 20000 in
theorem W_X12_tooFar_2 {T : List Shp} {c : Nat → Int → Int} {Q : Res → Prop} {x1 x2 x3 : Int} (k : ((x3 < 12 → (((-2147483648 ≤ 12 * x1 ∧ 12 * x1 < 2147483648) ∧ (-2147483648 ≤ (12 * x1) + x3 ∧ (12 * x1) + x3 < 2147483648) ∧ (0 ≤ ((12 * x1) + x3) ∧ ((12 * x1) + x3) < 600) ∧ (-2147483648 ≤ 12 * x2 ∧ 12 * x2 < 2147483648) ∧ (-2147483648 ≤ (12 * x2) + x3 ∧ (12 * x2) + x3 < 2147483648) ∧ (0 ≤ ((12 * x2) + x3) ∧ ((12 * x2) + x3) < 1200) ∧ (-2147483648 ≤ (c 96 ((12 * x1) + x3)) - (c 95 ((12 * x2) + x3)) ∧ (c 96 ((12 * x1) + x3)) - (c 95 ((12 * x2) + x3)) < 2147483648) ∧ (-2147483648 ≤ -((c 96 ((12 * x1) + x3)) - (c 95 ((12 * x2) + x3))) ∧ -((c 96 ((12 * x1) + x3)) - (c 95 ((12 * x2) + x3))) < 2147483648)) ∧ (QI T (fun r1 c2 => ((r1 < (abz ((c 96 ((12 * x1) + x3)) - (c 95 ((12 * x2) + x3)))) → Q (some (some (vI x3), (SH T, c2)))) ∧ (¬ r1 < (abz ((c 96 ((12 * x1) + x3)) - (c 95 ((12 * x2) + x3)))) → ((-2147483648 ≤ x3 + 1 ∧ x3 + 1 < 2147483648) ∧ Q (cev 270 7 2 [vR 78, vI x1, vI x2, vI (x3 + 1)] [] (SH T, c2)))))) (ccal 253 [vR 78, vI x3, vI x2] (SH T, c))))) ∧ (¬ x3 < 12 → Q (some (some (vI (-1)), (SH T, c)))))) : Q (cev 270 7 2 [vR 78, vI x1, vI x2, vI x3] [] (SH T, c)) := by
  refine of_cev (Q := Q) ?_
  refine wq_ite (Q := Q) (p := x3 < 12) (fun h => ?_) (fun h => ?_)
  · replace k := k.1 h
    refine wq_pos (Q := Q) k.1.1 ?_
    refine wq_pos (Q := Q) k.1.2.1 ?_
    refine wq_pos (Q := Q) k.1.2.2.1 ?_
    refine wq_pos (Q := Q) k.1.2.2.2.1 ?_
    refine wq_pos (Q := Q) k.1.2.2.2.2.1 ?_
    refine wq_pos (Q := Q) k.1.2.2.2.2.2.1 ?_
    refine wq_pos (Q := Q) k.1.2.2.2.2.2.2.1 ?_
    refine wq_sum (Q := Q) rfl (S_X12_size T c ((c 96 ((12 * x1) + x3)) - (c 95 ((12 * x2) + x3))) k.1.2.2.2.2.2.2.2) ?_
    replace k := k.2
    refine wq_callI (Q := Q) rfl k ?_
    intro r1 c2 k
    refine wq_ite (Q := Q) (p := r1 < (abz ((c 96 ((12 * x1) + x3)) - (c 95 ((12 * x2) + x3))))) (fun h => ?_) (fun h => ?_)
    · replace k := k.1 h
      exact k
    · replace k := k.2 h
      show Q (cev 270 7 45 [vR 78, vI x1, vI x2, vI x3] [] (SH T, c2))
      refine of_cev (Q := Q) ?_
      refine wq_pos (Q := Q) k.1 ?_
      replace k := k.2
      exact k
  · replace k := k.2 h
    show Q (cev 270 7 51 [vU, vU, vU, vU] [] (SH T, c))
    refine of_cev (Q := Q) ?_
    exact k
set_option maxRecDepth 20000 in
theorem W_X12_tooFarIn {T : List Shp} {c : Nat → Int → Int} {Q : Res → Prop} {x1 : Int} (k : (QV T (fun c1 => (QV T (fun c2 => (QI T (fun r3 c4 => Q (some (some (vI r3), (SH T, c4)))) (ccal 270 [vR 78, vI 0, vI x1] (SH T, c2)))) (ccal 262 [vR 78, vI 0, vI x1] (SH T, c1)))) (ccal 259 [vR 78, vI x1] (SH T, c)))) : Q (ccal 271 [vR 78, vI x1] (SH T, c)) := by
  refine of_cev (Q := Q) ?_
  refine wq_callV (Q := Q) rfl k ?_
  intro c1 k
  refine wq_callV (Q := Q) rfl k ?_
  intro c2 k
  refine wq_callI (Q := Q) rfl k ?_
  intro r3 c4 k
  exact k
set_option maxRecDepth 20000 in
theorem W_X12_layer {T : List Shp} {c : Nat → Int → Int} {Q : Res → Prop} {x1 x2 : Int} (k : ((0 ≤ x1 ∧ x1 ≤ (c 79 4) → ((0 ≤ x2 ∧ x2 ≤ 3 → ((x2 = 0 → (QI T (fun r1 c2 => Q (some (some (vI r1), (SH T, c2)))) (ccal 264 [vR 78, vI x1] (SH T, (up c 77 0 0))))) ∧ ((x2 = 1 → ((x1 = 0 → Q (some (some (vI (-1)), (SH T, (up c 77 0 0))))) ∧ (¬ x1 = 0 → (((-2147483648 ≤ 216 + x1 ∧ 216 + x1 < 2147483648) ∧ (0 ≤ (216 + x1) ∧ (216 + x1) < 5780)) ∧ Q (some (some (vI (c 79 (216 + x1))), (SH T, (up c 77 0 0)))))))) ∧ ((x2 = 2 → ((x1 = 0 → Q (some (some (vI 0), (SH T, (up c 77 0 0))))) ∧ (¬ x1 = 0 → (((-2147483648 ≤ 216 + x1 ∧ 216 + x1 < 2147483648) ∧ (0 ≤ (216 + x1) ∧ (216 + x1) < 5780)) ∧ (QI T (fun r3 c4 => Q (some (some (vI r3), (SH T, c4)))) (ccal 255 [vR 78, vI (c 79 (216 + x1)), vI x1] (SH T, (up c 77 0 0)))))))) ∧ (¬ (x2 = 0 ∨ x2 = 1 ∨ x2 = 2) → (QI T (fun r5 c6 => Q (some (some (vI r5), (SH T, c6)))) (ccal 271 [vR 78, vI x1] (SH T, (up c 77 0 0))))))))) ∧ (¬ (0 ≤ x2 ∧ x2 ≤ 3) → Q (some (some (vI (-1)), (SH T, (up c 77 0 0))))))) ∧ (¬ (0 ≤ x1 ∧ x1 ≤ (c 79 4)) → Q (some (some (vI (-1)), (SH T, (up c 77 0 0))))))) : Q (ccal 272 [vR 78, vI x1, vI x2] (SH T, c)) := by
  refine of_cev (Q := Q) ?_
  refine wq_sum (Q := Q) rfl (S_X12_isLayer T (up c 77 0 0) x1) ?_
  refine wq_b01 (Q := Q) (p := 0 ≤ x1 ∧ x1 ≤ (c 79 4)) (fun h => ?_) (fun h => ?_)
  · replace k := k.2 h
    show Q (cev 272 9 25 [vU, vU, vU] [] (SH T, (up c 77 0 0)))
    refine of_cev (Q := Q) ?_
    exact k
  · replace k := k.1 h
    refine wq_sum (Q := Q) rfl (S_X12_in T (up c 77 0 0) x2 0 3) ?_
    refine wq_b01 (Q := Q) (p := 0 ≤ x2 ∧ x2 ≤ 3) (fun h => ?_) (fun h => ?_)
    · replace k := k.2 h
      show Q (cev 272 9 25 [vU, vU, vU] [] (SH T, (up c 77 0 0)))
      refine of_cev (Q := Q) ?_
      exact k
    · replace k := k.1 h
      show Q (cev 272 9 27 [vR 78, vI x1, vI x2] [] (SH T, (up c 77 0 0)))
      refine of_cev (Q := Q) ?_
      refine wq_ite (Q := Q) (p := x2 = 0) (fun h0 => ?_) (fun h0 => ?_)
      · replace k := k.1 h0
        show Q (cev 272 9 56 [vR 78, vI x1, vU] [] (SH T, (up c 77 0 0)))
        refine of_cev (Q := Q) ?_
        refine wq_callI (Q := Q) rfl k ?_
        intro r1 c2 k
        exact k
      replace k := k.2
      refine wq_ite (Q := Q) (p := x2 = 1) (fun h1 => ?_) (fun h1 => ?_)
      · replace k := k.1 h1
        show Q (cev 272 9 62 [vR 78, vI x1, vU] [] (SH T, (up c 77 0 0)))
        refine of_cev (Q := Q) ?_
        refine wq_ite (Q := Q) (p := x1 = 0) (fun h => ?_) (fun h => ?_)
        · replace k := k.1 h
          exact k
        · replace k := k.2 h
          show Q (cev 272 9 70 [vR 78, vI x1, vU] [] (SH T, (up c 77 0 0)))
          refine of_cev (Q := Q) ?_
          refine wq_pos (Q := Q) k.1.1 ?_
          refine wq_pos (Q := Q) k.1.2 ?_
          replace k := k.2
          exact k
      replace k := k.2
      refine wq_ite (Q := Q) (p := x2 = 2) (fun h2 => ?_) (fun h2 => ?_)
      · replace k := k.1 h2
        show Q (cev 272 9 81 [vR 78, vI x1, vU] [] (SH T, (up c 77 0 0)))
        refine of_cev (Q := Q) ?_
        refine wq_ite (Q := Q) (p := x1 = 0) (fun h => ?_) (fun h => ?_)
        · replace k := k.1 h
          exact k
        · replace k := k.2 h
          show Q (cev 272 9 89 [vR 78, vI x1, vU] [] (SH T, (up c 77 0 0)))
          refine of_cev (Q := Q) ?_
          refine wq_pos (Q := Q) k.1.1 ?_
          refine wq_pos (Q := Q) k.1.2 ?_
          replace k := k.2
          refine wq_callI (Q := Q) rfl k ?_
          intro r3 c4 k
          exact k
      replace k := k.2
      replace k := k (fun h => by rcases h with h | h | h <;> first | exact h0 h | exact h1 h | exact h2 h)
      show Q (cev 272 9 105 [vR 78, vI x1, vU] [] (SH T, (up c 77 0 0)))
      refine of_cev (Q := Q) ?_
      refine wq_callI (Q := Q) rfl k ?_
      intro r5 c6 k
      exact k
set_option maxRecDepth 20000 in
theorem W_X12_unlawful {T : List Shp} {c : Nat → Int → Int} {Q : Res → Prop} (k : Q (cev 273 9 7 [vR 78, vI 0] [] (SH T, (up c 77 0 0)))) : Q (ccal 273 [vR 78] (SH T, c)) := by
  refine of_cev (Q := Q) ?_
  exact k
set_option maxRecDepth 20000 in
theorem W_X12_unlawful_7 {T : List Shp} {c : Nat → Int → Int} {Q : Res → Prop} {x1 : Int} (k : (((c 79 4) < x1 → Q (some (some (vI (-1)), (SH T, c)))) ∧ (¬ (c 79 4) < x1 → (QI T (fun r1 c2 => ((r1 = (-1) → ((-2147483648 ≤ x1 + 1 ∧ x1 + 1 < 2147483648) ∧ Q (cev 273 9 7 [vR 78, vI (x1 + 1)] [] (SH T, c2)))) ∧ (¬ r1 = (-1) → Q (some (some (vI x1), (SH T, c2)))))) (ccal 271 [vR 78, vI x1] (SH T, c)))))) : Q (cev 273 9 7 [vR 78, vI x1] [] (SH T, c)) := by
  refine of_cev (Q := Q) ?_
  refine wq_sum (Q := Q) rfl (S_X12_years T c ) ?_
  refine wq_ite (Q := Q) (p := (c 79 4) < x1) (fun h => ?_) (fun h => ?_)
  · replace k := k.1 h
    show Q (cev 273 9 32 [vU, vU] [] (SH T, c))
    refine of_cev (Q := Q) ?_
    exact k
  · replace k := k.2 h
    refine wq_callI (Q := Q) rfl k ?_
    intro r1 c2 k
    refine wq_ite (Q := Q) (p := r1 = (-1)) (fun h => ?_) (fun h => ?_)
    · replace k := k.1 h
      show Q (cev 273 9 26 [vR 78, vI x1] [] (SH T, c2))
      refine of_cev (Q := Q) ?_
      refine wq_pos (Q := Q) k.1 ?_
      replace k := k.2
      exact k
    · replace k := k.2 h
      exact k
set_option maxRecDepth 20000 in
theorem W_X12_moneyBehind {T : List Shp} {c : Nat → Int → Int} {Q : Res → Prop} {x1 : Int} (k : ((-2147483648 ≤ (c 79 10) * x1 ∧ (c 79 10) * x1 < 2147483648) ∧ Q (cev 274 7 12 [vR 78, vI x1, vI ((c 79 10) * x1), vI 1] [] (SH T, c)))) : Q (ccal 274 [vR 78, vI x1] (SH T, c)) := by
  refine of_cev (Q := Q) ?_
  refine wq_pos (Q := Q) k.1 ?_
  replace k := k.2
  exact k
set_option maxRecDepth 20000 in
theorem W_X12_moneyBehind_12 {T : List Shp} {c : Nat → Int → Int} {Q : Res → Prop} {x1 x2 x3 : Int} (k : ((x1 < x3 → Q (some (some (vI x2), (SH T, c)))) ∧ (¬ x1 < x3 → (((-2147483648 ≤ 216 + x3 ∧ 216 + x3 < 2147483648) ∧ (0 ≤ (216 + x3) ∧ (216 + x3) < 5780)) ∧ (QI T (fun r1 c2 => (((-2147483648 ≤ x2 - r1 ∧ x2 - r1 < 2147483648) ∧ (-2147483648 ≤ x3 + 1 ∧ x3 + 1 < 2147483648)) ∧ Q (cev 274 7 12 [vR 78, vI x1, vI (x2 - r1), vI (x3 + 1)] [] (SH T, c2)))) (ccal 255 [vR 78, vI (c 79 (216 + x3)), vI x3] (SH T, c))))))) : Q (cev 274 7 12 [vR 78, vI x1, vI x2, vI x3] [] (SH T, c)) := by
  refine of_cev (Q := Q) ?_
  refine wq_ite (Q := Q) (p := x1 < x3) (fun h => ?_) (fun h => ?_)
  · replace k := k.1 h
    show Q (cev 274 7 41 [vU, vU, vI x2, vU] [] (SH T, c))
    refine of_cev (Q := Q) ?_
    exact k
  · replace k := k.2 h
    refine wq_pos (Q := Q) k.1.1 ?_
    refine wq_pos (Q := Q) k.1.2 ?_
    replace k := k.2
    refine wq_callI (Q := Q) rfl k ?_
    intro r1 c2 k
    refine wq_pos (Q := Q) k.1.1 ?_
    refine wq_pos (Q := Q) k.1.2 ?_
    replace k := k.2
    exact k
set_option maxRecDepth 20000 in
theorem W_X12_money {T : List Shp} {c : Nat → Int → Int} {Q : Res → Prop} {x1 : Int} (k : ((0 ≤ x1 ∧ x1 ≤ (c 79 4) → (QI T (fun r1 c2 => Q (some (some (vI r1), (SH T, c2)))) (ccal 274 [vR 78, vI x1] (SH T, (up c 77 0 0))))) ∧ (¬ (0 ≤ x1 ∧ x1 ≤ (c 79 4)) → Q (some (some (vI (-1000000)), (SH T, (up c 77 0 0))))))) : Q (ccal 275 [vR 78, vI x1] (SH T, c)) := by
  refine of_cev (Q := Q) ?_
  refine wq_sum (Q := Q) rfl (S_X12_isLayer T (up c 77 0 0) x1) ?_
  refine wq_b01 (Q := Q) (p := 0 ≤ x1 ∧ x1 ≤ (c 79 4)) (fun h => ?_) (fun h => ?_)
  · replace k := k.2 h
    show Q (cev 275 8 21 [vU, vU] [] (SH T, (up c 77 0 0)))
    refine of_cev (Q := Q) ?_
    exact k
  · replace k := k.1 h
    refine wq_callI (Q := Q) rfl k ?_
    intro r1 c2 k
    exact k
set_option maxRecDepth 20000 in
theorem W_X12_broke {T : List Shp} {c : Nat → Int → Int} {Q : Res → Prop} (k : Q (cev 276 8 7 [vR 78, vI 0] [] (SH T, (up c 77 0 0)))) : Q (ccal 276 [vR 78] (SH T, c)) := by
  refine of_cev (Q := Q) ?_
  exact k
set_option maxRecDepth 20000 in
theorem W_X12_broke_7 {T : List Shp} {c : Nat → Int → Int} {Q : Res → Prop} {x1 : Int} (k : (((c 79 4) < x1 → Q (some (some (vI (-1)), (SH T, c)))) ∧ (¬ (c 79 4) < x1 → (QI T (fun r1 c2 => ((r1 < 0 → Q (some (some (vI x1), (SH T, c2)))) ∧ (¬ r1 < 0 → ((-2147483648 ≤ x1 + 1 ∧ x1 + 1 < 2147483648) ∧ Q (cev 276 8 7 [vR 78, vI (x1 + 1)] [] (SH T, c2)))))) (ccal 274 [vR 78, vI x1] (SH T, c)))))) : Q (cev 276 8 7 [vR 78, vI x1] [] (SH T, c)) := by
  refine of_cev (Q := Q) ?_
  refine wq_sum (Q := Q) rfl (S_X12_years T c ) ?_
  refine wq_ite (Q := Q) (p := (c 79 4) < x1) (fun h => ?_) (fun h => ?_)
  · replace k := k.1 h
    show Q (cev 276 8 31 [vU, vU] [] (SH T, c))
    refine of_cev (Q := Q) ?_
    exact k
  · replace k := k.2 h
    refine wq_callI (Q := Q) rfl k ?_
    intro r1 c2 k
    refine wq_ite (Q := Q) (p := r1 < 0) (fun h => ?_) (fun h => ?_)
    · replace k := k.1 h
      exact k
    · replace k := k.2 h
      show Q (cev 276 8 25 [vR 78, vI x1] [] (SH T, c2))
      refine of_cev (Q := Q) ?_
      refine wq_pos (Q := Q) k.1 ?_
      replace k := k.2
      exact k
set_option maxRecDepth 20000 in
theorem W_X12_restsInRow {T : List Shp} {c : Nat → Int → Int} {Q : Res → Prop} {x1 x2 : Int} (k : (((-2147483648 ≤ (c 79 4) + 1 ∧ (c 79 4) + 1 < 2147483648) ∧ (-2147483648 ≤ ((c 79 4) + 1) + x2 ∧ ((c 79 4) + 1) + x2 < 2147483648)) ∧ Q (cev 277 2 15 [vR 78, vI x1, vI x2, vI (((c 79 4) + 1) + x2), vI 0, vI 1] [] (SH T, c)))) : Q (ccal 277 [vR 78, vI x1, vI x2] (SH T, c)) := by
  refine of_cev (Q := Q) ?_
  refine wq_sum (Q := Q) rfl (S_X12_years T c ) ?_
  refine wq_pos (Q := Q) k.1.1 ?_
  refine wq_pos (Q := Q) k.1.2 ?_
  replace k := k.2
  exact k
set_option maxRecDepth 20000 in
theorem W_X12_restsInRow_15 {T : List Shp} {c : Nat → Int → Int} {Q : Res → Prop} {x1 x2 x3 x4 x5 : Int} (k : (((c 79 11) < x5 → ((x4 = 0 ∨ x4 = 1) ∧ Q (some (some (vI x4), (SH T, c))))) ∧ (¬ (c 79 11) < x5 → ((x4 = 0 → ((-2147483648 ≤ x2 - x5 ∧ x2 - x5 < 2147483648) ∧ (((x2 - x5) < 0 → ((-2147483648 ≤ x3 - x5 ∧ x3 - x5 < 2147483648) ∧ ((1 ≤ (x3 - x5) ∧ (x3 - x5) ≤ (c 79 4) → (((-2147483648 ≤ 216 + x3 ∧ 216 + x3 < 2147483648) ∧ (-2147483648 ≤ (216 + x3) - x5 ∧ (216 + x3) - x5 < 2147483648) ∧ (0 ≤ ((216 + x3) - x5) ∧ ((216 + x3) - x5) < 5780)) ∧ (((c 79 ((216 + x3) - x5)) = x1 → ((-2147483648 ≤ x5 + 1 ∧ x5 + 1 < 2147483648) ∧ Q (cev 277 2 15 [vR 78, vI x1, vI x2, vI x3, vI 1, vI (x5 + 1)] [] (SH T, c)))) ∧ (¬ (c 79 ((216 + x3) - x5)) = x1 → ((-2147483648 ≤ x5 + 1 ∧ x5 + 1 < 2147483648) ∧ Q (cev 277 2 15 [vR 78, vI x1, vI x2, vI x3, vI 0, vI (x5 + 1)] [] (SH T, c))))))) ∧ (¬ (1 ≤ (x3 - x5) ∧ (x3 - x5) ≤ (c 79 4)) → ((-2147483648 ≤ x5 + 1 ∧ x5 + 1 < 2147483648) ∧ Q (cev 277 2 15 [vR 78, vI x1, vI x2, vI x3, vI 0, vI (x5 + 1)] [] (SH T, c))))))) ∧ (¬ (x2 - x5) < 0 → (((-2147483648 ≤ x2 - x5 ∧ x2 - x5 < 2147483648) ∧ (0 ≤ (x2 - x5) ∧ (x2 - x5) < 5)) ∧ (((c 97 (x2 - x5)) = x1 → ((-2147483648 ≤ x5 + 1 ∧ x5 + 1 < 2147483648) ∧ Q (cev 277 2 15 [vR 78, vI x1, vI x2, vI x3, vI 1, vI (x5 + 1)] [] (SH T, c)))) ∧ (¬ (c 97 (x2 - x5)) = x1 → ((-2147483648 ≤ x5 + 1 ∧ x5 + 1 < 2147483648) ∧ Q (cev 277 2 15 [vR 78, vI x1, vI x2, vI x3, vI 0, vI (x5 + 1)] [] (SH T, c)))))))))) ∧ (¬ x4 = 0 → ((-2147483648 ≤ x5 + 1 ∧ x5 + 1 < 2147483648) ∧ Q (cev 277 2 15 [vR 78, vI x1, vI x2, vI x3, vI 1, vI (x5 + 1)] [] (SH T, c)))))))) : Q (cev 277 2 15 [vR 78, vI x1, vI x2, vI x3, vI x4, vI x5] [] (SH T, c)) := by
  refine of_cev (Q := Q) ?_
  refine wq_ite (Q := Q) (p := (c 79 11) < x5) (fun h => ?_) (fun h => ?_)
  · replace k := k.1 h
    show Q (cev 277 2 102 [vU, vU, vU, vU, vI x4, vU] [] (SH T, c))
    refine of_cev (Q := Q) ?_
    refine wq_pos (Q := Q) k.1 ?_
    replace k := k.2
    exact k
  · replace k := k.2 h
    refine wq_ite (Q := Q) (p := x4 = 0) (fun h => ?_) (fun h => ?_)
    · replace k := k.1 h
      refine wq_pos (Q := Q) k.1 ?_
      replace k := k.2
      refine wq_ite (Q := Q) (p := (x2 - x5) < 0) (fun h => ?_) (fun h => ?_)
      · replace k := k.1 h
        show Q (cev 277 2 55 [vR 78, vI x1, vI x2, vI x3, vU, vI x5] [] (SH T, c))
        refine of_cev (Q := Q) ?_
        refine wq_pos (Q := Q) k.1 ?_
        refine wq_sum (Q := Q) rfl (S_X12_years T c ) ?_
        refine wq_sum (Q := Q) rfl (S_X12_in T c (x3 - x5) 1 (c 79 4)) ?_
        replace k := k.2
        refine wq_b01 (Q := Q) (p := 1 ≤ (x3 - x5) ∧ (x3 - x5) ≤ (c 79 4)) (fun h => ?_) (fun h => ?_)
        · replace k := k.2 h
          show Q (cev 277 2 93 [vR 78, vI x1, vI x2, vI x3, vU, vI x5] [] (SH T, c))
          refine of_cev (Q := Q) ?_
          refine wq_pos (Q := Q) k.1 ?_
          replace k := k.2
          exact k
        · replace k := k.1 h
          refine wq_pos (Q := Q) k.1.1 ?_
          refine wq_pos (Q := Q) k.1.2.1 ?_
          refine wq_pos (Q := Q) k.1.2.2 ?_
          replace k := k.2
          refine wq_ite (Q := Q) (p := (c 79 ((216 + x3) - x5)) = x1) (fun h => ?_) (fun h => ?_)
          · replace k := k.1 h
            show Q (cev 277 2 89 [vR 78, vI x1, vI x2, vI x3, vU, vI x5] [] (SH T, c))
            refine of_cev (Q := Q) ?_
            refine wq_pos (Q := Q) k.1 ?_
            replace k := k.2
            exact k
          · replace k := k.2 h
            show Q (cev 277 2 93 [vR 78, vI x1, vI x2, vI x3, vU, vI x5] [] (SH T, c))
            refine of_cev (Q := Q) ?_
            refine wq_pos (Q := Q) k.1 ?_
            replace k := k.2
            exact k
      · replace k := k.2 h
        refine wq_pos (Q := Q) k.1.1 ?_
        refine wq_pos (Q := Q) k.1.2 ?_
        replace k := k.2
        refine wq_ite (Q := Q) (p := (c 97 (x2 - x5)) = x1) (fun h => ?_) (fun h => ?_)
        · replace k := k.1 h
          show Q (cev 277 2 89 [vR 78, vI x1, vI x2, vI x3, vU, vI x5] [] (SH T, c))
          refine of_cev (Q := Q) ?_
          refine wq_pos (Q := Q) k.1 ?_
          replace k := k.2
          exact k
        · replace k := k.2 h
          show Q (cev 277 2 93 [vR 78, vI x1, vI x2, vI x3, vU, vI x5] [] (SH T, c))
          refine of_cev (Q := Q) ?_
          refine wq_pos (Q := Q) k.1 ?_
          replace k := k.2
          exact k
    · replace k := k.2 h
      show Q (cev 277 2 89 [vR 78, vI x1, vI x2, vI x3, vU, vI x5] [] (SH T, c))
      refine of_cev (Q := Q) ?_
      refine wq_pos (Q := Q) k.1 ?_
      replace k := k.2
      exact k
set_option maxRecDepth 20000 in
theorem W_X12_goThrough {T : List Shp} {c : Nat → Int → Int} {Q : Res → Prop} {x1 x2 : Int} (k : Q (cev 278 9 13 [vR 78, vI x1, vI x2, vI (c 79 4), vI 0, vU] [] (SH T, (up c 77 46 0)))) : Q (ccal 278 [vR 78, vI x1, vI x2] (SH T, c)) := by
  refine of_cev (Q := Q) ?_
  refine wq_sum (Q := Q) rfl (S_X12_years T (up c 77 46 0) ) ?_
  exact k
set_option maxRecDepth 20000 in
theorem W_X12_goThrough_13 {T : List Shp} {c : Nat → Int → Int} {Q : Res → Prop} {x1 x2 x3 x4 : Int} (k : ((x2 < x4 → (QV T (fun c1 => ((x2 = 0 → (QV T (fun c2 => Q (some (none, (SH T, c2)))) (ccal 279 [vR 78, vI x1, vI 0] (SH T, c1)))) ∧ (¬ x2 = 0 → Q (cev 278 9 134 [vR 78, vI x1, vI x2, vI x3, vI 0, vU] [] (SH T, (up c1 97 0 (-1))))))) (ccal 262 [vR 78, vI 0, vI x3] (SH T, c)))) ∧ (¬ x2 < x4 → ((-2147483648 ≤ x3 + x4 ∧ x3 + x4 < 2147483648) ∧ (QV T (fun c3 => Q (cev 278 9 30 [vR 78, vI x1, vI x2, vI x3, vI x4, vI 0] [] (SH T, c3))) (ccal 259 [vR 78, vI (x3 + x4)] (SH T, c))))))) : Q (cev 278 9 13 [vR 78, vI x1, vI x2, vI x3, vI x4, vU] [] (SH T, c)) := by
  refine of_cev (Q := Q) ?_
  refine wq_ite (Q := Q) (p := x2 < x4) (fun h => ?_) (fun h => ?_)
  · replace k := k.1 h
    show Q (cev 278 9 107 [vR 78, vI x1, vI x2, vI x3, vU, vU] [] (SH T, c))
    refine of_cev (Q := Q) ?_
    refine wq_callV (Q := Q) rfl k ?_
    intro c1 k
    refine wq_ite (Q := Q) (p := x2 = 0) (fun h => ?_) (fun h => ?_)
    · replace k := k.1 h
      refine wq_callV (Q := Q) rfl k ?_
      intro c2 k
      exact k
    · replace k := k.2 h
      show Q (cev 278 9 124 [vR 78, vI x1, vI x2, vI x3, vU, vU] [] (SH T, c1))
      refine of_cev (Q := Q) ?_
      exact k
  · replace k := k.2 h
    refine wq_pos (Q := Q) k.1 ?_
    replace k := k.2
    refine wq_callV (Q := Q) rfl k ?_
    intro c3 k
    exact k
set_option maxRecDepth 20000 in
theorem W_X12_goThrough_30 {T : List Shp} {c : Nat → Int → Int} {Q : Res → Prop} {x1 x2 x3 x4 x5 : Int} (k : ((x5 < (c 79 0) → ((x4 < x2 → (((-2147483648 ≤ 5 * x4 ∧ 5 * x4 < 2147483648) ∧ (-2147483648 ≤ (5 * x4) + x5 ∧ (5 * x4) + x5 < 2147483648) ∧ (-2147483648 ≤ x3 + x4 ∧ x3 + x4 < 2147483648) ∧ (-2147483648 ≤ (x3 + x4) + 1 ∧ (x3 + x4) + 1 < 2147483648)) ∧ (QI T (fun r1 c2 => (((0 ≤ ((5 * x4) + x5) ∧ ((5 * x4) + x5) < 25) ∧ (-2147483648 ≤ 5 * x4 ∧ 5 * x4 < 2147483648) ∧ (-2147483648 ≤ (5 * x4) + x5 ∧ (5 * x4) + x5 < 2147483648) ∧ (-2147483648 ≤ x3 + x4 ∧ x3 + x4 < 2147483648) ∧ (-2147483648 ≤ (x3 + x4) + 1 ∧ (x3 + x4) + 1 < 2147483648)) ∧ (QI T (fun r3 c4 => (((0 ≤ ((5 * x4) + x5) ∧ ((5 * x4) + x5) < 25) ∧ (r3 = 0 ∨ r3 = 1) ∧ (-2147483648 ≤ x5 + 1 ∧ x5 + 1 < 2147483648)) ∧ Q (cev 278 9 30 [vR 78, vI x1, vI x2, vI x3, vI x4, vI (x5 + 1)] [] (SH T, (up c4 100 ((5 * x4) + x5) r3))))) (ccal 256 [vR 78, vI x5, vI ((x3 + x4) + 1)] (SH T, (up c2 99 ((5 * x4) + x5) r1)))))) (ccal 255 [vR 78, vI x5, vI ((x3 + x4) + 1)] (SH T, c))))) ∧ (¬ x4 < x2 → ((-2147483648 ≤ x4 + 1 ∧ x4 + 1 < 2147483648) ∧ Q (cev 278 9 13 [vR 78, vI x1, vI x2, vI x3, vI (x4 + 1), vU] [] (SH T, c)))))) ∧ (¬ x5 < (c 79 0) → ((-2147483648 ≤ x4 + 1 ∧ x4 + 1 < 2147483648) ∧ Q (cev 278 9 13 [vR 78, vI x1, vI x2, vI x3, vI (x4 + 1), vU] [] (SH T, c)))))) : Q (cev 278 9 30 [vR 78, vI x1, vI x2, vI x3, vI x4, vI x5] [] (SH T, c)) := by
  refine of_cev (Q := Q) ?_
  refine wq_ite (Q := Q) (p := x5 < (c 79 0)) (fun h => ?_) (fun h => ?_)
  · replace k := k.1 h
    refine wq_ite (Q := Q) (p := x4 < x2) (fun h => ?_) (fun h => ?_)
    · replace k := k.1 h
      refine wq_pos (Q := Q) k.1.1 ?_
      refine wq_pos (Q := Q) k.1.2.1 ?_
      refine wq_pos (Q := Q) k.1.2.2.1 ?_
      refine wq_pos (Q := Q) k.1.2.2.2 ?_
      replace k := k.2
      refine wq_callI (Q := Q) rfl k ?_
      intro r1 c2 k
      refine wq_pos (Q := Q) k.1.1 ?_
      refine wq_pos (Q := Q) k.1.2.1 ?_
      refine wq_pos (Q := Q) k.1.2.2.1 ?_
      refine wq_pos (Q := Q) k.1.2.2.2.1 ?_
      refine wq_pos (Q := Q) k.1.2.2.2.2 ?_
      replace k := k.2
      refine wq_callI (Q := Q) rfl k ?_
      intro r3 c4 k
      refine wq_pos (Q := Q) k.1.1 ?_
      refine wq_pos (Q := Q) k.1.2.1 ?_
      refine wq_pos (Q := Q) k.1.2.2 ?_
      replace k := k.2
      exact k
    · replace k := k.2 h
      show Q (cev 278 9 101 [vR 78, vI x1, vI x2, vI x3, vI x4, vU] [] (SH T, c))
      refine of_cev (Q := Q) ?_
      refine wq_pos (Q := Q) k.1 ?_
      replace k := k.2
      exact k
  · replace k := k.2 h
    show Q (cev 278 9 101 [vR 78, vI x1, vI x2, vI x3, vI x4, vU] [] (SH T, c))
    refine of_cev (Q := Q) ?_
    refine wq_pos (Q := Q) k.1 ?_
    replace k := k.2
    exact k
set_option maxRecDepth 20000 in
theorem W_X12_goThrough_134 {T : List Shp} {c : Nat → Int → Int} {Q : Res → Prop} {x1 x2 x3 x4 : Int} (k : ((x4 < 0 → Q (some (none, (SH T, c)))) ∧ (¬ x4 < 0 → (((0 ≤ x4 ∧ x4 < 5) ∧ (-2147483648 ≤ (c 97 x4) + 1 ∧ (c 97 x4) + 1 < 2147483648)) ∧ ((((up c 97 x4 ((c 97 x4) + 1)) 97 x4) = (c 79 0) → ((-2147483648 ≤ x4 + (-1) ∧ x4 + (-1) < 2147483648) ∧ Q (cev 278 9 134 [vR 78, vI x1, vI x2, vI x3, vI (x4 + (-1)), vU] [] (SH T, (up c 97 x4 ((c 97 x4) + 1)))))) ∧ (¬ ((up c 97 x4 ((c 97 x4) + 1)) 97 x4) = (c 79 0) → (((-2147483648 ≤ 5 * x4 ∧ 5 * x4 < 2147483648) ∧ (-2147483648 ≤ (5 * x4) + ((up c 97 x4 ((c 97 x4) + 1)) 97 x4) ∧ (5 * x4) + ((up c 97 x4 ((c 97 x4) + 1)) 97 x4) < 2147483648) ∧ (0 ≤ ((5 * x4) + ((up c 97 x4 ((c 97 x4) + 1)) 97 x4)) ∧ ((5 * x4) + ((up c 97 x4 ((c 97 x4) + 1)) 97 x4)) < 25)) ∧ (((c 100 ((5 * x4) + ((up c 97 x4 ((c 97 x4) + 1)) 97 x4))) = 0 → (QI T (fun r1 c2 => ((r1 = 0 → (((-2147483648 ≤ x4 + 1 ∧ x4 + 1 < 2147483648) ∧ (-2147483648 ≤ x3 + x4 ∧ x3 + x4 < 2147483648) ∧ (-2147483648 ≤ (x3 + x4) + 1 ∧ (x3 + x4) + 1 < 2147483648)) ∧ (QV T (fun c3 => ((-2147483648 ≤ x2 - 1 ∧ x2 - 1 < 2147483648) ∧ ((x4 = (x2 - 1) → (QV T (fun c4 => Q (cev 278 9 134 [vR 78, vI x1, vI x2, vI x3, vI x4, vU] [] (SH T, c4))) (ccal 279 [vR 78, vI x1, vI x2] (SH T, c3)))) ∧ (¬ x4 = (x2 - 1) → (((-2147483648 ≤ x4 + 1 ∧ x4 + 1 < 2147483648) ∧ (0 ≤ (x4 + 1) ∧ (x4 + 1) < 5)) ∧ Q (cev 278 9 134 [vR 78, vI x1, vI x2, vI x3, vI (x4 + 1), vU] [] (SH T, (up c3 97 (x4 + 1) (-1))))))))) (ccal 261 [vR 78, vI x4, vI (x4 + 1), vI ((up c 97 x4 ((c 97 x4) + 1)) 97 x4), vI ((x3 + x4) + 1)] (SH T, c2))))) ∧ (¬ r1 = 0 → Q (cev 278 9 134 [vR 78, vI x1, vI x2, vI x3, vI x4, vU] [] (SH T, c2))))) (ccal 277 [vR 78, vI ((up c 97 x4 ((c 97 x4) + 1)) 97 x4), vI x4] (SH T, (up c 97 x4 ((c 97 x4) + 1)))))) ∧ (¬ (c 100 ((5 * x4) + ((up c 97 x4 ((c 97 x4) + 1)) 97 x4))) = 0 → Q (cev 278 9 134 [vR 78, vI x1, vI x2, vI x3, vI x4, vU] [] (SH T, (up c 97 x4 ((c 97 x4) + 1))))))))))))) : Q (cev 278 9 134 [vR 78, vI x1, vI x2, vI x3, vI x4, vU] [] (SH T, c)) := by
  refine of_cev (Q := Q) ?_
  refine wq_ite (Q := Q) (p := x4 < 0) (fun h => ?_) (fun h => ?_)
  · replace k := k.1 h
    show Q (cev 278 9 251 [vU, vU, vU, vU, vU, vU] [] (SH T, c))
    refine of_cev (Q := Q) ?_
    exact k
  · replace k := k.2 h
    refine wq_pos (Q := Q) k.1.1 ?_
    refine wq_pos (Q := Q) k.1.2 ?_
    refine wq_pos (Q := Q) k.1.1 ?_
    refine wq_pos (Q := Q) k.1.1 ?_
    replace k := k.2
    refine wq_ite (Q := Q) (p := ((up c 97 x4 ((c 97 x4) + 1)) 97 x4) = (c 79 0)) (fun h => ?_) (fun h => ?_)
    · replace k := k.1 h
      refine wq_pos (Q := Q) k.1 ?_
      show Q (cev 278 9 248 [vR 78, vI x1, vI x2, vI x3, vI (x4 + (-1)), vU] [] (SH T, (up c 97 x4 ((c 97 x4) + 1))))
      refine of_cev (Q := Q) ?_
      replace k := k.2
      exact k
    · replace k := k.2 h
      show Q (cev 278 9 176 [vR 78, vI x1, vI x2, vI x3, vI x4, vI ((up c 97 x4 ((c 97 x4) + 1)) 97 x4)] [] (SH T, (up c 97 x4 ((c 97 x4) + 1))))
      refine of_cev (Q := Q) ?_
      refine wq_pos (Q := Q) k.1.1 ?_
      refine wq_pos (Q := Q) k.1.2.1 ?_
      refine wq_pos (Q := Q) k.1.2.2 ?_
      replace k := k.2
      refine wq_ite (Q := Q) (p := (c 100 ((5 * x4) + ((up c 97 x4 ((c 97 x4) + 1)) 97 x4))) = 0) (fun h => ?_) (fun h => ?_)
      · replace k := k.1 h
        refine wq_callI (Q := Q) rfl k ?_
        intro r1 c2 k
        refine wq_ite (Q := Q) (p := r1 = 0) (fun h => ?_) (fun h => ?_)
        · replace k := k.1 h
          refine wq_pos (Q := Q) k.1.1 ?_
          refine wq_pos (Q := Q) k.1.2.1 ?_
          refine wq_pos (Q := Q) k.1.2.2 ?_
          replace k := k.2
          refine wq_callV (Q := Q) rfl k ?_
          intro c3 k
          refine wq_pos (Q := Q) k.1 ?_
          replace k := k.2
          refine wq_ite (Q := Q) (p := x4 = (x2 - 1)) (fun h => ?_) (fun h => ?_)
          · replace k := k.1 h
            refine wq_callV (Q := Q) rfl k ?_
            intro c4 k
            show Q (cev 278 9 248 [vR 78, vI x1, vI x2, vI x3, vI x4, vU] [] (SH T, c4))
            refine of_cev (Q := Q) ?_
            exact k
          · replace k := k.2 h
            show Q (cev 278 9 237 [vR 78, vI x1, vI x2, vI x3, vI x4, vU] [] (SH T, c3))
            refine of_cev (Q := Q) ?_
            refine wq_pos (Q := Q) k.1.1 ?_
            refine wq_pos (Q := Q) k.1.2 ?_
            show Q (cev 278 9 248 [vR 78, vI x1, vI x2, vI x3, vI (x4 + 1), vU] [] (SH T, (up c3 97 (x4 + 1) (-1))))
            refine of_cev (Q := Q) ?_
            replace k := k.2
            exact k
        · replace k := k.2 h
          show Q (cev 278 9 248 [vR 78, vI x1, vI x2, vI x3, vI x4, vU] [] (SH T, c2))
          refine of_cev (Q := Q) ?_
          exact k
      · replace k := k.2 h
        show Q (cev 278 9 248 [vR 78, vI x1, vI x2, vI x3, vI x4, vU] [] (SH T, (up c 97 x4 ((c 97 x4) + 1))))
        refine of_cev (Q := Q) ?_
        exact k

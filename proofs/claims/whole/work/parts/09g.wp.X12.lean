set_option maxRecDepth 20000 in
theorem W_X12_weigh {T : List Shp} {c : Nat → Int → Int} {Q : Res → Prop} {x1 x2 : Int} (k : ((-2147483648 ≤ (c 79 4) + x2 ∧ (c 79 4) + x2 < 2147483648) ∧ (QI T (fun r1 c2 => (QI T (fun r3 c4 => Q (cev 279 8 31 [vR 78, vI x1, vI x2, vI r1, vI 0, vI r3, vI 1, vI 0, vU, vU, vU] [] (SH T, c4))) (ccal 274 [vR 78, vI (c2 79 4)] (SH T, c2)))) (ccal 263 [vR 78, vI x2, vI ((c 79 4) + x2)] (SH T, c))))) : Q (ccal 279 [vR 78, vI x1, vI x2] (SH T, c)) := by
  refine of_cev (Q := Q) ?_
  refine wq_sum (Q := Q) rfl (S_X12_years T c ) ?_
  refine wq_pos (Q := Q) k.1 ?_
  replace k := k.2
  refine wq_callI (Q := Q) rfl k ?_
  intro r1 c2 k
  refine wq_sum (Q := Q) rfl (S_X12_years T c2 ) ?_
  refine wq_callI (Q := Q) rfl k ?_
  intro r3 c4 k
  exact k
set_option maxRecDepth 20000 in
theorem W_X12_weigh_31 {T : List Shp} {c : Nat → Int → Int} {Q : Res → Prop} {x1 x2 x3 x4 x5 x6 x7 : Int} (k : ((x7 < x2 → (((-2147483648 ≤ 5 * x7 ∧ 5 * x7 < 2147483648) ∧ (0 ≤ x7 ∧ x7 < 5) ∧ (-2147483648 ≤ (5 * x7) + (c 97 x7) ∧ (5 * x7) + (c 97 x7) < 2147483648) ∧ (0 ≤ ((5 * x7) + (c 97 x7)) ∧ ((5 * x7) + (c 97 x7)) < 25) ∧ (-2147483648 ≤ x4 + (c 99 ((5 * x7) + (c 97 x7))) ∧ x4 + (c 99 ((5 * x7) + (c 97 x7))) < 2147483648) ∧ (-2147483648 ≤ (c 79 10) - (c 99 ((5 * x7) + (c 97 x7))) ∧ (c 79 10) - (c 99 ((5 * x7) + (c 97 x7))) < 2147483648) ∧ (-2147483648 ≤ x5 + ((c 79 10) - (c 99 ((5 * x7) + (c 97 x7)))) ∧ x5 + ((c 79 10) - (c 99 ((5 * x7) + (c 97 x7)))) < 2147483648)) ∧ ((x6 = 0 → ((-2147483648 ≤ x7 + 1 ∧ x7 + 1 < 2147483648) ∧ Q (cev 279 8 31 [vR 78, vI x1, vI x2, vI x3, vI (x4 + (c 99 ((5 * x7) + (c 97 x7)))), vI (x5 + ((c 79 10) - (c 99 ((5 * x7) + (c 97 x7))))), vI 0, vI (x7 + 1), vU, vU, vU] [] (SH T, c)))) ∧ (¬ x6 = 0 → ((x1 = 2 → (((x5 + ((c 79 10) - (c 99 ((5 * x7) + (c 97 x7))))) < 0 → ((-2147483648 ≤ x7 + 1 ∧ x7 + 1 < 2147483648) ∧ Q (cev 279 8 31 [vR 78, vI x1, vI x2, vI x3, vI (x4 + (c 99 ((5 * x7) + (c 97 x7)))), vI (x5 + ((c 79 10) - (c 99 ((5 * x7) + (c 97 x7))))), vI 0, vI (x7 + 1), vU, vU, vU] [] (SH T, c)))) ∧ (¬ (x5 + ((c 79 10) - (c 99 ((5 * x7) + (c 97 x7))))) < 0 → Q (cev 279 8 104 [vR 78, vI x1, vI x2, vI x3, vI (x4 + (c 99 ((5 * x7) + (c 97 x7)))), vI (x5 + ((c 79 10) - (c 99 ((5 * x7) + (c 97 x7))))), vU, vI x7, vU, vU, vU] [] (SH T, c))))) ∧ (¬ x1 = 2 → Q (cev 279 8 104 [vR 78, vI x1, vI x2, vI x3, vI (x4 + (c 99 ((5 * x7) + (c 97 x7)))), vI (x5 + ((c 79 10) - (c 99 ((5 * x7) + (c 97 x7))))), vU, vI x7, vU, vU, vU] [] (SH T, c)))))))) ∧ (¬ x7 < x2 → ((x6 = 0 → Q (some (none, (SH T, c)))) ∧ (¬ x6 = 0 → ((x1 = 1 → ((-2147483648 ≤ x4 - (c 77 45) ∧ x4 - (c 77 45) < 2147483648) ∧ Q (cev 279 8 170 [vR 78, vI x1, vI x2, vI x3, vI x4, vU, vU, vU, vU, vU, vU] [vI (x4 - (c 77 45))] (SH T, c)))) ∧ (¬ x1 = 1 → ((-2147483648 ≤ x3 - (c 77 44) ∧ x3 - (c 77 44) < 2147483648) ∧ Q (cev 279 8 170 [vR 78, vI x1, vI x2, vI x3, vI x4, vU, vU, vU, vU, vU, vU] [vI (x3 - (c 77 44))] (SH T, c)))))))))) : Q (cev 279 8 31 [vR 78, vI x1, vI x2, vI x3, vI x4, vI x5, vI x6, vI x7, vU, vU, vU] [] (SH T, c)) := by
  refine of_cev (Q := Q) ?_
  refine wq_ite (Q := Q) (p := x7 < x2) (fun h => ?_) (fun h => ?_)
  · replace k := k.1 h
    refine wq_pos (Q := Q) k.1.1 ?_
    refine wq_pos (Q := Q) k.1.2.1 ?_
    refine wq_pos (Q := Q) k.1.2.2.1 ?_
    refine wq_pos (Q := Q) k.1.2.2.2.1 ?_
    refine wq_pos (Q := Q) k.1.2.2.2.2.1 ?_
    refine wq_pos (Q := Q) k.1.1 ?_
    refine wq_pos (Q := Q) k.1.2.1 ?_
    refine wq_pos (Q := Q) k.1.2.2.1 ?_
    refine wq_pos (Q := Q) k.1.2.2.2.1 ?_
    refine wq_pos (Q := Q) k.1.2.2.2.2.2.1 ?_
    refine wq_pos (Q := Q) k.1.2.2.2.2.2.2 ?_
    replace k := k.2
    refine wq_ite (Q := Q) (p := x6 = 0) (fun h => ?_) (fun h => ?_)
    · replace k := k.1 h
      show Q (cev 279 8 134 [vR 78, vI x1, vI x2, vI x3, vI (x4 + (c 99 ((5 * x7) + (c 97 x7)))), vI (x5 + ((c 79 10) - (c 99 ((5 * x7) + (c 97 x7))))), vU, vI x7, vU, vU, vU] [] (SH T, c))
      refine of_cev (Q := Q) ?_
      refine wq_pos (Q := Q) k.1 ?_
      replace k := k.2
      exact k
    · replace k := k.2 h
      refine wq_ite (Q := Q) (p := x1 = 2) (fun h => ?_) (fun h => ?_)
      · replace k := k.1 h
        refine wq_ite (Q := Q) (p := (x5 + ((c 79 10) - (c 99 ((5 * x7) + (c 97 x7))))) < 0) (fun h => ?_) (fun h => ?_)
        · replace k := k.1 h
          show Q (cev 279 8 134 [vR 78, vI x1, vI x2, vI x3, vI (x4 + (c 99 ((5 * x7) + (c 97 x7)))), vI (x5 + ((c 79 10) - (c 99 ((5 * x7) + (c 97 x7))))), vU, vI x7, vU, vU, vU] [] (SH T, c))
          refine of_cev (Q := Q) ?_
          refine wq_pos (Q := Q) k.1 ?_
          replace k := k.2
          exact k
        · replace k := k.2 h
          exact k
      · replace k := k.2 h
        exact k
  · replace k := k.2 h
    show Q (cev 279 8 143 [vR 78, vI x1, vI x2, vI x3, vI x4, vU, vI x6, vU, vU, vU, vU] [] (SH T, c))
    refine of_cev (Q := Q) ?_
    refine wq_ite (Q := Q) (p := x6 = 0) (fun h => ?_) (fun h => ?_)
    · replace k := k.1 h
      exact k
    · replace k := k.2 h
      show Q (cev 279 8 149 [vR 78, vI x1, vI x2, vI x3, vI x4, vU, vU, vU, vU, vU, vU] [] (SH T, c))
      refine of_cev (Q := Q) ?_
      refine wq_ite (Q := Q) (p := x1 = 1) (fun h => ?_) (fun h => ?_)
      · replace k := k.1 h
        refine wq_pos (Q := Q) k.1 ?_
        replace k := k.2
        exact k
      · replace k := k.2 h
        show Q (cev 279 8 164 [vR 78, vI x1, vI x2, vI x3, vI x4, vU, vU, vU, vU, vU, vU] [] (SH T, c))
        refine of_cev (Q := Q) ?_
        refine wq_pos (Q := Q) k.1 ?_
        replace k := k.2
        exact k
set_option maxRecDepth 20000 in
theorem W_X12_weigh_104 {T : List Shp} {c : Nat → Int → Int} {Q : Res → Prop} {x1 x2 x3 x4 x5 x7 : Int} (k : ((x1 = 1 → (((-2147483648 ≤ x7 + 1 ∧ x7 + 1 < 2147483648) ∧ (-2147483648 ≤ (c 79 4) + x7 ∧ (c 79 4) + x7 < 2147483648) ∧ (-2147483648 ≤ ((c 79 4) + x7) + 1 ∧ ((c 79 4) + x7) + 1 < 2147483648)) ∧ (QI T (fun r1 c2 => ((r1 = (-1) → ((-2147483648 ≤ x7 + 1 ∧ x7 + 1 < 2147483648) ∧ Q (cev 279 8 31 [vR 78, vI x1, vI x2, vI x3, vI x4, vI x5, vI 1, vI (x7 + 1), vU, vU, vU] [] (SH T, c2)))) ∧ (¬ r1 = (-1) → ((-2147483648 ≤ x7 + 1 ∧ x7 + 1 < 2147483648) ∧ Q (cev 279 8 31 [vR 78, vI x1, vI x2, vI x3, vI x4, vI x5, vI 0, vI (x7 + 1), vU, vU, vU] [] (SH T, c2)))))) (ccal 270 [vR 78, vI (x7 + 1), vI (((c 79 4) + x7) + 1)] (SH T, c))))) ∧ (¬ x1 = 1 → ((-2147483648 ≤ x7 + 1 ∧ x7 + 1 < 2147483648) ∧ Q (cev 279 8 31 [vR 78, vI x1, vI x2, vI x3, vI x4, vI x5, vI 1, vI (x7 + 1), vU, vU, vU] [] (SH T, c)))))) : Q (cev 279 8 104 [vR 78, vI x1, vI x2, vI x3, vI x4, vI x5, vU, vI x7, vU, vU, vU] [] (SH T, c)) := by
  refine of_cev (Q := Q) ?_
  refine wq_ite (Q := Q) (p := x1 = 1) (fun h => ?_) (fun h => ?_)
  · replace k := k.1 h
    refine wq_pos (Q := Q) k.1.1 ?_
    refine wq_sum (Q := Q) rfl (S_X12_years T c ) ?_
    refine wq_pos (Q := Q) k.1.2.1 ?_
    refine wq_pos (Q := Q) k.1.2.2 ?_
    replace k := k.2
    refine wq_callI (Q := Q) rfl k ?_
    intro r1 c2 k
    refine wq_ite (Q := Q) (p := r1 = (-1)) (fun h => ?_) (fun h => ?_)
    · replace k := k.1 h
      show Q (cev 279 8 130 [vR 78, vI x1, vI x2, vI x3, vI x4, vI x5, vU, vI x7, vU, vU, vU] [] (SH T, c2))
      refine of_cev (Q := Q) ?_
      refine wq_pos (Q := Q) k.1 ?_
      replace k := k.2
      exact k
    · replace k := k.2 h
      show Q (cev 279 8 134 [vR 78, vI x1, vI x2, vI x3, vI x4, vI x5, vU, vI x7, vU, vU, vU] [] (SH T, c2))
      refine of_cev (Q := Q) ?_
      refine wq_pos (Q := Q) k.1 ?_
      replace k := k.2
      exact k
  · replace k := k.2 h
    show Q (cev 279 8 130 [vR 78, vI x1, vI x2, vI x3, vI x4, vI x5, vU, vI x7, vU, vU, vU] [] (SH T, c))
    refine of_cev (Q := Q) ?_
    refine wq_pos (Q := Q) k.1 ?_
    replace k := k.2
    exact k
set_option maxRecDepth 20000 in
theorem W_X12_weigh_170 {T : List Shp} {c : Nat → Int → Int} {Q : Res → Prop} {x1 x2 x3 x4 y0 : Int} (k : ((x1 = 1 → ((-2147483648 ≤ x3 - (c 77 44) ∧ x3 - (c 77 44) < 2147483648) ∧ Q (cev 279 8 193 [vR 78, vU, vI x2, vI x3, vI x4, vU, vU, vI y0, vU, vU, vU] [vI (x3 - (c 77 44))] (SH T, c)))) ∧ (¬ x1 = 1 → ((-2147483648 ≤ x4 - (c 77 45) ∧ x4 - (c 77 45) < 2147483648) ∧ Q (cev 279 8 193 [vR 78, vU, vI x2, vI x3, vI x4, vU, vU, vI y0, vU, vU, vU] [vI (x4 - (c 77 45))] (SH T, c)))))) : Q (cev 279 8 170 [vR 78, vI x1, vI x2, vI x3, vI x4, vU, vU, vU, vU, vU, vU] [vI y0] (SH T, c)) := by
  refine of_cev (Q := Q) ?_
  refine wq_ite (Q := Q) (p := x1 = 1) (fun h => ?_) (fun h => ?_)
  · replace k := k.1 h
    refine wq_pos (Q := Q) k.1 ?_
    replace k := k.2
    exact k
  · replace k := k.2 h
    show Q (cev 279 8 186 [vR 78, vU, vI x2, vI x3, vI x4, vU, vU, vI y0, vU, vU, vU] [] (SH T, c))
    refine of_cev (Q := Q) ?_
    refine wq_pos (Q := Q) k.1 ?_
    replace k := k.2
    exact k
set_option maxRecDepth 20000 in
theorem W_X12_weigh_193 {T : List Shp} {c : Nat → Int → Int} {Q : Res → Prop} {x2 x3 x4 x7 y0 : Int} (k : (((c 77 46) = 0 → Q (cev 279 8 222 [vR 78, vU, vI x2, vI x3, vI x4, vU, vU, vU, vU, vU, vU] [vI 1] (SH T, c))) ∧ (¬ (c 77 46) = 0 → ((x7 < 0 → Q (cev 279 8 222 [vR 78, vU, vI x2, vI x3, vI x4, vU, vU, vU, vU, vU, vU] [vI 1] (SH T, c))) ∧ (¬ x7 < 0 → ((x7 = 0 → ((y0 < 0 → Q (cev 279 8 222 [vR 78, vU, vI x2, vI x3, vI x4, vU, vU, vU, vU, vU, vU] [vI 1] (SH T, c))) ∧ (¬ y0 < 0 → Q (cev 279 8 222 [vR 78, vU, vI x2, vI x3, vI x4, vU, vU, vU, vU, vU, vU] [vI 0] (SH T, c))))) ∧ (¬ x7 = 0 → Q (cev 279 8 222 [vR 78, vU, vI x2, vI x3, vI x4, vU, vU, vU, vU, vU, vU] [vI 0] (SH T, c))))))))) : Q (cev 279 8 193 [vR 78, vU, vI x2, vI x3, vI x4, vU, vU, vI x7, vU, vU, vU] [vI y0] (SH T, c)) := by
  refine of_cev (Q := Q) ?_
  refine wq_ite (Q := Q) (p := (c 77 46) = 0) (fun h => ?_) (fun h => ?_)
  · replace k := k.1 h
    show Q (cev 279 8 217 [vR 78, vU, vI x2, vI x3, vI x4, vU, vU, vU, vU, vU, vU] [] (SH T, c))
    refine of_cev (Q := Q) ?_
    exact k
  · replace k := k.2 h
    refine wq_ite (Q := Q) (p := x7 < 0) (fun h => ?_) (fun h => ?_)
    · replace k := k.1 h
      show Q (cev 279 8 217 [vR 78, vU, vI x2, vI x3, vI x4, vU, vU, vU, vU, vU, vU] [] (SH T, c))
      refine of_cev (Q := Q) ?_
      exact k
    · replace k := k.2 h
      refine wq_ite (Q := Q) (p := x7 = 0) (fun h => ?_) (fun h => ?_)
      · replace k := k.1 h
        refine wq_ite (Q := Q) (p := y0 < 0) (fun h => ?_) (fun h => ?_)
        · replace k := k.1 h
          show Q (cev 279 8 217 [vR 78, vU, vI x2, vI x3, vI x4, vU, vU, vU, vU, vU, vU] [] (SH T, c))
          refine of_cev (Q := Q) ?_
          exact k
        · replace k := k.2 h
          show Q (cev 279 8 221 [vR 78, vU, vI x2, vI x3, vI x4, vU, vU, vU, vU, vU, vU] [] (SH T, c))
          refine of_cev (Q := Q) ?_
          exact k
      · replace k := k.2 h
        show Q (cev 279 8 221 [vR 78, vU, vI x2, vI x3, vI x4, vU, vU, vU, vU, vU, vU] [] (SH T, c))
        refine of_cev (Q := Q) ?_
        exact k
set_option maxRecDepth 20000 in
theorem W_X12_weigh_222 {T : List Shp} {c : Nat → Int → Int} {Q : Res → Prop} {x2 x3 x4 y0 : Int} (k : ((y0 = 0 → Q (cev 279 8 274 [vR 78, vU, vU, vI x3, vI x4, vU, vU, vU, vU, vU, vU] [] (SH T, c))) ∧ (¬ y0 = 0 → Q (cev 279 8 248 [vR 78, vU, vI x2, vI x3, vI x4, vU, vU, vU, vU, vU, vI 0] [] (SH T, (up (up (up c 77 44 x3) 77 45 x4) 77 46 0)))))) : Q (cev 279 8 222 [vR 78, vU, vI x2, vI x3, vI x4, vU, vU, vU, vU, vU, vU] [vI y0] (SH T, c)) := by
  refine of_cev (Q := Q) ?_
  refine wq_ite (Q := Q) (p := y0 = 0) (fun h => ?_) (fun h => ?_)
  · replace k := k.1 h
    exact k
  · replace k := k.2 h
    exact k
set_option maxRecDepth 20000 in
theorem W_X12_weigh_248 {T : List Shp} {c : Nat → Int → Int} {Q : Res → Prop} {x2 x3 x4 x10 : Int} (k : ((x10 < x2 → (((0 ≤ x10 ∧ x10 < 5) ∧ (-2147483648 ≤ x10 + 1 ∧ x10 + 1 < 2147483648)) ∧ Q (cev 279 8 248 [vR 78, vU, vI x2, vI x3, vI x4, vU, vU, vU, vU, vU, vI (x10 + 1)] [] (SH T, (up c 98 x10 (c 97 x10)))))) ∧ (¬ x10 < x2 → Q (cev 279 8 274 [vR 78, vU, vU, vI x3, vI x4, vU, vU, vU, vU, vU, vU] [] (SH T, c))))) : Q (cev 279 8 248 [vR 78, vU, vI x2, vI x3, vI x4, vU, vU, vU, vU, vU, vI x10] [] (SH T, c)) := by
  refine of_cev (Q := Q) ?_
  refine wq_ite (Q := Q) (p := x10 < x2) (fun h => ?_) (fun h => ?_)
  · replace k := k.1 h
    refine wq_pos (Q := Q) k.1.1 ?_
    refine wq_pos (Q := Q) k.1.1 ?_
    refine wq_pos (Q := Q) k.1.2 ?_
    replace k := k.2
    exact k
  · replace k := k.2 h
    exact k
set_option maxRecDepth 20000 in
theorem W_X12_weigh_274 {T : List Shp} {c : Nat → Int → Int} {Q : Res → Prop} {x3 x4 : Int} (k : ((x3 = (c 77 44) → ((x4 = (c 77 45) → ((-2147483648 ≤ (c 77 46) + 1 ∧ (c 77 46) + 1 < 2147483648) ∧ Q (some (none, (SH T, (up c 77 46 ((c 77 46) + 1))))))) ∧ (¬ x4 = (c 77 45) → ((-2147483648 ≤ (c 77 46) + 0 ∧ (c 77 46) + 0 < 2147483648) ∧ Q (some (none, (SH T, (up c 77 46 ((c 77 46) + 0))))))))) ∧ (¬ x3 = (c 77 44) → ((-2147483648 ≤ (c 77 46) + 0 ∧ (c 77 46) + 0 < 2147483648) ∧ Q (some (none, (SH T, (up c 77 46 ((c 77 46) + 0))))))))) : Q (cev 279 8 274 [vR 78, vU, vU, vI x3, vI x4, vU, vU, vU, vU, vU, vU] [] (SH T, c)) := by
  refine of_cev (Q := Q) ?_
  refine wq_ite (Q := Q) (p := x3 = (c 77 44)) (fun h => ?_) (fun h => ?_)
  · replace k := k.1 h
    refine wq_ite (Q := Q) (p := x4 = (c 77 45)) (fun h => ?_) (fun h => ?_)
    · replace k := k.1 h
      refine wq_pos (Q := Q) k.1 ?_
      replace k := k.2
      exact k
    · replace k := k.2 h
      show Q (cev 279 8 300 [vU, vU, vU, vU, vU, vU, vU, vU, vU, vU, vU] [vI (c 77 46), vR 78] (SH T, c))
      refine of_cev (Q := Q) ?_
      refine wq_pos (Q := Q) k.1 ?_
      replace k := k.2
      exact k
  · replace k := k.2 h
    show Q (cev 279 8 300 [vU, vU, vU, vU, vU, vU, vU, vU, vU, vU, vU] [vI (c 77 46), vR 78] (SH T, c))
    refine of_cev (Q := Q) ?_
    refine wq_pos (Q := Q) k.1 ?_
    replace k := k.2
    exact k
set_option maxRecDepth 20000 in
theorem W_X12_plan {T : List Shp} {c : Nat → Int → Int} {Q : Res → Prop} {x1 x2 x3 : Int} (k : ((0 ≤ x1 ∧ x1 ≤ 2 → ((0 ≤ x2 ∧ x2 ≤ 5 → ((-9223372036854775808 ≤ 2 + x2 ∧ 2 + x2 < 9223372036854775808) ∧ ((0 ≤ x3 ∧ x3 ≤ (2 + x2) → (QV T (fun c1 => ((x3 = 2 → Q (some (some (vI (c1 77 46)), (SH T, c1)))) ∧ (¬ x3 = 2 → (((c1 77 46) = 0 → Q (some (some (vI (-1)), (SH T, c1)))) ∧ (¬ (c1 77 46) = 0 → ((x3 = 0 → Q (some (some (vI (c1 77 44)), (SH T, c1)))) ∧ (¬ x3 = 0 → ((x3 = 1 → Q (some (some (vI (c1 77 45)), (SH T, c1)))) ∧ (¬ x3 = 1 → (((-2147483648 ≤ x3 - 3 ∧ x3 - 3 < 2147483648) ∧ (0 ≤ (x3 - 3) ∧ (x3 - 3) < 5)) ∧ Q (some (some (vI (c1 98 (x3 - 3))), (SH T, c1))))))))))))) (ccal 278 [vR 78, vI x1, vI x2] (SH T, (up c 77 0 0))))) ∧ (¬ (0 ≤ x3 ∧ x3 ≤ (2 + x2)) → Q (some (some (vI (-1)), (SH T, (up c 77 0 0)))))))) ∧ (¬ (0 ≤ x2 ∧ x2 ≤ 5) → Q (some (some (vI (-1)), (SH T, (up c 77 0 0))))))) ∧ (¬ (0 ≤ x1 ∧ x1 ≤ 2) → Q (some (some (vI (-1)), (SH T, (up c 77 0 0))))))) : Q (ccal 280 [vR 78, vI x1, vI x2, vI x3] (SH T, c)) := by
  refine of_cev (Q := Q) ?_
  refine wq_sum (Q := Q) rfl (S_X12_in T (up c 77 0 0) x1 0 2) ?_
  refine wq_b01 (Q := Q) (p := 0 ≤ x1 ∧ x1 ≤ 2) (fun h => ?_) (fun h => ?_)
  · replace k := k.2 h
    show Q (cev 280 10 44 [vU, vU, vU, vU] [] (SH T, (up c 77 0 0)))
    refine of_cev (Q := Q) ?_
    exact k
  · replace k := k.1 h
    refine wq_sum (Q := Q) rfl (S_X12_in T (up c 77 0 0) x2 0 5) ?_
    refine wq_b01 (Q := Q) (p := 0 ≤ x2 ∧ x2 ≤ 5) (fun h => ?_) (fun h => ?_)
    · replace k := k.2 h
      show Q (cev 280 10 44 [vU, vU, vU, vU] [] (SH T, (up c 77 0 0)))
      refine of_cev (Q := Q) ?_
      exact k
    · replace k := k.1 h
      refine wq_pos (Q := Q) k.1 ?_
      refine wq_sum (Q := Q) rfl (S_X12_in T (up c 77 0 0) x3 0 (2 + x2)) ?_
      replace k := k.2
      refine wq_b01 (Q := Q) (p := 0 ≤ x3 ∧ x3 ≤ (2 + x2)) (fun h => ?_) (fun h => ?_)
      · replace k := k.2 h
        show Q (cev 280 10 44 [vU, vU, vU, vU] [] (SH T, (up c 77 0 0)))
        refine of_cev (Q := Q) ?_
        exact k
      · replace k := k.1 h
        show Q (cev 280 10 46 [vR 78, vI x1, vI x2, vI x3] [] (SH T, (up c 77 0 0)))
        refine of_cev (Q := Q) ?_
        refine wq_callV (Q := Q) rfl k ?_
        intro c1 k
        refine wq_ite (Q := Q) (p := x3 = 2) (fun h => ?_) (fun h => ?_)
        · replace k := k.1 h
          exact k
        · replace k := k.2 h
          show Q (cev 280 10 62 [vR 78, vU, vU, vI x3] [] (SH T, c1))
          refine of_cev (Q := Q) ?_
          refine wq_ite (Q := Q) (p := (c1 77 46) = 0) (fun h => ?_) (fun h => ?_)
          · replace k := k.1 h
            exact k
          · replace k := k.2 h
            show Q (cev 280 10 73 [vR 78, vU, vU, vI x3] [] (SH T, c1))
            refine of_cev (Q := Q) ?_
            refine wq_ite (Q := Q) (p := x3 = 0) (fun h => ?_) (fun h => ?_)
            · replace k := k.1 h
              exact k
            · replace k := k.2 h
              show Q (cev 280 10 84 [vR 78, vU, vU, vI x3] [] (SH T, c1))
              refine of_cev (Q := Q) ?_
              refine wq_ite (Q := Q) (p := x3 = 1) (fun h => ?_) (fun h => ?_)
              · replace k := k.1 h
                exact k
              · replace k := k.2 h
                show Q (cev 280 10 96 [vR 78, vU, vU, vI x3] [] (SH T, c1))
                refine of_cev (Q := Q) ?_
                refine wq_pos (Q := Q) k.1.1 ?_
                refine wq_pos (Q := Q) k.1.2 ?_
                replace k := k.2
                exact k
set_option maxRecDepth 20000 in
theorem W_X12_driftOf {T : List Shp} {c : Nat → Int → Int} {Q : Res → Prop} {x1 x2 : Int} (k : (((0 ≤ (c 79 4) ∧ (c 79 4) < 100) ∧ (0 ≤ x1 ∧ x1 < 12) ∧ (-2147483648 ≤ (c 79 4) + 1 ∧ (c 79 4) + 1 < 2147483648)) ∧ Q (cev 281 8 16 [vR 78, vI x1, vI x2, vI (ishl 1 (c 79 (12 + 12 * (c 79 4) + x1))), vI ((c 79 4) + 1), vU, vU, vU] [] (SH T, c)))) : Q (ccal 281 [vR 78, vI x1, vI x2] (SH T, c)) := by
  refine of_cev (Q := Q) ?_
  refine wq_sum (Q := Q) rfl (S_X12_seen T c x1 k.1.1 k.1.2.1) ?_
  refine wq_sum (Q := Q) rfl (S_X12_years T c ) ?_
  refine wq_pos (Q := Q) k.1.2.2 ?_
  replace k := k.2
  exact k
set_option maxRecDepth 20000 in
theorem W_X12_driftOf_16 {T : List Shp} {c : Nat → Int → Int} {Q : Res → Prop} {x1 x2 x3 x4 : Int} (k : ((-2147483648 ≤ (c 79 4) + x2 ∧ (c 79 4) + x2 < 2147483648) ∧ ((((c 79 4) + x2) < x4 → Q (some (some (vI x3), (SH T, c)))) ∧ (¬ ((c 79 4) + x2) < x4 → (QV T (fun c1 => Q (cev 281 8 39 [vR 78, vI x1, vI x2, vI x3, vI x4, vI 0, vI 0, vU] [] (SH T, c1))) (ccal 259 [vR 78, vI x4] (SH T, c))))))) : Q (cev 281 8 16 [vR 78, vI x1, vI x2, vI x3, vI x4, vU, vU, vU] [] (SH T, c)) := by
  refine of_cev (Q := Q) ?_
  refine wq_sum (Q := Q) rfl (S_X12_years T c ) ?_
  refine wq_pos (Q := Q) k.1 ?_
  replace k := k.2
  refine wq_ite (Q := Q) (p := ((c 79 4) + x2) < x4) (fun h => ?_) (fun h => ?_)
  · replace k := k.1 h
    show Q (cev 281 8 123 [vU, vU, vU, vI x3, vU, vU, vU, vU] [] (SH T, c))
    refine of_cev (Q := Q) ?_
    exact k
  · replace k := k.2 h
    refine wq_callV (Q := Q) rfl k ?_
    intro c1 k
    exact k
set_option maxRecDepth 20000 in
theorem W_X12_driftOf_39 {T : List Shp} {c : Nat → Int → Int} {Q : Res → Prop} {x1 x2 x3 x4 x5 x6 : Int} (k : ((x6 < (c 79 0) → (QI T (fun r1 c2 => ((r1 = 0 → Q (cev 281 8 64 [vR 78, vI x1, vI x2, vI x3, vI x4, vI x5, vI x6, vI 0] [] (SH T, c2))) ∧ (¬ r1 = 0 → ((-2147483648 ≤ x6 + 1 ∧ x6 + 1 < 2147483648) ∧ Q (cev 281 8 39 [vR 78, vI x1, vI x2, vI x3, vI x4, vI x5, vI (x6 + 1), vU] [] (SH T, c2)))))) (ccal 256 [vR 78, vI x6, vI x4] (SH T, c)))) ∧ (¬ x6 < (c 79 0) → ((-2147483648 ≤ x4 + 1 ∧ x4 + 1 < 2147483648) ∧ Q (cev 281 8 16 [vR 78, vI x1, vI x2, vI x5, vI (x4 + 1), vU, vU, vU] [] (SH T, c)))))) : Q (cev 281 8 39 [vR 78, vI x1, vI x2, vI x3, vI x4, vI x5, vI x6, vU] [] (SH T, c)) := by
  refine of_cev (Q := Q) ?_
  refine wq_ite (Q := Q) (p := x6 < (c 79 0)) (fun h => ?_) (fun h => ?_)
  · replace k := k.1 h
    refine wq_callI (Q := Q) rfl k ?_
    intro r1 c2 k
    refine wq_ite (Q := Q) (p := r1 = 0) (fun h => ?_) (fun h => ?_)
    · replace k := k.1 h
      exact k
    · replace k := k.2 h
      show Q (cev 281 8 108 [vR 78, vI x1, vI x2, vI x3, vI x4, vI x5, vI x6, vU] [] (SH T, c2))
      refine of_cev (Q := Q) ?_
      refine wq_pos (Q := Q) k.1 ?_
      replace k := k.2
      exact k
  · replace k := k.2 h
    show Q (cev 281 8 114 [vR 78, vI x1, vI x2, vU, vI x4, vI x5, vU, vU] [] (SH T, c))
    refine of_cev (Q := Q) ?_
    refine wq_pos (Q := Q) k.1 ?_
    replace k := k.2
    exact k
set_option maxRecDepth 20000 in
theorem W_X12_driftOf_64 {T : List Shp} {c : Nat → Int → Int} {Q : Res → Prop} {x1 x2 x3 x4 x5 x6 x7 : Int} (k : ((x7 < 10 → ((iand (ishr x3 x7) 1 = 1 → (QI T (fun r1 c2 => ((-2147483648 ≤ x7 + 1 ∧ x7 + 1 < 2147483648) ∧ Q (cev 281 8 64 [vR 78, vI x1, vI x2, vI x3, vI x4, vI (ior x5 (ishl 1 r1)), vI x6, vI (x7 + 1)] [] (SH T, c2)))) (ccal 260 [vR 78, vI x6, vI x1, vI x4, vI x7] (SH T, c)))) ∧ (¬ (iand (ishr x3 x7) 1 = 1) → ((-2147483648 ≤ x7 + 1 ∧ x7 + 1 < 2147483648) ∧ Q (cev 281 8 64 [vR 78, vI x1, vI x2, vI x3, vI x4, vI (ior x5 0), vI x6, vI (x7 + 1)] [] (SH T, c)))))) ∧ (¬ x7 < 10 → ((-2147483648 ≤ x6 + 1 ∧ x6 + 1 < 2147483648) ∧ Q (cev 281 8 39 [vR 78, vI x1, vI x2, vI x3, vI x4, vI x5, vI (x6 + 1), vU] [] (SH T, c)))))) : Q (cev 281 8 64 [vR 78, vI x1, vI x2, vI x3, vI x4, vI x5, vI x6, vI x7] [] (SH T, c)) := by
  refine of_cev (Q := Q) ?_
  refine wq_ite (Q := Q) (p := x7 < 10) (fun h => ?_) (fun h => ?_)
  · replace k := k.1 h
    refine wq_sum (Q := Q) rfl (S_X12_is T c x3 x7) ?_
    refine wq_b01 (Q := Q) (p := iand (ishr x3 x7) 1 = 1) (fun h => ?_) (fun h => ?_)
    · replace k := k.2 h
      show Q (cev 281 8 98 [vR 78, vI x1, vI x2, vI x3, vI x4, vU, vI x6, vI x7] [vI x5] (SH T, c))
      refine of_cev (Q := Q) ?_
      refine wq_pos (Q := Q) k.1 ?_
      replace k := k.2
      exact k
    · replace k := k.1 h
      refine wq_callI (Q := Q) rfl k ?_
      intro r1 c2 k
      refine wq_pos (Q := Q) k.1 ?_
      replace k := k.2
      exact k
  · replace k := k.2 h
    show Q (cev 281 8 108 [vR 78, vI x1, vI x2, vI x3, vI x4, vI x5, vI x6, vU] [] (SH T, c))
    refine of_cev (Q := Q) ?_
    refine wq_pos (Q := Q) k.1 ?_
    replace k := k.2
    exact k
set_option maxRecDepth 20000 in
theorem W_X12_drift {T : List Shp} {c : Nat → Int → Int} {Q : Res → Prop} {x1 x2 x3 : Int} (k : ((0 ≤ x1 ∧ x1 < 12 → ((0 ≤ x2 ∧ x2 ≤ 10 → ((0 ≤ x3 ∧ x3 ≤ 2 → (QI T (fun r1 c2 => ((x3 = 2 → Q (some (some (vI r1), (SH T, c2)))) ∧ (¬ x3 = 2 → Q (cev 282 9 60 [vU, vU, vU, vI x3, vI r1, vI (-1), vI 0] [] (SH T, c2))))) (ccal 281 [vR 78, vI x1, vI x2] (SH T, (up c 77 0 0))))) ∧ (¬ (0 ≤ x3 ∧ x3 ≤ 2) → Q (some (some (vI (-1)), (SH T, (up c 77 0 0))))))) ∧ (¬ (0 ≤ x2 ∧ x2 ≤ 10) → Q (some (some (vI (-1)), (SH T, (up c 77 0 0))))))) ∧ (¬ (0 ≤ x1 ∧ x1 < 12) → Q (some (some (vI (-1)), (SH T, (up c 77 0 0))))))) : Q (ccal 282 [vR 78, vI x1, vI x2, vI x3] (SH T, c)) := by
  refine of_cev (Q := Q) ?_
  refine wq_sum (Q := Q) rfl (S_X12_isCell T (up c 77 0 0) x1) ?_
  refine wq_b01 (Q := Q) (p := 0 ≤ x1 ∧ x1 < 12) (fun h => ?_) (fun h => ?_)
  · replace k := k.2 h
    show Q (cev 282 9 36 [vU, vU, vU, vU, vU, vU, vU] [] (SH T, (up c 77 0 0)))
    refine of_cev (Q := Q) ?_
    exact k
  · replace k := k.1 h
    refine wq_sum (Q := Q) rfl (S_X12_in T (up c 77 0 0) x2 0 10) ?_
    refine wq_b01 (Q := Q) (p := 0 ≤ x2 ∧ x2 ≤ 10) (fun h => ?_) (fun h => ?_)
    · replace k := k.2 h
      show Q (cev 282 9 36 [vU, vU, vU, vU, vU, vU, vU] [] (SH T, (up c 77 0 0)))
      refine of_cev (Q := Q) ?_
      exact k
    · replace k := k.1 h
      refine wq_sum (Q := Q) rfl (S_X12_in T (up c 77 0 0) x3 0 2) ?_
      refine wq_b01 (Q := Q) (p := 0 ≤ x3 ∧ x3 ≤ 2) (fun h => ?_) (fun h => ?_)
      · replace k := k.2 h
        show Q (cev 282 9 36 [vU, vU, vU, vU, vU, vU, vU] [] (SH T, (up c 77 0 0)))
        refine of_cev (Q := Q) ?_
        exact k
      · replace k := k.1 h
        show Q (cev 282 9 38 [vR 78, vI x1, vI x2, vI x3, vU, vU, vU] [] (SH T, (up c 77 0 0)))
        refine of_cev (Q := Q) ?_
        refine wq_callI (Q := Q) rfl k ?_
        intro r1 c2 k
        refine wq_ite (Q := Q) (p := x3 = 2) (fun h => ?_) (fun h => ?_)
        · replace k := k.1 h
          exact k
        · replace k := k.2 h
          show Q (cev 282 9 54 [vU, vU, vU, vI x3, vI r1, vU, vU] [] (SH T, c2))
          refine of_cev (Q := Q) ?_
          exact k
set_option maxRecDepth 20000 in
theorem W_X12_drift_60 {T : List Shp} {c : Nat → Int → Int} {Q : Res → Prop} {x3 x4 x5 x6 : Int} (k : ((x6 < 10 → ((iand (ishr x4 x6) 1 = 1 → ((x5 = (-1) → ((-2147483648 ≤ x6 + 1 ∧ x6 + 1 < 2147483648) ∧ Q (cev 282 9 60 [vU, vU, vU, vI x3, vI x4, vI x6, vI (x6 + 1)] [] (SH T, c)))) ∧ (¬ x5 = (-1) → ((x3 = 1 → ((-2147483648 ≤ x6 + 1 ∧ x6 + 1 < 2147483648) ∧ Q (cev 282 9 60 [vU, vU, vU, vI x3, vI x4, vI x6, vI (x6 + 1)] [] (SH T, c)))) ∧ (¬ x3 = 1 → ((-2147483648 ≤ x6 + 1 ∧ x6 + 1 < 2147483648) ∧ Q (cev 282 9 60 [vU, vU, vU, vI x3, vI x4, vI x5, vI (x6 + 1)] [] (SH T, c)))))))) ∧ (¬ (iand (ishr x4 x6) 1 = 1) → ((-2147483648 ≤ x6 + 1 ∧ x6 + 1 < 2147483648) ∧ Q (cev 282 9 60 [vU, vU, vU, vI x3, vI x4, vI x5, vI (x6 + 1)] [] (SH T, c)))))) ∧ (¬ x6 < 10 → Q (some (some (vI x5), (SH T, c)))))) : Q (cev 282 9 60 [vU, vU, vU, vI x3, vI x4, vI x5, vI x6] [] (SH T, c)) := by
  refine of_cev (Q := Q) ?_
  refine wq_ite (Q := Q) (p := x6 < 10) (fun h => ?_) (fun h => ?_)
  · replace k := k.1 h
    refine wq_sum (Q := Q) rfl (S_X12_is T c x4 x6) ?_
    refine wq_b01 (Q := Q) (p := iand (ishr x4 x6) 1 = 1) (fun h => ?_) (fun h => ?_)
    · replace k := k.2 h
      show Q (cev 282 9 93 [vU, vU, vU, vI x3, vI x4, vI x5, vI x6] [] (SH T, c))
      refine of_cev (Q := Q) ?_
      refine wq_pos (Q := Q) k.1 ?_
      replace k := k.2
      exact k
    · replace k := k.1 h
      refine wq_ite (Q := Q) (p := x5 = (-1)) (fun h => ?_) (fun h => ?_)
      · replace k := k.1 h
        show Q (cev 282 9 88 [vU, vU, vU, vI x3, vI x4, vU, vI x6] [] (SH T, c))
        refine of_cev (Q := Q) ?_
        refine wq_pos (Q := Q) k.1 ?_
        replace k := k.2
        exact k
      · replace k := k.2 h
        refine wq_ite (Q := Q) (p := x3 = 1) (fun h => ?_) (fun h => ?_)
        · replace k := k.1 h
          show Q (cev 282 9 88 [vU, vU, vU, vI x3, vI x4, vU, vI x6] [] (SH T, c))
          refine of_cev (Q := Q) ?_
          refine wq_pos (Q := Q) k.1 ?_
          replace k := k.2
          exact k
        · replace k := k.2 h
          show Q (cev 282 9 93 [vU, vU, vU, vI x3, vI x4, vI x5, vI x6] [] (SH T, c))
          refine of_cev (Q := Q) ?_
          refine wq_pos (Q := Q) k.1 ?_
          replace k := k.2
          exact k
  · replace k := k.2 h
    show Q (cev 282 9 103 [vU, vU, vU, vU, vU, vI x5, vU] [] (SH T, c))
    refine of_cev (Q := Q) ?_
    exact k
set_option maxRecDepth 20000 in
theorem W_X12_undoing {T : List Shp} {c : Nat → Int → Int} {Q : Res → Prop} {x1 : Int} (k : ((-2147483648 ≤ (c 79 4) + 1 ∧ (c 79 4) + 1 < 2147483648) ∧ (QV T (fun c1 => ((-2147483648 ≤ ((c 79 4) + 1) + 1 ∧ ((c 79 4) + 1) + 1 < 2147483648) ∧ (QV T (fun c2 => (QV T (fun c3 => Q (cev 283 8 38 [vR 78, vI x1, vI ((c 79 4) + 1), vI 0, vI 0, vU, vU] [] (SH T, c3))) (ccal 262 [vR 78, vI 0, vI (c2 79 4)] (SH T, c2)))) (ccal 259 [vR 78, vI (((c 79 4) + 1) + 1)] (SH T, c1))))) (ccal 259 [vR 78, vI ((c 79 4) + 1)] (SH T, (up c 77 0 0)))))) : Q (ccal 283 [vR 78, vI x1] (SH T, c)) := by
  refine of_cev (Q := Q) ?_
  refine wq_sum (Q := Q) rfl (S_X12_years T (up c 77 0 0) ) ?_
  refine wq_pos (Q := Q) k.1 ?_
  replace k := k.2
  refine wq_callV (Q := Q) rfl k ?_
  intro c1 k
  refine wq_pos (Q := Q) k.1 ?_
  replace k := k.2
  refine wq_callV (Q := Q) rfl k ?_
  intro c2 k
  refine wq_sum (Q := Q) rfl (S_X12_years T c2 ) ?_
  refine wq_callV (Q := Q) rfl k ?_
  intro c3 k
  exact k
set_option maxRecDepth 20000 in
theorem W_X12_undoing_38 {T : List Shp} {c : Nat → Int → Int} {Q : Res → Prop} {x1 x2 x3 x4 : Int} (k : ((x4 < 25 → ((((0 ≤ x4 ∧ x4 < 2147483648) ∧ (0 : Int) < 5) ∧ (-9223372036854775808 ≤ (c 79 0) - 1 ∧ (c 79 0) - 1 < 9223372036854775808)) ∧ ((0 ≤ (x4 / 5) ∧ (x4 / 5) < (c 79 0) → ((-9223372036854775808 ≤ (c 79 0) - 1 ∧ (c 79 0) - 1 < 9223372036854775808) ∧ ((0 ≤ (x4 % 5) ∧ (x4 % 5) < (c 79 0) → (QV T (fun c1 => ((-2147483648 ≤ x2 + 1 ∧ x2 + 1 < 2147483648) ∧ (QV T (fun c2 => (QI T (fun r3 c4 => ((r3 = 0 → ((-2147483648 ≤ x4 + 1 ∧ x4 + 1 < 2147483648) ∧ Q (cev 283 8 38 [vR 78, vI x1, vI x2, vI x3, vI (x4 + 1), vU, vU] [] (SH T, c4)))) ∧ (¬ r3 = 0 → ((x3 = x1 → Q (some (some (vI x4), (SH T, c4)))) ∧ (¬ x3 = x1 → (((-2147483648 ≤ x3 + 1 ∧ x3 + 1 < 2147483648) ∧ (-2147483648 ≤ x4 + 1 ∧ x4 + 1 < 2147483648)) ∧ Q (cev 283 8 38 [vR 78, vI x1, vI x2, vI (x3 + 1), vI (x4 + 1), vU, vU] [] (SH T, c4)))))))) (ccal 284 [vR 78, vI 0, vI 2] (SH T, c2)))) (ccal 261 [vR 78, vI 1, vI 2, vI (x4 % 5), vI (x2 + 1)] (SH T, c1))))) (ccal 261 [vR 78, vI 0, vI 1, vI (x4 / 5), vI x2] (SH T, c)))) ∧ (¬ (0 ≤ (x4 % 5) ∧ (x4 % 5) < (c 79 0)) → ((-2147483648 ≤ x4 + 1 ∧ x4 + 1 < 2147483648) ∧ Q (cev 283 8 38 [vR 78, vI x1, vI x2, vI x3, vI (x4 + 1), vU, vU] [] (SH T, c))))))) ∧ (¬ (0 ≤ (x4 / 5) ∧ (x4 / 5) < (c 79 0)) → ((-2147483648 ≤ x4 + 1 ∧ x4 + 1 < 2147483648) ∧ Q (cev 283 8 38 [vR 78, vI x1, vI x2, vI x3, vI (x4 + 1), vU, vU] [] (SH T, c))))))) ∧ (¬ x4 < 25 → ((x1 = (-1) → Q (some (some (vI x3), (SH T, c)))) ∧ (¬ x1 = (-1) → Q (some (some (vI (-1)), (SH T, c)))))))) : Q (cev 283 8 38 [vR 78, vI x1, vI x2, vI x3, vI x4, vU, vU] [] (SH T, c)) := by
  refine of_cev (Q := Q) ?_
  refine wq_ite (Q := Q) (p := x4 < 25) (fun h => ?_) (fun h => ?_)
  · replace k := k.1 h
    refine wq_pos (Q := Q) k.1.1 ?_
    refine wq_pos (Q := Q) k.1.1 ?_
    refine wq_sum (Q := Q) rfl (S_X12_isPainter T c (x4 / 5) k.1.2) ?_
    replace k := k.2
    refine wq_b01 (Q := Q) (p := 0 ≤ (x4 / 5) ∧ (x4 / 5) < (c 79 0)) (fun h => ?_) (fun h => ?_)
    · replace k := k.2 h
      show Q (cev 283 8 115 [vR 78, vI x1, vI x2, vI x3, vI x4, vU, vU] [] (SH T, c))
      refine of_cev (Q := Q) ?_
      refine wq_pos (Q := Q) k.1 ?_
      replace k := k.2
      exact k
    · replace k := k.1 h
      refine wq_sum (Q := Q) rfl (S_X12_isPainter T c (x4 % 5) k.1) ?_
      replace k := k.2
      refine wq_b01 (Q := Q) (p := 0 ≤ (x4 % 5) ∧ (x4 % 5) < (c 79 0)) (fun h => ?_) (fun h => ?_)
      · replace k := k.2 h
        show Q (cev 283 8 115 [vR 78, vI x1, vI x2, vI x3, vI x4, vU, vU] [] (SH T, c))
        refine of_cev (Q := Q) ?_
        refine wq_pos (Q := Q) k.1 ?_
        replace k := k.2
        exact k
      · replace k := k.1 h
        refine wq_callV (Q := Q) rfl k ?_
        intro c1 k
        refine wq_pos (Q := Q) k.1 ?_
        replace k := k.2
        refine wq_callV (Q := Q) rfl k ?_
        intro c2 k
        refine wq_callI (Q := Q) rfl k ?_
        intro r3 c4 k
        refine wq_ite (Q := Q) (p := r3 = 0) (fun h => ?_) (fun h => ?_)
        · replace k := k.1 h
          show Q (cev 283 8 115 [vR 78, vI x1, vI x2, vI x3, vI x4, vU, vU] [] (SH T, c4))
          refine of_cev (Q := Q) ?_
          refine wq_pos (Q := Q) k.1 ?_
          replace k := k.2
          exact k
        · replace k := k.2 h
          refine wq_ite (Q := Q) (p := x3 = x1) (fun h => ?_) (fun h => ?_)
          · replace k := k.1 h
            exact k
          · replace k := k.2 h
            show Q (cev 283 8 112 [vR 78, vI x1, vI x2, vI x3, vI x4, vU, vU] [] (SH T, c4))
            refine of_cev (Q := Q) ?_
            refine wq_pos (Q := Q) k.1.1 ?_
            show Q (cev 283 8 115 [vR 78, vI x1, vI x2, vI (x3 + 1), vI x4, vU, vU] [] (SH T, c4))
            refine of_cev (Q := Q) ?_
            refine wq_pos (Q := Q) k.1.2 ?_
            replace k := k.2
            exact k
  · replace k := k.2 h
    show Q (cev 283 8 121 [vU, vI x1, vU, vI x3, vU, vU, vU] [] (SH T, c))
    refine of_cev (Q := Q) ?_
    refine wq_ite (Q := Q) (p := x1 = (-1)) (fun h => ?_) (fun h => ?_)
    · replace k := k.1 h
      exact k
    · replace k := k.2 h
      show Q (cev 283 8 130 [vU, vU, vU, vU, vU, vU, vU] [] (SH T, c))
      refine of_cev (Q := Q) ?_
      exact k
set_option maxRecDepth 20000 in
theorem W_X12_isSame {T : List Shp} {c : Nat → Int → Int} {Q : Res → Prop} {x1 x2 : Int} (k : Q (cev 284 1 5 [vR 78, vI x1, vI x2, vI 1, vI 0] [] (SH T, c))) : Q (ccal 284 [vR 78, vI x1, vI x2] (SH T, c)) := by
  refine of_cev (Q := Q) ?_
  exact k
set_option maxRecDepth 20000 in
theorem W_X12_isSame_5 {T : List Shp} {c : Nat → Int → Int} {Q : Res → Prop} {x1 x2 x3 x4 : Int} (k : ((x4 < 12 → ((x3 = 0 → ((-2147483648 ≤ x4 + 1 ∧ x4 + 1 < 2147483648) ∧ Q (cev 284 1 5 [vR 78, vI x1, vI x2, vI 0, vI (x4 + 1)] [] (SH T, c)))) ∧ (¬ x3 = 0 → (((-2147483648 ≤ 12 * x1 ∧ 12 * x1 < 2147483648) ∧ (-2147483648 ≤ (12 * x1) + x4 ∧ (12 * x1) + x4 < 2147483648) ∧ (0 ≤ ((12 * x1) + x4) ∧ ((12 * x1) + x4) < 600) ∧ (-2147483648 ≤ 12 * x2 ∧ 12 * x2 < 2147483648) ∧ (-2147483648 ≤ (12 * x2) + x4 ∧ (12 * x2) + x4 < 2147483648) ∧ (0 ≤ ((12 * x2) + x4) ∧ ((12 * x2) + x4) < 600)) ∧ (((c 96 ((12 * x1) + x4)) = (c 96 ((12 * x2) + x4)) → ((-2147483648 ≤ x4 + 1 ∧ x4 + 1 < 2147483648) ∧ Q (cev 284 1 5 [vR 78, vI x1, vI x2, vI 1, vI (x4 + 1)] [] (SH T, c)))) ∧ (¬ (c 96 ((12 * x1) + x4)) = (c 96 ((12 * x2) + x4)) → ((-2147483648 ≤ x4 + 1 ∧ x4 + 1 < 2147483648) ∧ Q (cev 284 1 5 [vR 78, vI x1, vI x2, vI 0, vI (x4 + 1)] [] (SH T, c))))))))) ∧ (¬ x4 < 12 → ((x3 = 0 ∨ x3 = 1) ∧ Q (some (some (vI x3), (SH T, c))))))) : Q (cev 284 1 5 [vR 78, vI x1, vI x2, vI x3, vI x4] [] (SH T, c)) := by
  refine of_cev (Q := Q) ?_
  refine wq_ite (Q := Q) (p := x4 < 12) (fun h => ?_) (fun h => ?_)
  · replace k := k.1 h
    refine wq_ite (Q := Q) (p := x3 = 0) (fun h => ?_) (fun h => ?_)
    · replace k := k.1 h
      show Q (cev 284 1 47 [vR 78, vI x1, vI x2, vU, vI x4] [] (SH T, c))
      refine of_cev (Q := Q) ?_
      refine wq_pos (Q := Q) k.1 ?_
      replace k := k.2
      exact k
    · replace k := k.2 h
      refine wq_pos (Q := Q) k.1.1 ?_
      refine wq_pos (Q := Q) k.1.2.1 ?_
      refine wq_pos (Q := Q) k.1.2.2.1 ?_
      refine wq_pos (Q := Q) k.1.2.2.2.1 ?_
      refine wq_pos (Q := Q) k.1.2.2.2.2.1 ?_
      refine wq_pos (Q := Q) k.1.2.2.2.2.2 ?_
      replace k := k.2
      refine wq_ite (Q := Q) (p := (c 96 ((12 * x1) + x4)) = (c 96 ((12 * x2) + x4))) (fun h => ?_) (fun h => ?_)
      · replace k := k.1 h
        refine wq_pos (Q := Q) k.1 ?_
        replace k := k.2
        exact k
      · replace k := k.2 h
        show Q (cev 284 1 47 [vR 78, vI x1, vI x2, vU, vI x4] [] (SH T, c))
        refine of_cev (Q := Q) ?_
        refine wq_pos (Q := Q) k.1 ?_
        replace k := k.2
        exact k
  · replace k := k.2 h
    show Q (cev 284 1 55 [vU, vU, vU, vI x3, vU] [] (SH T, c))
    refine of_cev (Q := Q) ?_
    refine wq_pos (Q := Q) k.1 ?_
    replace k := k.2
    exact k
set_option maxRecDepth 20000 in
theorem W_X12_copyNow {T : List Shp} {c : Nat → Int → Int} {Q : Res → Prop} (k : (((c 79 5) = 6 → Q (some (some (vI (-5)), (SH T, c)))) ∧ (¬ (c 79 5) = 6 → Q (cev 285 3 18 [vR 78, vI (c 79 5), vI 0] [] (SH T, c))))) : Q (ccal 285 [vR 78] (SH T, c)) := by
  refine of_cev (Q := Q) ?_
  refine wq_ite (Q := Q) (p := (c 79 5) = 6) (fun h => ?_) (fun h => ?_)
  · replace k := k.1 h
    exact k
  · replace k := k.2 h
    show Q (cev 285 3 16 [vR 78, vI (c 79 5), vU] [] (SH T, c))
    refine of_cev (Q := Q) ?_
    exact k
set_option maxRecDepth 20000 in
theorem W_X12_copyNow_18 {T : List Shp} {c : Nat → Int → Int} {Q : Res → Prop} {x1 x2 : Int} (k : ((x2 < 12 → (((-2147483648 ≤ 12 * x1 ∧ 12 * x1 < 2147483648) ∧ (-2147483648 ≤ 276 + (12 * x1) ∧ 276 + (12 * x1) < 2147483648) ∧ (-2147483648 ≤ (276 + (12 * x1)) + x2 ∧ (276 + (12 * x1)) + x2 < 2147483648) ∧ (0 ≤ (c 79 4) ∧ (c 79 4) < 100) ∧ (0 ≤ x2 ∧ x2 < 12) ∧ (0 ≤ ((276 + (12 * x1)) + x2) ∧ ((276 + (12 * x1)) + x2) < 5780) ∧ (-2147483648 ≤ x2 + 1 ∧ x2 + 1 < 2147483648)) ∧ Q (cev 285 3 18 [vR 78, vI x1, vI (x2 + 1)] [] (SH T, (up c 79 ((276 + (12 * x1)) + x2) (c 79 (12 + 12 * (c 79 4) + x2))))))) ∧ (¬ x2 < 12 → ((-2147483648 ≤ (c 79 5) + 1 ∧ (c 79 5) + 1 < 2147483648) ∧ Q (some (some (vI x1), (SH T, (up c 79 5 ((c 79 5) + 1))))))))) : Q (cev 285 3 18 [vR 78, vI x1, vI x2] [] (SH T, c)) := by
  refine of_cev (Q := Q) ?_
  refine wq_ite (Q := Q) (p := x2 < 12) (fun h => ?_) (fun h => ?_)
  · replace k := k.1 h
    refine wq_pos (Q := Q) k.1.1 ?_
    refine wq_pos (Q := Q) k.1.2.1 ?_
    refine wq_pos (Q := Q) k.1.2.2.1 ?_
    refine wq_sum (Q := Q) rfl (S_X12_seen T c x2 k.1.2.2.2.1 k.1.2.2.2.2.1) ?_
    refine wq_pos (Q := Q) k.1.2.2.2.2.2.1 ?_
    refine wq_pos (Q := Q) k.1.2.2.2.2.2.2 ?_
    replace k := k.2
    exact k
  · replace k := k.2 h
    show Q (cev 285 3 50 [vR 78, vI x1, vU] [] (SH T, c))
    refine of_cev (Q := Q) ?_
    refine wq_pos (Q := Q) k.1 ?_
    replace k := k.2
    exact k
set_option maxRecDepth 20000 in
theorem W_X12_copy {T : List Shp} {c : Nat → Int → Int} {Q : Res → Prop} (k : (QI T (fun r1 c2 => (QI T (fun r3 c4 => Q (some (some (vI r3), (SH T, c4)))) (ccal 190 [vR 78, vI r1] (SH T, c2)))) (ccal 285 [vR 78] (SH T, (up c 77 0 0))))) : Q (ccal 286 [vR 78] (SH T, c)) := by
  refine of_cev (Q := Q) ?_
  refine wq_callI (Q := Q) rfl k ?_
  intro r1 c2 k
  refine wq_callI (Q := Q) rfl k ?_
  intro r3 c4 k
  exact k
set_option maxRecDepth 20000 in
theorem W_X12_touch {T : List Shp} {c : Nat → Int → Int} {Q : Res → Prop} {x1 x2 x3 : Int} (k : ((0 ≤ x2 ∧ x2 < 12 → ((0 ≤ x3 ∧ x3 < 10 → ((-9223372036854775808 ≤ (c 79 5) - 1 ∧ (c 79 5) - 1 < 9223372036854775808) ∧ ((0 ≤ x1 ∧ x1 < (c 79 5) → (((-2147483648 ≤ 12 * x1 ∧ 12 * x1 < 2147483648) ∧ (-2147483648 ≤ 276 + (12 * x1) ∧ 276 + (12 * x1) < 2147483648) ∧ (-2147483648 ≤ (276 + (12 * x1)) + x2 ∧ (276 + (12 * x1)) + x2 < 2147483648) ∧ (0 ≤ ((276 + (12 * x1)) + x2) ∧ ((276 + (12 * x1)) + x2) < 5780)) ∧ Q (some (some (vI (c 79 ((276 + (12 * x1)) + x2))), (SH T, (up (up (up c 77 0 0) 79 ((276 + (12 * x1)) + x2) x3) 77 1 0)))))) ∧ (¬ (0 ≤ x1 ∧ x1 < (c 79 5)) → ((-2147483648 ≤ (c 78 2) + 1 ∧ (c 78 2) + 1 < 2147483648) ∧ Q (some (some (vI (-2)), (SH T, (up (up (up c 77 0 0) 77 1 (-2)) 78 2 ((c 78 2) + 1)))))))))) ∧ (¬ (0 ≤ x3 ∧ x3 < 10) → ((-2147483648 ≤ (c 78 1) + 1 ∧ (c 78 1) + 1 < 2147483648) ∧ Q (some (some (vI (-1)), (SH T, (up (up (up c 77 0 0) 77 1 (-1)) 78 1 ((c 78 1) + 1))))))))) ∧ (¬ (0 ≤ x2 ∧ x2 < 12) → ((-2147483648 ≤ (c 78 1) + 1 ∧ (c 78 1) + 1 < 2147483648) ∧ Q (some (some (vI (-1)), (SH T, (up (up (up c 77 0 0) 77 1 (-1)) 78 1 ((c 78 1) + 1))))))))) : Q (ccal 287 [vR 78, vI x1, vI x2, vI x3] (SH T, c)) := by
  refine of_cev (Q := Q) ?_
  refine wq_sum (Q := Q) rfl (S_X12_isCell T (up c 77 0 0) x2) ?_
  refine wq_b01 (Q := Q) (p := 0 ≤ x2 ∧ x2 < 12) (fun h => ?_) (fun h => ?_)
  · replace k := k.2 h
    show Q (cev 287 3 19 [vR 78, vU, vU, vU] [] (SH T, (up c 77 0 0)))
    refine of_cev (Q := Q) ?_
    refine wq_sum (Q := Q) rfl (S_X12_tell_1 T (up c 77 0 0) k.1) ?_
    replace k := k.2
    exact k
  · replace k := k.1 h
    refine wq_sum (Q := Q) rfl (S_X12_isTone T (up c 77 0 0) x3) ?_
    refine wq_b01 (Q := Q) (p := 0 ≤ x3 ∧ x3 < 10) (fun h => ?_) (fun h => ?_)
    · replace k := k.2 h
      show Q (cev 287 3 19 [vR 78, vU, vU, vU] [] (SH T, (up c 77 0 0)))
      refine of_cev (Q := Q) ?_
      refine wq_sum (Q := Q) rfl (S_X12_tell_1 T (up c 77 0 0) k.1) ?_
      replace k := k.2
      exact k
    · replace k := k.1 h
      show Q (cev 287 3 25 [vR 78, vI x1, vI x2, vI x3] [] (SH T, (up c 77 0 0)))
      refine of_cev (Q := Q) ?_
      refine wq_sum (Q := Q) rfl (S_X12_isCopy T (up c 77 0 0) x1 k.1) ?_
      replace k := k.2
      refine wq_b01 (Q := Q) (p := 0 ≤ x1 ∧ x1 < (c 79 5)) (fun h => ?_) (fun h => ?_)
      · replace k := k.2 h
        show Q (cev 287 3 51 [vR 78, vU, vU, vU] [] (SH T, (up c 77 0 0)))
        refine of_cev (Q := Q) ?_
        refine wq_sum (Q := Q) rfl (S_X12_tell_2 T (up c 77 0 0) k.1) ?_
        replace k := k.2
        exact k
      · replace k := k.1 h
        refine wq_pos (Q := Q) k.1.1 ?_
        refine wq_pos (Q := Q) k.1.2.1 ?_
        refine wq_pos (Q := Q) k.1.2.2.1 ?_
        refine wq_sum (Q := Q) rfl (S_X12_change T (up c 77 0 0) ((276 + (12 * x1)) + x2) x3 k.1.2.2.2) ?_
        replace k := k.2
        exact k
set_option maxRecDepth 20000 in
theorem W_X12_burn {T : List Shp} {c : Nat → Int → Int} {Q : Res → Prop} (k : Q (some (some (vI (c 79 5)), (SH T, (up (up c 77 0 0) 79 5 0))))) : Q (ccal 288 [vR 78] (SH T, c)) := by
  refine of_cev (Q := Q) ?_
  exact k
set_option maxRecDepth 20000 in
theorem W_X12_apart {T : List Shp} {c : Nat → Int → Int} {Q : Res → Prop} {x1 x2 : Int} (k : Q (cev 289 1 5 [vR 78, vI x1, vI x2, vI 0, vI 0] [] (SH T, c))) : Q (ccal 289 [vR 78, vI x1, vI x2] (SH T, c)) := by
  refine of_cev (Q := Q) ?_
  exact k
set_option maxRecDepth 20000 in
theorem W_X12_apart_5 {T : List Shp} {c : Nat → Int → Int} {Q : Res → Prop} {x1 x2 x3 x4 : Int} (k : ((x4 < 12 → (((-2147483648 ≤ x1 + x4 ∧ x1 + x4 < 2147483648) ∧ (0 ≤ (x1 + x4) ∧ (x1 + x4) < 5780) ∧ (-2147483648 ≤ x2 + x4 ∧ x2 + x4 < 2147483648) ∧ (0 ≤ (x2 + x4) ∧ (x2 + x4) < 5780)) ∧ (((c 79 (x1 + x4)) = (c 79 (x2 + x4)) → (((-2147483648 ≤ x3 + 0 ∧ x3 + 0 < 2147483648) ∧ (-2147483648 ≤ x4 + 1 ∧ x4 + 1 < 2147483648)) ∧ Q (cev 289 1 5 [vR 78, vI x1, vI x2, vI (x3 + 0), vI (x4 + 1)] [] (SH T, c)))) ∧ (¬ (c 79 (x1 + x4)) = (c 79 (x2 + x4)) → (((-2147483648 ≤ x3 + 1 ∧ x3 + 1 < 2147483648) ∧ (-2147483648 ≤ x4 + 1 ∧ x4 + 1 < 2147483648)) ∧ Q (cev 289 1 5 [vR 78, vI x1, vI x2, vI (x3 + 1), vI (x4 + 1)] [] (SH T, c))))))) ∧ (¬ x4 < 12 → Q (some (some (vI x3), (SH T, c)))))) : Q (cev 289 1 5 [vR 78, vI x1, vI x2, vI x3, vI x4] [] (SH T, c)) := by
  refine of_cev (Q := Q) ?_
  refine wq_ite (Q := Q) (p := x4 < 12) (fun h => ?_) (fun h => ?_)
  · replace k := k.1 h
    refine wq_pos (Q := Q) k.1.1 ?_
    refine wq_pos (Q := Q) k.1.2.1 ?_
    refine wq_pos (Q := Q) k.1.2.2.1 ?_
    refine wq_pos (Q := Q) k.1.2.2.2 ?_
    replace k := k.2
    refine wq_ite (Q := Q) (p := (c 79 (x1 + x4)) = (c 79 (x2 + x4))) (fun h => ?_) (fun h => ?_)
    · replace k := k.1 h
      refine wq_pos (Q := Q) k.1.1 ?_
      refine wq_pos (Q := Q) k.1.2 ?_
      replace k := k.2
      exact k
    · replace k := k.2 h
      show Q (cev 289 1 38 [vR 78, vI x1, vI x2, vU, vI x4] [vI x3] (SH T, c))
      refine of_cev (Q := Q) ?_
      refine wq_pos (Q := Q) k.1.1 ?_
      refine wq_pos (Q := Q) k.1.2 ?_
      replace k := k.2
      exact k
  · replace k := k.2 h
    show Q (cev 289 1 47 [vU, vU, vU, vI x3, vU] [] (SH T, c))
    refine of_cev (Q := Q) ?_
    exact k
set_option maxRecDepth 20000 in
theorem W_X12_nearOf {T : List Shp} {c : Nat → Int → Int} {Q : Res → Prop} {x1 : Int} (k : (((-2147483648 ≤ 12 * x1 ∧ 12 * x1 < 2147483648) ∧ (-2147483648 ≤ 276 + (12 * x1) ∧ 276 + (12 * x1) < 2147483648) ∧ (-2147483648 ≤ 12 * (c 79 4) ∧ 12 * (c 79 4) < 2147483648) ∧ (-2147483648 ≤ 12 + (12 * (c 79 4)) ∧ 12 + (12 * (c 79 4)) < 2147483648)) ∧ (QI T (fun r1 c2 => Q (some (some (vI r1), (SH T, c2)))) (ccal 289 [vR 78, vI (276 + (12 * x1)), vI (12 + (12 * (c 79 4)))] (SH T, c))))) : Q (ccal 290 [vR 78, vI x1] (SH T, c)) := by
  refine of_cev (Q := Q) ?_
  refine wq_pos (Q := Q) k.1.1 ?_
  refine wq_pos (Q := Q) k.1.2.1 ?_
  refine wq_sum (Q := Q) rfl (S_X12_years T c ) ?_
  refine wq_pos (Q := Q) k.1.2.2.1 ?_
  refine wq_pos (Q := Q) k.1.2.2.2 ?_
  replace k := k.2
  refine wq_callI (Q := Q) rfl k ?_
  intro r1 c2 k
  exact k
set_option maxRecDepth 20000 in
theorem W_X12_near {T : List Shp} {c : Nat → Int → Int} {Q : Res → Prop} {x1 : Int} (k : ((x1 = (-1) → Q (cev 291 3 37 [vR 78, vU, vI 0, vI 100000000, vI 0, vU] [] (SH T, (up c 77 0 0)))) ∧ (¬ x1 = (-1) → ((-9223372036854775808 ≤ (c 79 5) - 1 ∧ (c 79 5) - 1 < 9223372036854775808) ∧ ((0 ≤ x1 ∧ x1 < (c 79 5) → (QI T (fun r1 c2 => Q (some (some (vI r1), (SH T, c2)))) (ccal 290 [vR 78, vI x1] (SH T, (up c 77 0 0))))) ∧ (¬ (0 ≤ x1 ∧ x1 < (c 79 5)) → Q (some (some (vI (-1)), (SH T, (up c 77 0 0)))))))))) : Q (ccal 291 [vR 78, vI x1] (SH T, c)) := by
  refine of_cev (Q := Q) ?_
  refine wq_ite (Q := Q) (p := x1 = (-1)) (fun h => ?_) (fun h => ?_)
  · replace k := k.1 h
    show Q (cev 291 3 28 [vR 78, vU, vU, vU, vU, vU] [] (SH T, (up c 77 0 0)))
    refine of_cev (Q := Q) ?_
    exact k
  · replace k := k.2 h
    refine wq_sum (Q := Q) rfl (S_X12_isCopy T (up c 77 0 0) x1 k.1) ?_
    replace k := k.2
    refine wq_b01 (Q := Q) (p := 0 ≤ x1 ∧ x1 < (c 79 5)) (fun h => ?_) (fun h => ?_)
    · replace k := k.2 h
      show Q (cev 291 3 26 [vU, vU, vU, vU, vU, vU] [] (SH T, (up c 77 0 0)))
      refine of_cev (Q := Q) ?_
      exact k
    · replace k := k.1 h
      refine wq_callI (Q := Q) rfl k ?_
      intro r1 c2 k
      exact k
set_option maxRecDepth 20000 in
theorem W_X12_near_37 {T : List Shp} {c : Nat → Int → Int} {Q : Res → Prop} {x2 x3 x4 : Int} (k : ((x4 < (c 79 5) → (QI T (fun r1 c2 => ((r1 < x3 → Q (cev 291 3 85 [vR 78, vU, vU, vI x3, vI x4, vI r1] [vI (ishl 1 x4)] (SH T, c2))) ∧ (¬ r1 < x3 → ((r1 = x3 → Q (cev 291 3 85 [vR 78, vU, vU, vI x3, vI x4, vI r1] [vI (ior x2 (ishl 1 x4))] (SH T, c2))) ∧ (¬ r1 = x3 → Q (cev 291 3 85 [vR 78, vU, vU, vI x3, vI x4, vI r1] [vI x2] (SH T, c2))))))) (ccal 290 [vR 78, vI x4] (SH T, c)))) ∧ (¬ x4 < (c 79 5) → Q (some (some (vI x2), (SH T, c)))))) : Q (cev 291 3 37 [vR 78, vU, vI x2, vI x3, vI x4, vU] [] (SH T, c)) := by
  refine of_cev (Q := Q) ?_
  refine wq_ite (Q := Q) (p := x4 < (c 79 5)) (fun h => ?_) (fun h => ?_)
  · replace k := k.1 h
    refine wq_callI (Q := Q) rfl k ?_
    intro r1 c2 k
    refine wq_ite (Q := Q) (p := r1 < x3) (fun h => ?_) (fun h => ?_)
    · replace k := k.1 h
      exact k
    · replace k := k.2 h
      show Q (cev 291 3 69 [vR 78, vU, vI x2, vI x3, vI x4, vI r1] [] (SH T, c2))
      refine of_cev (Q := Q) ?_
      refine wq_ite (Q := Q) (p := r1 = x3) (fun h => ?_) (fun h => ?_)
      · replace k := k.1 h
        exact k
      · replace k := k.2 h
        show Q (cev 291 3 84 [vR 78, vU, vI x2, vI x3, vI x4, vI r1] [] (SH T, c2))
        refine of_cev (Q := Q) ?_
        exact k
  · replace k := k.2 h
    show Q (cev 291 3 105 [vU, vU, vI x2, vU, vU, vU] [] (SH T, c))
    refine of_cev (Q := Q) ?_
    exact k
set_option maxRecDepth 20000 in
theorem W_X12_near_85 {T : List Shp} {c : Nat → Int → Int} {Q : Res → Prop} {x3 x4 x5 y0 : Int} (k : ((x5 < x3 → ((-2147483648 ≤ x4 + 1 ∧ x4 + 1 < 2147483648) ∧ Q (cev 291 3 37 [vR 78, vU, vI y0, vI x5, vI (x4 + 1), vU] [] (SH T, c)))) ∧ (¬ x5 < x3 → ((-2147483648 ≤ x4 + 1 ∧ x4 + 1 < 2147483648) ∧ Q (cev 291 3 37 [vR 78, vU, vI y0, vI x3, vI (x4 + 1), vU] [] (SH T, c)))))) : Q (cev 291 3 85 [vR 78, vU, vU, vI x3, vI x4, vI x5] [vI y0] (SH T, c)) := by
  refine of_cev (Q := Q) ?_
  refine wq_ite (Q := Q) (p := x5 < x3) (fun h => ?_) (fun h => ?_)
  · replace k := k.1 h
    refine wq_pos (Q := Q) k.1 ?_
    replace k := k.2
    exact k
  · replace k := k.2 h
    show Q (cev 291 3 97 [vR 78, vU, vI y0, vI x3, vI x4, vU] [] (SH T, c))
    refine of_cev (Q := Q) ?_
    refine wq_pos (Q := Q) k.1 ?_
    replace k := k.2
    exact k
set_option maxRecDepth 20000 in
theorem W_X12_like {T : List Shp} {c : Nat → Int → Int} {Q : Res → Prop} {x1 x2 : Int} (k : ((x1 = (-1) → Q (cev 293 3 18 [vR 78, vI x1, vI x2, vU] [] (SH T, (up c 77 0 0)))) ∧ (¬ x1 = (-1) → ((-9223372036854775808 ≤ (c 79 5) - 1 ∧ (c 79 5) - 1 < 9223372036854775808) ∧ ((0 ≤ x1 ∧ x1 < (c 79 5) → Q (cev 293 3 18 [vR 78, vI x1, vI x2, vU] [] (SH T, (up c 77 0 0)))) ∧ (¬ (0 ≤ x1 ∧ x1 < (c 79 5)) → Q (cev 293 3 36 [vR 78, vI x1, vI x2, vU] [vI 0] (SH T, (up c 77 0 0))))))))) : Q (ccal 293 [vR 78, vI x1, vI x2] (SH T, c)) := by
  refine of_cev (Q := Q) ?_
  refine wq_ite (Q := Q) (p := x1 = (-1)) (fun h => ?_) (fun h => ?_)
  · replace k := k.1 h
    exact k
  · replace k := k.2 h
    refine wq_sum (Q := Q) rfl (S_X12_isCopy T (up c 77 0 0) x1 k.1) ?_
    replace k := k.2
    refine wq_b01 (Q := Q) (p := 0 ≤ x1 ∧ x1 < (c 79 5)) (fun h => ?_) (fun h => ?_)
    · replace k := k.2 h
      show Q (cev 293 3 35 [vR 78, vI x1, vI x2, vU] [] (SH T, (up c 77 0 0)))
      refine of_cev (Q := Q) ?_
      exact k
    · replace k := k.1 h
      exact k
set_option maxRecDepth 20000 in
theorem W_X12_like_18 {T : List Shp} {c : Nat → Int → Int} {Q : Res → Prop} {x1 x2 : Int} (k : ((x2 = (-1) → Q (cev 293 3 36 [vR 78, vI x1, vI x2, vU] [vI 1] (SH T, c))) ∧ (¬ x2 = (-1) → ((-9223372036854775808 ≤ (c 79 5) - 1 ∧ (c 79 5) - 1 < 9223372036854775808) ∧ ((0 ≤ x2 ∧ x2 < (c 79 5) → Q (cev 293 3 36 [vR 78, vI x1, vI x2, vU] [vI 1] (SH T, c))) ∧ (¬ (0 ≤ x2 ∧ x2 < (c 79 5)) → Q (cev 293 3 36 [vR 78, vI x1, vI x2, vU] [vI 0] (SH T, c)))))))) : Q (cev 293 3 18 [vR 78, vI x1, vI x2, vU] [] (SH T, c)) := by
  refine of_cev (Q := Q) ?_
  refine wq_ite (Q := Q) (p := x2 = (-1)) (fun h => ?_) (fun h => ?_)
  · replace k := k.1 h
    show Q (cev 293 3 31 [vR 78, vI x1, vI x2, vU] [] (SH T, c))
    refine of_cev (Q := Q) ?_
    exact k
  · replace k := k.2 h
    refine wq_sum (Q := Q) rfl (S_X12_isCopy T c x2 k.1) ?_
    replace k := k.2
    refine wq_b01 (Q := Q) (p := 0 ≤ x2 ∧ x2 < (c 79 5)) (fun h => ?_) (fun h => ?_)
    · replace k := k.2 h
      show Q (cev 293 3 35 [vR 78, vI x1, vI x2, vU] [] (SH T, c))
      refine of_cev (Q := Q) ?_
      exact k
    · replace k := k.1 h
      show Q (cev 293 3 31 [vR 78, vI x1, vI x2, vU] [] (SH T, c))
      refine of_cev (Q := Q) ?_
      exact k
set_option maxRecDepth 20000 in
theorem W_X12_like_36 {T : List Shp} {c : Nat → Int → Int} {Q : Res → Prop} {x1 x2 y0 : Int} (k : ((y0 = 0 → Q (some (some (vI (-1)), (SH T, c)))) ∧ (¬ y0 = 0 → (((-1 ≤ x1 ∧ x1 < 100) ∧ (-1 ≤ x2 ∧ x2 < 100)) ∧ (QI T (fun r1 c2 => Q (some (some (vI r1), (SH T, c2)))) (ccal 289 [vR 78, vI (if x1 = -1 then 12 else 276 + 12 * x1), vI (if x2 = -1 then 12 else 276 + 12 * x2)] (SH T, c))))))) : Q (cev 293 3 36 [vR 78, vI x1, vI x2, vU] [vI y0] (SH T, c)) := by
  refine of_cev (Q := Q) ?_
  refine wq_ite (Q := Q) (p := y0 = 0) (fun h => ?_) (fun h => ?_)
  · replace k := k.1 h
    show Q (cev 293 3 58 [vU, vU, vU, vU] [] (SH T, c))
    refine of_cev (Q := Q) ?_
    exact k
  · replace k := k.2 h
    refine wq_sum (Q := Q) rfl (S_X12_pictureAt T c x1 k.1.1) ?_
    refine wq_sum (Q := Q) rfl (S_X12_pictureAt T c x2 k.1.2) ?_
    replace k := k.2
    refine wq_callI (Q := Q) rfl k ?_
    intro r1 c2 k
    exact k
set_option maxRecDepth 20000 in
theorem W_X12_isTree {T : List Shp} {c : Nat → Int → Int} {Q : Res → Prop} {x1 : Int} (k : Q (cev 294 1 2 [vR 78, vI x1, vI 0, vU, vU] [] (SH T, c))) : Q (ccal 294 [vR 78, vI x1] (SH T, c)) := by
  refine of_cev (Q := Q) ?_
  exact k
set_option maxRecDepth 20000 in
theorem W_X12_isTree_2 {T : List Shp} {c : Nat → Int → Int} {Q : Res → Prop} {x1 x2 : Int} (k : ((x2 < x1 → ((-2147483648 ≤ x2 + 1 ∧ x2 + 1 < 2147483648) ∧ Q (cev 294 1 14 [vR 78, vI x1, vI x2, vI (x2 + 1), vI 0] [] (SH T, c)))) ∧ (¬ x2 < x1 → Q (some (some (vI 1), (SH T, c)))))) : Q (cev 294 1 2 [vR 78, vI x1, vI x2, vU, vU] [] (SH T, c)) := by
  refine of_cev (Q := Q) ?_
  refine wq_ite (Q := Q) (p := x2 < x1) (fun h => ?_) (fun h => ?_)
  · replace k := k.1 h
    refine wq_pos (Q := Q) k.1 ?_
    replace k := k.2
    exact k
  · replace k := k.2 h
    show Q (cev 294 1 52 [vU, vU, vU, vU, vU] [] (SH T, c))
    refine of_cev (Q := Q) ?_
    exact k
set_option maxRecDepth 20000 in
theorem W_X12_isTree_14 {T : List Shp} {c : Nat → Int → Int} {Q : Res → Prop} {x1 x2 x3 x4 : Int} (k : ((0 < x3 → ((x4 < 8 → (((-2147483648 ≤ x3 - 1 ∧ x3 - 1 < 2147483648) ∧ (0 ≤ (x3 - 1) ∧ (x3 - 1) < 6) ∧ (-2147483648 ≤ x4 + 1 ∧ x4 + 1 < 2147483648)) ∧ Q (cev 294 1 14 [vR 78, vI x1, vI x2, vI (c 102 (x3 - 1)), vI (x4 + 1)] [] (SH T, c)))) ∧ (¬ x4 < 8 → Q (cev 294 1 40 [vR 78, vI x1, vI x2, vI x3, vU] [] (SH T, c))))) ∧ (¬ 0 < x3 → Q (cev 294 1 40 [vR 78, vI x1, vI x2, vI x3, vU] [] (SH T, c))))) : Q (cev 294 1 14 [vR 78, vI x1, vI x2, vI x3, vI x4] [] (SH T, c)) := by
  refine of_cev (Q := Q) ?_
  refine wq_ite (Q := Q) (p := 0 < x3) (fun h => ?_) (fun h => ?_)
  · replace k := k.1 h
    refine wq_ite (Q := Q) (p := x4 < 8) (fun h => ?_) (fun h => ?_)
    · replace k := k.1 h
      refine wq_pos (Q := Q) k.1.1 ?_
      refine wq_pos (Q := Q) k.1.2.1 ?_
      refine wq_pos (Q := Q) k.1.2.2 ?_
      replace k := k.2
      exact k
    · replace k := k.2 h
      exact k
  · replace k := k.2 h
    exact k
set_option maxRecDepth 20000 in
theorem W_X12_isTree_40 {T : List Shp} {c : Nat → Int → Int} {Q : Res → Prop} {x1 x2 x3 : Int} (k : ((0 < x3 → Q (some (some (vI 0), (SH T, c)))) ∧ (¬ 0 < x3 → ((-2147483648 ≤ x2 + 1 ∧ x2 + 1 < 2147483648) ∧ Q (cev 294 1 2 [vR 78, vI x1, vI (x2 + 1), vU, vU] [] (SH T, c)))))) : Q (cev 294 1 40 [vR 78, vI x1, vI x2, vI x3, vU] [] (SH T, c)) := by
  refine of_cev (Q := Q) ?_
  refine wq_ite (Q := Q) (p := 0 < x3) (fun h => ?_) (fun h => ?_)
  · replace k := k.1 h
    exact k
  · replace k := k.2 h
    show Q (cev 294 1 46 [vR 78, vI x1, vI x2, vU, vU] [] (SH T, c))
    refine of_cev (Q := Q) ?_
    refine wq_pos (Q := Q) k.1 ?_
    replace k := k.2
    exact k
set_option maxRecDepth 20000 in
theorem W_X12_findTree {T : List Shp} {c : Nat → Int → Int} {Q : Res → Prop} (k : Q (cev 295 2 11 [vR 78, vI (c 79 5), vI 1, vI 0, vU, vU, vU] [] (SH T, c))) : Q (ccal 295 [vR 78] (SH T, c)) := by
  refine of_cev (Q := Q) ?_
  exact k
set_option maxRecDepth 20000 in
theorem W_X12_findTree_11 {T : List Shp} {c : Nat → Int → Int} {Q : Res → Prop} {x1 x2 x3 : Int} (k : ((x3 < x1 → (((-2147483648 ≤ x1 + 1 ∧ x1 + 1 < 2147483648) ∧ (-2147483648 ≤ x2 * (x1 + 1) ∧ x2 * (x1 + 1) < 2147483648) ∧ (-2147483648 ≤ x3 + 1 ∧ x3 + 1 < 2147483648)) ∧ Q (cev 295 2 11 [vR 78, vI x1, vI (x2 * (x1 + 1)), vI (x3 + 1), vU, vU, vU] [] (SH T, c)))) ∧ (¬ x3 < x1 → Q (cev 295 2 42 [vR 78, vI x1, vI x2, vI 0, vU, vU, vU] [] (SH T, (up (up c 77 49 100000000) 77 50 0)))))) : Q (cev 295 2 11 [vR 78, vI x1, vI x2, vI x3, vU, vU, vU] [] (SH T, c)) := by
  refine of_cev (Q := Q) ?_
  refine wq_ite (Q := Q) (p := x3 < x1) (fun h => ?_) (fun h => ?_)
  · replace k := k.1 h
    refine wq_pos (Q := Q) k.1.1 ?_
    refine wq_pos (Q := Q) k.1.2.1 ?_
    refine wq_pos (Q := Q) k.1.2.2 ?_
    replace k := k.2
    exact k
  · replace k := k.2 h
    show Q (cev 295 2 28 [vR 78, vI x1, vI x2, vU, vU, vU, vU] [] (SH T, c))
    refine of_cev (Q := Q) ?_
    exact k
set_option maxRecDepth 20000 in
theorem W_X12_findTree_42 {T : List Shp} {c : Nat → Int → Int} {Q : Res → Prop} {x1 x2 x3 : Int} (k : ((x3 < x2 → ((-2147483648 ≤ x1 - 1 ∧ x1 - 1 < 2147483648) ∧ Q (cev 295 2 58 [vR 78, vI x1, vI x2, vI x3, vI x3, vI 0, vI (x1 - 1)] [] (SH T, c)))) ∧ (¬ x3 < x2 → Q (some (none, (SH T, c)))))) : Q (cev 295 2 42 [vR 78, vI x1, vI x2, vI x3, vU, vU, vU] [] (SH T, c)) := by
  refine of_cev (Q := Q) ?_
  refine wq_ite (Q := Q) (p := x3 < x2) (fun h => ?_) (fun h => ?_)
  · replace k := k.1 h
    refine wq_pos (Q := Q) k.1 ?_
    replace k := k.2
    exact k
  · replace k := k.2 h
    show Q (cev 295 2 216 [vU, vU, vU, vU, vU, vU, vU] [] (SH T, c))
    refine of_cev (Q := Q) ?_
    exact k
set_option maxRecDepth 20000 in
theorem W_X12_findTree_58 {T : List Shp} {c : Nat → Int → Int} {Q : Res → Prop} {x1 x2 x3 x4 x5 x6 : Int} (k : ((x6 < 0 → (((c 77 49) < x5 → ((-2147483648 ≤ x3 + 1 ∧ x3 + 1 < 2147483648) ∧ Q (cev 295 2 42 [vR 78, vI x1, vI x2, vI (x3 + 1), vU, vU, vU] [] (SH T, c)))) ∧ (¬ (c 77 49) < x5 → (QI T (fun r1 c2 => ((r1 = 0 → ((-2147483648 ≤ x3 + 1 ∧ x3 + 1 < 2147483648) ∧ Q (cev 295 2 42 [vR 78, vI x1, vI x2, vI (x3 + 1), vU, vU, vU] [] (SH T, c2)))) ∧ (¬ r1 = 0 → ((x5 < (c2 77 49) → Q (cev 295 2 159 [vR 78, vI x1, vI x2, vI x3, vU, vI x5, vI 0] [] (SH T, (up c2 77 50 0)))) ∧ (¬ x5 < (c2 77 49) → Q (cev 295 2 159 [vR 78, vI x1, vI x2, vI x3, vU, vI x5, vI 0] [] (SH T, (up c2 77 50 (c2 77 50))))))))) (ccal 294 [vR 78, vI x1] (SH T, c)))))) ∧ (¬ x6 < 0 → (((-2147483648 ≤ x1 + 1 ∧ x1 + 1 < 2147483648) ∧ ((0 ≤ x4 ∧ x4 < 2147483648) ∧ (0 : Int) < (x1 + 1)) ∧ (0 ≤ x6 ∧ x6 < 6) ∧ (-2147483648 ≤ ((up c 102 x6 (x4 % (x1 + 1))) 102 x6) - 1 ∧ ((up c 102 x6 (x4 % (x1 + 1))) 102 x6) - 1 < 2147483648) ∧ (-1 ≤ (((up c 102 x6 (x4 % (x1 + 1))) 102 x6) - 1) ∧ (((up c 102 x6 (x4 % (x1 + 1))) 102 x6) - 1) < 100) ∧ (-1 ≤ x6 ∧ x6 < 100)) ∧ (QI T (fun r3 c4 => (((-2147483648 ≤ x5 + r3 ∧ x5 + r3 < 2147483648) ∧ (-2147483648 ≤ x6 + (-1) ∧ x6 + (-1) < 2147483648)) ∧ Q (cev 295 2 58 [vR 78, vI x1, vI x2, vI x3, vI (x4 / (x1 + 1)), vI (x5 + r3), vI (x6 + (-1))] [] (SH T, c4)))) (ccal 289 [vR 78, vI (if (((up c 102 x6 (x4 % (x1 + 1))) 102 x6) - 1) = -1 then 12 else 276 + 12 * (((up c 102 x6 (x4 % (x1 + 1))) 102 x6) - 1)), vI (if x6 = -1 then 12 else 276 + 12 * x6)] (SH T, (up c 102 x6 (x4 % (x1 + 1)))))))))) : Q (cev 295 2 58 [vR 78, vI x1, vI x2, vI x3, vI x4, vI x5, vI x6] [] (SH T, c)) := by
  refine of_cev (Q := Q) ?_
  refine wq_ite (Q := Q) (p := x6 < 0) (fun h => ?_) (fun h => ?_)
  · replace k := k.1 h
    show Q (cev 295 2 118 [vR 78, vI x1, vI x2, vI x3, vU, vI x5, vU] [] (SH T, c))
    refine of_cev (Q := Q) ?_
    refine wq_ite (Q := Q) (p := (c 77 49) < x5) (fun h => ?_) (fun h => ?_)
    · replace k := k.1 h
      show Q (cev 295 2 210 [vR 78, vI x1, vI x2, vI x3, vU, vU, vU] [] (SH T, c))
      refine of_cev (Q := Q) ?_
      refine wq_pos (Q := Q) k.1 ?_
      replace k := k.2
      exact k
    · replace k := k.2 h
      refine wq_callI (Q := Q) rfl k ?_
      intro r1 c2 k
      refine wq_ite (Q := Q) (p := r1 = 0) (fun h => ?_) (fun h => ?_)
      · replace k := k.1 h
        show Q (cev 295 2 210 [vR 78, vI x1, vI x2, vI x3, vU, vU, vU] [] (SH T, c2))
        refine of_cev (Q := Q) ?_
        refine wq_pos (Q := Q) k.1 ?_
        replace k := k.2
        exact k
      · replace k := k.2 h
        refine wq_ite (Q := Q) (p := x5 < (c2 77 49)) (fun h => ?_) (fun h => ?_)
        · replace k := k.1 h
          exact k
        · replace k := k.2 h
          show Q (cev 295 2 149 [vR 78, vI x1, vI x2, vI x3, vU, vI x5, vU] [vR 78] (SH T, c2))
          refine of_cev (Q := Q) ?_
          exact k
  · replace k := k.2 h
    refine wq_pos (Q := Q) k.1.1 ?_
    refine wq_pos (Q := Q) k.1.2.1 ?_
    refine wq_pos (Q := Q) k.1.2.2.1 ?_
    refine wq_pos (Q := Q) k.1.1 ?_
    refine wq_pos (Q := Q) k.1.2.1 ?_
    refine wq_pos (Q := Q) k.1.2.2.1 ?_
    refine wq_pos (Q := Q) k.1.2.2.2.1 ?_
    refine wq_sum (Q := Q) rfl (S_X12_pictureAt T (up c 102 x6 (x4 % (x1 + 1))) (((up c 102 x6 (x4 % (x1 + 1))) 102 x6) - 1) k.1.2.2.2.2.1) ?_
    refine wq_sum (Q := Q) rfl (S_X12_pictureAt T (up c 102 x6 (x4 % (x1 + 1))) x6 k.1.2.2.2.2.2) ?_
    replace k := k.2
    refine wq_callI (Q := Q) rfl k ?_
    intro r3 c4 k
    refine wq_pos (Q := Q) k.1.1 ?_
    refine wq_pos (Q := Q) k.1.2 ?_
    replace k := k.2
    exact k
set_option maxRecDepth 20000 in
theorem W_X12_findTree_159 {T : List Shp} {c : Nat → Int → Int} {Q : Res → Prop} {x1 x2 x3 x5 x6 : Int} (k : ((x6 < x1 → ((x5 < (c 77 49) → (((0 ≤ x6 ∧ x6 < 6) ∧ (-2147483648 ≤ x6 + 1 ∧ x6 + 1 < 2147483648)) ∧ Q (cev 295 2 159 [vR 78, vI x1, vI x2, vI x3, vU, vI x5, vI (x6 + 1)] [] (SH T, (up c 103 x6 (c 102 x6)))))) ∧ (¬ x5 < (c 77 49) → Q (cev 295 2 194 [vR 78, vI x1, vI x2, vI x3, vU, vI x5, vU] [] (SH T, c))))) ∧ (¬ x6 < x1 → Q (cev 295 2 194 [vR 78, vI x1, vI x2, vI x3, vU, vI x5, vU] [] (SH T, c))))) : Q (cev 295 2 159 [vR 78, vI x1, vI x2, vI x3, vU, vI x5, vI x6] [] (SH T, c)) := by
  refine of_cev (Q := Q) ?_
  refine wq_ite (Q := Q) (p := x6 < x1) (fun h => ?_) (fun h => ?_)
  · replace k := k.1 h
    refine wq_ite (Q := Q) (p := x5 < (c 77 49)) (fun h => ?_) (fun h => ?_)
    · replace k := k.1 h
      refine wq_pos (Q := Q) k.1.1 ?_
      refine wq_pos (Q := Q) k.1.1 ?_
      refine wq_pos (Q := Q) k.1.2 ?_
      replace k := k.2
      exact k
    · replace k := k.2 h
      exact k
  · replace k := k.2 h
    exact k
set_option maxRecDepth 20000 in
theorem W_X12_findTree_194 {T : List Shp} {c : Nat → Int → Int} {Q : Res → Prop} {x1 x2 x3 x5 : Int} (k : (((-2147483648 ≤ (c 77 50) + 1 ∧ (c 77 50) + 1 < 2147483648) ∧ (-2147483648 ≤ x3 + 1 ∧ x3 + 1 < 2147483648)) ∧ Q (cev 295 2 42 [vR 78, vI x1, vI x2, vI (x3 + 1), vU, vU, vU] [] (SH T, (up (up c 77 49 x5) 77 50 ((c 77 50) + 1)))))) : Q (cev 295 2 194 [vR 78, vI x1, vI x2, vI x3, vU, vI x5, vU] [] (SH T, c)) := by
  refine of_cev (Q := Q) ?_
  refine wq_pos (Q := Q) k.1.1 ?_
  show Q (cev 295 2 210 [vR 78, vI x1, vI x2, vI x3, vU, vU, vU] [] (SH T, (up (up c 77 49 x5) 77 50 ((c 77 50) + 1))))
  refine of_cev (Q := Q) ?_
  refine wq_pos (Q := Q) k.1.2 ?_
  replace k := k.2
  exact k
set_option maxRecDepth 20000 in
theorem W_X12_tree {T : List Shp} {c : Nat → Int → Int} {Q : Res → Prop} {x1 : Int} (k : ((0 ≤ x1 ∧ x1 ≤ (c 79 5) → (QV T (fun c1 => ((x1 = 0 → Q (some (some (vI (c1 77 49)), (SH T, c1)))) ∧ (¬ x1 = 0 → (((-2147483648 ≤ x1 - 1 ∧ x1 - 1 < 2147483648) ∧ (0 ≤ (x1 - 1) ∧ (x1 - 1) < 6)) ∧ (((c1 103 (x1 - 1)) = 0 → Q (some (some (vI 100), (SH T, c1)))) ∧ (¬ (c1 103 (x1 - 1)) = 0 → (((-2147483648 ≤ x1 - 1 ∧ x1 - 1 < 2147483648) ∧ (0 ≤ (x1 - 1) ∧ (x1 - 1) < 6) ∧ (-2147483648 ≤ (c1 103 (x1 - 1)) - 1 ∧ (c1 103 (x1 - 1)) - 1 < 2147483648)) ∧ Q (some (some (vI ((c1 103 (x1 - 1)) - 1)), (SH T, c1)))))))))) (ccal 295 [vR 78] (SH T, (up c 77 0 0))))) ∧ (¬ (0 ≤ x1 ∧ x1 ≤ (c 79 5)) → Q (some (some (vI (-1)), (SH T, (up c 77 0 0))))))) : Q (ccal 296 [vR 78, vI x1] (SH T, c)) := by
  refine of_cev (Q := Q) ?_
  refine wq_sum (Q := Q) rfl (S_X12_in T (up c 77 0 0) x1 0 (c 79 5)) ?_
  refine wq_b01 (Q := Q) (p := 0 ≤ x1 ∧ x1 ≤ (c 79 5)) (fun h => ?_) (fun h => ?_)
  · replace k := k.2 h
    exact k
  · replace k := k.1 h
    show Q (cev 296 3 23 [vR 78, vI x1] [] (SH T, (up c 77 0 0)))
    refine of_cev (Q := Q) ?_
    refine wq_callV (Q := Q) rfl k ?_
    intro c1 k
    refine wq_ite (Q := Q) (p := x1 = 0) (fun h => ?_) (fun h => ?_)
    · replace k := k.1 h
      exact k
    · replace k := k.2 h
      show Q (cev 296 3 38 [vR 78, vI x1] [] (SH T, c1))
      refine of_cev (Q := Q) ?_
      refine wq_pos (Q := Q) k.1.1 ?_
      refine wq_pos (Q := Q) k.1.2 ?_
      replace k := k.2
      refine wq_ite (Q := Q) (p := (c1 103 (x1 - 1)) = 0) (fun h => ?_) (fun h => ?_)
      · replace k := k.1 h
        exact k
      · replace k := k.2 h
        show Q (cev 296 3 54 [vR 78, vI x1] [] (SH T, c1))
        refine of_cev (Q := Q) ?_
        refine wq_pos (Q := Q) k.1.1 ?_
        refine wq_pos (Q := Q) k.1.2.1 ?_
        refine wq_pos (Q := Q) k.1.2.2 ?_
        replace k := k.2
        exact k
set_option maxRecDepth 20000 in
theorem W_X12_trees {T : List Shp} {c : Nat → Int → Int} {Q : Res → Prop} (k : (QV T (fun c1 => Q (some (some (vI (c1 77 50)), (SH T, c1)))) (ccal 295 [vR 78] (SH T, (up c 77 0 0))))) : Q (ccal 297 [vR 78] (SH T, c)) := by
  refine of_cev (Q := Q) ?_
  refine wq_callV (Q := Q) rfl k ?_
  intro c1 k
  exact k
set_option maxRecDepth 20000 in
theorem W_X12_dated {T : List Shp} {c : Nat → Int → Int} {Q : Res → Prop} {x1 x2 : Int} (k : ((-9223372036854775808 ≤ (c 79 5) - 1 ∧ (c 79 5) - 1 < 9223372036854775808) ∧ ((0 ≤ x1 ∧ x1 < (c 79 5) → ((0 ≤ x2 ∧ x2 ≤ 3 → Q (cev 298 3 43 [vR 78, vI x1, vI x2, vI 100000000, vI 0, vI 0, vI 0, vI 0, vU] [] (SH T, (up c 77 0 0)))) ∧ (¬ (0 ≤ x2 ∧ x2 ≤ 3) → Q (some (some (vI (-1)), (SH T, (up c 77 0 0))))))) ∧ (¬ (0 ≤ x1 ∧ x1 < (c 79 5)) → Q (some (some (vI (-1)), (SH T, (up c 77 0 0)))))))) : Q (ccal 298 [vR 78, vI x1, vI x2] (SH T, c)) := by
  refine of_cev (Q := Q) ?_
  refine wq_sum (Q := Q) rfl (S_X12_isCopy T (up c 77 0 0) x1 k.1) ?_
  replace k := k.2
  refine wq_b01 (Q := Q) (p := 0 ≤ x1 ∧ x1 < (c 79 5)) (fun h => ?_) (fun h => ?_)
  · replace k := k.2 h
    show Q (cev 298 3 25 [vU, vU, vU, vU, vU, vU, vU, vU, vU] [] (SH T, (up c 77 0 0)))
    refine of_cev (Q := Q) ?_
    exact k
  · replace k := k.1 h
    refine wq_sum (Q := Q) rfl (S_X12_in T (up c 77 0 0) x2 0 3) ?_
    refine wq_b01 (Q := Q) (p := 0 ≤ x2 ∧ x2 ≤ 3) (fun h => ?_) (fun h => ?_)
    · replace k := k.2 h
      show Q (cev 298 3 25 [vU, vU, vU, vU, vU, vU, vU, vU, vU] [] (SH T, (up c 77 0 0)))
      refine of_cev (Q := Q) ?_
      exact k
    · replace k := k.1 h
      show Q (cev 298 3 27 [vR 78, vI x1, vI x2, vU, vU, vU, vU, vU, vU] [] (SH T, (up c 77 0 0)))
      refine of_cev (Q := Q) ?_
      exact k
set_option maxRecDepth 20000 in
theorem W_X12_dated_43 {T : List Shp} {c : Nat → Int → Int} {Q : Res → Prop} {x1 x2 x3 x4 x5 x6 x7 : Int} (k : (((c 79 4) < x7 → ((x2 = 0 → Q (some (some (vI x3), (SH T, c)))) ∧ (¬ x2 = 0 → ((x2 = 1 → Q (some (some (vI x4), (SH T, c)))) ∧ (¬ x2 = 1 → ((x2 = 2 → Q (some (some (vI x5), (SH T, c)))) ∧ (¬ x2 = 2 → Q (some (some (vI x6), (SH T, c)))))))))) ∧ (¬ (c 79 4) < x7 → (((-2147483648 ≤ 12 * x1 ∧ 12 * x1 < 2147483648) ∧ (-2147483648 ≤ 276 + (12 * x1) ∧ 276 + (12 * x1) < 2147483648) ∧ (-2147483648 ≤ 12 * x7 ∧ 12 * x7 < 2147483648) ∧ (-2147483648 ≤ 12 + (12 * x7) ∧ 12 + (12 * x7) < 2147483648)) ∧ (QI T (fun r1 c2 => ((r1 < x3 → Q (cev 298 3 87 [vR 78, vI x1, vI x2, vI x3, vU, vI x5, vI x6, vI x7, vI r1] [vI x7] (SH T, c2))) ∧ (¬ r1 < x3 → Q (cev 298 3 87 [vR 78, vI x1, vI x2, vI x3, vU, vI x5, vI x6, vI x7, vI r1] [vI x4] (SH T, c2))))) (ccal 289 [vR 78, vI (276 + (12 * x1)), vI (12 + (12 * x7))] (SH T, c))))))) : Q (cev 298 3 43 [vR 78, vI x1, vI x2, vI x3, vI x4, vI x5, vI x6, vI x7, vU] [] (SH T, c)) := by
  refine of_cev (Q := Q) ?_
  refine wq_sum (Q := Q) rfl (S_X12_years T c ) ?_
  refine wq_ite (Q := Q) (p := (c 79 4) < x7) (fun h => ?_) (fun h => ?_)
  · replace k := k.1 h
    show Q (cev 298 3 150 [vU, vU, vI x2, vI x3, vI x4, vI x5, vI x6, vU, vU] [] (SH T, c))
    refine of_cev (Q := Q) ?_
    refine wq_ite (Q := Q) (p := x2 = 0) (fun h => ?_) (fun h => ?_)
    · replace k := k.1 h
      exact k
    · replace k := k.2 h
      show Q (cev 298 3 158 [vU, vU, vI x2, vU, vI x4, vI x5, vI x6, vU, vU] [] (SH T, c))
      refine of_cev (Q := Q) ?_
      refine wq_ite (Q := Q) (p := x2 = 1) (fun h => ?_) (fun h => ?_)
      · replace k := k.1 h
        exact k
      · replace k := k.2 h
        show Q (cev 298 3 168 [vU, vU, vI x2, vU, vU, vI x5, vI x6, vU, vU] [] (SH T, c))
        refine of_cev (Q := Q) ?_
        refine wq_ite (Q := Q) (p := x2 = 2) (fun h => ?_) (fun h => ?_)
        · replace k := k.1 h
          exact k
        · replace k := k.2 h
          show Q (cev 298 3 178 [vU, vU, vU, vU, vU, vU, vI x6, vU, vU] [] (SH T, c))
          refine of_cev (Q := Q) ?_
          exact k
  · replace k := k.2 h
    refine wq_pos (Q := Q) k.1.1 ?_
    refine wq_pos (Q := Q) k.1.2.1 ?_
    refine wq_pos (Q := Q) k.1.2.2.1 ?_
    refine wq_pos (Q := Q) k.1.2.2.2 ?_
    replace k := k.2
    refine wq_callI (Q := Q) rfl k ?_
    intro r1 c2 k
    refine wq_ite (Q := Q) (p := r1 < x3) (fun h => ?_) (fun h => ?_)
    · replace k := k.1 h
      exact k
    · replace k := k.2 h
      show Q (cev 298 3 85 [vR 78, vI x1, vI x2, vI x3, vI x4, vI x5, vI x6, vI x7, vI r1] [] (SH T, c2))
      refine of_cev (Q := Q) ?_
      exact k
set_option maxRecDepth 20000 in
theorem W_X12_dated_87 {T : List Shp} {c : Nat → Int → Int} {Q : Res → Prop} {x1 x2 x3 x5 x6 x7 x8 y0 : Int} (k : ((x8 < x3 → Q (cev 298 3 114 [vR 78, vI x1, vI x2, vI x3, vI y0, vI x5, vU, vI x7, vI x8] [vI 1] (SH T, c))) ∧ (¬ x8 < x3 → ((x8 = x3 → ((-2147483648 ≤ x6 + 1 ∧ x6 + 1 < 2147483648) ∧ Q (cev 298 3 114 [vR 78, vI x1, vI x2, vI x3, vI y0, vI x5, vU, vI x7, vI x8] [vI (x6 + 1)] (SH T, c)))) ∧ (¬ x8 = x3 → Q (cev 298 3 114 [vR 78, vI x1, vI x2, vI x3, vI y0, vI x5, vU, vI x7, vI x8] [vI x6] (SH T, c))))))) : Q (cev 298 3 87 [vR 78, vI x1, vI x2, vI x3, vU, vI x5, vI x6, vI x7, vI x8] [vI y0] (SH T, c)) := by
  refine of_cev (Q := Q) ?_
  refine wq_ite (Q := Q) (p := x8 < x3) (fun h => ?_) (fun h => ?_)
  · replace k := k.1 h
    exact k
  · replace k := k.2 h
    show Q (cev 298 3 99 [vR 78, vI x1, vI x2, vI x3, vI y0, vI x5, vI x6, vI x7, vI x8] [] (SH T, c))
    refine of_cev (Q := Q) ?_
    refine wq_ite (Q := Q) (p := x8 = x3) (fun h => ?_) (fun h => ?_)
    · replace k := k.1 h
      refine wq_pos (Q := Q) k.1 ?_
      replace k := k.2
      exact k
    · replace k := k.2 h
      show Q (cev 298 3 112 [vR 78, vI x1, vI x2, vI x3, vI y0, vI x5, vI x6, vI x7, vI x8] [] (SH T, c))
      refine of_cev (Q := Q) ?_
      exact k
set_option maxRecDepth 20000 in
theorem W_X12_dated_114 {T : List Shp} {c : Nat → Int → Int} {Q : Res → Prop} {x1 x2 x3 x4 x5 x7 x8 y0 : Int} (k : ((x3 < x8 → Q (cev 298 3 129 [vR 78, vI x1, vI x2, vI x3, vI x4, vU, vI y0, vI x7, vI x8] [vI x5] (SH T, c))) ∧ (¬ x3 < x8 → Q (cev 298 3 129 [vR 78, vI x1, vI x2, vI x3, vI x4, vU, vI y0, vI x7, vI x8] [vI x7] (SH T, c))))) : Q (cev 298 3 114 [vR 78, vI x1, vI x2, vI x3, vI x4, vI x5, vU, vI x7, vI x8] [vI y0] (SH T, c)) := by
  refine of_cev (Q := Q) ?_
  refine wq_ite (Q := Q) (p := x3 < x8) (fun h => ?_) (fun h => ?_)
  · replace k := k.1 h
    show Q (cev 298 3 127 [vR 78, vI x1, vI x2, vI x3, vI x4, vI x5, vI y0, vI x7, vI x8] [] (SH T, c))
    refine of_cev (Q := Q) ?_
    exact k
  · replace k := k.2 h
    exact k
set_option maxRecDepth 20000 in
theorem W_X12_dated_129 {T : List Shp} {c : Nat → Int → Int} {Q : Res → Prop} {x1 x2 x3 x4 x6 x7 x8 y0 : Int} (k : ((x8 < x3 → ((-2147483648 ≤ x7 + 1 ∧ x7 + 1 < 2147483648) ∧ Q (cev 298 3 43 [vR 78, vI x1, vI x2, vI x8, vI x4, vI y0, vI x6, vI (x7 + 1), vU] [] (SH T, c)))) ∧ (¬ x8 < x3 → ((-2147483648 ≤ x7 + 1 ∧ x7 + 1 < 2147483648) ∧ Q (cev 298 3 43 [vR 78, vI x1, vI x2, vI x3, vI x4, vI y0, vI x6, vI (x7 + 1), vU] [] (SH T, c)))))) : Q (cev 298 3 129 [vR 78, vI x1, vI x2, vI x3, vI x4, vU, vI x6, vI x7, vI x8] [vI y0] (SH T, c)) := by
  refine of_cev (Q := Q) ?_
  refine wq_ite (Q := Q) (p := x8 < x3) (fun h => ?_) (fun h => ?_)
  · replace k := k.1 h
    refine wq_pos (Q := Q) k.1 ?_
    replace k := k.2
    exact k
  · replace k := k.2 h
    show Q (cev 298 3 142 [vR 78, vI x1, vI x2, vI x3, vI x4, vI y0, vI x6, vI x7, vU] [] (SH T, c))
    refine of_cev (Q := Q) ?_
    refine wq_pos (Q := Q) k.1 ?_
    replace k := k.2
    exact k
set_option maxRecDepth 20000 in
theorem W_X12_worst {T : List Shp} {c : Nat → Int → Int} {Q : Res → Prop} {x1 x2 : Int} (k : Q (cev 299 2 5 [vR 78, vI x1, vI x2, vI 0, vI 0, vU, vU] [] (SH T, c))) : Q (ccal 299 [vR 78, vI x1, vI x2] (SH T, c)) := by
  refine of_cev (Q := Q) ?_
  exact k
set_option maxRecDepth 20000 in
theorem W_X12_worst_5 {T : List Shp} {c : Nat → Int → Int} {Q : Res → Prop} {x1 x2 x3 x4 : Int} (k : ((x4 < 10 → Q (cev 299 2 18 [vR 78, vI x1, vI x2, vI x3, vI x4, vI 0, vI 0] [] (SH T, c))) ∧ (¬ x4 < 10 → Q (some (some (vI x3), (SH T, c)))))) : Q (cev 299 2 5 [vR 78, vI x1, vI x2, vI x3, vI x4, vU, vU] [] (SH T, c)) := by
  refine of_cev (Q := Q) ?_
  refine wq_ite (Q := Q) (p := x4 < 10) (fun h => ?_) (fun h => ?_)
  · replace k := k.1 h
    exact k
  · replace k := k.2 h
    show Q (cev 299 2 122 [vU, vU, vU, vI x3, vU, vU, vU] [] (SH T, c))
    refine of_cev (Q := Q) ?_
    exact k
set_option maxRecDepth 20000 in
theorem W_X12_worst_18 {T : List Shp} {c : Nat → Int → Int} {Q : Res → Prop} {x1 x2 x3 x4 x5 x6 : Int} (k : ((x6 < (c 79 5) → ((iand (ishr x1 x6) 1 = 1 → (((-2147483648 ≤ 12 * x6 ∧ 12 * x6 < 2147483648) ∧ (-2147483648 ≤ 276 + (12 * x6) ∧ 276 + (12 * x6) < 2147483648) ∧ (-2147483648 ≤ (276 + (12 * x6)) + x2 ∧ (276 + (12 * x6)) + x2 < 2147483648) ∧ (0 ≤ ((276 + (12 * x6)) + x2) ∧ ((276 + (12 * x6)) + x2) < 5780)) ∧ (((c 79 ((276 + (12 * x6)) + x2)) = x4 → ((-2147483648 ≤ x6 + 1 ∧ x6 + 1 < 2147483648) ∧ Q (cev 299 2 18 [vR 78, vI x1, vI x2, vI x3, vI x4, vI (ior x5 (ishl 1 x6)), vI (x6 + 1)] [] (SH T, c)))) ∧ (¬ (c 79 ((276 + (12 * x6)) + x2)) = x4 → ((-2147483648 ≤ x6 + 1 ∧ x6 + 1 < 2147483648) ∧ Q (cev 299 2 18 [vR 78, vI x1, vI x2, vI x3, vI x4, vI (ior x5 0), vI (x6 + 1)] [] (SH T, c))))))) ∧ (¬ (iand (ishr x1 x6) 1 = 1) → ((-2147483648 ≤ x6 + 1 ∧ x6 + 1 < 2147483648) ∧ Q (cev 299 2 18 [vR 78, vI x1, vI x2, vI x3, vI x4, vI (ior x5 0), vI (x6 + 1)] [] (SH T, c)))))) ∧ (¬ x6 < (c 79 5) → ((x5 = x1 → Q (some (some (vI 100000000), (SH T, c)))) ∧ (¬ x5 = x1 → ((x5 = 0 → ((-2147483648 ≤ x4 + 1 ∧ x4 + 1 < 2147483648) ∧ Q (cev 299 2 5 [vR 78, vI x1, vI x2, vI x3, vI (x4 + 1), vU, vU] [] (SH T, c)))) ∧ (¬ x5 = 0 → ((0 ≤ x5 ∧ x5 < 64) ∧ ((x3 < (c 104 x5) → (((0 ≤ x5 ∧ x5 < 64) ∧ (-2147483648 ≤ x4 + 1 ∧ x4 + 1 < 2147483648)) ∧ Q (cev 299 2 5 [vR 78, vI x1, vI x2, vI (c 104 x5), vI (x4 + 1), vU, vU] [] (SH T, c)))) ∧ (¬ x3 < (c 104 x5) → ((-2147483648 ≤ x4 + 1 ∧ x4 + 1 < 2147483648) ∧ Q (cev 299 2 5 [vR 78, vI x1, vI x2, vI x3, vI (x4 + 1), vU, vU] [] (SH T, c))))))))))))) : Q (cev 299 2 18 [vR 78, vI x1, vI x2, vI x3, vI x4, vI x5, vI x6] [] (SH T, c)) := by
  refine of_cev (Q := Q) ?_
  refine wq_ite (Q := Q) (p := x6 < (c 79 5)) (fun h => ?_) (fun h => ?_)
  · replace k := k.1 h
    refine wq_sum (Q := Q) rfl (S_X12_is T c x1 x6) ?_
    refine wq_b01 (Q := Q) (p := iand (ishr x1 x6) 1 = 1) (fun h => ?_) (fun h => ?_)
    · replace k := k.2 h
      show Q (cev 299 2 68 [vR 78, vI x1, vI x2, vI x3, vI x4, vU, vI x6] [vI x5] (SH T, c))
      refine of_cev (Q := Q) ?_
      refine wq_pos (Q := Q) k.1 ?_
      replace k := k.2
      exact k
    · replace k := k.1 h
      refine wq_pos (Q := Q) k.1.1 ?_
      refine wq_pos (Q := Q) k.1.2.1 ?_
      refine wq_pos (Q := Q) k.1.2.2.1 ?_
      refine wq_pos (Q := Q) k.1.2.2.2 ?_
      replace k := k.2
      refine wq_ite (Q := Q) (p := (c 79 ((276 + (12 * x6)) + x2)) = x4) (fun h => ?_) (fun h => ?_)
      · replace k := k.1 h
        refine wq_pos (Q := Q) k.1 ?_
        replace k := k.2
        exact k
      · replace k := k.2 h
        show Q (cev 299 2 68 [vR 78, vI x1, vI x2, vI x3, vI x4, vU, vI x6] [vI x5] (SH T, c))
        refine of_cev (Q := Q) ?_
        refine wq_pos (Q := Q) k.1 ?_
        replace k := k.2
        exact k
  · replace k := k.2 h
    show Q (cev 299 2 78 [vR 78, vI x1, vI x2, vI x3, vI x4, vI x5, vU] [] (SH T, c))
    refine of_cev (Q := Q) ?_
    refine wq_ite (Q := Q) (p := x5 = x1) (fun h => ?_) (fun h => ?_)
    · replace k := k.1 h
      exact k
    · replace k := k.2 h
      show Q (cev 299 2 88 [vR 78, vI x1, vI x2, vI x3, vI x4, vI x5, vU] [] (SH T, c))
      refine of_cev (Q := Q) ?_
      refine wq_ite (Q := Q) (p := x5 = 0) (fun h => ?_) (fun h => ?_)
      · replace k := k.1 h
        show Q (cev 299 2 114 [vR 78, vI x1, vI x2, vI x3, vI x4, vU, vU] [] (SH T, c))
        refine of_cev (Q := Q) ?_
        refine wq_pos (Q := Q) k.1 ?_
        replace k := k.2
        exact k
      · replace k := k.2 h
        refine wq_pos (Q := Q) k.1 ?_
        replace k := k.2
        refine wq_ite (Q := Q) (p := x3 < (c 104 x5)) (fun h => ?_) (fun h => ?_)
        · replace k := k.1 h
          refine wq_pos (Q := Q) k.1.1 ?_
          refine wq_pos (Q := Q) k.1.2 ?_
          replace k := k.2
          exact k
        · replace k := k.2 h
          show Q (cev 299 2 114 [vR 78, vI x1, vI x2, vI x3, vI x4, vU, vU] [] (SH T, c))
          refine of_cev (Q := Q) ?_
          refine wq_pos (Q := Q) k.1 ?_
          replace k := k.2
          exact k
set_option maxRecDepth 20000 in
theorem W_X12_findDepths {T : List Shp} {c : Nat → Int → Int} {Q : Res → Prop} (k : Q (cev 300 3 2 [vR 78, vI 1, vU, vU, vU] [] (SH T, c))) : Q (ccal 300 [vR 78] (SH T, c)) := by
  refine of_cev (Q := Q) ?_
  exact k
set_option maxRecDepth 20000 in
theorem W_X12_findDepths_2 {T : List Shp} {c : Nat → Int → Int} {Q : Res → Prop} {x1 : Int} (k : ((x1 < (ishl 1 (c 79 5)) → Q (cev 300 3 20 [vR 78, vI x1, vI 100000000, vI 0, vU] [] (SH T, c))) ∧ (¬ x1 < (ishl 1 (c 79 5)) → Q (some (none, (SH T, c)))))) : Q (cev 300 3 2 [vR 78, vI x1, vU, vU, vU] [] (SH T, c)) := by
  refine of_cev (Q := Q) ?_
  refine wq_ite (Q := Q) (p := x1 < (ishl 1 (c 79 5))) (fun h => ?_) (fun h => ?_)
  · replace k := k.1 h
    exact k
  · replace k := k.2 h
    show Q (cev 300 3 79 [vU, vU, vU, vU, vU] [] (SH T, c))
    refine of_cev (Q := Q) ?_
    exact k
set_option maxRecDepth 20000 in
theorem W_X12_findDepths_20 {T : List Shp} {c : Nat → Int → Int} {Q : Res → Prop} {x1 x2 x3 : Int} (k : ((x3 < 12 → (QI T (fun r1 c2 => ((r1 < x2 → ((-2147483648 ≤ x3 + 1 ∧ x3 + 1 < 2147483648) ∧ Q (cev 300 3 20 [vR 78, vI x1, vI r1, vI (x3 + 1), vU] [] (SH T, c2)))) ∧ (¬ r1 < x2 → ((-2147483648 ≤ x3 + 1 ∧ x3 + 1 < 2147483648) ∧ Q (cev 300 3 20 [vR 78, vI x1, vI x2, vI (x3 + 1), vU] [] (SH T, c2)))))) (ccal 299 [vR 78, vI x1, vI x3] (SH T, c)))) ∧ (¬ x3 < 12 → ((x2 = 100000000 → (((0 ≤ x1 ∧ x1 < 64) ∧ (-2147483648 ≤ x1 + 1 ∧ x1 + 1 < 2147483648)) ∧ Q (cev 300 3 2 [vR 78, vI (x1 + 1), vU, vU, vU] [] (SH T, (up c 104 x1 0))))) ∧ (¬ x2 = 100000000 → (((-2147483648 ≤ x2 + 1 ∧ x2 + 1 < 2147483648) ∧ (0 ≤ x1 ∧ x1 < 64) ∧ (-2147483648 ≤ x1 + 1 ∧ x1 + 1 < 2147483648)) ∧ Q (cev 300 3 2 [vR 78, vI (x1 + 1), vU, vU, vU] [] (SH T, (up c 104 x1 (x2 + 1)))))))))) : Q (cev 300 3 20 [vR 78, vI x1, vI x2, vI x3, vU] [] (SH T, c)) := by
  refine of_cev (Q := Q) ?_
  refine wq_ite (Q := Q) (p := x3 < 12) (fun h => ?_) (fun h => ?_)
  · replace k := k.1 h
    refine wq_callI (Q := Q) rfl k ?_
    intro r1 c2 k
    refine wq_ite (Q := Q) (p := r1 < x2) (fun h => ?_) (fun h => ?_)
    · replace k := k.1 h
      refine wq_pos (Q := Q) k.1 ?_
      replace k := k.2
      exact k
    · replace k := k.2 h
      show Q (cev 300 3 45 [vR 78, vI x1, vI x2, vI x3, vU] [] (SH T, c2))
      refine of_cev (Q := Q) ?_
      refine wq_pos (Q := Q) k.1 ?_
      replace k := k.2
      exact k
  · replace k := k.2 h
    show Q (cev 300 3 53 [vR 78, vI x1, vI x2, vU, vU] [] (SH T, c))
    refine of_cev (Q := Q) ?_
    refine wq_ite (Q := Q) (p := x2 = 100000000) (fun h => ?_) (fun h => ?_)
    · replace k := k.1 h
      refine wq_pos (Q := Q) k.1.1 ?_
      refine wq_pos (Q := Q) k.1.2 ?_
      replace k := k.2
      exact k
    · replace k := k.2 h
      show Q (cev 300 3 69 [vR 78, vI x1, vI x2, vU, vU] [vI x1, vR 105] (SH T, c))
      refine of_cev (Q := Q) ?_
      refine wq_pos (Q := Q) k.1.1 ?_
      refine wq_pos (Q := Q) k.1.2.1 ?_
      refine wq_pos (Q := Q) k.1.2.2 ?_
      replace k := k.2
      exact k
set_option maxRecDepth 20000 in
theorem W_X12_know {T : List Shp} {c : Nat → Int → Int} {Q : Res → Prop} {x1 : Int} (k : ((-2147483648 ≤ (ishl 1 (c 79 5)) - 1 ∧ (ishl 1 (c 79 5)) - 1 < 2147483648) ∧ ((0 ≤ x1 ∧ x1 ≤ 1 → ((((ishl 1 (c 79 5)) - 1) = 0 → Q (some (some (vI (-1)), (SH T, (up c 77 0 0))))) ∧ (¬ ((ishl 1 (c 79 5)) - 1) = 0 → (QV T (fun c1 => ((x1 = 0 → Q (cev 301 4 49 [vR 78, vI x1, vI ((ishl 1 (c 79 5)) - 1), vU] [] (SH T, c1))) ∧ (¬ x1 = 0 → ((0 ≤ ((ishl 1 (c 79 5)) - 1) ∧ ((ishl 1 (c 79 5)) - 1) < 64) ∧ (((c1 104 ((ishl 1 (c 79 5)) - 1)) = 0 → Q (cev 301 4 49 [vR 78, vI x1, vI ((ishl 1 (c 79 5)) - 1), vU] [] (SH T, c1))) ∧ (¬ (c1 104 ((ishl 1 (c 79 5)) - 1)) = 0 → Q (cev 301 4 66 [vR 78, vU, vI ((ishl 1 (c 79 5)) - 1), vI 0] [] (SH T, c1)))))))) (ccal 300 [vR 78] (SH T, (up c 77 0 0))))))) ∧ (¬ (0 ≤ x1 ∧ x1 ≤ 1) → Q (some (some (vI (-1)), (SH T, (up c 77 0 0)))))))) : Q (ccal 301 [vR 78, vI x1] (SH T, c)) := by
  refine of_cev (Q := Q) ?_
  refine wq_pos (Q := Q) k.1 ?_
  refine wq_sum (Q := Q) rfl (S_X12_in T (up c 77 0 0) x1 0 1) ?_
  replace k := k.2
  refine wq_b01 (Q := Q) (p := 0 ≤ x1 ∧ x1 ≤ 1) (fun h => ?_) (fun h => ?_)
  · replace k := k.2 h
    show Q (cev 301 4 30 [vU, vU, vU, vU] [] (SH T, (up c 77 0 0)))
    refine of_cev (Q := Q) ?_
    exact k
  · replace k := k.1 h
    refine wq_ite (Q := Q) (p := ((ishl 1 (c 79 5)) - 1) = 0) (fun h => ?_) (fun h => ?_)
    · replace k := k.1 h
      show Q (cev 301 4 30 [vU, vU, vU, vU] [] (SH T, (up c 77 0 0)))
      refine of_cev (Q := Q) ?_
      exact k
    · replace k := k.2 h
      show Q (cev 301 4 32 [vR 78, vI x1, vI ((ishl 1 (c 79 5)) - 1), vU] [] (SH T, (up c 77 0 0)))
      refine of_cev (Q := Q) ?_
      refine wq_callV (Q := Q) rfl k ?_
      intro c1 k
      refine wq_ite (Q := Q) (p := x1 = 0) (fun h => ?_) (fun h => ?_)
      · replace k := k.1 h
        exact k
      · replace k := k.2 h
        refine wq_pos (Q := Q) k.1 ?_
        replace k := k.2
        refine wq_ite (Q := Q) (p := (c1 104 ((ishl 1 (c 79 5)) - 1)) = 0) (fun h => ?_) (fun h => ?_)
        · replace k := k.1 h
          exact k
        · replace k := k.2 h
          show Q (cev 301 4 64 [vR 78, vU, vI ((ishl 1 (c 79 5)) - 1), vU] [] (SH T, c1))
          refine of_cev (Q := Q) ?_
          exact k
set_option maxRecDepth 20000 in
theorem W_X12_know_49 {T : List Shp} {c : Nat → Int → Int} {Q : Res → Prop} {x1 x2 : Int} (k : ((x1 = 0 → ((0 ≤ x2 ∧ x2 < 64) ∧ Q (some (some (vI (c 104 x2)), (SH T, c))))) ∧ (¬ x1 = 0 → Q (some (some (vI (-1)), (SH T, c)))))) : Q (cev 301 4 49 [vR 78, vI x1, vI x2, vU] [] (SH T, c)) := by
  refine of_cev (Q := Q) ?_
  refine wq_ite (Q := Q) (p := x1 = 0) (fun h => ?_) (fun h => ?_)
  · replace k := k.1 h
    refine wq_pos (Q := Q) k.1 ?_
    replace k := k.2
    exact k
  · replace k := k.2 h
    show Q (cev 301 4 62 [vU, vU, vU, vU] [] (SH T, c))
    refine of_cev (Q := Q) ?_
    exact k
set_option maxRecDepth 20000 in
theorem W_X12_know_66 {T : List Shp} {c : Nat → Int → Int} {Q : Res → Prop} {x2 x3 : Int} (k : (QI T (fun r1 c2 => (((-2147483648 ≤ r1 + 1 ∧ r1 + 1 < 2147483648) ∧ (0 ≤ x2 ∧ x2 < 64)) ∧ (((r1 + 1) = (c2 104 x2) → Q (some (some (vI x3), (SH T, c2)))) ∧ (¬ (r1 + 1) = (c2 104 x2) → ((-2147483648 ≤ x3 + 1 ∧ x3 + 1 < 2147483648) ∧ Q (cev 301 4 66 [vR 78, vU, vI x2, vI (x3 + 1)] [] (SH T, c2))))))) (ccal 299 [vR 78, vI x2, vI x3] (SH T, c)))) : Q (cev 301 4 66 [vR 78, vU, vI x2, vI x3] [] (SH T, c)) := by
  refine of_cev (Q := Q) ?_
  refine wq_callI (Q := Q) rfl k ?_
  intro r1 c2 k
  refine wq_pos (Q := Q) k.1.1 ?_
  refine wq_pos (Q := Q) k.1.2 ?_
  replace k := k.2
  refine wq_ite (Q := Q) (p := (r1 + 1) = (c2 104 x2)) (fun h => ?_) (fun h => ?_)
  · replace k := k.1 h
    show Q (cev 301 4 89 [vU, vU, vU, vI x3] [] (SH T, c2))
    refine of_cev (Q := Q) ?_
    exact k
  · replace k := k.2 h
    refine wq_pos (Q := Q) k.1 ?_
    replace k := k.2
    exact k
set_option maxRecDepth 20000 in
theorem W_X12_whoOf {T : List Shp} {c : Nat → Int → Int} {Q : Res → Prop} {x1 : Int} (k : (QV T (fun c1 => ((-2147483648 ≤ x1 - 1 ∧ x1 - 1 < 2147483648) ∧ (QV T (fun c2 => (QV T (fun c3 => Q (cev 302 8 23 [vR 78, vI x1, vI 0, vI 0] [] (SH T, c3))) (ccal 262 [vR 78, vI 2, vI x1] (SH T, c2)))) (ccal 262 [vR 78, vI 0, vI (x1 - 1)] (SH T, c1))))) (ccal 259 [vR 78, vI x1] (SH T, c)))) : Q (ccal 302 [vR 78, vI x1] (SH T, c)) := by
  refine of_cev (Q := Q) ?_
  refine wq_callV (Q := Q) rfl k ?_
  intro c1 k
  refine wq_pos (Q := Q) k.1 ?_
  replace k := k.2
  refine wq_callV (Q := Q) rfl k ?_
  intro c2 k
  refine wq_callV (Q := Q) rfl k ?_
  intro c3 k
  exact k
set_option maxRecDepth 20000 in
theorem W_X12_whoOf_23 {T : List Shp} {c : Nat → Int → Int} {Q : Res → Prop} {x1 x2 x3 : Int} (k : ((x3 < (c 79 0) → (QV T (fun c1 => (QI T (fun r2 c3 => ((r2 = 0 → ((-2147483648 ≤ x3 + 1 ∧ x3 + 1 < 2147483648) ∧ Q (cev 302 8 23 [vR 78, vI x1, vI (ior x2 0), vI (x3 + 1)] [] (SH T, c3)))) ∧ (¬ r2 = 0 → ((-2147483648 ≤ x3 + 1 ∧ x3 + 1 < 2147483648) ∧ Q (cev 302 8 23 [vR 78, vI x1, vI (ior x2 (ishl 1 x3)), vI (x3 + 1)] [] (SH T, c3)))))) (ccal 284 [vR 78, vI 1, vI 2] (SH T, c1)))) (ccal 261 [vR 78, vI 0, vI 1, vI x3, vI x1] (SH T, c)))) ∧ (¬ x3 < (c 79 0) → Q (some (some (vI x2), (SH T, c)))))) : Q (cev 302 8 23 [vR 78, vI x1, vI x2, vI x3] [] (SH T, c)) := by
  refine of_cev (Q := Q) ?_
  refine wq_ite (Q := Q) (p := x3 < (c 79 0)) (fun h => ?_) (fun h => ?_)
  · replace k := k.1 h
    refine wq_callV (Q := Q) rfl k ?_
    intro c1 k
    refine wq_callI (Q := Q) rfl k ?_
    intro r2 c3 k
    refine wq_ite (Q := Q) (p := r2 = 0) (fun h => ?_) (fun h => ?_)
    · replace k := k.1 h
      show Q (cev 302 8 57 [vR 78, vI x1, vU, vI x3] [vI x2] (SH T, c3))
      refine of_cev (Q := Q) ?_
      refine wq_pos (Q := Q) k.1 ?_
      replace k := k.2
      exact k
    · replace k := k.2 h
      refine wq_pos (Q := Q) k.1 ?_
      replace k := k.2
      exact k
  · replace k := k.2 h
    show Q (cev 302 8 66 [vU, vU, vI x2, vU] [] (SH T, c))
    refine of_cev (Q := Q) ?_
    exact k
set_option maxRecDepth 20000 in
theorem W_X12_who {T : List Shp} {c : Nat → Int → Int} {Q : Res → Prop} {x1 : Int} (k : ((1 ≤ x1 ∧ x1 ≤ (c 79 4) → (QI T (fun r1 c2 => Q (some (some (vI r1), (SH T, c2)))) (ccal 302 [vR 78, vI x1] (SH T, (up c 77 0 0))))) ∧ (¬ (1 ≤ x1 ∧ x1 ≤ (c 79 4)) → Q (some (some (vI (-1)), (SH T, (up c 77 0 0))))))) : Q (ccal 303 [vR 78, vI x1] (SH T, c)) := by
  refine of_cev (Q := Q) ?_
  refine wq_sum (Q := Q) rfl (S_X12_years T (up c 77 0 0) ) ?_
  refine wq_sum (Q := Q) rfl (S_X12_in T (up c 77 0 0) x1 1 (c 79 4)) ?_
  refine wq_b01 (Q := Q) (p := 1 ≤ x1 ∧ x1 ≤ (c 79 4)) (fun h => ?_) (fun h => ?_)
  · replace k := k.2 h
    show Q (cev 303 9 27 [vU, vU] [] (SH T, (up c 77 0 0)))
    refine of_cev (Q := Q) ?_
    exact k
  · replace k := k.1 h
    refine wq_callI (Q := Q) rfl k ?_
    intro r1 c2 k
    exact k
set_option maxRecDepth 20000 in
theorem W_X12_forge {T : List Shp} {c : Nat → Int → Int} {Q : Res → Prop} {x1 x2 x3 : Int} (k : ((0 ≤ x2 ∧ x2 < 12 → ((0 ≤ x3 ∧ x3 < 10 → ((1 ≤ x1 ∧ x1 ≤ (c 79 4) → (((-2147483648 ≤ 12 * x1 ∧ 12 * x1 < 2147483648) ∧ (-2147483648 ≤ 12 + (12 * x1) ∧ 12 + (12 * x1) < 2147483648) ∧ (-2147483648 ≤ (12 + (12 * x1)) + x2 ∧ (12 + (12 * x1)) + x2 < 2147483648) ∧ (0 ≤ ((12 + (12 * x1)) + x2) ∧ ((12 + (12 * x1)) + x2) < 5780)) ∧ Q (some (some (vI (c 79 ((12 + (12 * x1)) + x2))), (SH T, (up (up (up c 77 0 0) 79 ((12 + (12 * x1)) + x2) x3) 77 1 0)))))) ∧ (¬ (1 ≤ x1 ∧ x1 ≤ (c 79 4)) → ((-2147483648 ≤ (c 78 2) + 1 ∧ (c 78 2) + 1 < 2147483648) ∧ Q (some (some (vI (-2)), (SH T, (up (up (up c 77 0 0) 77 1 (-2)) 78 2 ((c 78 2) + 1))))))))) ∧ (¬ (0 ≤ x3 ∧ x3 < 10) → ((-2147483648 ≤ (c 78 1) + 1 ∧ (c 78 1) + 1 < 2147483648) ∧ Q (some (some (vI (-1)), (SH T, (up (up (up c 77 0 0) 77 1 (-1)) 78 1 ((c 78 1) + 1))))))))) ∧ (¬ (0 ≤ x2 ∧ x2 < 12) → ((-2147483648 ≤ (c 78 1) + 1 ∧ (c 78 1) + 1 < 2147483648) ∧ Q (some (some (vI (-1)), (SH T, (up (up (up c 77 0 0) 77 1 (-1)) 78 1 ((c 78 1) + 1))))))))) : Q (ccal 304 [vR 78, vI x1, vI x2, vI x3] (SH T, c)) := by
  refine of_cev (Q := Q) ?_
  refine wq_sum (Q := Q) rfl (S_X12_isCell T (up c 77 0 0) x2) ?_
  refine wq_b01 (Q := Q) (p := 0 ≤ x2 ∧ x2 < 12) (fun h => ?_) (fun h => ?_)
  · replace k := k.2 h
    show Q (cev 304 3 19 [vR 78, vU, vU, vU] [] (SH T, (up c 77 0 0)))
    refine of_cev (Q := Q) ?_
    refine wq_sum (Q := Q) rfl (S_X12_tell_1 T (up c 77 0 0) k.1) ?_
    replace k := k.2
    exact k
  · replace k := k.1 h
    refine wq_sum (Q := Q) rfl (S_X12_isTone T (up c 77 0 0) x3) ?_
    refine wq_b01 (Q := Q) (p := 0 ≤ x3 ∧ x3 < 10) (fun h => ?_) (fun h => ?_)
    · replace k := k.2 h
      show Q (cev 304 3 19 [vR 78, vU, vU, vU] [] (SH T, (up c 77 0 0)))
      refine of_cev (Q := Q) ?_
      refine wq_sum (Q := Q) rfl (S_X12_tell_1 T (up c 77 0 0) k.1) ?_
      replace k := k.2
      exact k
    · replace k := k.1 h
      show Q (cev 304 3 25 [vR 78, vI x1, vI x2, vI x3] [] (SH T, (up c 77 0 0)))
      refine of_cev (Q := Q) ?_
      refine wq_sum (Q := Q) rfl (S_X12_years T (up c 77 0 0) ) ?_
      refine wq_sum (Q := Q) rfl (S_X12_in T (up c 77 0 0) x1 1 (c 79 4)) ?_
      refine wq_b01 (Q := Q) (p := 1 ≤ x1 ∧ x1 ≤ (c 79 4)) (fun h => ?_) (fun h => ?_)
      · replace k := k.2 h
        show Q (cev 304 3 56 [vR 78, vU, vU, vU] [] (SH T, (up c 77 0 0)))
        refine of_cev (Q := Q) ?_
        refine wq_sum (Q := Q) rfl (S_X12_tell_2 T (up c 77 0 0) k.1) ?_
        replace k := k.2
        exact k
      · replace k := k.1 h
        refine wq_pos (Q := Q) k.1.1 ?_
        refine wq_pos (Q := Q) k.1.2.1 ?_
        refine wq_pos (Q := Q) k.1.2.2.1 ?_
        refine wq_sum (Q := Q) rfl (S_X12_change T (up c 77 0 0) ((12 + (12 * x1)) + x2) x3 k.1.2.2.2) ?_
        replace k := k.2
        exact k
set_option maxRecDepth 20000 in
theorem W_X12_skipped {T : List Shp} {c : Nat → Int → Int} {Q : Res → Prop} (k : Q (cev 305 9 7 [vR 78, vI 1] [] (SH T, (up c 77 0 0)))) : Q (ccal 305 [vR 78] (SH T, c)) := by
  refine of_cev (Q := Q) ?_
  exact k
set_option maxRecDepth 20000 in
theorem W_X12_skipped_7 {T : List Shp} {c : Nat → Int → Int} {Q : Res → Prop} {x1 : Int} (k : (((c 79 4) < x1 → Q (some (some (vI (-1)), (SH T, c)))) ∧ (¬ (c 79 4) < x1 → (QI T (fun r1 c2 => ((r1 = 0 → Q (some (some (vI x1), (SH T, c2)))) ∧ (¬ r1 = 0 → ((-2147483648 ≤ x1 + 1 ∧ x1 + 1 < 2147483648) ∧ Q (cev 305 9 7 [vR 78, vI (x1 + 1)] [] (SH T, c2)))))) (ccal 302 [vR 78, vI x1] (SH T, c)))))) : Q (cev 305 9 7 [vR 78, vI x1] [] (SH T, c)) := by
  refine of_cev (Q := Q) ?_
  refine wq_sum (Q := Q) rfl (S_X12_years T c ) ?_
  refine wq_ite (Q := Q) (p := (c 79 4) < x1) (fun h => ?_) (fun h => ?_)
  · replace k := k.1 h
    show Q (cev 305 9 31 [vU, vU] [] (SH T, c))
    refine of_cev (Q := Q) ?_
    exact k
  · replace k := k.2 h
    refine wq_callI (Q := Q) rfl k ?_
    intro r1 c2 k
    refine wq_ite (Q := Q) (p := r1 = 0) (fun h => ?_) (fun h => ?_)
    · replace k := k.1 h
      exact k
    · replace k := k.2 h
      show Q (cev 305 9 25 [vR 78, vI x1] [] (SH T, c2))
      refine of_cev (Q := Q) ?_
      refine wq_pos (Q := Q) k.1 ?_
      replace k := k.2
      exact k
set_option maxRecDepth 20000 in
theorem W_X12_missing {T : List Shp} {c : Nat → Int → Int} {Q : Res → Prop} {x1 x2 : Int} (k : ((1 ≤ x1 ∧ x1 ≤ (c 79 4) → ((1 ≤ x2 ∧ x2 ≤ 2 → (QV T (fun c1 => ((-2147483648 ≤ x1 - 1 ∧ x1 - 1 < 2147483648) ∧ (QV T (fun c2 => (QV T (fun c3 => Q (cev 306 8 65 [vR 78, vI x1, vI x2, vI (c3 79 0), vI 0, vI 0, vU, vU] [] (SH T, c3))) (ccal 262 [vR 78, vI 4, vI x1] (SH T, c2)))) (ccal 262 [vR 78, vI 0, vI (x1 - 1)] (SH T, c1))))) (ccal 259 [vR 78, vI x1] (SH T, (up c 77 0 0))))) ∧ (¬ (1 ≤ x2 ∧ x2 ≤ 2) → Q (some (some (vI (-1)), (SH T, (up c 77 0 0))))))) ∧ (¬ (1 ≤ x1 ∧ x1 ≤ (c 79 4)) → Q (some (some (vI (-1)), (SH T, (up c 77 0 0))))))) : Q (ccal 306 [vR 78, vI x1, vI x2] (SH T, c)) := by
  refine of_cev (Q := Q) ?_
  refine wq_sum (Q := Q) rfl (S_X12_years T (up c 77 0 0) ) ?_
  refine wq_sum (Q := Q) rfl (S_X12_in T (up c 77 0 0) x1 1 (c 79 4)) ?_
  refine wq_b01 (Q := Q) (p := 1 ≤ x1 ∧ x1 ≤ (c 79 4)) (fun h => ?_) (fun h => ?_)
  · replace k := k.2 h
    show Q (cev 306 8 31 [vU, vU, vU, vU, vU, vU, vU, vU] [] (SH T, (up c 77 0 0)))
    refine of_cev (Q := Q) ?_
    exact k
  · replace k := k.1 h
    refine wq_sum (Q := Q) rfl (S_X12_in T (up c 77 0 0) x2 1 2) ?_
    refine wq_b01 (Q := Q) (p := 1 ≤ x2 ∧ x2 ≤ 2) (fun h => ?_) (fun h => ?_)
    · replace k := k.2 h
      show Q (cev 306 8 31 [vU, vU, vU, vU, vU, vU, vU, vU] [] (SH T, (up c 77 0 0)))
      refine of_cev (Q := Q) ?_
      exact k
    · replace k := k.1 h
      show Q (cev 306 8 33 [vR 78, vI x1, vI x2, vU, vU, vU, vU, vU] [] (SH T, (up c 77 0 0)))
      refine of_cev (Q := Q) ?_
      refine wq_callV (Q := Q) rfl k ?_
      intro c1 k
      refine wq_pos (Q := Q) k.1 ?_
      replace k := k.2
      refine wq_callV (Q := Q) rfl k ?_
      intro c2 k
      refine wq_callV (Q := Q) rfl k ?_
      intro c3 k
      exact k
set_option maxRecDepth 20000 in
theorem W_X12_missing_65 {T : List Shp} {c : Nat → Int → Int} {Q : Res → Prop} {x1 x2 x3 x4 x5 : Int} (k : ((x5 < x3 → (QV T (fun c1 => Q (cev 306 8 83 [vR 78, vI x1, vI x2, vI x3, vI x4, vI x5, vI 0, vU] [] (SH T, c1))) (ccal 261 [vR 78, vI 0, vI 1, vI x5, vI x1] (SH T, c)))) ∧ (¬ x5 < x3 → Q (some (some (vI x4), (SH T, c)))))) : Q (cev 306 8 65 [vR 78, vI x1, vI x2, vI x3, vI x4, vI x5, vU, vU] [] (SH T, c)) := by
  refine of_cev (Q := Q) ?_
  refine wq_ite (Q := Q) (p := x5 < x3) (fun h => ?_) (fun h => ?_)
  · replace k := k.1 h
    refine wq_callV (Q := Q) rfl k ?_
    intro c1 k
    exact k
  · replace k := k.2 h
    show Q (cev 306 8 182 [vU, vU, vU, vU, vI x4, vU, vU, vU] [] (SH T, c))
    refine of_cev (Q := Q) ?_
    exact k
set_option maxRecDepth 20000 in
theorem W_X12_missing_83 {T : List Shp} {c : Nat → Int → Int} {Q : Res → Prop} {x1 x2 x3 x4 x5 x6 : Int} (k : ((x6 < x3 → (QV T (fun c1 => ((x2 = 1 → (QI T (fun r2 c3 => ((r2 = 0 → ((-2147483648 ≤ x4 + 0 ∧ x4 + 0 < 2147483648) ∧ Q (cev 306 8 125 [vR 78, vI x1, vI x2, vI x3, vI (x4 + 0), vI x5, vI x6, vI 0] [] (SH T, c3)))) ∧ (¬ r2 = 0 → ((-2147483648 ≤ x4 + 1 ∧ x4 + 1 < 2147483648) ∧ Q (cev 306 8 125 [vR 78, vI x1, vI x2, vI x3, vI (x4 + 1), vI x5, vI x6, vI 0] [] (SH T, c3)))))) (ccal 284 [vR 78, vI 2, vI 4] (SH T, c1)))) ∧ (¬ x2 = 1 → ((-2147483648 ≤ x4 + 0 ∧ x4 + 0 < 2147483648) ∧ Q (cev 306 8 125 [vR 78, vI x1, vI x2, vI x3, vI (x4 + 0), vI x5, vI x6, vI 0] [] (SH T, c1)))))) (ccal 261 [vR 78, vI 1, vI 2, vI x6, vI x1] (SH T, c)))) ∧ (¬ x6 < x3 → ((-2147483648 ≤ x5 + 1 ∧ x5 + 1 < 2147483648) ∧ Q (cev 306 8 65 [vR 78, vI x1, vI x2, vI x3, vI x4, vI (x5 + 1), vU, vU] [] (SH T, c)))))) : Q (cev 306 8 83 [vR 78, vI x1, vI x2, vI x3, vI x4, vI x5, vI x6, vU] [] (SH T, c)) := by
  refine of_cev (Q := Q) ?_
  refine wq_ite (Q := Q) (p := x6 < x3) (fun h => ?_) (fun h => ?_)
  · replace k := k.1 h
    refine wq_callV (Q := Q) rfl k ?_
    intro c1 k
    refine wq_ite (Q := Q) (p := x2 = 1) (fun h => ?_) (fun h => ?_)
    · replace k := k.1 h
      refine wq_callI (Q := Q) rfl k ?_
      intro r2 c3 k
      refine wq_ite (Q := Q) (p := r2 = 0) (fun h => ?_) (fun h => ?_)
      · replace k := k.1 h
        show Q (cev 306 8 118 [vR 78, vI x1, vI x2, vI x3, vU, vI x5, vI x6, vU] [vI x4] (SH T, c3))
        refine of_cev (Q := Q) ?_
        refine wq_pos (Q := Q) k.1 ?_
        replace k := k.2
        exact k
      · replace k := k.2 h
        refine wq_pos (Q := Q) k.1 ?_
        replace k := k.2
        exact k
    · replace k := k.2 h
      show Q (cev 306 8 118 [vR 78, vI x1, vI x2, vI x3, vU, vI x5, vI x6, vU] [vI x4] (SH T, c1))
      refine of_cev (Q := Q) ?_
      refine wq_pos (Q := Q) k.1 ?_
      replace k := k.2
      exact k
  · replace k := k.2 h
    show Q (cev 306 8 176 [vR 78, vI x1, vI x2, vI x3, vI x4, vI x5, vU, vU] [] (SH T, c))
    refine of_cev (Q := Q) ?_
    refine wq_pos (Q := Q) k.1 ?_
    replace k := k.2
    exact k
set_option maxRecDepth 20000 in
theorem W_X12_missing_125 {T : List Shp} {c : Nat → Int → Int} {Q : Res → Prop} {x1 x2 x3 x4 x5 x6 x7 : Int} (k : ((x7 < x3 → ((x2 = 2 → (QV T (fun c1 => (QI T (fun r2 c3 => ((r2 = 0 → (((-2147483648 ≤ x4 + 0 ∧ x4 + 0 < 2147483648) ∧ (-2147483648 ≤ x7 + 1 ∧ x7 + 1 < 2147483648)) ∧ Q (cev 306 8 125 [vR 78, vI x1, vI x2, vI x3, vI (x4 + 0), vI x5, vI x6, vI (x7 + 1)] [] (SH T, c3)))) ∧ (¬ r2 = 0 → (((-2147483648 ≤ x4 + 1 ∧ x4 + 1 < 2147483648) ∧ (-2147483648 ≤ x7 + 1 ∧ x7 + 1 < 2147483648)) ∧ Q (cev 306 8 125 [vR 78, vI x1, vI x2, vI x3, vI (x4 + 1), vI x5, vI x6, vI (x7 + 1)] [] (SH T, c3)))))) (ccal 284 [vR 78, vI 3, vI 4] (SH T, c1)))) (ccal 261 [vR 78, vI 2, vI 3, vI x7, vI x1] (SH T, c)))) ∧ (¬ x2 = 2 → ((-2147483648 ≤ x6 + 1 ∧ x6 + 1 < 2147483648) ∧ Q (cev 306 8 83 [vR 78, vI x1, vI x2, vI x3, vI x4, vI x5, vI (x6 + 1), vU] [] (SH T, c)))))) ∧ (¬ x7 < x3 → ((-2147483648 ≤ x6 + 1 ∧ x6 + 1 < 2147483648) ∧ Q (cev 306 8 83 [vR 78, vI x1, vI x2, vI x3, vI x4, vI x5, vI (x6 + 1), vU] [] (SH T, c)))))) : Q (cev 306 8 125 [vR 78, vI x1, vI x2, vI x3, vI x4, vI x5, vI x6, vI x7] [] (SH T, c)) := by
  refine of_cev (Q := Q) ?_
  refine wq_ite (Q := Q) (p := x7 < x3) (fun h => ?_) (fun h => ?_)
  · replace k := k.1 h
    refine wq_ite (Q := Q) (p := x2 = 2) (fun h => ?_) (fun h => ?_)
    · replace k := k.1 h
      refine wq_callV (Q := Q) rfl k ?_
      intro c1 k
      refine wq_callI (Q := Q) rfl k ?_
      intro r2 c3 k
      refine wq_ite (Q := Q) (p := r2 = 0) (fun h => ?_) (fun h => ?_)
      · replace k := k.1 h
        show Q (cev 306 8 160 [vR 78, vI x1, vI x2, vI x3, vU, vI x5, vI x6, vI x7] [vI x4] (SH T, c3))
        refine of_cev (Q := Q) ?_
        refine wq_pos (Q := Q) k.1.1 ?_
        refine wq_pos (Q := Q) k.1.2 ?_
        replace k := k.2
        exact k
      · replace k := k.2 h
        refine wq_pos (Q := Q) k.1.1 ?_
        refine wq_pos (Q := Q) k.1.2 ?_
        replace k := k.2
        exact k
    · replace k := k.2 h
      show Q (cev 306 8 170 [vR 78, vI x1, vI x2, vI x3, vI x4, vI x5, vI x6, vU] [] (SH T, c))
      refine of_cev (Q := Q) ?_
      refine wq_pos (Q := Q) k.1 ?_
      replace k := k.2
      exact k
  · replace k := k.2 h
    show Q (cev 306 8 170 [vR 78, vI x1, vI x2, vI x3, vI x4, vI x5, vI x6, vU] [] (SH T, c))
    refine of_cev (Q := Q) ?_
    refine wq_pos (Q := Q) k.1 ?_
    replace k := k.2
    exact k
set_option maxRecDepth 20000 in
theorem W_X12_wasOf {T : List Shp} {c : Nat → Int → Int} {Q : Res → Prop} {x1 : Int} (k : Q (cev 307 3 4 [vR 78, vI x1, vI 0, vI 0, vU, vU] [] (SH T, c))) : Q (ccal 307 [vR 78, vI x1] (SH T, c)) := by
  refine of_cev (Q := Q) ?_
  exact k
set_option maxRecDepth 20000 in
theorem W_X12_wasOf_4 {T : List Shp} {c : Nat → Int → Int} {Q : Res → Prop} {x1 x2 x3 : Int} (k : ((x3 < 10 → Q (cev 307 3 16 [vR 78, vI x1, vI x2, vI x3, vI x3, vI 1] [] (SH T, c))) ∧ (¬ x3 < 10 → Q (some (some (vI x2), (SH T, c)))))) : Q (cev 307 3 4 [vR 78, vI x1, vI x2, vI x3, vU, vU] [] (SH T, c)) := by
  refine of_cev (Q := Q) ?_
  refine wq_ite (Q := Q) (p := x3 < 10) (fun h => ?_) (fun h => ?_)
  · replace k := k.1 h
    exact k
  · replace k := k.2 h
    show Q (cev 307 3 79 [vU, vU, vI x2, vU, vU, vU] [] (SH T, c))
    refine of_cev (Q := Q) ?_
    exact k
set_option maxRecDepth 20000 in
theorem W_X12_wasOf_16 {T : List Shp} {c : Nat → Int → Int} {Q : Res → Prop} {x1 x2 x3 x4 x5 : Int} (k : (((c 79 4) < x5 → (((0 ≤ (c 79 4) ∧ (c 79 4) < 100) ∧ (0 ≤ x1 ∧ x1 < 12)) ∧ ((x4 = (c 79 (12 + 12 * (c 79 4) + x1)) → ((-2147483648 ≤ x3 + 1 ∧ x3 + 1 < 2147483648) ∧ Q (cev 307 3 4 [vR 78, vI x1, vI (ior x2 (ishl 1 x3)), vI (x3 + 1), vU, vU] [] (SH T, c)))) ∧ (¬ x4 = (c 79 (12 + 12 * (c 79 4) + x1)) → ((-2147483648 ≤ x3 + 1 ∧ x3 + 1 < 2147483648) ∧ Q (cev 307 3 4 [vR 78, vI x1, vI (ior x2 0), vI (x3 + 1), vU, vU] [] (SH T, c))))))) ∧ (¬ (c 79 4) < x5 → (((-2147483648 ≤ 216 + x5 ∧ 216 + x5 < 2147483648) ∧ (0 ≤ (216 + x5) ∧ (216 + x5) < 5780)) ∧ (QI T (fun r1 c2 => ((-2147483648 ≤ x5 + 1 ∧ x5 + 1 < 2147483648) ∧ Q (cev 307 3 16 [vR 78, vI x1, vI x2, vI x3, vI r1, vI (x5 + 1)] [] (SH T, c2)))) (ccal 260 [vR 78, vI (c 79 (216 + x5)), vI x1, vI x5, vI x4] (SH T, c))))))) : Q (cev 307 3 16 [vR 78, vI x1, vI x2, vI x3, vI x4, vI x5] [] (SH T, c)) := by
  refine of_cev (Q := Q) ?_
  refine wq_sum (Q := Q) rfl (S_X12_years T c ) ?_
  refine wq_ite (Q := Q) (p := (c 79 4) < x5) (fun h => ?_) (fun h => ?_)
  · replace k := k.1 h
    show Q (cev 307 3 53 [vR 78, vI x1, vI x2, vI x3, vI x4, vU] [] (SH T, c))
    refine of_cev (Q := Q) ?_
    refine wq_sum (Q := Q) rfl (S_X12_seen T c x1 k.1.1 k.1.2) ?_
    replace k := k.2
    refine wq_ite (Q := Q) (p := x4 = (c 79 (12 + 12 * (c 79 4) + x1))) (fun h => ?_) (fun h => ?_)
    · replace k := k.1 h
      refine wq_pos (Q := Q) k.1 ?_
      replace k := k.2
      exact k
    · replace k := k.2 h
      show Q (cev 307 3 70 [vR 78, vI x1, vU, vI x3, vU, vU] [vI x2] (SH T, c))
      refine of_cev (Q := Q) ?_
      refine wq_pos (Q := Q) k.1 ?_
      replace k := k.2
      exact k
  · replace k := k.2 h
    refine wq_pos (Q := Q) k.1.1 ?_
    refine wq_pos (Q := Q) k.1.2 ?_
    replace k := k.2
    refine wq_callI (Q := Q) rfl k ?_
    intro r1 c2 k
    refine wq_pos (Q := Q) k.1 ?_
    replace k := k.2
    exact k
set_option maxRecDepth 20000 in
theorem W_X12_layAll {T : List Shp} {c : Nat → Int → Int} {Q : Res → Prop} (k : Q (cev 308 8 2 [vR 78, vI 1] [] (SH T, c))) : Q (ccal 308 [vR 78] (SH T, c)) := by
  refine of_cev (Q := Q) ?_
  exact k
set_option maxRecDepth 20000 in
theorem W_X12_layAll_2 {T : List Shp} {c : Nat → Int → Int} {Q : Res → Prop} {x1 : Int} (k : (((c 79 4) < x1 → Q (some (none, (SH T, c)))) ∧ (¬ (c 79 4) < x1 → (QV T (fun c1 => ((-2147483648 ≤ x1 + 1 ∧ x1 + 1 < 2147483648) ∧ Q (cev 308 8 2 [vR 78, vI (x1 + 1)] [] (SH T, c1)))) (ccal 259 [vR 78, vI x1] (SH T, c)))))) : Q (cev 308 8 2 [vR 78, vI x1] [] (SH T, c)) := by
  refine of_cev (Q := Q) ?_
  refine wq_sum (Q := Q) rfl (S_X12_years T c ) ?_
  refine wq_ite (Q := Q) (p := (c 79 4) < x1) (fun h => ?_) (fun h => ?_)
  · replace k := k.1 h
    show Q (cev 308 8 21 [vU, vU] [] (SH T, c))
    refine of_cev (Q := Q) ?_
    exact k
  · replace k := k.2 h
    refine wq_callV (Q := Q) rfl k ?_
    intro c1 k
    refine wq_pos (Q := Q) k.1 ?_
    replace k := k.2
    exact k
set_option maxRecDepth 20000 in
theorem W_X12_was {T : List Shp} {c : Nat → Int → Int} {Q : Res → Prop} {x1 : Int} (k : ((0 ≤ x1 ∧ x1 < 12 → (QV T (fun c1 => (QI T (fun r2 c3 => Q (some (some (vI r2), (SH T, c3)))) (ccal 307 [vR 78, vI x1] (SH T, c1)))) (ccal 308 [vR 78] (SH T, (up c 77 0 0))))) ∧ (¬ (0 ≤ x1 ∧ x1 < 12) → Q (some (some (vI (-1)), (SH T, (up c 77 0 0))))))) : Q (ccal 309 [vR 78, vI x1] (SH T, c)) := by
  refine of_cev (Q := Q) ?_
  refine wq_sum (Q := Q) rfl (S_X12_isCell T (up c 77 0 0) x1) ?_
  refine wq_b01 (Q := Q) (p := 0 ≤ x1 ∧ x1 < 12) (fun h => ?_) (fun h => ?_)
  · replace k := k.2 h
    exact k
  · replace k := k.1 h
    show Q (cev 309 9 14 [vR 78, vI x1] [] (SH T, (up c 77 0 0)))
    refine of_cev (Q := Q) ?_
    refine wq_callV (Q := Q) rfl k ?_
    intro c1 k
    refine wq_callI (Q := Q) rfl k ?_
    intro r2 c3 k
    exact k
set_option maxRecDepth 20000 in
theorem W_X12_ways {T : List Shp} {c : Nat → Int → Int} {Q : Res → Prop} (k : (QV T (fun c1 => Q (cev 310 9 13 [vR 78, vL 1, vU, vI 0, vU, vU, vU] [] (SH T, c1))) (ccal 308 [vR 78] (SH T, (up c 77 0 0))))) : Q (ccal 310 [vR 78] (SH T, c)) := by
  refine of_cev (Q := Q) ?_
  refine wq_callV (Q := Q) rfl k ?_
  intro c1 k
  exact k
set_option maxRecDepth 20000 in
theorem W_X12_ways_13 {T : List Shp} {c : Nat → Int → Int} {Q : Res → Prop} {x1 x3 : Int} (k : ((x3 < 12 → (QI T (fun r1 c2 => Q (cev 310 9 32 [vR 78, vL x1, vU, vI x3, vI r1, vI 0, vI 0] [] (SH T, c2))) (ccal 307 [vR 78, vI x3] (SH T, c)))) ∧ (¬ x3 < 12 → Q (some (some (vL x1), (SH T, c)))))) : Q (cev 310 9 13 [vR 78, vL x1, vU, vI x3, vU, vU, vU] [] (SH T, c)) := by
  refine of_cev (Q := Q) ?_
  refine wq_ite (Q := Q) (p := x3 < 12) (fun h => ?_) (fun h => ?_)
  · replace k := k.1 h
    refine wq_callI (Q := Q) rfl k ?_
    intro r1 c2 k
    exact k
  · replace k := k.2 h
    show Q (cev 310 9 69 [vU, vL x1, vU, vU, vU, vU, vU] [] (SH T, c))
    refine of_cev (Q := Q) ?_
    exact k
set_option maxRecDepth 20000 in
theorem W_X12_ways_32 {T : List Shp} {c : Nat → Int → Int} {Q : Res → Prop} {x1 x3 x4 x5 x6 : Int} (k : ((x6 < 10 → (((-2147483648 ≤ x5 + (iand (ishr x4 x6) 1) ∧ x5 + (iand (ishr x4 x6) 1) < 2147483648) ∧ (-2147483648 ≤ x6 + 1 ∧ x6 + 1 < 2147483648)) ∧ Q (cev 310 9 32 [vR 78, vL x1, vU, vI x3, vI x4, vI (x5 + (iand (ishr x4 x6) 1)), vI (x6 + 1)] [] (SH T, c)))) ∧ (¬ x6 < 10 → (((-9223372036854775808 ≤ x1 * x5 ∧ x1 * x5 < 9223372036854775808) ∧ (-2147483648 ≤ x3 + 1 ∧ x3 + 1 < 2147483648)) ∧ Q (cev 310 9 13 [vR 78, vL (x1 * x5), vU, vI (x3 + 1), vU, vU, vU] [] (SH T, c)))))) : Q (cev 310 9 32 [vR 78, vL x1, vU, vI x3, vI x4, vI x5, vI x6] [] (SH T, c)) := by
  refine of_cev (Q := Q) ?_
  refine wq_ite (Q := Q) (p := x6 < 10) (fun h => ?_) (fun h => ?_)
  · replace k := k.1 h
    refine wq_pos (Q := Q) k.1.1 ?_
    refine wq_pos (Q := Q) k.1.2 ?_
    replace k := k.2
    exact k
  · replace k := k.2 h
    show Q (cev 310 9 57 [vR 78, vL x1, vU, vI x3, vU, vI x5, vU] [] (SH T, c))
    refine of_cev (Q := Q) ?_
    refine wq_pos (Q := Q) k.1.1 ?_
    refine wq_pos (Q := Q) k.1.2 ?_
    replace k := k.2
    exact k
set_option maxRecDepth 20000 in
theorem W_X12_claimant {T : List Shp} {c : Nat → Int → Int} {Q : Res → Prop} {x1 x2 x3 x4 : Int} (k : ((x1 < (-1) → ((-2147483648 ≤ (c 78 1) + 1 ∧ (c 78 1) + 1 < 2147483648) ∧ Q (some (some (vI (-1)), (SH T, (up (up (up c 77 0 0) 77 1 (-1)) 78 1 ((c 78 1) + 1))))))) ∧ (¬ x1 < (-1) → ((0 ≤ x2 ∧ x2 < 100 → ((x2 < x3 → ((150 < x3 → ((-2147483648 ≤ (c 78 1) + 1 ∧ (c 78 1) + 1 < 2147483648) ∧ Q (some (some (vI (-1)), (SH T, (up (up (up c 77 0 0) 77 1 (-1)) 78 1 ((c 78 1) + 1))))))) ∧ (¬ 150 < x3 → (((-1) ≤ x4 ∧ x4 ≤ 5 → ((x1 = (-1) → Q (cev 311 3 70 [vR 78, vI x1, vI x2, vI x3, vI x4, vU, vU] [] (SH T, (up c 77 0 0)))) ∧ (¬ x1 = (-1) → ((-9223372036854775808 ≤ (c 79 6) - 1 ∧ (c 79 6) - 1 < 9223372036854775808) ∧ ((0 ≤ x1 ∧ x1 < (c 79 6) → Q (cev 311 3 70 [vR 78, vI x1, vI x2, vI x3, vI x4, vU, vU] [] (SH T, (up c 77 0 0)))) ∧ (¬ (0 ≤ x1 ∧ x1 < (c 79 6)) → ((-2147483648 ≤ (c 78 2) + 1 ∧ (c 78 2) + 1 < 2147483648) ∧ Q (some (some (vI (-2)), (SH T, (up (up (up c 77 0 0) 77 1 (-2)) 78 2 ((c 78 2) + 1)))))))))))) ∧ (¬ ((-1) ≤ x4 ∧ x4 ≤ 5) → ((-2147483648 ≤ (c 78 1) + 1 ∧ (c 78 1) + 1 < 2147483648) ∧ Q (some (some (vI (-1)), (SH T, (up (up (up c 77 0 0) 77 1 (-1)) 78 1 ((c 78 1) + 1))))))))))) ∧ (¬ x2 < x3 → ((-2147483648 ≤ (c 78 1) + 1 ∧ (c 78 1) + 1 < 2147483648) ∧ Q (some (some (vI (-1)), (SH T, (up (up (up c 77 0 0) 77 1 (-1)) 78 1 ((c 78 1) + 1))))))))) ∧ (¬ (0 ≤ x2 ∧ x2 < 100) → ((-2147483648 ≤ (c 78 1) + 1 ∧ (c 78 1) + 1 < 2147483648) ∧ Q (some (some (vI (-1)), (SH T, (up (up (up c 77 0 0) 77 1 (-1)) 78 1 ((c 78 1) + 1))))))))))) : Q (ccal 311 [vR 78, vI x1, vI x2, vI x3, vI x4] (SH T, c)) := by
  refine of_cev (Q := Q) ?_
  refine wq_ite (Q := Q) (p := x1 < (-1)) (fun h => ?_) (fun h => ?_)
  · replace k := k.1 h
    show Q (cev 311 3 44 [vR 78, vU, vU, vU, vU, vU, vU] [] (SH T, (up c 77 0 0)))
    refine of_cev (Q := Q) ?_
    refine wq_sum (Q := Q) rfl (S_X12_tell_1 T (up c 77 0 0) k.1) ?_
    replace k := k.2
    exact k
  · replace k := k.2 h
    refine wq_sum (Q := Q) rfl (S_X12_isYear T (up c 77 0 0) x2) ?_
    refine wq_b01 (Q := Q) (p := 0 ≤ x2 ∧ x2 < 100) (fun h => ?_) (fun h => ?_)
    · replace k := k.2 h
      show Q (cev 311 3 44 [vR 78, vU, vU, vU, vU, vU, vU] [] (SH T, (up c 77 0 0)))
      refine of_cev (Q := Q) ?_
      refine wq_sum (Q := Q) rfl (S_X12_tell_1 T (up c 77 0 0) k.1) ?_
      replace k := k.2
      exact k
    · replace k := k.1 h
      refine wq_ite (Q := Q) (p := x2 < x3) (fun h => ?_) (fun h => ?_)
      · replace k := k.1 h
        refine wq_ite (Q := Q) (p := 150 < x3) (fun h => ?_) (fun h => ?_)
        · replace k := k.1 h
          show Q (cev 311 3 44 [vR 78, vU, vU, vU, vU, vU, vU] [] (SH T, (up c 77 0 0)))
          refine of_cev (Q := Q) ?_
          refine wq_sum (Q := Q) rfl (S_X12_tell_1 T (up c 77 0 0) k.1) ?_
          replace k := k.2
          exact k
        · replace k := k.2 h
          refine wq_sum (Q := Q) rfl (S_X12_in T (up c 77 0 0) x4 (-1) 5) ?_
          refine wq_b01 (Q := Q) (p := (-1) ≤ x4 ∧ x4 ≤ 5) (fun h => ?_) (fun h => ?_)
          · replace k := k.2 h
            show Q (cev 311 3 44 [vR 78, vU, vU, vU, vU, vU, vU] [] (SH T, (up c 77 0 0)))
            refine of_cev (Q := Q) ?_
            refine wq_sum (Q := Q) rfl (S_X12_tell_1 T (up c 77 0 0) k.1) ?_
            replace k := k.2
            exact k
          · replace k := k.1 h
            show Q (cev 311 3 50 [vR 78, vI x1, vI x2, vI x3, vI x4, vU, vU] [] (SH T, (up c 77 0 0)))
            refine of_cev (Q := Q) ?_
            refine wq_ite (Q := Q) (p := x1 = (-1)) (fun h => ?_) (fun h => ?_)
            · replace k := k.1 h
              exact k
            · replace k := k.2 h
              refine wq_sum (Q := Q) rfl (S_X12_isClaimant T (up c 77 0 0) x1 k.1) ?_
              replace k := k.2
              refine wq_b01 (Q := Q) (p := 0 ≤ x1 ∧ x1 < (c 79 6)) (fun h => ?_) (fun h => ?_)
              · replace k := k.2 h
                refine wq_sum (Q := Q) rfl (S_X12_tell_2 T (up c 77 0 0) k.1) ?_
                replace k := k.2
                exact k
              · replace k := k.1 h
                exact k
      · replace k := k.2 h
        show Q (cev 311 3 44 [vR 78, vU, vU, vU, vU, vU, vU] [] (SH T, (up c 77 0 0)))
        refine of_cev (Q := Q) ?_
        refine wq_sum (Q := Q) rfl (S_X12_tell_1 T (up c 77 0 0) k.1) ?_
        replace k := k.2
        exact k
set_option maxRecDepth 20000 in
theorem W_X12_claimant_70 {T : List Shp} {c : Nat → Int → Int} {Q : Res → Prop} {x1 x2 x3 x4 : Int} (k : (((c 79 6) = 8 → ((-2147483648 ≤ (c 78 5) + 1 ∧ (c 78 5) + 1 < 2147483648) ∧ Q (some (some (vI (-5)), (SH T, (up (up c 77 1 (-5)) 78 5 ((c 78 5) + 1))))))) ∧ (¬ (c 79 6) = 8 → (((-2147483648 ≤ 4 * (c 79 6) ∧ 4 * (c 79 6) < 2147483648) ∧ (-2147483648 ≤ 348 + (4 * (c 79 6)) ∧ 348 + (4 * (c 79 6)) < 2147483648) ∧ (0 ≤ (348 + (4 * (c 79 6))) ∧ (348 + (4 * (c 79 6))) < 5780) ∧ (-2147483648 ≤ (348 + (4 * (c 79 6))) + 1 ∧ (348 + (4 * (c 79 6))) + 1 < 2147483648) ∧ (0 ≤ ((348 + (4 * (c 79 6))) + 1) ∧ ((348 + (4 * (c 79 6))) + 1) < 5780) ∧ (-2147483648 ≤ (348 + (4 * (c 79 6))) + 2 ∧ (348 + (4 * (c 79 6))) + 2 < 2147483648) ∧ (0 ≤ ((348 + (4 * (c 79 6))) + 2) ∧ ((348 + (4 * (c 79 6))) + 2) < 5780) ∧ (-2147483648 ≤ (348 + (4 * (c 79 6))) + 3 ∧ (348 + (4 * (c 79 6))) + 3 < 2147483648) ∧ (0 ≤ ((348 + (4 * (c 79 6))) + 3) ∧ ((348 + (4 * (c 79 6))) + 3) < 5780) ∧ (-2147483648 ≤ ((up (up (up (up c 79 (348 + (4 * (c 79 6))) x1) 79 ((348 + (4 * (c 79 6))) + 1) x2) 79 ((348 + (4 * (c 79 6))) + 2) x3) 79 ((348 + (4 * (c 79 6))) + 3) x4) 79 6) + 1 ∧ ((up (up (up (up c 79 (348 + (4 * (c 79 6))) x1) 79 ((348 + (4 * (c 79 6))) + 1) x2) 79 ((348 + (4 * (c 79 6))) + 2) x3) 79 ((348 + (4 * (c 79 6))) + 3) x4) 79 6) + 1 < 2147483648) ∧ (0 ≤ (c 79 6))) ∧ Q (some (some (vI (c 79 6)), (SH T, (up (up (up (up (up (up c 79 (348 + (4 * (c 79 6))) x1) 79 ((348 + (4 * (c 79 6))) + 1) x2) 79 ((348 + (4 * (c 79 6))) + 2) x3) 79 ((348 + (4 * (c 79 6))) + 3) x4) 79 6 (((up (up (up (up c 79 (348 + (4 * (c 79 6))) x1) 79 ((348 + (4 * (c 79 6))) + 1) x2) 79 ((348 + (4 * (c 79 6))) + 2) x3) 79 ((348 + (4 * (c 79 6))) + 3) x4) 79 6) + 1)) 77 1 0)))))))) : Q (cev 311 3 70 [vR 78, vI x1, vI x2, vI x3, vI x4, vU, vU] [] (SH T, c)) := by
  refine of_cev (Q := Q) ?_
  refine wq_ite (Q := Q) (p := (c 79 6) = 8) (fun h => ?_) (fun h => ?_)
  · replace k := k.1 h
    refine wq_sum (Q := Q) rfl (S_X12_tell_5 T c k.1) ?_
    replace k := k.2
    exact k
  · replace k := k.2 h
    show Q (cev 311 3 93 [vR 78, vI x1, vI x2, vI x3, vI x4, vI (c 79 6), vU] [] (SH T, c))
    refine of_cev (Q := Q) ?_
    refine wq_pos (Q := Q) k.1.1 ?_
    refine wq_pos (Q := Q) k.1.2.1 ?_
    refine wq_pos (Q := Q) k.1.2.2.1 ?_
    refine wq_pos (Q := Q) k.1.2.2.2.1 ?_
    refine wq_pos (Q := Q) k.1.2.2.2.2.1 ?_
    refine wq_pos (Q := Q) k.1.2.2.2.2.2.1 ?_
    refine wq_pos (Q := Q) k.1.2.2.2.2.2.2.1 ?_
    refine wq_pos (Q := Q) k.1.2.2.2.2.2.2.2.1 ?_
    refine wq_pos (Q := Q) k.1.2.2.2.2.2.2.2.2.1 ?_
    refine wq_pos (Q := Q) k.1.2.2.2.2.2.2.2.2.2.1 ?_
    refine wq_sum (Q := Q) rfl (S_X12_tell T (up (up (up (up (up c 79 (348 + (4 * (c 79 6))) x1) 79 ((348 + (4 * (c 79 6))) + 1) x2) 79 ((348 + (4 * (c 79 6))) + 2) x3) 79 ((348 + (4 * (c 79 6))) + 3) x4) 79 6 (((up (up (up (up c 79 (348 + (4 * (c 79 6))) x1) 79 ((348 + (4 * (c 79 6))) + 1) x2) 79 ((348 + (4 * (c 79 6))) + 2) x3) 79 ((348 + (4 * (c 79 6))) + 3) x4) 79 6) + 1)) (c 79 6) k.1.2.2.2.2.2.2.2.2.2.2) ?_
    replace k := k.2
    exact k

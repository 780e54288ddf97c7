set_option maxRecDepth 20000 in
theorem W_X11_stands {T : List Shp} {c : Nat → Int → Int} {Q : Res → Prop} {x1 x2 x3 : Int} (k : ((0 ≤ x1 ∧ x1 < (c 1 13) → ((0 ≤ x2 ∧ x2 < 100 → ((x3 = 0 → (((-2147483648 ≤ x1 * 4 ∧ x1 * 4 < 2147483648) ∧ (0 ≤ x1 * 4 ∧ x1 * 4 + 2 < 32)) ∧ Q (some (some (vI (b01 (c 9 (x1 * 4 + 1) ≤ x2 ∧ x2 < c 9 (x1 * 4 + 2)))), (SH T, c))))) ∧ ((x3 = 1 → (QI T (fun r1 c2 => Q (some (some (vI r1), (SH T, c2)))) (ccal 27 [vR 15, vI x1, vI x2] (SH T, c)))) ∧ ((x3 = 2 → (QI T (fun r3 c4 => (QI T (fun r5 c6 => Q (some (some (vI r5), (SH T, c6)))) (ccal 181 [vI r3] (SH T, c4)))) (ccal 28 [vR 15, vI x1, vI x2] (SH T, c)))) ∧ ((x3 = 3 → (QI T (fun r7 c8 => Q (some (some (vI r7), (SH T, c8)))) (ccal 75 [vR 2, vI x1, vI x2] (SH T, c)))) ∧ (¬ (x3 = 0 ∨ x3 = 1 ∨ x3 = 2 ∨ x3 = 3) → Q (some (some (vI (-1)), (SH T, c))))))))) ∧ (¬ (0 ≤ x2 ∧ x2 < 100) → Q (some (some (vI (-1)), (SH T, c)))))) ∧ (¬ (0 ≤ x1 ∧ x1 < (c 1 13)) → Q (some (some (vI (-1)), (SH T, c)))))) : Q (ccal 160 [vR 1, vI x1, vI x2, vI x3] (SH T, c)) := by
  refine of_cev (Q := Q) ?_
  refine wq_sum (Q := Q) rfl (S_X7_hasClaimant T c x1) ?_
  refine wq_b01 (Q := Q) (p := 0 ≤ x1 ∧ x1 < (c 1 13)) (fun h => ?_) (fun h => ?_)
  · replace k := k.2 h
    show Q (cev 160 5 20 [vU, vU, vU, vU] [] (SH T, c))
    refine of_cev (Q := Q) ?_
    exact k
  · replace k := k.1 h
    refine wq_sum (Q := Q) rfl (S_X11_inside T c x2 100) ?_
    refine wq_b01 (Q := Q) (p := 0 ≤ x2 ∧ x2 < 100) (fun h => ?_) (fun h => ?_)
    · replace k := k.2 h
      show Q (cev 160 5 20 [vU, vU, vU, vU] [] (SH T, c))
      refine of_cev (Q := Q) ?_
      exact k
    · replace k := k.1 h
      show Q (cev 160 5 22 [vR 1, vI x1, vI x2, vI x3] [] (SH T, c))
      refine of_cev (Q := Q) ?_
      refine wq_ite (Q := Q) (p := x3 = 0) (fun h0 => ?_) (fun h0 => ?_)
      · replace k := k.1 h0
        show Q (cev 160 5 52 [vR 1, vI x1, vI x2, vU] [] (SH T, c))
        refine of_cev (Q := Q) ?_
        refine wq_sum (Q := Q) rfl (S_X7_isAlive T c x1 x2 k.1.1 k.1.2) ?_
        refine wq_sum (Q := Q) rfl (S_X11_bit T c (c 9 (x1 * 4 + 1) ≤ x2 ∧ x2 < c 9 (x1 * 4 + 2))) ?_
        replace k := k.2
        exact k
      replace k := k.2
      refine wq_ite (Q := Q) (p := x3 = 1) (fun h1 => ?_) (fun h1 => ?_)
      · replace k := k.1 h1
        show Q (cev 160 5 65 [vR 1, vI x1, vI x2, vU] [] (SH T, c))
        refine of_cev (Q := Q) ?_
        refine wq_callI (Q := Q) rfl k ?_
        intro r1 c2 k
        exact k
      replace k := k.2
      refine wq_ite (Q := Q) (p := x3 = 2) (fun h2 => ?_) (fun h2 => ?_)
      · replace k := k.1 h2
        show Q (cev 160 5 75 [vR 1, vI x1, vI x2, vU] [] (SH T, c))
        refine of_cev (Q := Q) ?_
        refine wq_callI (Q := Q) rfl k ?_
        intro r3 c4 k
        refine wq_callI (Q := Q) rfl k ?_
        intro r5 c6 k
        exact k
      replace k := k.2
      refine wq_ite (Q := Q) (p := x3 = 3) (fun h3 => ?_) (fun h3 => ?_)
      · replace k := k.1 h3
        show Q (cev 160 5 88 [vR 1, vI x1, vI x2, vU] [] (SH T, c))
        refine of_cev (Q := Q) ?_
        refine wq_callI (Q := Q) rfl k ?_
        intro r7 c8 k
        exact k
      replace k := k.2
      replace k := k (fun h => by rcases h with h | h | h | h <;> first | exact h0 h | exact h1 h | exact h2 h | exact h3 h)
      show Q (cev 160 5 98 [vU, vU, vU, vU] [] (SH T, c))
      refine of_cev (Q := Q) ?_
      exact k
set_option maxRecDepth 20000 in
theorem W_X11_ruler {T : List Shp} {c : Nat → Int → Int} {Q : Res → Prop} {x1 : Int} (k : ((0 ≤ x1 ∧ x1 < 100 → (QV T (fun c1 => ((0 ≤ x1 ∧ x1 < 100) ∧ Q (some (some (vI (c1 57 x1)), (SH T, c1))))) (ccal 13 [vR 56, vI x1] (SH T, c)))) ∧ (¬ (0 ≤ x1 ∧ x1 < 100) → Q (some (some (vI (-1)), (SH T, c)))))) : Q (ccal 161 [vR 1, vI x1] (SH T, c)) := by
  refine of_cev (Q := Q) ?_
  refine wq_sum (Q := Q) rfl (S_X11_inside T c x1 100) ?_
  refine wq_b01 (Q := Q) (p := 0 ≤ x1 ∧ x1 < 100) (fun h => ?_) (fun h => ?_)
  · replace k := k.2 h
    exact k
  · replace k := k.1 h
    show Q (cev 161 7 11 [vR 1, vI x1] [] (SH T, c))
    refine of_cev (Q := Q) ?_
    refine wq_callV (Q := Q) rfl k ?_
    intro c1 k
    refine wq_pos (Q := Q) k.1 ?_
    replace k := k.2
    exact k
set_option maxRecDepth 20000 in
theorem W_X11_reign {T : List Shp} {c : Nat → Int → Int} {Q : Res → Prop} {x1 x2 : Int} (k : ((x1 < (-1) → Q (some (some (vI (-1)), (SH T, c)))) ∧ (¬ x1 < (-1) → ((x1 = (-1) → Q (cev 162 7 20 [vR 1, vI x1, vI x2] [] (SH T, c))) ∧ (¬ x1 = (-1) → ((0 ≤ x2 ∧ x2 < 3 → Q (cev 162 7 20 [vR 1, vI x1, vI x2] [] (SH T, c))) ∧ (¬ (0 ≤ x2 ∧ x2 < 3) → Q (some (some (vI (-1)), (SH T, c)))))))))) : Q (ccal 162 [vR 1, vI x1, vI x2] (SH T, c)) := by
  refine of_cev (Q := Q) ?_
  refine wq_ite (Q := Q) (p := x1 < (-1)) (fun h => ?_) (fun h => ?_)
  · replace k := k.1 h
    show Q (cev 162 7 18 [vU, vU, vU] [] (SH T, c))
    refine of_cev (Q := Q) ?_
    exact k
  · replace k := k.2 h
    refine wq_ite (Q := Q) (p := x1 = (-1)) (fun h => ?_) (fun h => ?_)
    · replace k := k.1 h
      exact k
    · replace k := k.2 h
      refine wq_sum (Q := Q) rfl (S_X11_inside T c x2 3) ?_
      refine wq_b01 (Q := Q) (p := 0 ≤ x2 ∧ x2 < 3) (fun h => ?_) (fun h => ?_)
      · replace k := k.2 h
        show Q (cev 162 7 18 [vU, vU, vU] [] (SH T, c))
        refine of_cev (Q := Q) ?_
        exact k
      · replace k := k.1 h
        exact k
set_option maxRecDepth 20000 in
theorem W_X11_reign_20 {T : List Shp} {c : Nat → Int → Int} {Q : Res → Prop} {x1 x2 : Int} (k : (QV T (fun c1 => ((x1 = (-1) → (QI T (fun r2 c3 => Q (some (some (vI r2), (SH T, c3)))) (ccal 14 [vR 56] (SH T, c1)))) ∧ (¬ x1 = (-1) → (QI T (fun r4 c5 => Q (some (some (vI r4), (SH T, c5)))) (ccal 15 [vR 56, vI x1, vI x2] (SH T, c1)))))) (ccal 13 [vR 56, vI 99] (SH T, c)))) : Q (cev 162 7 20 [vR 1, vI x1, vI x2] [] (SH T, c)) := by
  refine of_cev (Q := Q) ?_
  refine wq_callV (Q := Q) rfl k ?_
  intro c1 k
  refine wq_ite (Q := Q) (p := x1 = (-1)) (fun h => ?_) (fun h => ?_)
  · replace k := k.1 h
    refine wq_callI (Q := Q) rfl k ?_
    intro r2 c3 k
    exact k
  · replace k := k.2 h
    show Q (cev 162 7 44 [vR 1, vI x1, vI x2] [] (SH T, c1))
    refine of_cev (Q := Q) ?_
    refine wq_callI (Q := Q) rfl k ?_
    intro r4 c5 k
    exact k
set_option maxRecDepth 20000 in
theorem W_X11_vacant {T : List Shp} {c : Nat → Int → Int} {Q : Res → Prop} (k : (QV T (fun c1 => Q (cev 163 7 13 [vR 1, vI 0, vI 0] [] (SH T, c1))) (ccal 13 [vR 56, vI 99] (SH T, c)))) : Q (ccal 163 [vR 1] (SH T, c)) := by
  refine of_cev (Q := Q) ?_
  refine wq_callV (Q := Q) rfl k ?_
  intro c1 k
  exact k
set_option maxRecDepth 20000 in
theorem W_X11_vacant_13 {T : List Shp} {c : Nat → Int → Int} {Q : Res → Prop} {x1 x2 : Int} (k : ((x2 < 100 → ((0 ≤ x2 ∧ x2 < 100) ∧ (((c 57 x2) = (-1) → (((-2147483648 ≤ x1 + 1 ∧ x1 + 1 < 2147483648) ∧ (-2147483648 ≤ x2 + 1 ∧ x2 + 1 < 2147483648)) ∧ Q (cev 163 7 13 [vR 1, vI (x1 + 1), vI (x2 + 1)] [] (SH T, c)))) ∧ (¬ (c 57 x2) = (-1) → ((-2147483648 ≤ x2 + 1 ∧ x2 + 1 < 2147483648) ∧ Q (cev 163 7 13 [vR 1, vI x1, vI (x2 + 1)] [] (SH T, c))))))) ∧ (¬ x2 < 100 → Q (some (some (vI x1), (SH T, c)))))) : Q (cev 163 7 13 [vR 1, vI x1, vI x2] [] (SH T, c)) := by
  refine of_cev (Q := Q) ?_
  refine wq_ite (Q := Q) (p := x2 < 100) (fun h => ?_) (fun h => ?_)
  · replace k := k.1 h
    refine wq_pos (Q := Q) k.1 ?_
    replace k := k.2
    refine wq_ite (Q := Q) (p := (c 57 x2) = (-1)) (fun h => ?_) (fun h => ?_)
    · replace k := k.1 h
      refine wq_pos (Q := Q) k.1.1 ?_
      show Q (cev 163 7 35 [vR 1, vI (x1 + 1), vI x2] [] (SH T, c))
      refine of_cev (Q := Q) ?_
      refine wq_pos (Q := Q) k.1.2 ?_
      replace k := k.2
      exact k
    · replace k := k.2 h
      show Q (cev 163 7 35 [vR 1, vI x1, vI x2] [] (SH T, c))
      refine of_cev (Q := Q) ?_
      refine wq_pos (Q := Q) k.1 ?_
      replace k := k.2
      exact k
  · replace k := k.2 h
    show Q (cev 163 7 41 [vU, vI x1, vU] [] (SH T, c))
    refine of_cev (Q := Q) ?_
    exact k
set_option maxRecDepth 20000 in
theorem W_X11_line {T : List Shp} {c : Nat → Int → Int} {Q : Res → Prop} {x1 x2 : Int} (k : ((0 ≤ x1 ∧ x1 < 100 → ((x2 < (-1) → Q (some (some (vI (-1)), (SH T, c)))) ∧ (¬ x2 < (-1) → (QV T (fun c1 => ((x2 = (-1) → Q (some (some (vI (c1 55 5)), (SH T, c1)))) ∧ (¬ x2 = (-1) → ((x2 < (c1 55 5) → ((0 ≤ x2 ∧ x2 < 8) ∧ Q (some (some (vI (c1 58 x2)), (SH T, c1))))) ∧ (¬ x2 < (c1 55 5) → Q (some (some (vI (-1)), (SH T, c1)))))))) (ccal 16 [vR 56, vI x1] (SH T, c)))))) ∧ (¬ (0 ≤ x1 ∧ x1 < 100) → Q (some (some (vI (-1)), (SH T, c)))))) : Q (ccal 164 [vR 1, vI x1, vI x2] (SH T, c)) := by
  refine of_cev (Q := Q) ?_
  refine wq_sum (Q := Q) rfl (S_X11_inside T c x1 100) ?_
  refine wq_b01 (Q := Q) (p := 0 ≤ x1 ∧ x1 < 100) (fun h => ?_) (fun h => ?_)
  · replace k := k.2 h
    show Q (cev 164 6 14 [vU, vU, vU] [] (SH T, c))
    refine of_cev (Q := Q) ?_
    exact k
  · replace k := k.1 h
    refine wq_ite (Q := Q) (p := x2 < (-1)) (fun h => ?_) (fun h => ?_)
    · replace k := k.1 h
      show Q (cev 164 6 14 [vU, vU, vU] [] (SH T, c))
      refine of_cev (Q := Q) ?_
      exact k
    · replace k := k.2 h
      show Q (cev 164 6 16 [vR 1, vI x1, vI x2] [] (SH T, c))
      refine of_cev (Q := Q) ?_
      refine wq_callV (Q := Q) rfl k ?_
      intro c1 k
      refine wq_ite (Q := Q) (p := x2 = (-1)) (fun h => ?_) (fun h => ?_)
      · replace k := k.1 h
        exact k
      · replace k := k.2 h
        show Q (cev 164 6 37 [vR 1, vU, vI x2] [] (SH T, c1))
        refine of_cev (Q := Q) ?_
        refine wq_ite (Q := Q) (p := x2 < (c1 55 5)) (fun h => ?_) (fun h => ?_)
        · replace k := k.1 h
          refine wq_pos (Q := Q) k.1 ?_
          replace k := k.2
          exact k
        · replace k := k.2 h
          show Q (cev 164 6 60 [vU, vU, vU] [] (SH T, c1))
          refine of_cev (Q := Q) ?_
          exact k
set_option maxRecDepth 20000 in
theorem W_X11_century {T : List Shp} {c : Nat → Int → Int} {Q : Res → Prop} {x1 x2 : Int} (k : ((x1 < 0 → ((-2147483648 ≤ (c 76 0) + 1 ∧ (c 76 0) + 1 < 2147483648) ∧ Q (some (some (vI (-1)), (SH T, (up (up c 0 17 (-1)) 76 0 ((c 76 0) + 1))))))) ∧ (¬ x1 < 0 → ((1000000 < x1 → ((-2147483648 ≤ (c 76 0) + 1 ∧ (c 76 0) + 1 < 2147483648) ∧ Q (some (some (vI (-1)), (SH T, (up (up c 0 17 (-1)) 76 0 ((c 76 0) + 1))))))) ∧ (¬ 1000000 < x1 → ((0 ≤ x2 ∧ x2 < 41 → ((-2147483648 ≤ (c 1 8) + x2 ∧ (c 1 8) + x2 < 2147483648) ∧ ((((c 1 8) + x2) < 100 → (QV T (fun c1 => Q (some (some (vI (c1 73 6)), (SH T, (up c1 0 17 0))))) (ccal 1 [vR 74, vI x1, vI x2] (SH T, c)))) ∧ (¬ ((c 1 8) + x2) < 100 → ((-2147483648 ≤ (c 76 0) + 1 ∧ (c 76 0) + 1 < 2147483648) ∧ Q (some (some (vI (-1)), (SH T, (up (up c 0 17 (-1)) 76 0 ((c 76 0) + 1)))))))))) ∧ (¬ (0 ≤ x2 ∧ x2 < 41) → ((-2147483648 ≤ (c 76 0) + 1 ∧ (c 76 0) + 1 < 2147483648) ∧ Q (some (some (vI (-1)), (SH T, (up (up c 0 17 (-1)) 76 0 ((c 76 0) + 1))))))))))))) : Q (ccal 165 [vR 1, vI x1, vI x2] (SH T, c)) := by
  refine of_cev (Q := Q) ?_
  refine wq_ite (Q := Q) (p := x1 < 0) (fun h => ?_) (fun h => ?_)
  · replace k := k.1 h
    show Q (cev 165 7 34 [vR 1, vU, vU] [] (SH T, c))
    refine of_cev (Q := Q) ?_
    refine wq_sum (Q := Q) rfl (S_X11_refuse_1 T c k.1) ?_
    replace k := k.2
    exact k
  · replace k := k.2 h
    refine wq_ite (Q := Q) (p := 1000000 < x1) (fun h => ?_) (fun h => ?_)
    · replace k := k.1 h
      show Q (cev 165 7 34 [vR 1, vU, vU] [] (SH T, c))
      refine of_cev (Q := Q) ?_
      refine wq_sum (Q := Q) rfl (S_X11_refuse_1 T c k.1) ?_
      replace k := k.2
      exact k
    · replace k := k.2 h
      refine wq_sum (Q := Q) rfl (S_X11_inside T c x2 41) ?_
      refine wq_b01 (Q := Q) (p := 0 ≤ x2 ∧ x2 < 41) (fun h => ?_) (fun h => ?_)
      · replace k := k.2 h
        show Q (cev 165 7 34 [vR 1, vU, vU] [] (SH T, c))
        refine of_cev (Q := Q) ?_
        refine wq_sum (Q := Q) rfl (S_X11_refuse_1 T c k.1) ?_
        replace k := k.2
        exact k
      · replace k := k.1 h
        refine wq_pos (Q := Q) k.1 ?_
        replace k := k.2
        refine wq_ite (Q := Q) (p := ((c 1 8) + x2) < 100) (fun h => ?_) (fun h => ?_)
        · replace k := k.1 h
          show Q (cev 165 7 40 [vR 1, vI x1, vI x2] [] (SH T, c))
          refine of_cev (Q := Q) ?_
          refine wq_callV (Q := Q) rfl k ?_
          intro c1 k
          refine wq_sum (Q := Q) rfl (S_X11_answer T c1 (c1 73 6)) ?_
          exact k
        · replace k := k.2 h
          show Q (cev 165 7 34 [vR 1, vU, vU] [] (SH T, c))
          refine of_cev (Q := Q) ?_
          refine wq_sum (Q := Q) rfl (S_X11_refuse_1 T c k.1) ?_
          replace k := k.2
          exact k
set_option maxRecDepth 20000 in
theorem W_X11_drawn {T : List Shp} {c : Nat → Int → Int} {Q : Res → Prop} {x1 : Int} (k : (((c 73 7) = 0 → Q (some (some (vI (-1)), (SH T, c)))) ∧ (¬ (c 73 7) = 0 → ((0 ≤ x1 ∧ x1 < 12 → ((0 ≤ x1 ∧ x1 < 12) ∧ Q (some (some (vI (c 75 x1)), (SH T, c))))) ∧ (¬ (0 ≤ x1 ∧ x1 < 12) → ((x1 < 100 → Q (some (some (vI (-1)), (SH T, c)))) ∧ (¬ x1 < 100 → ((-2147483648 ≤ x1 - 100 ∧ x1 - 100 < 2147483648) ∧ (QI T (fun r1 c2 => Q (some (some (vI r1), (SH T, c2)))) (ccal 2 [vR 74, vI (x1 - 100)] (SH T, c))))))))))) : Q (ccal 166 [vR 1, vI x1] (SH T, c)) := by
  refine of_cev (Q := Q) ?_
  refine wq_ite (Q := Q) (p := (c 73 7) = 0) (fun h => ?_) (fun h => ?_)
  · replace k := k.1 h
    exact k
  · replace k := k.2 h
    show Q (cev 166 3 12 [vR 1, vI x1] [] (SH T, c))
    refine of_cev (Q := Q) ?_
    refine wq_sum (Q := Q) rfl (S_X11_isCell T c x1) ?_
    refine wq_b01 (Q := Q) (p := 0 ≤ x1 ∧ x1 < 12) (fun h => ?_) (fun h => ?_)
    · replace k := k.2 h
      show Q (cev 166 3 29 [vR 1, vI x1] [] (SH T, c))
      refine of_cev (Q := Q) ?_
      refine wq_ite (Q := Q) (p := x1 < 100) (fun h => ?_) (fun h => ?_)
      · replace k := k.1 h
        show Q (cev 166 3 49 [vU, vU] [] (SH T, c))
        refine of_cev (Q := Q) ?_
        exact k
      · replace k := k.2 h
        refine wq_pos (Q := Q) k.1 ?_
        replace k := k.2
        refine wq_callI (Q := Q) rfl k ?_
        intro r1 c2 k
        exact k
    · replace k := k.1 h
      refine wq_pos (Q := Q) k.1 ?_
      replace k := k.2
      exact k
set_option maxRecDepth 20000 in
theorem W_X11_image {T : List Shp} {c : Nat → Int → Int} {Q : Res → Prop} {x1 : Int} {p1 : Nat} {n2 : Int} {f3 : List Int} (k : ((0 ≤ x1 ∧ x1 < 2 → (((0 ≤ x1 ∧ x1 < 2) ∧ (drf (SH T) (c 29 x1) = some (p1, (17, n2, f3)))) ∧ (QV T (fun c4 => Q (some (some (vI 0), (SH T, (up (up c4 0 2 (ior (c4 0 2) (ishl 1 x1))) 0 17 0))))) (ccal 65 [vR (c 29 x1), vR 2] (SH T, c))))) ∧ (¬ (0 ≤ x1 ∧ x1 < 2) → ((-2147483648 ≤ (c 76 0) + 1 ∧ (c 76 0) + 1 < 2147483648) ∧ Q (some (some (vI (-1)), (SH T, (up (up c 0 17 (-1)) 76 0 ((c 76 0) + 1))))))))) : Q (ccal 167 [vR 1, vI x1] (SH T, c)) := by
  refine of_cev (Q := Q) ?_
  refine wq_sum (Q := Q) rfl (S_X11_inside T c x1 2) ?_
  refine wq_b01 (Q := Q) (p := 0 ≤ x1 ∧ x1 < 2) (fun h => ?_) (fun h => ?_)
  · replace k := k.2 h
    refine wq_sum (Q := Q) rfl (S_X11_refuse_1 T c k.1) ?_
    replace k := k.2
    exact k
  · replace k := k.1 h
    show Q (cev 167 3 14 [vR 1, vI x1] [] (SH T, c))
    refine of_cev (Q := Q) ?_
    refine wq_pos (Q := Q) k.1.1 ?_
    refine wq_el (Q := Q) k.1.2 ?_
    replace k := k.2
    refine wq_callV (Q := Q) rfl k ?_
    intro c4 k
    refine wq_sum (Q := Q) rfl (S_X11_answer T (up c4 0 2 (ior (c4 0 2) (ishl 1 x1))) 0) ?_
    exact k
set_option maxRecDepth 20000 in
theorem W_X11_back {T : List Shp} {c : Nat → Int → Int} {Q : Res → Prop} {x1 : Int} (k : ((0 ≤ x1 ∧ x1 < 2 → (((iand (ishr (c 0 2) x1) 1) = 0 → ((-2147483648 ≤ (c 76 1) + 1 ∧ (c 76 1) + 1 < 2147483648) ∧ Q (some (some (vI (-2)), (SH T, (up (up c 0 17 (-2)) 76 1 ((c 76 1) + 1))))))) ∧ (¬ (iand (ishr (c 0 2) x1) 1) = 0 → ((0 ≤ x1 ∧ x1 < 2) ∧ (QV T (fun c1 => Q (some (some (vI 0), (SH T, (up c1 0 17 0))))) (ccal 65 [vR 2, vR (c 29 x1)] (SH T, c))))))) ∧ (¬ (0 ≤ x1 ∧ x1 < 2) → ((-2147483648 ≤ (c 76 0) + 1 ∧ (c 76 0) + 1 < 2147483648) ∧ Q (some (some (vI (-1)), (SH T, (up (up c 0 17 (-1)) 76 0 ((c 76 0) + 1))))))))) : Q (ccal 168 [vR 1, vI x1] (SH T, c)) := by
  refine of_cev (Q := Q) ?_
  refine wq_sum (Q := Q) rfl (S_X11_inside T c x1 2) ?_
  refine wq_b01 (Q := Q) (p := 0 ≤ x1 ∧ x1 < 2) (fun h => ?_) (fun h => ?_)
  · replace k := k.2 h
    refine wq_sum (Q := Q) rfl (S_X11_refuse_1 T c k.1) ?_
    replace k := k.2
    exact k
  · replace k := k.1 h
    show Q (cev 168 3 14 [vR 1, vI x1] [] (SH T, c))
    refine of_cev (Q := Q) ?_
    refine wq_ite (Q := Q) (p := (iand (ishr (c 0 2) x1) 1) = 0) (fun h => ?_) (fun h => ?_)
    · replace k := k.1 h
      refine wq_sum (Q := Q) rfl (S_X11_refuse_2 T c k.1) ?_
      replace k := k.2
      exact k
    · replace k := k.2 h
      show Q (cev 168 3 32 [vR 1, vI x1] [] (SH T, c))
      refine of_cev (Q := Q) ?_
      refine wq_pos (Q := Q) k.1 ?_
      replace k := k.2
      refine wq_callV (Q := Q) rfl k ?_
      intro c1 k
      refine wq_sum (Q := Q) rfl (S_X11_answer T c1 0) ?_
      exact k
set_option maxRecDepth 20000 in
theorem W_X11_count {T : List Shp} {c : Nat → Int → Int} {Q : Res → Prop} {x1 : Int} (k : ((x1 < 7 → Q (cev 169 1 22 [vR 1, vI x1] [] (SH T, c))) ∧ (¬ x1 < 7 → ((11 < x1 → Q (cev 169 1 22 [vR 1, vI x1] [] (SH T, c))) ∧ (¬ 11 < x1 → (((-2147483648 ≤ x1 - 7 ∧ x1 - 7 < 2147483648) ∧ (0 ≤ (x1 - 7) ∧ (x1 - 7) < 5)) ∧ Q (some (some (vI (c 76 (x1 - 7))), (SH T, c))))))))) : Q (ccal 169 [vR 1, vI x1] (SH T, c)) := by
  refine of_cev (Q := Q) ?_
  refine wq_ite (Q := Q) (p := x1 < 7) (fun h => ?_) (fun h => ?_)
  · replace k := k.1 h
    exact k
  · replace k := k.2 h
    refine wq_ite (Q := Q) (p := 11 < x1) (fun h => ?_) (fun h => ?_)
    · replace k := k.1 h
      exact k
    · replace k := k.2 h
      refine wq_pos (Q := Q) k.1.1 ?_
      refine wq_pos (Q := Q) k.1.2 ?_
      replace k := k.2
      exact k
set_option maxRecDepth 20000 in
theorem W_X11_count_22 {T : List Shp} {c : Nat → Int → Int} {Q : Res → Prop} {x1 : Int} (k : ((x1 < 13 → Q (cev 169 1 47 [vR 1, vI x1] [] (SH T, c))) ∧ (¬ x1 < 13 → ((17 < x1 → Q (cev 169 1 47 [vR 1, vI x1] [] (SH T, c))) ∧ (¬ 17 < x1 → (((-2147483648 ≤ x1 - 13 ∧ x1 - 13 < 2147483648) ∧ (0 ≤ (x1 - 13) ∧ (x1 - 13) < 5)) ∧ Q (some (some (vI (c 4 (x1 - 13))), (SH T, c))))))))) : Q (cev 169 1 22 [vR 1, vI x1] [] (SH T, c)) := by
  refine of_cev (Q := Q) ?_
  refine wq_ite (Q := Q) (p := x1 < 13) (fun h => ?_) (fun h => ?_)
  · replace k := k.1 h
    exact k
  · replace k := k.2 h
    refine wq_ite (Q := Q) (p := 17 < x1) (fun h => ?_) (fun h => ?_)
    · replace k := k.1 h
      exact k
    · replace k := k.2 h
      refine wq_pos (Q := Q) k.1.1 ?_
      refine wq_pos (Q := Q) k.1.2 ?_
      replace k := k.2
      exact k
set_option maxRecDepth 20000 in
theorem W_X11_count_47 {T : List Shp} {c : Nat → Int → Int} {Q : Res → Prop} {x1 : Int} (k : ((x1 = 0 → Q (some (some (vI (c 1 0)), (SH T, c)))) ∧ ((x1 = 1 → Q (some (some (vI (c 1 5)), (SH T, c)))) ∧ ((x1 = 2 → Q (some (some (vI (c 1 2)), (SH T, c)))) ∧ ((x1 = 3 → Q (some (some (vI (c 1 8)), (SH T, c)))) ∧ ((x1 = 4 → Q (some (some (vI (c 1 11)), (SH T, c)))) ∧ ((x1 = 5 → Q (some (some (vI (c 1 13)), (SH T, c)))) ∧ ((x1 = 6 → Q (some (some (vI (c 0 4)), (SH T, c)))) ∧ ((x1 = 7 → Q (some (some (vI (-1)), (SH T, c)))) ∧ ((x1 = 8 → Q (some (some (vI (-1)), (SH T, c)))) ∧ ((x1 = 9 → Q (some (some (vI (-1)), (SH T, c)))) ∧ ((x1 = 10 → Q (some (some (vI (-1)), (SH T, c)))) ∧ ((x1 = 11 → Q (some (some (vI (-1)), (SH T, c)))) ∧ ((x1 = 12 → Q (some (some (vI (c 1 7)), (SH T, c)))) ∧ (¬ (x1 = 0 ∨ x1 = 1 ∨ x1 = 2 ∨ x1 = 3 ∨ x1 = 4 ∨ x1 = 5 ∨ x1 = 6 ∨ x1 = 7 ∨ x1 = 8 ∨ x1 = 9 ∨ x1 = 10 ∨ x1 = 11 ∨ x1 = 12) → Q (some (some (vI (-1)), (SH T, c)))))))))))))))))) : Q (cev 169 1 47 [vR 1, vI x1] [] (SH T, c)) := by
  refine of_cev (Q := Q) ?_
  refine wq_ite (Q := Q) (p := x1 = 0) (fun h0 => ?_) (fun h0 => ?_)
  · replace k := k.1 h0
    show Q (cev 169 1 116 [vR 1, vU] [] (SH T, c))
    refine of_cev (Q := Q) ?_
    exact k
  replace k := k.2
  refine wq_ite (Q := Q) (p := x1 = 1) (fun h1 => ?_) (fun h1 => ?_)
  · replace k := k.1 h1
    show Q (cev 169 1 124 [vR 1, vU] [] (SH T, c))
    refine of_cev (Q := Q) ?_
    exact k
  replace k := k.2
  refine wq_ite (Q := Q) (p := x1 = 2) (fun h2 => ?_) (fun h2 => ?_)
  · replace k := k.1 h2
    show Q (cev 169 1 132 [vR 1, vU] [] (SH T, c))
    refine of_cev (Q := Q) ?_
    exact k
  replace k := k.2
  refine wq_ite (Q := Q) (p := x1 = 3) (fun h3 => ?_) (fun h3 => ?_)
  · replace k := k.1 h3
    show Q (cev 169 1 140 [vR 1, vU] [] (SH T, c))
    refine of_cev (Q := Q) ?_
    exact k
  replace k := k.2
  refine wq_ite (Q := Q) (p := x1 = 4) (fun h4 => ?_) (fun h4 => ?_)
  · replace k := k.1 h4
    show Q (cev 169 1 148 [vR 1, vU] [] (SH T, c))
    refine of_cev (Q := Q) ?_
    exact k
  replace k := k.2
  refine wq_ite (Q := Q) (p := x1 = 5) (fun h5 => ?_) (fun h5 => ?_)
  · replace k := k.1 h5
    show Q (cev 169 1 156 [vR 1, vU] [] (SH T, c))
    refine of_cev (Q := Q) ?_
    exact k
  replace k := k.2
  refine wq_ite (Q := Q) (p := x1 = 6) (fun h6 => ?_) (fun h6 => ?_)
  · replace k := k.1 h6
    show Q (cev 169 1 164 [vR 1, vU] [] (SH T, c))
    refine of_cev (Q := Q) ?_
    exact k
  replace k := k.2
  refine wq_ite (Q := Q) (p := x1 = 7) (fun h7 => ?_) (fun h7 => ?_)
  · replace k := k.1 h7
    show Q (cev 169 1 177 [vU, vU] [] (SH T, c))
    refine of_cev (Q := Q) ?_
    exact k
  replace k := k.2
  refine wq_ite (Q := Q) (p := x1 = 8) (fun h8 => ?_) (fun h8 => ?_)
  · replace k := k.1 h8
    show Q (cev 169 1 177 [vU, vU] [] (SH T, c))
    refine of_cev (Q := Q) ?_
    exact k
  replace k := k.2
  refine wq_ite (Q := Q) (p := x1 = 9) (fun h9 => ?_) (fun h9 => ?_)
  · replace k := k.1 h9
    show Q (cev 169 1 177 [vU, vU] [] (SH T, c))
    refine of_cev (Q := Q) ?_
    exact k
  replace k := k.2
  refine wq_ite (Q := Q) (p := x1 = 10) (fun h10 => ?_) (fun h10 => ?_)
  · replace k := k.1 h10
    show Q (cev 169 1 177 [vU, vU] [] (SH T, c))
    refine of_cev (Q := Q) ?_
    exact k
  replace k := k.2
  refine wq_ite (Q := Q) (p := x1 = 11) (fun h11 => ?_) (fun h11 => ?_)
  · replace k := k.1 h11
    show Q (cev 169 1 177 [vU, vU] [] (SH T, c))
    refine of_cev (Q := Q) ?_
    exact k
  replace k := k.2
  refine wq_ite (Q := Q) (p := x1 = 12) (fun h12 => ?_) (fun h12 => ?_)
  · replace k := k.1 h12
    show Q (cev 169 1 169 [vR 1, vU] [] (SH T, c))
    refine of_cev (Q := Q) ?_
    exact k
  replace k := k.2
  replace k := k (fun h => by rcases h with h | h | h | h | h | h | h | h | h | h | h | h | h <;> first | exact h0 h | exact h1 h | exact h2 h | exact h3 h | exact h4 h | exact h5 h | exact h6 h | exact h7 h | exact h8 h | exact h9 h | exact h10 h | exact h11 h | exact h12 h)
  show Q (cev 169 1 177 [vU, vU] [] (SH T, c))
  refine of_cev (Q := Q) ?_
  exact k
set_option maxRecDepth 20000 in
theorem W_X11_status {T : List Shp} {c : Nat → Int → Int} {Q : Res → Prop} (k : Q (some (some (vI (c 0 17)), (SH T, c)))) : Q (ccal 170 [vR 1] (SH T, c)) := by
  refine of_cev (Q := Q) ?_
  exact k
set_option maxRecDepth 20000 in
theorem W_X11_putBytes {T : List Shp} {c : Nat → Int → Int} {Q : Res → Prop} {x1 : Int} (k : Q (cev 173 1 3 [vR 1, vI x1, vI 24] [] (SH T, c))) : Q (ccal 173 [vR 1, vI x1] (SH T, c)) := by
  refine of_cev (Q := Q) ?_
  exact k
set_option maxRecDepth 20000 in
theorem W_X11_putBytes_3 {T : List Shp} {c : Nat → Int → Int} {Q : Res → Prop} {x1 x2 : Int} (k : ((x2 < 0 → Q (some (none, (SH T, c)))) ∧ (¬ x2 < 0 → (((c 0 4) < 400 → (((0 ≤ (c 0 4) ∧ (c 0 4) < 400) ∧ (-2147483648 ≤ (c 0 4) + 1 ∧ (c 0 4) + 1 < 2147483648) ∧ (-2147483648 ≤ x2 + (-8) ∧ x2 + (-8) < 2147483648)) ∧ Q (cev 173 1 3 [vR 1, vI x1, vI (x2 + (-8))] [] (SH T, (up (up c 10 (c 0 4) (iand (ishr x1 x2) 255)) 0 4 ((c 0 4) + 1)))))) ∧ (¬ (c 0 4) < 400 → Q (some (none, (SH T, c)))))))) : Q (cev 173 1 3 [vR 1, vI x1, vI x2] [] (SH T, c)) := by
  refine of_cev (Q := Q) ?_
  refine wq_ite (Q := Q) (p := x2 < 0) (fun h => ?_) (fun h => ?_)
  · replace k := k.1 h
    show Q (cev 173 1 49 [vU, vU, vU] [] (SH T, c))
    refine of_cev (Q := Q) ?_
    exact k
  · replace k := k.2 h
    refine wq_ite (Q := Q) (p := (c 0 4) < 400) (fun h => ?_) (fun h => ?_)
    · replace k := k.1 h
      refine wq_pos (Q := Q) k.1.1 ?_
      refine wq_pos (Q := Q) k.1.2.1 ?_
      refine wq_pos (Q := Q) k.1.2.2 ?_
      replace k := k.2
      exact k
    · replace k := k.2 h
      show Q (cev 173 1 49 [vU, vU, vU] [] (SH T, c))
      refine of_cev (Q := Q) ?_
      exact k
set_option maxRecDepth 20000 in
theorem W_X11_heirs {T : List Shp} {c : Nat → Int → Int} {Q : Res → Prop} (k : Q (cev 174 2 7 [vR 1, vI 13, vI 0, vI 0, vU] [] (SH T, c))) : Q (ccal 174 [vR 1] (SH T, c)) := by
  refine of_cev (Q := Q) ?_
  exact k
set_option maxRecDepth 20000 in
theorem W_X11_heirs_7 {T : List Shp} {c : Nat → Int → Int} {Q : Res → Prop} {x1 x2 x3 : Int} (k : ((x3 < (c 1 11) → (QI T (fun r1 c2 => ((r1 < x1 → Q (cev 174 2 39 [vR 1, vI r1, vI 0, vI x3, vI r1] [] (SH T, c2))) ∧ (¬ r1 < x1 → Q (cev 174 2 39 [vR 1, vI x1, vI x2, vI x3, vI r1] [] (SH T, c2))))) (ccal 73 [vR 2, vI x3] (SH T, c)))) ∧ (¬ x3 < (c 1 11) → Q (some (some (vI x2), (SH T, c)))))) : Q (cev 174 2 7 [vR 1, vI x1, vI x2, vI x3, vU] [] (SH T, c)) := by
  refine of_cev (Q := Q) ?_
  refine wq_ite (Q := Q) (p := x3 < (c 1 11)) (fun h => ?_) (fun h => ?_)
  · replace k := k.1 h
    refine wq_callI (Q := Q) rfl k ?_
    intro r1 c2 k
    refine wq_ite (Q := Q) (p := r1 < x1) (fun h => ?_) (fun h => ?_)
    · replace k := k.1 h
      exact k
    · replace k := k.2 h
      exact k
  · replace k := k.2 h
    show Q (cev 174 2 57 [vU, vU, vI x2, vU, vU] [] (SH T, c))
    refine of_cev (Q := Q) ?_
    exact k
set_option maxRecDepth 20000 in
theorem W_X11_heirs_39 {T : List Shp} {c : Nat → Int → Int} {Q : Res → Prop} {x1 x2 x3 x4 : Int} (k : ((x4 = x1 → ((-2147483648 ≤ x3 + 1 ∧ x3 + 1 < 2147483648) ∧ Q (cev 174 2 7 [vR 1, vI x1, vI (ior x2 (ishl 1 x3)), vI (x3 + 1), vU] [] (SH T, c)))) ∧ (¬ x4 = x1 → ((-2147483648 ≤ x3 + 1 ∧ x3 + 1 < 2147483648) ∧ Q (cev 174 2 7 [vR 1, vI x1, vI x2, vI (x3 + 1), vU] [] (SH T, c)))))) : Q (cev 174 2 39 [vR 1, vI x1, vI x2, vI x3, vI x4] [] (SH T, c)) := by
  refine of_cev (Q := Q) ?_
  refine wq_ite (Q := Q) (p := x4 = x1) (fun h => ?_) (fun h => ?_)
  · replace k := k.1 h
    show Q (cev 174 2 51 [vR 1, vI x1, vI (ior x2 (ishl 1 x3)), vI x3, vU] [] (SH T, c))
    refine of_cev (Q := Q) ?_
    refine wq_pos (Q := Q) k.1 ?_
    replace k := k.2
    exact k
  · replace k := k.2 h
    show Q (cev 174 2 51 [vR 1, vI x1, vI x2, vI x3, vU] [] (SH T, c))
    refine of_cev (Q := Q) ?_
    refine wq_pos (Q := Q) k.1 ?_
    replace k := k.2
    exact k
set_option maxRecDepth 20000 in
theorem W_X11_highestTerm {T : List Shp} {c : Nat → Int → Int} {Q : Res → Prop} {x0 : Int} (k : ((x0 = 0 → Q (some (some (vI 99), (SH T, c)))) ∧ ((x0 = 1 → Q (some (some (vI 5), (SH T, c)))) ∧ ((x0 = 2 → Q (some (some (vI 9), (SH T, c)))) ∧ ((x0 = 3 → Q (some (some (vI 999), (SH T, c)))) ∧ (¬ (x0 = 0 ∨ x0 = 1 ∨ x0 = 2 ∨ x0 = 3) → Q (some (some (vI 3), (SH T, c))))))))) : Q (ccal 176 [vI x0] (SH T, c)) := by
  refine of_cev (Q := Q) ?_
  refine wq_ite (Q := Q) (p := x0 = 0) (fun h0 => ?_) (fun h0 => ?_)
  · replace k := k.1 h0
    show Q (cev 176 1 32 [vU] [] (SH T, c))
    refine of_cev (Q := Q) ?_
    exact k
  replace k := k.2
  refine wq_ite (Q := Q) (p := x0 = 1) (fun h1 => ?_) (fun h1 => ?_)
  · replace k := k.1 h1
    show Q (cev 176 1 35 [vU] [] (SH T, c))
    refine of_cev (Q := Q) ?_
    exact k
  replace k := k.2
  refine wq_ite (Q := Q) (p := x0 = 2) (fun h2 => ?_) (fun h2 => ?_)
  · replace k := k.1 h2
    show Q (cev 176 1 37 [vU] [] (SH T, c))
    refine of_cev (Q := Q) ?_
    exact k
  replace k := k.2
  refine wq_ite (Q := Q) (p := x0 = 3) (fun h3 => ?_) (fun h3 => ?_)
  · replace k := k.1 h3
    show Q (cev 176 1 40 [vU] [] (SH T, c))
    refine of_cev (Q := Q) ?_
    exact k
  replace k := k.2
  replace k := k (fun h => by rcases h with h | h | h | h <;> first | exact h0 h | exact h1 h | exact h2 h | exact h3 h)
  show Q (cev 176 1 44 [vU] [] (SH T, c))
  refine of_cev (Q := Q) ?_
  exact k
set_option maxRecDepth 20000 in
theorem W_X11_lowestIn {T : List Shp} {c : Nat → Int → Int} {Q : Res → Prop} {x0 : Int} (k : Q (cev 182 1 2 [vI x0, vI 0] [] (SH T, c))) : Q (ccal 182 [vI x0] (SH T, c)) := by
  refine of_cev (Q := Q) ?_
  exact k
set_option maxRecDepth 20000 in
theorem W_X11_lowestIn_2 {T : List Shp} {c : Nat → Int → Int} {Q : Res → Prop} {x0 x1 : Int} (k : ((x1 < 31 → (((iand (ishr x0 x1) 1) = 1 → Q (some (some (vI x1), (SH T, c)))) ∧ (¬ (iand (ishr x0 x1) 1) = 1 → ((-2147483648 ≤ x1 + 1 ∧ x1 + 1 < 2147483648) ∧ Q (cev 182 1 2 [vI x0, vI (x1 + 1)] [] (SH T, c)))))) ∧ (¬ x1 < 31 → Q (some (some (vI (-1)), (SH T, c)))))) : Q (cev 182 1 2 [vI x0, vI x1] [] (SH T, c)) := by
  refine of_cev (Q := Q) ?_
  refine wq_ite (Q := Q) (p := x1 < 31) (fun h => ?_) (fun h => ?_)
  · replace k := k.1 h
    refine wq_ite (Q := Q) (p := (iand (ishr x0 x1) 1) = 1) (fun h => ?_) (fun h => ?_)
    · replace k := k.1 h
      exact k
    · replace k := k.2 h
      show Q (cev 182 1 19 [vI x0, vI x1] [] (SH T, c))
      refine of_cev (Q := Q) ?_
      refine wq_pos (Q := Q) k.1 ?_
      replace k := k.2
      exact k
  · replace k := k.2 h
    show Q (cev 182 1 25 [vU, vU] [] (SH T, c))
    refine of_cev (Q := Q) ?_
    exact k
set_option maxRecDepth 20000 in
theorem W_X11_highestIn {T : List Shp} {c : Nat → Int → Int} {Q : Res → Prop} {x0 : Int} (k : Q (cev 183 1 3 [vI x0, vI 30] [] (SH T, c))) : Q (ccal 183 [vI x0] (SH T, c)) := by
  refine of_cev (Q := Q) ?_
  exact k
set_option maxRecDepth 20000 in
theorem W_X11_highestIn_3 {T : List Shp} {c : Nat → Int → Int} {Q : Res → Prop} {x0 x1 : Int} (k : ((x1 < 0 → Q (some (some (vI (-1)), (SH T, c)))) ∧ (¬ x1 < 0 → (((iand (ishr x0 x1) 1) = 1 → Q (some (some (vI x1), (SH T, c)))) ∧ (¬ (iand (ishr x0 x1) 1) = 1 → ((-2147483648 ≤ x1 + (-1) ∧ x1 + (-1) < 2147483648) ∧ Q (cev 183 1 3 [vI x0, vI (x1 + (-1))] [] (SH T, c)))))))) : Q (cev 183 1 3 [vI x0, vI x1] [] (SH T, c)) := by
  refine of_cev (Q := Q) ?_
  refine wq_ite (Q := Q) (p := x1 < 0) (fun h => ?_) (fun h => ?_)
  · replace k := k.1 h
    show Q (cev 183 1 24 [vU, vU] [] (SH T, c))
    refine of_cev (Q := Q) ?_
    exact k
  · replace k := k.2 h
    refine wq_ite (Q := Q) (p := (iand (ishr x0 x1) 1) = 1) (fun h => ?_) (fun h => ?_)
    · replace k := k.1 h
      exact k
    · replace k := k.2 h
      show Q (cev 183 1 18 [vI x0, vI x1] [] (SH T, c))
      refine of_cev (Q := Q) ?_
      refine wq_pos (Q := Q) k.1 ?_
      replace k := k.2
      exact k
set_option maxRecDepth 20000 in
theorem W_X12_image {T : List Shp} {c : Nat → Int → Int} {Q : Res → Prop} {x1 : Int} (k : ((0 ≤ x1 ∧ x1 ≤ 1 → Q (cev 192 2 23 [vR 78, vI x1, vI 0] [] (SH T, (up c 77 0 0)))) ∧ (¬ (0 ≤ x1 ∧ x1 ≤ 1) → ((-2147483648 ≤ (c 78 1) + 1 ∧ (c 78 1) + 1 < 2147483648) ∧ Q (some (some (vI (-1)), (SH T, (up (up (up c 77 0 0) 77 1 (-1)) 78 1 ((c 78 1) + 1))))))))) : Q (ccal 192 [vR 78, vI x1] (SH T, c)) := by
  refine of_cev (Q := Q) ?_
  refine wq_sum (Q := Q) rfl (S_X12_in T (up c 77 0 0) x1 0 1) ?_
  refine wq_b01 (Q := Q) (p := 0 ≤ x1 ∧ x1 ≤ 1) (fun h => ?_) (fun h => ?_)
  · replace k := k.2 h
    refine wq_sum (Q := Q) rfl (S_X12_tell_1 T (up c 77 0 0) k.1) ?_
    replace k := k.2
    exact k
  · replace k := k.1 h
    show Q (cev 192 2 21 [vR 78, vI x1, vU] [] (SH T, (up c 77 0 0)))
    refine of_cev (Q := Q) ?_
    exact k
set_option maxRecDepth 20000 in
theorem W_X12_image_23 {T : List Shp} {c : Nat → Int → Int} {Q : Res → Prop} {x1 x2 : Int} (k : ((x2 < 5780 → (((-2147483648 ≤ 5780 * x1 ∧ 5780 * x1 < 2147483648) ∧ (-2147483648 ≤ (5780 * x1) + x2 ∧ (5780 * x1) + x2 < 2147483648) ∧ (0 ≤ x2 ∧ x2 < 5780) ∧ (0 ≤ ((5780 * x1) + x2) ∧ ((5780 * x1) + x2) < 11560) ∧ (-2147483648 ≤ x2 + 1 ∧ x2 + 1 < 2147483648)) ∧ Q (cev 192 2 23 [vR 78, vI x1, vI (x2 + 1)] [] (SH T, (up c 80 ((5780 * x1) + x2) (c 79 x2)))))) ∧ (¬ x2 < 5780 → ((0 ≤ x1 ∧ x1 < 2) ∧ Q (some (some (vI 0), (SH T, (up (up c 82 x1 1) 77 1 0)))))))) : Q (cev 192 2 23 [vR 78, vI x1, vI x2] [] (SH T, c)) := by
  refine of_cev (Q := Q) ?_
  refine wq_ite (Q := Q) (p := x2 < 5780) (fun h => ?_) (fun h => ?_)
  · replace k := k.1 h
    refine wq_pos (Q := Q) k.1.1 ?_
    refine wq_pos (Q := Q) k.1.2.1 ?_
    refine wq_pos (Q := Q) k.1.2.2.1 ?_
    refine wq_pos (Q := Q) k.1.2.2.2.1 ?_
    refine wq_pos (Q := Q) k.1.2.2.2.2 ?_
    replace k := k.2
    exact k
  · replace k := k.2 h
    show Q (cev 192 2 54 [vR 78, vI x1, vU] [] (SH T, c))
    refine of_cev (Q := Q) ?_
    refine wq_pos (Q := Q) k.1 ?_
    refine wq_sum (Q := Q) rfl (S_X12_tell T (up c 82 x1 1) 0 (by decide)) ?_
    replace k := k.2
    exact k
set_option maxRecDepth 20000 in
theorem W_X12_back {T : List Shp} {c : Nat → Int → Int} {Q : Res → Prop} {x1 : Int} (k : ((0 ≤ x1 ∧ x1 ≤ 1 → ((0 ≤ x1 ∧ x1 < 2) ∧ (((c 82 x1) = 0 → ((-2147483648 ≤ (c 78 2) + 1 ∧ (c 78 2) + 1 < 2147483648) ∧ Q (some (some (vI (-2)), (SH T, (up (up (up c 77 0 0) 77 1 (-2)) 78 2 ((c 78 2) + 1))))))) ∧ (¬ (c 82 x1) = 0 → Q (cev 193 2 39 [vR 78, vI x1, vI 0] [] (SH T, (up c 77 0 0))))))) ∧ (¬ (0 ≤ x1 ∧ x1 ≤ 1) → ((-2147483648 ≤ (c 78 1) + 1 ∧ (c 78 1) + 1 < 2147483648) ∧ Q (some (some (vI (-1)), (SH T, (up (up (up c 77 0 0) 77 1 (-1)) 78 1 ((c 78 1) + 1))))))))) : Q (ccal 193 [vR 78, vI x1] (SH T, c)) := by
  refine of_cev (Q := Q) ?_
  refine wq_sum (Q := Q) rfl (S_X12_in T (up c 77 0 0) x1 0 1) ?_
  refine wq_b01 (Q := Q) (p := 0 ≤ x1 ∧ x1 ≤ 1) (fun h => ?_) (fun h => ?_)
  · replace k := k.2 h
    refine wq_sum (Q := Q) rfl (S_X12_tell_1 T (up c 77 0 0) k.1) ?_
    replace k := k.2
    exact k
  · replace k := k.1 h
    show Q (cev 193 2 21 [vR 78, vI x1, vU] [] (SH T, (up c 77 0 0)))
    refine of_cev (Q := Q) ?_
    refine wq_pos (Q := Q) k.1 ?_
    replace k := k.2
    refine wq_ite (Q := Q) (p := (c 82 x1) = 0) (fun h => ?_) (fun h => ?_)
    · replace k := k.1 h
      refine wq_sum (Q := Q) rfl (S_X12_tell_2 T (up c 77 0 0) k.1) ?_
      replace k := k.2
      exact k
    · replace k := k.2 h
      show Q (cev 193 2 37 [vR 78, vI x1, vU] [] (SH T, (up c 77 0 0)))
      refine of_cev (Q := Q) ?_
      exact k
set_option maxRecDepth 20000 in
theorem W_X12_back_39 {T : List Shp} {c : Nat → Int → Int} {Q : Res → Prop} {x1 x2 : Int} (k : ((x2 < 5780 → (((-2147483648 ≤ 5780 * x1 ∧ 5780 * x1 < 2147483648) ∧ (-2147483648 ≤ (5780 * x1) + x2 ∧ (5780 * x1) + x2 < 2147483648) ∧ (0 ≤ ((5780 * x1) + x2) ∧ ((5780 * x1) + x2) < 11560) ∧ (0 ≤ x2 ∧ x2 < 5780) ∧ (-2147483648 ≤ x2 + 1 ∧ x2 + 1 < 2147483648)) ∧ Q (cev 193 2 39 [vR 78, vI x1, vI (x2 + 1)] [] (SH T, (up c 79 x2 (c 80 ((5780 * x1) + x2))))))) ∧ (¬ x2 < 5780 → Q (some (some (vI 0), (SH T, (up c 77 1 0))))))) : Q (cev 193 2 39 [vR 78, vI x1, vI x2] [] (SH T, c)) := by
  refine of_cev (Q := Q) ?_
  refine wq_ite (Q := Q) (p := x2 < 5780) (fun h => ?_) (fun h => ?_)
  · replace k := k.1 h
    refine wq_pos (Q := Q) k.1.1 ?_
    refine wq_pos (Q := Q) k.1.2.1 ?_
    refine wq_pos (Q := Q) k.1.2.2.1 ?_
    refine wq_pos (Q := Q) k.1.2.2.2.1 ?_
    refine wq_pos (Q := Q) k.1.2.2.2.2 ?_
    replace k := k.2
    exact k
  · replace k := k.2 h
    show Q (cev 193 2 70 [vR 78, vU, vU] [] (SH T, c))
    refine of_cev (Q := Q) ?_
    refine wq_sum (Q := Q) rfl (S_X12_tell T c 0 (by decide)) ?_
    exact k
set_option maxRecDepth 20000 in
theorem W_X12_first {T : List Shp} {c : Nat → Int → Int} {Q : Res → Prop} {x1 x2 : Int} (k : ((0 ≤ x1 ∧ x1 < 12 → ((0 ≤ x2 ∧ x2 < 10 → (((-2147483648 ≤ 12 + x1 ∧ 12 + x1 < 2147483648) ∧ (0 ≤ (12 + x1) ∧ (12 + x1) < 5780)) ∧ Q (some (some (vI ((up c 79 4 0) 79 (12 + x1))), (SH T, (up (up (up (up c 77 0 0) 79 4 0) 79 (12 + x1) x2) 77 1 0)))))) ∧ (¬ (0 ≤ x2 ∧ x2 < 10) → ((-2147483648 ≤ (c 78 1) + 1 ∧ (c 78 1) + 1 < 2147483648) ∧ Q (some (some (vI (-1)), (SH T, (up (up (up c 77 0 0) 77 1 (-1)) 78 1 ((c 78 1) + 1))))))))) ∧ (¬ (0 ≤ x1 ∧ x1 < 12) → ((-2147483648 ≤ (c 78 1) + 1 ∧ (c 78 1) + 1 < 2147483648) ∧ Q (some (some (vI (-1)), (SH T, (up (up (up c 77 0 0) 77 1 (-1)) 78 1 ((c 78 1) + 1))))))))) : Q (ccal 204 [vR 78, vI x1, vI x2] (SH T, c)) := by
  refine of_cev (Q := Q) ?_
  refine wq_sum (Q := Q) rfl (S_X12_isCell T (up c 77 0 0) x1) ?_
  refine wq_b01 (Q := Q) (p := 0 ≤ x1 ∧ x1 < 12) (fun h => ?_) (fun h => ?_)
  · replace k := k.2 h
    show Q (cev 204 3 19 [vR 78, vU, vU] [] (SH T, (up c 77 0 0)))
    refine of_cev (Q := Q) ?_
    refine wq_sum (Q := Q) rfl (S_X12_tell_1 T (up c 77 0 0) k.1) ?_
    replace k := k.2
    exact k
  · replace k := k.1 h
    refine wq_sum (Q := Q) rfl (S_X12_isTone T (up c 77 0 0) x2) ?_
    refine wq_b01 (Q := Q) (p := 0 ≤ x2 ∧ x2 < 10) (fun h => ?_) (fun h => ?_)
    · replace k := k.2 h
      show Q (cev 204 3 19 [vR 78, vU, vU] [] (SH T, (up c 77 0 0)))
      refine of_cev (Q := Q) ?_
      refine wq_sum (Q := Q) rfl (S_X12_tell_1 T (up c 77 0 0) k.1) ?_
      replace k := k.2
      exact k
    · replace k := k.1 h
      show Q (cev 204 3 25 [vR 78, vI x1, vI x2] [] (SH T, (up c 77 0 0)))
      refine of_cev (Q := Q) ?_
      refine wq_pos (Q := Q) k.1.1 ?_
      refine wq_sum (Q := Q) rfl (S_X12_change T (up (up c 77 0 0) 79 4 0) (12 + x1) x2 k.1.2) ?_
      replace k := k.2
      exact k
set_option maxRecDepth 20000 in
theorem W_X12_painter {T : List Shp} {c : Nat → Int → Int} {Q : Res → Prop} {x1 x2 : Int} (k : ((1 ≤ x1 ∧ x1 ≤ 9 → ((0 ≤ x2 ∧ x2 ≤ 99 → (((c 79 0) = 5 → ((-2147483648 ≤ (c 78 5) + 1 ∧ (c 78 5) + 1 < 2147483648) ∧ Q (some (some (vI (-5)), (SH T, (up (up (up c 77 0 0) 77 1 (-5)) 78 5 ((c 78 5) + 1))))))) ∧ (¬ (c 79 0) = 5 → (((-2147483648 ≤ 5 * (c 79 0) ∧ 5 * (c 79 0) < 2147483648) ∧ (-2147483648 ≤ 233 + (5 * (c 79 0)) ∧ 233 + (5 * (c 79 0)) < 2147483648) ∧ (0 ≤ (233 + (5 * (c 79 0))) ∧ (233 + (5 * (c 79 0))) < 5780) ∧ (-2147483648 ≤ (233 + (5 * (c 79 0))) + 1 ∧ (233 + (5 * (c 79 0))) + 1 < 2147483648) ∧ (0 ≤ ((233 + (5 * (c 79 0))) + 1) ∧ ((233 + (5 * (c 79 0))) + 1) < 5780)) ∧ Q (cev 205 2 84 [vR 78, vU, vU, vI (c 79 0), vI (233 + (5 * (c 79 0))), vI 2] [] (SH T, (up (up (up c 77 0 0) 79 (233 + (5 * (c 79 0))) x1) 79 ((233 + (5 * (c 79 0))) + 1) x2))))))) ∧ (¬ (0 ≤ x2 ∧ x2 ≤ 99) → ((-2147483648 ≤ (c 78 1) + 1 ∧ (c 78 1) + 1 < 2147483648) ∧ Q (some (some (vI (-1)), (SH T, (up (up (up c 77 0 0) 77 1 (-1)) 78 1 ((c 78 1) + 1))))))))) ∧ (¬ (1 ≤ x1 ∧ x1 ≤ 9) → ((-2147483648 ≤ (c 78 1) + 1 ∧ (c 78 1) + 1 < 2147483648) ∧ Q (some (some (vI (-1)), (SH T, (up (up (up c 77 0 0) 77 1 (-1)) 78 1 ((c 78 1) + 1))))))))) : Q (ccal 205 [vR 78, vI x1, vI x2] (SH T, c)) := by
  refine of_cev (Q := Q) ?_
  refine wq_sum (Q := Q) rfl (S_X12_in T (up c 77 0 0) x1 1 9) ?_
  refine wq_b01 (Q := Q) (p := 1 ≤ x1 ∧ x1 ≤ 9) (fun h => ?_) (fun h => ?_)
  · replace k := k.2 h
    show Q (cev 205 2 29 [vR 78, vU, vU, vU, vU, vU] [] (SH T, (up c 77 0 0)))
    refine of_cev (Q := Q) ?_
    refine wq_sum (Q := Q) rfl (S_X12_tell_1 T (up c 77 0 0) k.1) ?_
    replace k := k.2
    exact k
  · replace k := k.1 h
    refine wq_sum (Q := Q) rfl (S_X12_in T (up c 77 0 0) x2 0 99) ?_
    refine wq_b01 (Q := Q) (p := 0 ≤ x2 ∧ x2 ≤ 99) (fun h => ?_) (fun h => ?_)
    · replace k := k.2 h
      show Q (cev 205 2 29 [vR 78, vU, vU, vU, vU, vU] [] (SH T, (up c 77 0 0)))
      refine of_cev (Q := Q) ?_
      refine wq_sum (Q := Q) rfl (S_X12_tell_1 T (up c 77 0 0) k.1) ?_
      replace k := k.2
      exact k
    · replace k := k.1 h
      show Q (cev 205 2 35 [vR 78, vI x1, vI x2, vU, vU, vU] [] (SH T, (up c 77 0 0)))
      refine of_cev (Q := Q) ?_
      refine wq_ite (Q := Q) (p := (c 79 0) = 5) (fun h => ?_) (fun h => ?_)
      · replace k := k.1 h
        refine wq_sum (Q := Q) rfl (S_X12_tell_5 T (up c 77 0 0) k.1) ?_
        replace k := k.2
        exact k
      · replace k := k.2 h
        show Q (cev 205 2 54 [vR 78, vI x1, vI x2, vI (c 79 0), vU, vU] [] (SH T, (up c 77 0 0)))
        refine of_cev (Q := Q) ?_
        refine wq_pos (Q := Q) k.1.1 ?_
        refine wq_pos (Q := Q) k.1.2.1 ?_
        refine wq_pos (Q := Q) k.1.2.2.1 ?_
        refine wq_pos (Q := Q) k.1.2.2.2.1 ?_
        refine wq_pos (Q := Q) k.1.2.2.2.2 ?_
        replace k := k.2
        exact k
set_option maxRecDepth 20000 in
theorem W_X12_painter_84 {T : List Shp} {c : Nat → Int → Int} {Q : Res → Prop} {x3 x4 x5 : Int} (k : ((x5 < 5 → (((-2147483648 ≤ x4 + x5 ∧ x4 + x5 < 2147483648) ∧ (0 ≤ (x4 + x5) ∧ (x4 + x5) < 5780) ∧ (-2147483648 ≤ x5 + 1 ∧ x5 + 1 < 2147483648)) ∧ Q (cev 205 2 84 [vR 78, vU, vU, vI x3, vI x4, vI (x5 + 1)] [] (SH T, (up c 79 (x4 + x5) 3))))) ∧ (¬ x5 < 5 → (((-2147483648 ≤ (c 79 0) + 1 ∧ (c 79 0) + 1 < 2147483648) ∧ (0 ≤ x3)) ∧ Q (some (some (vI x3), (SH T, (up (up c 79 0 ((c 79 0) + 1)) 77 1 0)))))))) : Q (cev 205 2 84 [vR 78, vU, vU, vI x3, vI x4, vI x5] [] (SH T, c)) := by
  refine of_cev (Q := Q) ?_
  refine wq_ite (Q := Q) (p := x5 < 5) (fun h => ?_) (fun h => ?_)
  · replace k := k.1 h
    refine wq_pos (Q := Q) k.1.1 ?_
    refine wq_pos (Q := Q) k.1.2.1 ?_
    refine wq_pos (Q := Q) k.1.2.2 ?_
    replace k := k.2
    exact k
  · replace k := k.2 h
    show Q (cev 205 2 107 [vR 78, vU, vU, vI x3, vU, vU] [] (SH T, c))
    refine of_cev (Q := Q) ?_
    refine wq_pos (Q := Q) k.1.1 ?_
    refine wq_sum (Q := Q) rfl (S_X12_tell T (up c 79 0 ((c 79 0) + 1)) x3 k.1.2) ?_
    replace k := k.2
    exact k
set_option maxRecDepth 20000 in
theorem W_X12_err {T : List Shp} {c : Nat → Int → Int} {Q : Res → Prop} {x1 x2 x3 : Int} (k : ((0 ≤ x2 ∧ x2 ≤ 2 → ((0 ≤ x3 ∧ x3 ≤ 6 → ((-9223372036854775808 ≤ (c 79 0) - 1 ∧ (c 79 0) - 1 < 9223372036854775808) ∧ ((0 ≤ x1 ∧ x1 < (c 79 0) → (((-2147483648 ≤ 5 * x1 ∧ 5 * x1 < 2147483648) ∧ (-2147483648 ≤ 233 + (5 * x1) ∧ 233 + (5 * x1) < 2147483648) ∧ (-2147483648 ≤ (233 + (5 * x1)) + 2 ∧ (233 + (5 * x1)) + 2 < 2147483648) ∧ (-2147483648 ≤ ((233 + (5 * x1)) + 2) + x2 ∧ ((233 + (5 * x1)) + 2) + x2 < 2147483648) ∧ (0 ≤ (((233 + (5 * x1)) + 2) + x2) ∧ (((233 + (5 * x1)) + 2) + x2) < 5780)) ∧ Q (some (some (vI (c 79 (((233 + (5 * x1)) + 2) + x2))), (SH T, (up (up (up c 77 0 0) 79 (((233 + (5 * x1)) + 2) + x2) x3) 77 1 0)))))) ∧ (¬ (0 ≤ x1 ∧ x1 < (c 79 0)) → ((-2147483648 ≤ (c 78 2) + 1 ∧ (c 78 2) + 1 < 2147483648) ∧ Q (some (some (vI (-2)), (SH T, (up (up (up c 77 0 0) 77 1 (-2)) 78 2 ((c 78 2) + 1)))))))))) ∧ (¬ (0 ≤ x3 ∧ x3 ≤ 6) → ((-2147483648 ≤ (c 78 1) + 1 ∧ (c 78 1) + 1 < 2147483648) ∧ Q (some (some (vI (-1)), (SH T, (up (up (up c 77 0 0) 77 1 (-1)) 78 1 ((c 78 1) + 1))))))))) ∧ (¬ (0 ≤ x2 ∧ x2 ≤ 2) → ((-2147483648 ≤ (c 78 1) + 1 ∧ (c 78 1) + 1 < 2147483648) ∧ Q (some (some (vI (-1)), (SH T, (up (up (up c 77 0 0) 77 1 (-1)) 78 1 ((c 78 1) + 1))))))))) : Q (ccal 206 [vR 78, vI x1, vI x2, vI x3] (SH T, c)) := by
  refine of_cev (Q := Q) ?_
  refine wq_sum (Q := Q) rfl (S_X12_in T (up c 77 0 0) x2 0 2) ?_
  refine wq_b01 (Q := Q) (p := 0 ≤ x2 ∧ x2 ≤ 2) (fun h => ?_) (fun h => ?_)
  · replace k := k.2 h
    show Q (cev 206 3 29 [vR 78, vU, vU, vU] [] (SH T, (up c 77 0 0)))
    refine of_cev (Q := Q) ?_
    refine wq_sum (Q := Q) rfl (S_X12_tell_1 T (up c 77 0 0) k.1) ?_
    replace k := k.2
    exact k
  · replace k := k.1 h
    refine wq_sum (Q := Q) rfl (S_X12_in T (up c 77 0 0) x3 0 6) ?_
    refine wq_b01 (Q := Q) (p := 0 ≤ x3 ∧ x3 ≤ 6) (fun h => ?_) (fun h => ?_)
    · replace k := k.2 h
      show Q (cev 206 3 29 [vR 78, vU, vU, vU] [] (SH T, (up c 77 0 0)))
      refine of_cev (Q := Q) ?_
      refine wq_sum (Q := Q) rfl (S_X12_tell_1 T (up c 77 0 0) k.1) ?_
      replace k := k.2
      exact k
    · replace k := k.1 h
      show Q (cev 206 3 35 [vR 78, vI x1, vI x2, vI x3] [] (SH T, (up c 77 0 0)))
      refine of_cev (Q := Q) ?_
      refine wq_sum (Q := Q) rfl (S_X12_isPainter T (up c 77 0 0) x1 k.1) ?_
      replace k := k.2
      refine wq_b01 (Q := Q) (p := 0 ≤ x1 ∧ x1 < (c 79 0)) (fun h => ?_) (fun h => ?_)
      · replace k := k.2 h
        show Q (cev 206 3 62 [vR 78, vU, vU, vU] [] (SH T, (up c 77 0 0)))
        refine of_cev (Q := Q) ?_
        refine wq_sum (Q := Q) rfl (S_X12_tell_2 T (up c 77 0 0) k.1) ?_
        replace k := k.2
        exact k
      · replace k := k.1 h
        refine wq_pos (Q := Q) k.1.1 ?_
        refine wq_pos (Q := Q) k.1.2.1 ?_
        refine wq_pos (Q := Q) k.1.2.2.1 ?_
        refine wq_pos (Q := Q) k.1.2.2.2.1 ?_
        refine wq_sum (Q := Q) rfl (S_X12_change T (up c 77 0 0) (((233 + (5 * x1)) + 2) + x2) x3 k.1.2.2.2.2) ?_
        replace k := k.2
        exact k
set_option maxRecDepth 20000 in
theorem W_X12_of {T : List Shp} {c : Nat → Int → Int} {Q : Res → Prop} {x1 x2 : Int} (k : ((-9223372036854775808 ≤ (c 79 0) - 1 ∧ (c 79 0) - 1 < 9223372036854775808) ∧ ((0 ≤ x1 ∧ x1 < (c 79 0) → ((0 ≤ x2 ∧ x2 ≤ 4 → (((-2147483648 ≤ 5 * x1 ∧ 5 * x1 < 2147483648) ∧ (-2147483648 ≤ 233 + (5 * x1) ∧ 233 + (5 * x1) < 2147483648) ∧ (-2147483648 ≤ (233 + (5 * x1)) + x2 ∧ (233 + (5 * x1)) + x2 < 2147483648) ∧ (0 ≤ ((233 + (5 * x1)) + x2) ∧ ((233 + (5 * x1)) + x2) < 5780)) ∧ Q (some (some (vI (c 79 ((233 + (5 * x1)) + x2))), (SH T, (up c 77 0 0)))))) ∧ (¬ (0 ≤ x2 ∧ x2 ≤ 4) → Q (some (some (vI (-1)), (SH T, (up c 77 0 0))))))) ∧ (¬ (0 ≤ x1 ∧ x1 < (c 79 0)) → Q (some (some (vI (-1)), (SH T, (up c 77 0 0)))))))) : Q (ccal 207 [vR 78, vI x1, vI x2] (SH T, c)) := by
  refine of_cev (Q := Q) ?_
  refine wq_sum (Q := Q) rfl (S_X12_isPainter T (up c 77 0 0) x1 k.1) ?_
  replace k := k.2
  refine wq_b01 (Q := Q) (p := 0 ≤ x1 ∧ x1 < (c 79 0)) (fun h => ?_) (fun h => ?_)
  · replace k := k.2 h
    show Q (cev 207 3 42 [vU, vU, vU] [] (SH T, (up c 77 0 0)))
    refine of_cev (Q := Q) ?_
    exact k
  · replace k := k.1 h
    refine wq_sum (Q := Q) rfl (S_X12_in T (up c 77 0 0) x2 0 4) ?_
    refine wq_b01 (Q := Q) (p := 0 ≤ x2 ∧ x2 ≤ 4) (fun h => ?_) (fun h => ?_)
    · replace k := k.2 h
      show Q (cev 207 3 42 [vU, vU, vU] [] (SH T, (up c 77 0 0)))
      refine of_cev (Q := Q) ?_
      exact k
    · replace k := k.1 h
      refine wq_pos (Q := Q) k.1.1 ?_
      refine wq_pos (Q := Q) k.1.2.1 ?_
      refine wq_pos (Q := Q) k.1.2.2.1 ?_
      refine wq_pos (Q := Q) k.1.2.2.2 ?_
      replace k := k.2
      exact k
set_option maxRecDepth 20000 in
theorem W_X12_isTerm {T : List Shp} {c : Nat → Int → Int} {Q : Res → Prop} {x0 x1 : Int} (k : ((x0 = 0 → Q (some (some (vI (b01 (0 ≤ x1 ∧ x1 ≤ 99))), (SH T, c)))) ∧ ((x0 = 1 → Q (some (some (vI (b01 (0 ≤ x1 ∧ x1 ≤ 5))), (SH T, c)))) ∧ ((x0 = 2 → Q (some (some (vI (b01 (0 ≤ x1 ∧ x1 ≤ 9))), (SH T, c)))) ∧ ((x0 = 3 → Q (some (some (vI (b01 (0 ≤ x1 ∧ x1 ≤ 999))), (SH T, c)))) ∧ ((x0 = 4 → Q (some (some (vI (b01 (0 ≤ x1 ∧ x1 ≤ 3))), (SH T, c)))) ∧ (¬ (x0 = 0 ∨ x0 = 1 ∨ x0 = 2 ∨ x0 = 3 ∨ x0 = 4) → Q (some (some (vI 0), (SH T, c)))))))))) : Q (ccal 208 [vI x0, vI x1] (SH T, c)) := by
  refine of_cev (Q := Q) ?_
  refine wq_ite (Q := Q) (p := x0 = 0) (fun h0 => ?_) (fun h0 => ?_)
  · replace k := k.1 h0
    show Q (cev 208 2 36 [vU, vI x1] [] (SH T, c))
    refine of_cev (Q := Q) ?_
    refine wq_sum (Q := Q) rfl (S_X12_in T c x1 0 99) ?_
    refine wq_pos (Q := Q) (b01_or (p := 0 ≤ x1 ∧ x1 ≤ 99)) ?_
    exact k
  replace k := k.2
  refine wq_ite (Q := Q) (p := x0 = 1) (fun h1 => ?_) (fun h1 => ?_)
  · replace k := k.1 h1
    show Q (cev 208 2 46 [vU, vI x1] [] (SH T, c))
    refine of_cev (Q := Q) ?_
    refine wq_sum (Q := Q) rfl (S_X12_in T c x1 0 5) ?_
    refine wq_pos (Q := Q) (b01_or (p := 0 ≤ x1 ∧ x1 ≤ 5)) ?_
    exact k
  replace k := k.2
  refine wq_ite (Q := Q) (p := x0 = 2) (fun h2 => ?_) (fun h2 => ?_)
  · replace k := k.1 h2
    show Q (cev 208 2 56 [vU, vI x1] [] (SH T, c))
    refine of_cev (Q := Q) ?_
    refine wq_sum (Q := Q) rfl (S_X12_in T c x1 0 9) ?_
    refine wq_pos (Q := Q) (b01_or (p := 0 ≤ x1 ∧ x1 ≤ 9)) ?_
    exact k
  replace k := k.2
  refine wq_ite (Q := Q) (p := x0 = 3) (fun h3 => ?_) (fun h3 => ?_)
  · replace k := k.1 h3
    show Q (cev 208 2 66 [vU, vI x1] [] (SH T, c))
    refine of_cev (Q := Q) ?_
    refine wq_sum (Q := Q) rfl (S_X12_in T c x1 0 999) ?_
    refine wq_pos (Q := Q) (b01_or (p := 0 ≤ x1 ∧ x1 ≤ 999)) ?_
    exact k
  replace k := k.2
  refine wq_ite (Q := Q) (p := x0 = 4) (fun h4 => ?_) (fun h4 => ?_)
  · replace k := k.1 h4
    show Q (cev 208 2 76 [vU, vI x1] [] (SH T, c))
    refine of_cev (Q := Q) ?_
    refine wq_sum (Q := Q) rfl (S_X12_in T c x1 0 3) ?_
    refine wq_pos (Q := Q) (b01_or (p := 0 ≤ x1 ∧ x1 ≤ 3)) ?_
    exact k
  replace k := k.2
  replace k := k (fun h => by rcases h with h | h | h | h | h <;> first | exact h0 h | exact h1 h | exact h2 h | exact h3 h | exact h4 h)
  show Q (cev 208 2 86 [vU, vU] [] (SH T, c))
  refine of_cev (Q := Q) ?_
  exact k
set_option maxRecDepth 20000 in
theorem W_X12_terms {T : List Shp} {c : Nat → Int → Int} {Q : Res → Prop} {x1 x2 : Int} (k : (QI T (fun r1 c2 => ((r1 = 0 → ((-2147483648 ≤ (c2 78 1) + 1 ∧ (c2 78 1) + 1 < 2147483648) ∧ Q (some (some (vI (-1)), (SH T, (up (up c2 77 1 (-1)) 78 1 ((c2 78 1) + 1))))))) ∧ (¬ r1 = 0 → (((-2147483648 ≤ 7 + x1 ∧ 7 + x1 < 2147483648) ∧ (0 ≤ (7 + x1) ∧ (7 + x1) < 5780)) ∧ Q (some (some (vI (c2 79 (7 + x1))), (SH T, (up (up c2 79 (7 + x1) x2) 77 1 0)))))))) (ccal 208 [vI x1, vI x2] (SH T, (up c 77 0 0))))) : Q (ccal 209 [vR 78, vI x1, vI x2] (SH T, c)) := by
  refine of_cev (Q := Q) ?_
  refine wq_callI (Q := Q) rfl k ?_
  intro r1 c2 k
  refine wq_ite (Q := Q) (p := r1 = 0) (fun h => ?_) (fun h => ?_)
  · replace k := k.1 h
    show Q (cev 209 3 25 [vR 78, vU, vU] [] (SH T, c2))
    refine of_cev (Q := Q) ?_
    refine wq_sum (Q := Q) rfl (S_X12_tell_1 T c2 k.1) ?_
    replace k := k.2
    exact k
  · replace k := k.2 h
    refine wq_pos (Q := Q) k.1.1 ?_
    refine wq_sum (Q := Q) rfl (S_X12_change T c2 (7 + x1) x2 k.1.2) ?_
    replace k := k.2
    exact k
set_option maxRecDepth 20000 in
theorem W_X12_scar {T : List Shp} {c : Nat → Int → Int} {Q : Res → Prop} {x1 x2 x3 : Int} (k : ((0 ≤ x1 ∧ x1 < 12 → ((0 ≤ x2 ∧ x2 < 100 → ((0 ≤ x3 ∧ x3 < 10 → (((c 79 3) = 6 → ((-2147483648 ≤ (c 78 5) + 1 ∧ (c 78 5) + 1 < 2147483648) ∧ Q (some (some (vI (-5)), (SH T, (up (up (up c 77 0 0) 77 1 (-5)) 78 5 ((c 78 5) + 1))))))) ∧ (¬ (c 79 3) = 6 → (((-2147483648 ≤ 3 * (c 79 3) ∧ 3 * (c 79 3) < 2147483648) ∧ (-2147483648 ≤ 258 + (3 * (c 79 3)) ∧ 258 + (3 * (c 79 3)) < 2147483648) ∧ (0 ≤ (258 + (3 * (c 79 3))) ∧ (258 + (3 * (c 79 3))) < 5780) ∧ (-2147483648 ≤ (258 + (3 * (c 79 3))) + 1 ∧ (258 + (3 * (c 79 3))) + 1 < 2147483648) ∧ (0 ≤ ((258 + (3 * (c 79 3))) + 1) ∧ ((258 + (3 * (c 79 3))) + 1) < 5780) ∧ (-2147483648 ≤ (258 + (3 * (c 79 3))) + 2 ∧ (258 + (3 * (c 79 3))) + 2 < 2147483648) ∧ (0 ≤ ((258 + (3 * (c 79 3))) + 2) ∧ ((258 + (3 * (c 79 3))) + 2) < 5780) ∧ (-2147483648 ≤ ((up (up (up c 79 (258 + (3 * (c 79 3))) x1) 79 ((258 + (3 * (c 79 3))) + 1) x2) 79 ((258 + (3 * (c 79 3))) + 2) x3) 79 3) + 1 ∧ ((up (up (up c 79 (258 + (3 * (c 79 3))) x1) 79 ((258 + (3 * (c 79 3))) + 1) x2) 79 ((258 + (3 * (c 79 3))) + 2) x3) 79 3) + 1 < 2147483648) ∧ (0 ≤ (c 79 3))) ∧ Q (some (some (vI (c 79 3)), (SH T, (up (up (up (up (up (up c 77 0 0) 79 (258 + (3 * (c 79 3))) x1) 79 ((258 + (3 * (c 79 3))) + 1) x2) 79 ((258 + (3 * (c 79 3))) + 2) x3) 79 3 (((up (up (up c 79 (258 + (3 * (c 79 3))) x1) 79 ((258 + (3 * (c 79 3))) + 1) x2) 79 ((258 + (3 * (c 79 3))) + 2) x3) 79 3) + 1)) 77 1 0)))))))) ∧ (¬ (0 ≤ x3 ∧ x3 < 10) → ((-2147483648 ≤ (c 78 1) + 1 ∧ (c 78 1) + 1 < 2147483648) ∧ Q (some (some (vI (-1)), (SH T, (up (up (up c 77 0 0) 77 1 (-1)) 78 1 ((c 78 1) + 1))))))))) ∧ (¬ (0 ≤ x2 ∧ x2 < 100) → ((-2147483648 ≤ (c 78 1) + 1 ∧ (c 78 1) + 1 < 2147483648) ∧ Q (some (some (vI (-1)), (SH T, (up (up (up c 77 0 0) 77 1 (-1)) 78 1 ((c 78 1) + 1))))))))) ∧ (¬ (0 ≤ x1 ∧ x1 < 12) → ((-2147483648 ≤ (c 78 1) + 1 ∧ (c 78 1) + 1 < 2147483648) ∧ Q (some (some (vI (-1)), (SH T, (up (up (up c 77 0 0) 77 1 (-1)) 78 1 ((c 78 1) + 1))))))))) : Q (ccal 210 [vR 78, vI x1, vI x2, vI x3] (SH T, c)) := by
  refine of_cev (Q := Q) ?_
  refine wq_sum (Q := Q) rfl (S_X12_isCell T (up c 77 0 0) x1) ?_
  refine wq_b01 (Q := Q) (p := 0 ≤ x1 ∧ x1 < 12) (fun h => ?_) (fun h => ?_)
  · replace k := k.2 h
    show Q (cev 210 3 26 [vR 78, vU, vU, vU, vU] [] (SH T, (up c 77 0 0)))
    refine of_cev (Q := Q) ?_
    refine wq_sum (Q := Q) rfl (S_X12_tell_1 T (up c 77 0 0) k.1) ?_
    replace k := k.2
    exact k
  · replace k := k.1 h
    refine wq_sum (Q := Q) rfl (S_X12_isYear T (up c 77 0 0) x2) ?_
    refine wq_b01 (Q := Q) (p := 0 ≤ x2 ∧ x2 < 100) (fun h => ?_) (fun h => ?_)
    · replace k := k.2 h
      show Q (cev 210 3 26 [vR 78, vU, vU, vU, vU] [] (SH T, (up c 77 0 0)))
      refine of_cev (Q := Q) ?_
      refine wq_sum (Q := Q) rfl (S_X12_tell_1 T (up c 77 0 0) k.1) ?_
      replace k := k.2
      exact k
    · replace k := k.1 h
      refine wq_sum (Q := Q) rfl (S_X12_isTone T (up c 77 0 0) x3) ?_
      refine wq_b01 (Q := Q) (p := 0 ≤ x3 ∧ x3 < 10) (fun h => ?_) (fun h => ?_)
      · replace k := k.2 h
        show Q (cev 210 3 26 [vR 78, vU, vU, vU, vU] [] (SH T, (up c 77 0 0)))
        refine of_cev (Q := Q) ?_
        refine wq_sum (Q := Q) rfl (S_X12_tell_1 T (up c 77 0 0) k.1) ?_
        replace k := k.2
        exact k
      · replace k := k.1 h
        show Q (cev 210 3 32 [vR 78, vI x1, vI x2, vI x3, vU] [] (SH T, (up c 77 0 0)))
        refine of_cev (Q := Q) ?_
        refine wq_ite (Q := Q) (p := (c 79 3) = 6) (fun h => ?_) (fun h => ?_)
        · replace k := k.1 h
          refine wq_sum (Q := Q) rfl (S_X12_tell_5 T (up c 77 0 0) k.1) ?_
          replace k := k.2
          exact k
        · replace k := k.2 h
          show Q (cev 210 3 54 [vR 78, vI x1, vI x2, vI x3, vI (c 79 3)] [] (SH T, (up c 77 0 0)))
          refine of_cev (Q := Q) ?_
          refine wq_pos (Q := Q) k.1.1 ?_
          refine wq_pos (Q := Q) k.1.2.1 ?_
          refine wq_pos (Q := Q) k.1.2.2.1 ?_
          refine wq_pos (Q := Q) k.1.1 ?_
          refine wq_pos (Q := Q) k.1.2.1 ?_
          refine wq_pos (Q := Q) k.1.2.2.2.1 ?_
          refine wq_pos (Q := Q) k.1.2.2.2.2.1 ?_
          refine wq_pos (Q := Q) k.1.1 ?_
          refine wq_pos (Q := Q) k.1.2.1 ?_
          refine wq_pos (Q := Q) k.1.2.2.2.2.2.1 ?_
          refine wq_pos (Q := Q) k.1.2.2.2.2.2.2.1 ?_
          refine wq_pos (Q := Q) k.1.2.2.2.2.2.2.2.1 ?_
          refine wq_sum (Q := Q) rfl (S_X12_tell T (up (up (up (up (up c 77 0 0) 79 (258 + (3 * (c 79 3))) x1) 79 ((258 + (3 * (c 79 3))) + 1) x2) 79 ((258 + (3 * (c 79 3))) + 2) x3) 79 3 (((up (up (up c 79 (258 + (3 * (c 79 3))) x1) 79 ((258 + (3 * (c 79 3))) + 1) x2) 79 ((258 + (3 * (c 79 3))) + 2) x3) 79 3) + 1)) (c 79 3) k.1.2.2.2.2.2.2.2.2) ?_
          replace k := k.2
          exact k
set_option maxRecDepth 20000 in
theorem W_X12_heal {T : List Shp} {c : Nat → Int → Int} {Q : Res → Prop} {x1 : Int} (k : ((-9223372036854775808 ≤ (c 79 3) - 1 ∧ (c 79 3) - 1 < 9223372036854775808) ∧ ((0 ≤ x1 ∧ x1 ≤ ((c 79 3) - 1) → (((-2147483648 ≤ 3 * x1 ∧ 3 * x1 < 2147483648) ∧ (-2147483648 ≤ 258 + (3 * x1) ∧ 258 + (3 * x1) < 2147483648)) ∧ Q (cev 211 2 38 [vR 78, vU, vI (258 + (3 * x1))] [] (SH T, (up c 77 0 0))))) ∧ (¬ (0 ≤ x1 ∧ x1 ≤ ((c 79 3) - 1)) → ((-2147483648 ≤ (c 78 2) + 1 ∧ (c 78 2) + 1 < 2147483648) ∧ Q (some (some (vI (-2)), (SH T, (up (up (up c 77 0 0) 77 1 (-2)) 78 2 ((c 78 2) + 1)))))))))) : Q (ccal 211 [vR 78, vI x1] (SH T, c)) := by
  refine of_cev (Q := Q) ?_
  refine wq_pos (Q := Q) k.1 ?_
  refine wq_sum (Q := Q) rfl (S_X12_in T (up c 77 0 0) x1 0 ((c 79 3) - 1)) ?_
  replace k := k.2
  refine wq_b01 (Q := Q) (p := 0 ≤ x1 ∧ x1 ≤ ((c 79 3) - 1)) (fun h => ?_) (fun h => ?_)
  · replace k := k.2 h
    refine wq_sum (Q := Q) rfl (S_X12_tell_2 T (up c 77 0 0) k.1) ?_
    replace k := k.2
    exact k
  · replace k := k.1 h
    show Q (cev 211 2 30 [vR 78, vI x1, vU] [] (SH T, (up c 77 0 0)))
    refine of_cev (Q := Q) ?_
    refine wq_pos (Q := Q) k.1.1 ?_
    refine wq_pos (Q := Q) k.1.2 ?_
    replace k := k.2
    exact k
set_option maxRecDepth 20000 in
theorem W_X12_heal_38 {T : List Shp} {c : Nat → Int → Int} {Q : Res → Prop} {x2 : Int} (k : ((x2 < 273 → (((-2147483648 ≤ x2 + 3 ∧ x2 + 3 < 2147483648) ∧ (0 ≤ (x2 + 3) ∧ (x2 + 3) < 5780) ∧ (0 ≤ x2 ∧ x2 < 5780) ∧ (-2147483648 ≤ x2 + 1 ∧ x2 + 1 < 2147483648)) ∧ Q (cev 211 2 38 [vR 78, vU, vI (x2 + 1)] [] (SH T, (up c 79 x2 (c 79 (x2 + 3))))))) ∧ (¬ x2 < 273 → (((-2147483648 ≤ (c 79 3) - 1 ∧ (c 79 3) - 1 < 2147483648) ∧ (0 ≤ ((c 79 3) - 1))) ∧ Q (some (some (vI ((c 79 3) - 1)), (SH T, (up (up c 79 3 ((c 79 3) - 1)) 77 1 0)))))))) : Q (cev 211 2 38 [vR 78, vU, vI x2] [] (SH T, c)) := by
  refine of_cev (Q := Q) ?_
  refine wq_ite (Q := Q) (p := x2 < 273) (fun h => ?_) (fun h => ?_)
  · replace k := k.1 h
    refine wq_pos (Q := Q) k.1.1 ?_
    refine wq_pos (Q := Q) k.1.2.1 ?_
    refine wq_pos (Q := Q) k.1.2.2.1 ?_
    refine wq_pos (Q := Q) k.1.2.2.2 ?_
    replace k := k.2
    exact k
  · replace k := k.2 h
    show Q (cev 211 2 65 [vR 78, vU, vU] [] (SH T, c))
    refine of_cev (Q := Q) ?_
    refine wq_pos (Q := Q) k.1.1 ?_
    refine wq_sum (Q := Q) rfl (S_X12_tell T (up c 79 3 ((c 79 3) - 1)) ((c 79 3) - 1) k.1.2) ?_
    replace k := k.2
    exact k
set_option maxRecDepth 20000 in
theorem W_X12_row {T : List Shp} {c : Nat → Int → Int} {Q : Res → Prop} (k : (((c 77 9) = 0 → ((-2147483648 ≤ (c 78 6) + 1 ∧ (c 78 6) + 1 < 2147483648) ∧ Q (some (some (vI (-6)), (SH T, (up (up (up (up c 77 0 0) 77 9 0) 77 1 (-6)) 78 6 ((c 78 6) + 1))))))) ∧ (¬ (c 77 9) = 0 → Q (cev 212 3 42 [vR 78, vI (c 77 9), vI 0, vI 0] [] (SH T, (up (up (up (up c 77 0 0) 77 9 0) 77 7 0) 79 4 0)))))) : Q (ccal 212 [vR 78] (SH T, c)) := by
  refine of_cev (Q := Q) ?_
  refine wq_ite (Q := Q) (p := (c 77 9) = 0) (fun h => ?_) (fun h => ?_)
  · replace k := k.1 h
    refine wq_sum (Q := Q) rfl (S_X12_tell_6 T (up (up c 77 0 0) 77 9 0) k.1) ?_
    replace k := k.2
    exact k
  · replace k := k.2 h
    show Q (cev 212 3 26 [vR 78, vI (c 77 9), vU, vU] [] (SH T, (up (up c 77 0 0) 77 9 0)))
    refine of_cev (Q := Q) ?_
    exact k
set_option maxRecDepth 20000 in
theorem W_X12_row_42 {T : List Shp} {c : Nat → Int → Int} {Q : Res → Prop} {x1 x2 x3 : Int} (k : ((x3 < x1 → ((x3 < 12 → ((0 ≤ x3 ∧ x3 < 400) ∧ ((0 ≤ (c 83 x3) ∧ (c 83 x3) < 10 → (((-2147483648 ≤ 12 + x3 ∧ 12 + x3 < 2147483648) ∧ (0 ≤ x3 ∧ x3 < 400) ∧ (0 ≤ (12 + x3) ∧ (12 + x3) < 5780) ∧ (-2147483648 ≤ x2 + 1 ∧ x2 + 1 < 2147483648) ∧ (-2147483648 ≤ x3 + 1 ∧ x3 + 1 < 2147483648)) ∧ Q (cev 212 3 42 [vR 78, vI x1, vI (x2 + 1), vI (x3 + 1)] [] (SH T, (up c 79 (12 + x3) (c 83 x3)))))) ∧ (¬ (0 ≤ (c 83 x3) ∧ (c 83 x3) < 10) → (((-2147483648 ≤ (c 77 7) + 1 ∧ (c 77 7) + 1 < 2147483648) ∧ (-2147483648 ≤ x3 + 1 ∧ x3 + 1 < 2147483648)) ∧ Q (cev 212 3 42 [vR 78, vI x1, vI x2, vI (x3 + 1)] [] (SH T, (up c 77 7 ((c 77 7) + 1))))))))) ∧ (¬ x3 < 12 → (((-2147483648 ≤ (c 77 7) + 1 ∧ (c 77 7) + 1 < 2147483648) ∧ (-2147483648 ≤ x3 + 1 ∧ x3 + 1 < 2147483648)) ∧ Q (cev 212 3 42 [vR 78, vI x1, vI x2, vI (x3 + 1)] [] (SH T, (up c 77 7 ((c 77 7) + 1)))))))) ∧ (¬ x3 < x1 → ((0 ≤ x2) ∧ Q (some (some (vI x2), (SH T, (up c 77 1 0)))))))) : Q (cev 212 3 42 [vR 78, vI x1, vI x2, vI x3] [] (SH T, c)) := by
  refine of_cev (Q := Q) ?_
  refine wq_ite (Q := Q) (p := x3 < x1) (fun h => ?_) (fun h => ?_)
  · replace k := k.1 h
    refine wq_ite (Q := Q) (p := x3 < 12) (fun h => ?_) (fun h => ?_)
    · replace k := k.1 h
      refine wq_pos (Q := Q) k.1 ?_
      refine wq_sum (Q := Q) rfl (S_X12_isTone T c (c 83 x3)) ?_
      replace k := k.2
      refine wq_b01 (Q := Q) (p := 0 ≤ (c 83 x3) ∧ (c 83 x3) < 10) (fun h => ?_) (fun h => ?_)
      · replace k := k.2 h
        show Q (cev 212 3 86 [vR 78, vI x1, vI x2, vI x3] [] (SH T, c))
        refine of_cev (Q := Q) ?_
        refine wq_pos (Q := Q) k.1.1 ?_
        refine wq_pos (Q := Q) k.1.2 ?_
        replace k := k.2
        exact k
      · replace k := k.1 h
        refine wq_pos (Q := Q) k.1.1 ?_
        refine wq_pos (Q := Q) k.1.2.1 ?_
        refine wq_pos (Q := Q) k.1.2.2.1 ?_
        refine wq_pos (Q := Q) k.1.2.2.2.1 ?_
        refine wq_pos (Q := Q) k.1.2.2.2.2 ?_
        replace k := k.2
        exact k
    · replace k := k.2 h
      show Q (cev 212 3 86 [vR 78, vI x1, vI x2, vI x3] [] (SH T, c))
      refine of_cev (Q := Q) ?_
      refine wq_pos (Q := Q) k.1.1 ?_
      refine wq_pos (Q := Q) k.1.2 ?_
      replace k := k.2
      exact k
  · replace k := k.2 h
    show Q (cev 212 3 102 [vR 78, vU, vI x2, vU] [] (SH T, c))
    refine of_cev (Q := Q) ?_
    refine wq_sum (Q := Q) rfl (S_X12_tell T c x2 k.1) ?_
    replace k := k.2
    exact k
set_option maxRecDepth 20000 in
theorem W_X12_flakes {T : List Shp} {c : Nat → Int → Int} {Q : Res → Prop} (k : Q (some (some (vI (c 77 7)), (SH T, (up c 77 0 0))))) : Q (ccal 213 [vR 78] (SH T, c)) := by
  refine of_cev (Q := Q) ?_
  exact k
set_option maxRecDepth 20000 in
theorem W_X12_four {T : List Shp} {c : Nat → Int → Int} {Q : Res → Prop} {x1 : Int} (k : Q (cev 214 1 3 [vR 78, vI x1, vI 24] [] (SH T, c))) : Q (ccal 214 [vR 78, vI x1] (SH T, c)) := by
  refine of_cev (Q := Q) ?_
  exact k
set_option maxRecDepth 20000 in
theorem W_X12_four_3 {T : List Shp} {c : Nat → Int → Int} {Q : Res → Prop} {x1 x2 : Int} (k : ((x2 < 0 → Q (some (none, (SH T, c)))) ∧ (¬ x2 < 0 → (((0 ≤ (c 77 9) ∧ (c 77 9) < 400) ∧ (-2147483648 ≤ (c 77 9) + 1 ∧ (c 77 9) + 1 < 2147483648) ∧ (-2147483648 ≤ x2 + (-8) ∧ x2 + (-8) < 2147483648)) ∧ Q (cev 214 1 3 [vR 78, vI x1, vI (x2 + (-8))] [] (SH T, (up (up c 83 (c 77 9) (iand (ishr x1 x2) 255)) 77 9 ((c 77 9) + 1)))))))) : Q (cev 214 1 3 [vR 78, vI x1, vI x2] [] (SH T, c)) := by
  refine of_cev (Q := Q) ?_
  refine wq_ite (Q := Q) (p := x2 < 0) (fun h => ?_) (fun h => ?_)
  · replace k := k.1 h
    show Q (cev 214 1 39 [vU, vU, vU] [] (SH T, c))
    refine of_cev (Q := Q) ?_
    exact k
  · replace k := k.2 h
    refine wq_pos (Q := Q) k.1.1 ?_
    refine wq_pos (Q := Q) k.1.2.1 ?_
    refine wq_pos (Q := Q) k.1.2.2 ?_
    replace k := k.2
    exact k
set_option maxRecDepth 20000 in
theorem W_X12_feed {T : List Shp} {c : Nat → Int → Int} {Q : Res → Prop} {x1 x2 x3 x4 x5 : Int} (k : ((-2147483648 ≤ (c 77 9) + 20 ∧ (c 77 9) + 20 < 2147483648) ∧ ((400 < ((c 77 9) + 20) → Q (some (some (vI (-1)), (SH T, (up c 77 0 0))))) ∧ (¬ 400 < ((c 77 9) + 20) → (QV T (fun c1 => (QV T (fun c2 => (QV T (fun c3 => (QV T (fun c4 => (QV T (fun c5 => Q (some (some (vI (c5 77 9)), (SH T, c5)))) (ccal 214 [vR 78, vI x5] (SH T, c4)))) (ccal 214 [vR 78, vI x4] (SH T, c3)))) (ccal 214 [vR 78, vI x3] (SH T, c2)))) (ccal 214 [vR 78, vI x2] (SH T, c1)))) (ccal 214 [vR 78, vI x1] (SH T, (up c 77 0 0)))))))) : Q (ccal 215 [vR 78, vI x1, vI x2, vI x3, vI x4, vI x5] (SH T, c)) := by
  refine of_cev (Q := Q) ?_
  refine wq_pos (Q := Q) k.1 ?_
  replace k := k.2
  refine wq_ite (Q := Q) (p := 400 < ((c 77 9) + 20)) (fun h => ?_) (fun h => ?_)
  · replace k := k.1 h
    exact k
  · replace k := k.2 h
    show Q (cev 215 2 20 [vR 78, vI x1, vI x2, vI x3, vI x4, vI x5] [] (SH T, (up c 77 0 0)))
    refine of_cev (Q := Q) ?_
    refine wq_callV (Q := Q) rfl k ?_
    intro c1 k
    refine wq_callV (Q := Q) rfl k ?_
    intro c2 k
    refine wq_callV (Q := Q) rfl k ?_
    intro c3 k
    refine wq_callV (Q := Q) rfl k ?_
    intro c4 k
    refine wq_callV (Q := Q) rfl k ?_
    intro c5 k
    exact k
set_option maxRecDepth 20000 in
theorem W_X12_end {T : List Shp} {c : Nat → Int → Int} {Q : Res → Prop} {x1 : Int} (k : ((x1 < 0 → Q (some (some (vI (-1)), (SH T, (up c 77 0 0))))) ∧ (¬ x1 < 0 → (((c 77 9) < x1 → Q (some (some (vI (-1)), (SH T, (up c 77 0 0))))) ∧ (¬ (c 77 9) < x1 → Q (some (some (vI x1), (SH T, (up (up c 77 0 0) 77 9 x1))))))))) : Q (ccal 216 [vR 78, vI x1] (SH T, c)) := by
  refine of_cev (Q := Q) ?_
  refine wq_ite (Q := Q) (p := x1 < 0) (fun h => ?_) (fun h => ?_)
  · replace k := k.1 h
    show Q (cev 216 1 17 [vU, vU] [] (SH T, (up c 77 0 0)))
    refine of_cev (Q := Q) ?_
    exact k
  · replace k := k.2 h
    refine wq_ite (Q := Q) (p := (c 77 9) < x1) (fun h => ?_) (fun h => ?_)
    · replace k := k.1 h
      show Q (cev 216 1 17 [vU, vU] [] (SH T, (up c 77 0 0)))
      refine of_cev (Q := Q) ?_
      exact k
    · replace k := k.2 h
      show Q (cev 216 1 19 [vR 78, vI x1] [] (SH T, (up c 77 0 0)))
      refine of_cev (Q := Q) ?_
      exact k
set_option maxRecDepth 20000 in
theorem W_X12_begin {T : List Shp} {c : Nat → Int → Int} {Q : Res → Prop} (k : (QV T (fun c1 => Q (some (none, (SH T, c1)))) (ccal 220 [vR 78] (SH T, (up (up (up c 77 11 0) 77 15 0) 77 14 (-1)))))) : Q (ccal 219 [vR 78] (SH T, c)) := by
  refine of_cev (Q := Q) ?_
  refine wq_callV (Q := Q) rfl k ?_
  intro c1 k
  exact k
set_option maxRecDepth 20000 in
theorem W_X12_next {T : List Shp} {c : Nat → Int → Int} {Q : Res → Prop} (k : Q (cev 220 2 8 [vR 78] [] (SH T, (up c 77 10 (c 77 11))))) : Q (ccal 220 [vR 78] (SH T, c)) := by
  refine of_cev (Q := Q) ?_
  exact k
set_option maxRecDepth 20000 in
theorem W_X12_next_8 {T : List Shp} {c : Nat → Int → Int} {Q : Res → Prop} (k : (((c 77 10) < (c 77 9) → ((0 ≤ (c 77 10) ∧ (c 77 10) < 400) ∧ (((c 83 (c 77 10)) = 32 → ((-2147483648 ≤ (c 77 10) + 1 ∧ (c 77 10) + 1 < 2147483648) ∧ Q (cev 220 2 8 [vR 78] [] (SH T, (up c 77 10 ((c 77 10) + 1)))))) ∧ (¬ (c 83 (c 77 10)) = 32 → Q (cev 220 2 46 [vR 78] [] (SH T, c)))))) ∧ (¬ (c 77 10) < (c 77 9) → Q (cev 220 2 46 [vR 78] [] (SH T, c))))) : Q (cev 220 2 8 [vR 78] [] (SH T, c)) := by
  refine of_cev (Q := Q) ?_
  refine wq_ite (Q := Q) (p := (c 77 10) < (c 77 9)) (fun h => ?_) (fun h => ?_)
  · replace k := k.1 h
    refine wq_pos (Q := Q) k.1 ?_
    replace k := k.2
    refine wq_ite (Q := Q) (p := (c 83 (c 77 10)) = 32) (fun h => ?_) (fun h => ?_)
    · replace k := k.1 h
      refine wq_pos (Q := Q) k.1 ?_
      replace k := k.2
      exact k
    · replace k := k.2 h
      exact k
  · replace k := k.2 h
    exact k
set_option maxRecDepth 20000 in
theorem W_X12_next_46 {T : List Shp} {c : Nat → Int → Int} {Q : Res → Prop} (k : (((c 77 10) = (c 77 9) → Q (cev 220 2 114 [vR 78] [vI 0, vR 78] (SH T, (up (up c 77 11 (c 77 10)) 77 13 0)))) ∧ (¬ (c 77 10) = (c 77 9) → ((0 ≤ (c 77 10) ∧ (c 77 10) < 400) ∧ ((97 ≤ (c 83 (c 77 10)) ∧ (c 83 (c 77 10)) ≤ 122 → Q (cev 220 2 114 [vR 78] [vI 1, vR 78] (SH T, (up (up c 77 11 (c 77 10)) 77 13 0)))) ∧ (¬ (97 ≤ (c 83 (c 77 10)) ∧ (c 83 (c 77 10)) ≤ 122) → ((0 ≤ (c 77 10) ∧ (c 77 10) < 400) ∧ ((48 ≤ (c 83 (c 77 10)) ∧ (c 83 (c 77 10)) ≤ 57 → Q (cev 220 2 114 [vR 78] [vI 2, vR 78] (SH T, (up (up c 77 11 (c 77 10)) 77 13 0)))) ∧ (¬ (48 ≤ (c 83 (c 77 10)) ∧ (c 83 (c 77 10)) ≤ 57) → Q (cev 220 2 114 [vR 78] [vI 3, vR 78] (SH T, (up (up c 77 11 (c 77 10)) 77 13 0)))))))))))) : Q (cev 220 2 46 [vR 78] [] (SH T, c)) := by
  refine of_cev (Q := Q) ?_
  refine wq_ite (Q := Q) (p := (c 77 10) = (c 77 9)) (fun h => ?_) (fun h => ?_)
  · replace k := k.1 h
    exact k
  · replace k := k.2 h
    show Q (cev 220 2 75 [vR 78] [vR 78] (SH T, (up (up c 77 11 (c 77 10)) 77 13 0)))
    refine of_cev (Q := Q) ?_
    refine wq_pos (Q := Q) k.1 ?_
    refine wq_sum (Q := Q) rfl (S_X12_isSmall T (up (up c 77 11 (c 77 10)) 77 13 0) (c 83 (c 77 10))) ?_
    replace k := k.2
    refine wq_b01 (Q := Q) (p := 97 ≤ (c 83 (c 77 10)) ∧ (c 83 (c 77 10)) ≤ 122) (fun h => ?_) (fun h => ?_)
    · replace k := k.2 h
      show Q (cev 220 2 94 [vR 78] [vR 78] (SH T, (up (up c 77 11 (c 77 10)) 77 13 0)))
      refine of_cev (Q := Q) ?_
      refine wq_pos (Q := Q) k.1 ?_
      refine wq_sum (Q := Q) rfl (S_X12_isDigit T (up (up c 77 11 (c 77 10)) 77 13 0) (c 83 (c 77 10))) ?_
      replace k := k.2
      refine wq_b01 (Q := Q) (p := 48 ≤ (c 83 (c 77 10)) ∧ (c 83 (c 77 10)) ≤ 57) (fun h => ?_) (fun h => ?_)
      · replace k := k.2 h
        show Q (cev 220 2 113 [vR 78] [vR 78] (SH T, (up (up c 77 11 (c 77 10)) 77 13 0)))
        refine of_cev (Q := Q) ?_
        exact k
      · replace k := k.1 h
        exact k
    · replace k := k.1 h
      exact k
set_option maxRecDepth 20000 in
theorem W_X12_next_114 {T : List Shp} {c : Nat → Int → Int} {Q : Res → Prop} {y0 : Int} (k : ((y0 = 3 → (((0 ≤ (c 77 10) ∧ (c 77 10) < 400) ∧ (-2147483648 ≤ (c 77 11) + 1 ∧ (c 77 11) + 1 < 2147483648)) ∧ Q (cev 220 2 149 [vR 78] [] (SH T, (up (up (up c 77 12 y0) 77 13 (c 83 (c 77 10))) 77 11 ((c 77 11) + 1)))))) ∧ (¬ y0 = 3 → Q (cev 220 2 149 [vR 78] [] (SH T, (up c 77 12 y0)))))) : Q (cev 220 2 114 [vR 78] [vI y0, vR 78] (SH T, c)) := by
  refine of_cev (Q := Q) ?_
  refine wq_ite (Q := Q) (p := y0 = 3) (fun h => ?_) (fun h => ?_)
  · replace k := k.1 h
    refine wq_pos (Q := Q) k.1.1 ?_
    refine wq_pos (Q := Q) k.1.2 ?_
    replace k := k.2
    exact k
  · replace k := k.2 h
    exact k
set_option maxRecDepth 20000 in
theorem W_X12_next_149 {T : List Shp} {c : Nat → Int → Int} {Q : Res → Prop} (k : (((c 77 12) = 1 → (((c 77 11) < (c 77 9) → ((0 ≤ (c 77 11) ∧ (c 77 11) < 400) ∧ ((97 ≤ (c 83 (c 77 11)) ∧ (c 83 (c 77 11)) ≤ 122 → ((-2147483648 ≤ (c 77 11) - (c 77 10) ∧ (c 77 11) - (c 77 10) < 2147483648) ∧ ((((c 77 11) - (c 77 10)) < 10 → (((-9223372036854775808 ≤ (c 77 13) * 32 ∧ (c 77 13) * 32 < 9223372036854775808) ∧ (0 ≤ (c 77 11) ∧ (c 77 11) < 400) ∧ (-9223372036854775808 ≤ ((c 77 13) * 32) + (c 83 (c 77 11)) ∧ ((c 77 13) * 32) + (c 83 (c 77 11)) < 9223372036854775808) ∧ (-9223372036854775808 ≤ (((c 77 13) * 32) + (c 83 (c 77 11))) - 96 ∧ (((c 77 13) * 32) + (c 83 (c 77 11))) - 96 < 9223372036854775808) ∧ (-2147483648 ≤ (c 77 11) + 1 ∧ (c 77 11) + 1 < 2147483648)) ∧ Q (cev 220 2 149 [vR 78] [] (SH T, (up (up c 77 13 ((((c 77 13) * 32) + (c 83 (c 77 11))) - 96)) 77 11 ((c 77 11) + 1)))))) ∧ (¬ ((c 77 11) - (c 77 10)) < 10 → ((-2147483648 ≤ (c 77 11) + 1 ∧ (c 77 11) + 1 < 2147483648) ∧ Q (cev 220 2 149 [vR 78] [] (SH T, (up (up c 77 13 (-1)) 77 11 ((c 77 11) + 1))))))))) ∧ (¬ (97 ≤ (c 83 (c 77 11)) ∧ (c 83 (c 77 11)) ≤ 122) → Q (cev 220 2 243 [vR 78] [] (SH T, c)))))) ∧ (¬ (c 77 11) < (c 77 9) → Q (cev 220 2 243 [vR 78] [] (SH T, c))))) ∧ (¬ (c 77 12) = 1 → Q (cev 220 2 243 [vR 78] [] (SH T, c))))) : Q (cev 220 2 149 [vR 78] [] (SH T, c)) := by
  refine of_cev (Q := Q) ?_
  refine wq_ite (Q := Q) (p := (c 77 12) = 1) (fun h => ?_) (fun h => ?_)
  · replace k := k.1 h
    refine wq_ite (Q := Q) (p := (c 77 11) < (c 77 9)) (fun h => ?_) (fun h => ?_)
    · replace k := k.1 h
      refine wq_pos (Q := Q) k.1 ?_
      refine wq_sum (Q := Q) rfl (S_X12_isSmall T c (c 83 (c 77 11))) ?_
      replace k := k.2
      refine wq_b01 (Q := Q) (p := 97 ≤ (c 83 (c 77 11)) ∧ (c 83 (c 77 11)) ≤ 122) (fun h => ?_) (fun h => ?_)
      · replace k := k.2 h
        exact k
      · replace k := k.1 h
        refine wq_pos (Q := Q) k.1 ?_
        replace k := k.2
        refine wq_ite (Q := Q) (p := ((c 77 11) - (c 77 10)) < 10) (fun h => ?_) (fun h => ?_)
        · replace k := k.1 h
          refine wq_pos (Q := Q) k.1.1 ?_
          refine wq_pos (Q := Q) k.1.2.1 ?_
          refine wq_pos (Q := Q) k.1.2.2.1 ?_
          refine wq_pos (Q := Q) k.1.2.2.2.1 ?_
          show Q (cev 220 2 227 [vR 78] [vL ((((c 77 13) * 32) + (c 83 (c 77 11))) - 96), vR 78] (SH T, c))
          refine of_cev (Q := Q) ?_
          refine wq_pos (Q := Q) k.1.2.2.2.2 ?_
          replace k := k.2
          exact k
        · replace k := k.2 h
          show Q (cev 220 2 224 [vR 78] [vR 78] (SH T, c))
          refine of_cev (Q := Q) ?_
          show Q (cev 220 2 227 [vR 78] [vL (-1), vR 78] (SH T, c))
          refine of_cev (Q := Q) ?_
          refine wq_pos (Q := Q) k.1 ?_
          replace k := k.2
          exact k
    · replace k := k.2 h
      exact k
  · replace k := k.2 h
    exact k
set_option maxRecDepth 20000 in
theorem W_X12_next_243 {T : List Shp} {c : Nat → Int → Int} {Q : Res → Prop} (k : (((c 77 12) = 2 → (((c 77 11) < (c 77 9) → ((0 ≤ (c 77 11) ∧ (c 77 11) < 400) ∧ ((48 ≤ (c 83 (c 77 11)) ∧ (c 83 (c 77 11)) ≤ 57 → ((1000000 < (c 77 13) → ((-2147483648 ≤ (c 77 11) + 1 ∧ (c 77 11) + 1 < 2147483648) ∧ Q (cev 220 2 243 [vR 78] [] (SH T, (up (up c 77 13 (c 77 13)) 77 11 ((c 77 11) + 1)))))) ∧ (¬ 1000000 < (c 77 13) → (((-9223372036854775808 ≤ (c 77 13) * 10 ∧ (c 77 13) * 10 < 9223372036854775808) ∧ (0 ≤ (c 77 11) ∧ (c 77 11) < 400) ∧ (-9223372036854775808 ≤ ((c 77 13) * 10) + (c 83 (c 77 11)) ∧ ((c 77 13) * 10) + (c 83 (c 77 11)) < 9223372036854775808) ∧ (-9223372036854775808 ≤ (((c 77 13) * 10) + (c 83 (c 77 11))) - 48 ∧ (((c 77 13) * 10) + (c 83 (c 77 11))) - 48 < 9223372036854775808) ∧ (-2147483648 ≤ (c 77 11) + 1 ∧ (c 77 11) + 1 < 2147483648)) ∧ Q (cev 220 2 243 [vR 78] [] (SH T, (up (up c 77 13 ((((c 77 13) * 10) + (c 83 (c 77 11))) - 48)) 77 11 ((c 77 11) + 1)))))))) ∧ (¬ (48 ≤ (c 83 (c 77 11)) ∧ (c 83 (c 77 11)) ≤ 57) → Q (some (none, (SH T, c))))))) ∧ (¬ (c 77 11) < (c 77 9) → Q (some (none, (SH T, c)))))) ∧ (¬ (c 77 12) = 2 → Q (some (none, (SH T, c)))))) : Q (cev 220 2 243 [vR 78] [] (SH T, c)) := by
  refine of_cev (Q := Q) ?_
  refine wq_ite (Q := Q) (p := (c 77 12) = 2) (fun h => ?_) (fun h => ?_)
  · replace k := k.1 h
    refine wq_ite (Q := Q) (p := (c 77 11) < (c 77 9)) (fun h => ?_) (fun h => ?_)
    · replace k := k.1 h
      refine wq_pos (Q := Q) k.1 ?_
      refine wq_sum (Q := Q) rfl (S_X12_isDigit T c (c 83 (c 77 11))) ?_
      replace k := k.2
      refine wq_b01 (Q := Q) (p := 48 ≤ (c 83 (c 77 11)) ∧ (c 83 (c 77 11)) ≤ 57) (fun h => ?_) (fun h => ?_)
      · replace k := k.2 h
        show Q (cev 220 2 335 [vU] [] (SH T, c))
        refine of_cev (Q := Q) ?_
        exact k
      · replace k := k.1 h
        refine wq_lc5 (Q := Q) (x := (c 77 13)) (y := 1000000) (fun h => ?_) (fun h => ?_)
        · replace k := k.1 h
          show Q (cev 220 2 319 [vR 78] [vL (c 77 13), vR 78] (SH T, c))
          refine of_cev (Q := Q) ?_
          refine wq_pos (Q := Q) k.1 ?_
          replace k := k.2
          exact k
        · replace k := k.2 h
          show Q (cev 220 2 296 [vR 78] [vR 78] (SH T, c))
          refine of_cev (Q := Q) ?_
          refine wq_pos (Q := Q) k.1.1 ?_
          refine wq_pos (Q := Q) k.1.2.1 ?_
          refine wq_pos (Q := Q) k.1.2.2.1 ?_
          refine wq_pos (Q := Q) k.1.2.2.2.1 ?_
          show Q (cev 220 2 319 [vR 78] [vL ((((c 77 13) * 10) + (c 83 (c 77 11))) - 48), vR 78] (SH T, c))
          refine of_cev (Q := Q) ?_
          refine wq_pos (Q := Q) k.1.2.2.2.2 ?_
          replace k := k.2
          exact k
    · replace k := k.2 h
      show Q (cev 220 2 335 [vU] [] (SH T, c))
      refine of_cev (Q := Q) ?_
      exact k
  · replace k := k.2 h
    show Q (cev 220 2 335 [vU] [] (SH T, c))
    refine of_cev (Q := Q) ?_
    exact k
set_option maxRecDepth 20000 in
theorem W_X12_must {T : List Shp} {c : Nat → Int → Int} {Q : Res → Prop} {x1 : Int} (k : (((c 77 15) = 0 → ((x1 = 0 → Q (cev 223 3 24 [vR 78, vU] [] (SH T, (up (up c 77 15 1) 77 14 (c 77 10))))) ∧ (¬ x1 = 0 → Q (cev 223 3 24 [vR 78, vU] [] (SH T, c))))) ∧ (¬ (c 77 15) = 0 → Q (cev 223 3 24 [vR 78, vU] [] (SH T, c))))) : Q (ccal 223 [vR 78, vI x1] (SH T, c)) := by
  refine of_cev (Q := Q) ?_
  refine wq_ite (Q := Q) (p := (c 77 15) = 0) (fun h => ?_) (fun h => ?_)
  · replace k := k.1 h
    refine wq_ite (Q := Q) (p := x1 = 0) (fun h => ?_) (fun h => ?_)
    · replace k := k.1 h
      exact k
    · replace k := k.2 h
      exact k
  · replace k := k.2 h
    exact k
set_option maxRecDepth 20000 in
theorem W_X12_must_24 {T : List Shp} {c : Nat → Int → Int} {Q : Res → Prop} (k : (((c 77 15) = 0 → (QV T (fun c1 => Q (some (none, (SH T, c1)))) (ccal 220 [vR 78] (SH T, c)))) ∧ (¬ (c 77 15) = 0 → Q (some (none, (SH T, c)))))) : Q (cev 223 3 24 [vR 78, vU] [] (SH T, c)) := by
  refine of_cev (Q := Q) ?_
  refine wq_ite (Q := Q) (p := (c 77 15) = 0) (fun h => ?_) (fun h => ?_)
  · replace k := k.1 h
    refine wq_callV (Q := Q) rfl k ?_
    intro c1 k
    show Q (cev 223 3 35 [vU, vU] [] (SH T, c1))
    refine of_cev (Q := Q) ?_
    exact k
  · replace k := k.2 h
    show Q (cev 223 3 35 [vU, vU] [] (SH T, c))
    refine of_cev (Q := Q) ?_
    exact k
set_option maxRecDepth 20000 in
theorem W_X12_number {T : List Shp} {c : Nat → Int → Int} {Q : Res → Prop} {x1 x3 : Int} (k : (((c 77 12) = 2 → ((x1 ≤ (c 77 13) ∧ (c 77 13) ≤ x3 → (QV T (fun c1 => Q (some (some (vI (w32 (c 77 13))), (SH T, c1)))) (ccal 223 [vR 78, vI 1] (SH T, c)))) ∧ (¬ (x1 ≤ (c 77 13) ∧ (c 77 13) ≤ x3) → Q (cev 224 4 32 [vU, vU, vU, vU, vU, vI (w32 (c 77 13))] [vR 78] (SH T, c))))) ∧ (¬ (c 77 12) = 2 → Q (cev 224 4 32 [vU, vU, vU, vU, vU, vI (w32 (c 77 13))] [vR 78] (SH T, c))))) : Q (ccal 224 [vR 78, vL x1, vL x3] (SH T, c)) := by
  refine of_cev (Q := Q) ?_
  refine wq_ite (Q := Q) (p := (c 77 12) = 2) (fun h => ?_) (fun h => ?_)
  · replace k := k.1 h
    refine wq_sum (Q := Q) rfl (S_X12_in T c (c 77 13) x1 x3) ?_
    refine wq_b01 (Q := Q) (p := x1 ≤ (c 77 13) ∧ (c 77 13) ≤ x3) (fun h => ?_) (fun h => ?_)
    · replace k := k.2 h
      exact k
    · replace k := k.1 h
      refine wq_callV (Q := Q) rfl k ?_
      intro c1 k
      exact k
  · replace k := k.2 h
    exact k
set_option maxRecDepth 20000 in
theorem W_X12_number_32 {T : List Shp} {c : Nat → Int → Int} {Q : Res → Prop} {x5 : Int} (k : (QV T (fun c1 => Q (some (some (vI x5), (SH T, c1)))) (ccal 223 [vR 78, vI 0] (SH T, c)))) : Q (cev 224 4 32 [vU, vU, vU, vU, vU, vI x5] [vR 78] (SH T, c)) := by
  refine of_cev (Q := Q) ?_
  refine wq_callV (Q := Q) rfl k ?_
  intro c1 k
  exact k
set_option maxRecDepth 20000 in
theorem W_X12_fault {T : List Shp} {c : Nat → Int → Int} {Q : Res → Prop} (k : Q (some (some (vI (c 77 14)), (SH T, (up c 77 0 0))))) : Q (ccal 225 [vR 78] (SH T, c)) := by
  refine of_cev (Q := Q) ?_
  exact k
set_option maxRecDepth 20000 in
theorem W_X12_settle {T : List Shp} {c : Nat → Int → Int} {Q : Res → Prop} {x1 : Int} (k : ((0 < (c 77 25) → (((-2147483648 ≤ (c 77 25) - 1 ∧ (c 77 25) - 1 < 2147483648) ∧ (0 ≤ ((c 77 25) - 1) ∧ ((c 77 25) - 1) < 400)) ∧ (((bnd (c 87 ((c 77 25) - 1))) < x1 → Q (some (none, (SH T, c)))) ∧ (¬ (bnd (c 87 ((c 77 25) - 1))) < x1 → (((-2147483648 ≤ (c 77 25) - 1 ∧ (c 77 25) - 1 < 2147483648) ∧ (0 ≤ ((c 77 25) - 1) ∧ ((c 77 25) - 1) < 400)) ∧ (((c 87 ((c 77 25) - 1)) = 28 → Q (cev 229 2 63 [vR 78, vI x1] [] (SH T, (up c 77 25 ((c 77 25) - 1))))) ∧ (¬ (c 87 ((c 77 25) - 1)) = 28 → ((0 ≤ ((c 77 25) - 1) ∧ ((c 77 25) - 1) < 400) ∧ (((c 87 ((c 77 25) - 1)) = 29 → Q (cev 229 2 63 [vR 78, vI x1] [] (SH T, (up c 77 25 ((c 77 25) - 1))))) ∧ (¬ (c 87 ((c 77 25) - 1)) = 29 → (((0 ≤ ((c 77 25) - 1) ∧ ((c 77 25) - 1) < 400) ∧ (0 ≤ (c 77 19) ∧ (c 77 19) < 400)) ∧ Q (cev 229 2 0 [vR 78, vI x1] [] (SH T, (up (up (up (up c 77 25 ((c 77 25) - 1)) 85 (c 77 19) (c 87 ((c 77 25) - 1))) 86 (c 77 19) 0) 77 19 ((c 77 19) + 1))))))))))))))) ∧ (¬ 0 < (c 77 25) → Q (some (none, (SH T, c)))))) : Q (ccal 229 [vR 78, vI x1] (SH T, c)) := by
  refine of_cev (Q := Q) ?_
  refine wq_ite (Q := Q) (p := 0 < (c 77 25)) (fun h => ?_) (fun h => ?_)
  · replace k := k.1 h
    refine wq_pos (Q := Q) k.1.1 ?_
    refine wq_pos (Q := Q) k.1.2 ?_
    refine wq_sum (Q := Q) rfl (S_X12_binds T c (c 87 ((c 77 25) - 1))) ?_
    replace k := k.2
    refine wq_ite (Q := Q) (p := (bnd (c 87 ((c 77 25) - 1))) < x1) (fun h => ?_) (fun h => ?_)
    · replace k := k.1 h
      show Q (cev 229 2 101 [vU, vU] [] (SH T, c))
      refine of_cev (Q := Q) ?_
      exact k
    · replace k := k.2 h
      refine wq_pos (Q := Q) k.1.1 ?_
      refine wq_pos (Q := Q) k.1.2 ?_
      replace k := k.2
      refine wq_ite (Q := Q) (p := (c 87 ((c 77 25) - 1)) = 28) (fun h => ?_) (fun h => ?_)
      · replace k := k.1 h
        exact k
      · replace k := k.2 h
        refine wq_pos (Q := Q) k.1 ?_
        replace k := k.2
        refine wq_ite (Q := Q) (p := (c 87 ((c 77 25) - 1)) = 29) (fun h => ?_) (fun h => ?_)
        · replace k := k.1 h
          exact k
        · replace k := k.2 h
          show Q (cev 229 2 84 [vR 78, vI x1] [] (SH T, (up c 77 25 ((c 77 25) - 1))))
          refine of_cev (Q := Q) ?_
          refine wq_pos (Q := Q) k.1.1 ?_
          refine wq_sum (Q := Q) rfl (S_X12_emit T (up c 77 25 ((c 77 25) - 1)) (c 87 ((c 77 25) - 1)) 0 k.1.2) ?_
          replace k := k.2
          exact k
  · replace k := k.2 h
    show Q (cev 229 2 101 [vU, vU] [] (SH T, c))
    refine of_cev (Q := Q) ?_
    exact k
set_option maxRecDepth 20000 in
theorem W_X12_settle_63 {T : List Shp} {c : Nat → Int → Int} {Q : Res → Prop} {x1 : Int} (k : (((0 ≤ (c 77 25) ∧ (c 77 25) < 400) ∧ (0 ≤ (c 88 (c 77 25)) ∧ (c 88 (c 77 25)) < 400)) ∧ Q (cev 229 2 0 [vR 78, vI x1] [] (SH T, (up c 86 (c 88 (c 77 25)) (c 77 19)))))) : Q (cev 229 2 63 [vR 78, vI x1] [] (SH T, c)) := by
  refine of_cev (Q := Q) ?_
  refine wq_pos (Q := Q) k.1.1 ?_
  refine wq_pos (Q := Q) k.1.2 ?_
  replace k := k.2
  exact k
set_option maxRecDepth 20000 in
theorem W_X12_inner {T : List Shp} {c : Nat → Int → Int} {Q : Res → Prop} (k : Q (cev 230 1 4 [vR 78, vI (-1), vI 0] [] (SH T, c))) : Q (ccal 230 [vR 78] (SH T, c)) := by
  refine of_cev (Q := Q) ?_
  exact k
set_option maxRecDepth 20000 in
theorem W_X12_inner_4 {T : List Shp} {c : Nat → Int → Int} {Q : Res → Prop} {x1 x2 : Int} (k : ((x2 < (c 77 25) → ((0 ≤ x2 ∧ x2 < 400) ∧ (((c 87 x2) < 30 → ((-2147483648 ≤ x2 + 1 ∧ x2 + 1 < 2147483648) ∧ Q (cev 230 1 4 [vR 78, vI x1, vI (x2 + 1)] [] (SH T, c)))) ∧ (¬ (c 87 x2) < 30 → (((0 ≤ x2 ∧ x2 < 400) ∧ (-2147483648 ≤ x2 + 1 ∧ x2 + 1 < 2147483648)) ∧ Q (cev 230 1 4 [vR 78, vI (c 87 x2), vI (x2 + 1)] [] (SH T, c))))))) ∧ (¬ x2 < (c 77 25) → Q (some (some (vI x1), (SH T, c)))))) : Q (cev 230 1 4 [vR 78, vI x1, vI x2] [] (SH T, c)) := by
  refine of_cev (Q := Q) ?_
  refine wq_ite (Q := Q) (p := x2 < (c 77 25)) (fun h => ?_) (fun h => ?_)
  · replace k := k.1 h
    refine wq_pos (Q := Q) k.1 ?_
    replace k := k.2
    refine wq_ite (Q := Q) (p := (c 87 x2) < 30) (fun h => ?_) (fun h => ?_)
    · replace k := k.1 h
      show Q (cev 230 1 32 [vR 78, vI x1, vI x2] [] (SH T, c))
      refine of_cev (Q := Q) ?_
      refine wq_pos (Q := Q) k.1 ?_
      replace k := k.2
      exact k
    · replace k := k.2 h
      refine wq_pos (Q := Q) k.1.1 ?_
      refine wq_pos (Q := Q) k.1.2 ?_
      replace k := k.2
      exact k
  · replace k := k.2 h
    show Q (cev 230 1 40 [vU, vI x1, vU] [] (SH T, c))
    refine of_cev (Q := Q) ?_
    exact k
set_option maxRecDepth 20000 in
theorem W_X12_isCompared {T : List Shp} {c : Nat → Int → Int} {Q : Res → Prop} (k : ((-2147483648 ≤ (c 77 25) - 1 ∧ (c 77 25) - 1 < 2147483648) ∧ Q (cev 231 2 7 [vR 78, vI ((c 77 25) - 1)] [] (SH T, c)))) : Q (ccal 231 [vR 78] (SH T, c)) := by
  refine of_cev (Q := Q) ?_
  refine wq_pos (Q := Q) k.1 ?_
  replace k := k.2
  exact k
set_option maxRecDepth 20000 in
theorem W_X12_isCompared_7 {T : List Shp} {c : Nat → Int → Int} {Q : Res → Prop} {x1 : Int} (k : ((x1 < 0 → Q (cev 231 2 36 [vR 78, vI x1] [] (SH T, c))) ∧ (¬ x1 < 0 → ((0 ≤ x1 ∧ x1 < 400) ∧ ((20 ≤ (c 87 x1) ∧ (c 87 x1) ≤ 23 → ((-2147483648 ≤ x1 + (-1) ∧ x1 + (-1) < 2147483648) ∧ Q (cev 231 2 7 [vR 78, vI (x1 + (-1))] [] (SH T, c)))) ∧ (¬ (20 ≤ (c 87 x1) ∧ (c 87 x1) ≤ 23) → Q (cev 231 2 36 [vR 78, vI x1] [] (SH T, c)))))))) : Q (cev 231 2 7 [vR 78, vI x1] [] (SH T, c)) := by
  refine of_cev (Q := Q) ?_
  refine wq_ite (Q := Q) (p := x1 < 0) (fun h => ?_) (fun h => ?_)
  · replace k := k.1 h
    exact k
  · replace k := k.2 h
    refine wq_pos (Q := Q) k.1 ?_
    refine wq_sum (Q := Q) rfl (S_X12_in T c (c 87 x1) 20 23) ?_
    replace k := k.2
    refine wq_b01 (Q := Q) (p := 20 ≤ (c 87 x1) ∧ (c 87 x1) ≤ 23) (fun h => ?_) (fun h => ?_)
    · replace k := k.2 h
      exact k
    · replace k := k.1 h
      refine wq_pos (Q := Q) k.1 ?_
      replace k := k.2
      exact k
set_option maxRecDepth 20000 in
theorem W_X12_isCompared_36 {T : List Shp} {c : Nat → Int → Int} {Q : Res → Prop} {x1 : Int} (k : ((x1 < 0 → Q (some (some (vI 0), (SH T, c)))) ∧ (¬ x1 < 0 → ((0 ≤ x1 ∧ x1 < 400) ∧ ((24 ≤ (c 87 x1) ∧ (c 87 x1) ≤ 26 → Q (some (some (vI 1), (SH T, c)))) ∧ (¬ (24 ≤ (c 87 x1) ∧ (c 87 x1) ≤ 26) → Q (some (some (vI 0), (SH T, c))))))))) : Q (cev 231 2 36 [vR 78, vI x1] [] (SH T, c)) := by
  refine of_cev (Q := Q) ?_
  refine wq_ite (Q := Q) (p := x1 < 0) (fun h => ?_) (fun h => ?_)
  · replace k := k.1 h
    show Q (cev 231 2 63 [vU, vU] [] (SH T, c))
    refine of_cev (Q := Q) ?_
    exact k
  · replace k := k.2 h
    refine wq_pos (Q := Q) k.1 ?_
    refine wq_sum (Q := Q) rfl (S_X12_in T c (c 87 x1) 24 26) ?_
    replace k := k.2
    refine wq_b01 (Q := Q) (p := 24 ≤ (c 87 x1) ∧ (c 87 x1) ≤ 26) (fun h => ?_) (fun h => ?_)
    · replace k := k.2 h
      show Q (cev 231 2 63 [vU, vU] [] (SH T, c))
      refine of_cev (Q := Q) ?_
      exact k
    · replace k := k.1 h
      exact k
set_option maxRecDepth 20000 in
theorem W_X12_partAt {T : List Shp} {c : Nat → Int → Int} {Q : Res → Prop} (k : Q (cev 232 2 4 [vR 78, vI (-1), vI 0] [] (SH T, c))) : Q (ccal 232 [vR 78] (SH T, c)) := by
  refine of_cev (Q := Q) ?_
  exact k
set_option maxRecDepth 20000 in
theorem W_X12_partAt_4 {T : List Shp} {c : Nat → Int → Int} {Q : Res → Prop} {x1 x2 : Int} (k : ((x2 < 10 → ((0 ≤ x2 ∧ x2 < 10) ∧ (((c 77 12) = 1 ∧ (c 77 13) = (c 89 x2) → ((-2147483648 ≤ x2 + 1 ∧ x2 + 1 < 2147483648) ∧ Q (cev 232 2 4 [vR 78, vI (x2 + 1), vI (x2 + 1)] [] (SH T, c)))) ∧ (¬ ((c 77 12) = 1 ∧ (c 77 13) = (c 89 x2)) → ((-2147483648 ≤ x2 + 1 ∧ x2 + 1 < 2147483648) ∧ Q (cev 232 2 4 [vR 78, vI x1, vI (x2 + 1)] [] (SH T, c))))))) ∧ (¬ x2 < 10 → Q (some (some (vI x1), (SH T, c)))))) : Q (cev 232 2 4 [vR 78, vI x1, vI x2] [] (SH T, c)) := by
  refine of_cev (Q := Q) ?_
  refine wq_ite (Q := Q) (p := x2 < 10) (fun h => ?_) (fun h => ?_)
  · replace k := k.1 h
    refine wq_pos (Q := Q) k.1 ?_
    refine wq_sum (Q := Q) rfl (S_X12_isWord T c (c 89 x2)) ?_
    replace k := k.2
    refine wq_b01 (Q := Q) (p := (c 77 12) = 1 ∧ (c 77 13) = (c 89 x2)) (fun h => ?_) (fun h => ?_)
    · replace k := k.2 h
      show Q (cev 232 2 29 [vR 78, vI x1, vI x2] [] (SH T, c))
      refine of_cev (Q := Q) ?_
      refine wq_pos (Q := Q) k.1 ?_
      replace k := k.2
      exact k
    · replace k := k.1 h
      refine wq_pos (Q := Q) k.1 ?_
      refine wq_pos (Q := Q) k.1 ?_
      replace k := k.2
      exact k
  · replace k := k.2 h
    show Q (cev 232 2 37 [vU, vI x1, vU] [] (SH T, c))
    refine of_cev (Q := Q) ?_
    exact k
set_option maxRecDepth 20000 in
theorem W_X12_orderPartAt {T : List Shp} {c : Nat → Int → Int} {Q : Res → Prop} (k : Q (cev 233 2 4 [vR 78, vI (-1), vI 0] [] (SH T, c))) : Q (ccal 233 [vR 78] (SH T, c)) := by
  refine of_cev (Q := Q) ?_
  exact k
set_option maxRecDepth 20000 in
theorem W_X12_orderPartAt_4 {T : List Shp} {c : Nat → Int → Int} {Q : Res → Prop} {x1 x2 : Int} (k : ((x2 < 7 → ((0 ≤ x2 ∧ x2 < 7) ∧ (((c 77 12) = 1 ∧ (c 77 13) = (c 90 x2) → ((-2147483648 ≤ x2 + 1 ∧ x2 + 1 < 2147483648) ∧ Q (cev 233 2 4 [vR 78, vI (x2 + 1), vI (x2 + 1)] [] (SH T, c)))) ∧ (¬ ((c 77 12) = 1 ∧ (c 77 13) = (c 90 x2)) → ((-2147483648 ≤ x2 + 1 ∧ x2 + 1 < 2147483648) ∧ Q (cev 233 2 4 [vR 78, vI x1, vI (x2 + 1)] [] (SH T, c))))))) ∧ (¬ x2 < 7 → Q (some (some (vI x1), (SH T, c)))))) : Q (cev 233 2 4 [vR 78, vI x1, vI x2] [] (SH T, c)) := by
  refine of_cev (Q := Q) ?_
  refine wq_ite (Q := Q) (p := x2 < 7) (fun h => ?_) (fun h => ?_)
  · replace k := k.1 h
    refine wq_pos (Q := Q) k.1 ?_
    refine wq_sum (Q := Q) rfl (S_X12_isWord T c (c 90 x2)) ?_
    replace k := k.2
    refine wq_b01 (Q := Q) (p := (c 77 12) = 1 ∧ (c 77 13) = (c 90 x2)) (fun h => ?_) (fun h => ?_)
    · replace k := k.2 h
      show Q (cev 233 2 29 [vR 78, vI x1, vI x2] [] (SH T, c))
      refine of_cev (Q := Q) ?_
      refine wq_pos (Q := Q) k.1 ?_
      replace k := k.2
      exact k
    · replace k := k.1 h
      refine wq_pos (Q := Q) k.1 ?_
      refine wq_pos (Q := Q) k.1 ?_
      replace k := k.2
      exact k
  · replace k := k.2 h
    show Q (cev 233 2 37 [vU, vI x1, vU] [] (SH T, c))
    refine of_cev (Q := Q) ?_
    exact k
set_option maxRecDepth 20000 in
theorem W_X12_openBracket {T : List Shp} {c : Nat → Int → Int} {Q : Res → Prop} {x1 : Int} (k : (((c 77 26) < 8 → Q (cev 234 4 15 [vR 78, vI x1] [vI 1, vR 78] (SH T, c))) ∧ (¬ (c 77 26) < 8 → Q (cev 234 4 15 [vR 78, vI x1] [vI 0, vR 78] (SH T, c))))) : Q (ccal 234 [vR 78, vI x1] (SH T, c)) := by
  refine of_cev (Q := Q) ?_
  refine wq_ite (Q := Q) (p := (c 77 26) < 8) (fun h => ?_) (fun h => ?_)
  · replace k := k.1 h
    exact k
  · replace k := k.2 h
    show Q (cev 234 4 14 [vR 78, vI x1] [vR 78] (SH T, c))
    refine of_cev (Q := Q) ?_
    exact k
set_option maxRecDepth 20000 in
theorem W_X12_openBracket_15 {T : List Shp} {c : Nat → Int → Int} {Q : Res → Prop} {x1 y0 : Int} (k : (QV T (fun c1 => (((c1 77 15) = 0 → (((-2147483648 ≤ (c1 77 26) + 1 ∧ (c1 77 26) + 1 < 2147483648) ∧ (0 ≤ (c1 77 25) ∧ (c1 77 25) < 400)) ∧ Q (some (none, (SH T, (up (up (up (up c1 77 26 ((c1 77 26) + 1)) 87 (c1 77 25) x1) 88 (c1 77 25) 0) 77 25 ((c1 77 25) + 1))))))) ∧ (¬ (c1 77 15) = 0 → Q (some (none, (SH T, c1)))))) (ccal 223 [vR 78, vI y0] (SH T, c)))) : Q (cev 234 4 15 [vR 78, vI x1] [vI y0, vR 78] (SH T, c)) := by
  refine of_cev (Q := Q) ?_
  refine wq_callV (Q := Q) rfl k ?_
  intro c1 k
  refine wq_ite (Q := Q) (p := (c1 77 15) = 0) (fun h => ?_) (fun h => ?_)
  · replace k := k.1 h
    refine wq_pos (Q := Q) k.1.1 ?_
    refine wq_sum (Q := Q) rfl (S_X12_push T (up c1 77 26 ((c1 77 26) + 1)) x1 0 k.1.2) ?_
    show Q (cev 234 4 41 [vU, vU] [] (SH T, (up (up (up (up c1 77 26 ((c1 77 26) + 1)) 87 (c1 77 25) x1) 88 (c1 77 25) 0) 77 25 ((c1 77 25) + 1))))
    refine of_cev (Q := Q) ?_
    replace k := k.2
    exact k
  · replace k := k.2 h
    show Q (cev 234 4 41 [vU, vU] [] (SH T, c1))
    refine of_cev (Q := Q) ?_
    exact k
set_option maxRecDepth 20000 in
theorem W_X12_leaf {T : List Shp} {c : Nat → Int → Int} {Q : Res → Prop} {x1 x2 x3 : Int} (k : ((x1 = 0 → Q (cev 235 4 19 [vR 78, vU, vI x2, vI x3] [vI 0, vR 78] (SH T, c))) ∧ (¬ x1 = 0 → (((c 77 22) < 50 → Q (cev 235 4 19 [vR 78, vU, vI x2, vI x3] [vI 1, vR 78] (SH T, c))) ∧ (¬ (c 77 22) < 50 → Q (cev 235 4 19 [vR 78, vU, vI x2, vI x3] [vI 0, vR 78] (SH T, c))))))) : Q (ccal 235 [vR 78, vI x1, vI x2, vI x3] (SH T, c)) := by
  refine of_cev (Q := Q) ?_
  refine wq_ite (Q := Q) (p := x1 = 0) (fun h => ?_) (fun h => ?_)
  · replace k := k.1 h
    show Q (cev 235 4 18 [vR 78, vU, vI x2, vI x3] [vR 78] (SH T, c))
    refine of_cev (Q := Q) ?_
    exact k
  · replace k := k.2 h
    refine wq_ite (Q := Q) (p := (c 77 22) < 50) (fun h => ?_) (fun h => ?_)
    · replace k := k.1 h
      exact k
    · replace k := k.2 h
      show Q (cev 235 4 18 [vR 78, vU, vI x2, vI x3] [vR 78] (SH T, c))
      refine of_cev (Q := Q) ?_
      exact k
set_option maxRecDepth 20000 in
theorem W_X12_leaf_19 {T : List Shp} {c : Nat → Int → Int} {Q : Res → Prop} {x2 x3 y0 : Int} (k : (QV T (fun c1 => (((c1 77 15) = 0 → (((0 ≤ (c1 77 19) ∧ (c1 77 19) < 400) ∧ (-2147483648 ≤ (c1 77 22) + 1 ∧ (c1 77 22) + 1 < 2147483648)) ∧ Q (some (none, (SH T, (up (up (up (up c1 85 (c1 77 19) x2) 86 (c1 77 19) x3) 77 19 ((c1 77 19) + 1)) 77 22 ((c1 77 22) + 1))))))) ∧ (¬ (c1 77 15) = 0 → Q (some (none, (SH T, c1)))))) (ccal 223 [vR 78, vI y0] (SH T, c)))) : Q (cev 235 4 19 [vR 78, vU, vI x2, vI x3] [vI y0, vR 78] (SH T, c)) := by
  refine of_cev (Q := Q) ?_
  refine wq_callV (Q := Q) rfl k ?_
  intro c1 k
  refine wq_ite (Q := Q) (p := (c1 77 15) = 0) (fun h => ?_) (fun h => ?_)
  · replace k := k.1 h
    refine wq_sum (Q := Q) rfl (S_X12_emit T c1 x2 x3 k.1.1) ?_
    refine wq_pos (Q := Q) k.1.2 ?_
    show Q (cev 235 4 45 [vU, vU, vU, vU] [] (SH T, (up (up (up (up c1 85 (c1 77 19) x2) 86 (c1 77 19) x3) 77 19 ((c1 77 19) + 1)) 77 22 ((c1 77 22) + 1))))
    refine of_cev (Q := Q) ?_
    replace k := k.2
    exact k
  · replace k := k.2 h
    show Q (cev 235 4 45 [vU, vU, vU, vU] [] (SH T, c1))
    refine of_cev (Q := Q) ?_
    exact k
set_option maxRecDepth 20000 in
theorem W_X12_readPart {T : List Shp} {c : Nat → Int → Int} {Q : Res → Prop} (k : (((c 77 12) = 3 ∧ (c 77 13) = 91 → (QV T (fun c5 => Q (some (some (vI 1), (SH T, c5)))) (ccal 234 [vR 78, vI 31] (SH T, c)))) ∧ (¬ ((c 77 12) = 3 ∧ (c 77 13) = 91) → (((c 77 16) = 0 → (QI T (fun r1 c2 => Q (cev 236 5 35 [vR 78, vU, vU, vU] [vI r1] (SH T, c2))) (ccal 232 [vR 78] (SH T, c)))) ∧ (¬ (c 77 16) = 0 → (QI T (fun r3 c4 => Q (cev 236 5 35 [vR 78, vU, vU, vU] [vI r3] (SH T, c4))) (ccal 233 [vR 78] (SH T, c)))))))) : Q (ccal 236 [vR 78] (SH T, c)) := by
  refine of_cev (Q := Q) ?_
  refine wq_sum (Q := Q) rfl (S_X12_isSign T c 91) ?_
  refine wq_b01 (Q := Q) (p := (c 77 12) = 3 ∧ (c 77 13) = 91) (fun h => ?_) (fun h => ?_)
  · replace k := k.2 h
    show Q (cev 236 5 17 [vR 78, vU, vU, vU] [] (SH T, c))
    refine of_cev (Q := Q) ?_
    refine wq_ite (Q := Q) (p := (c 77 16) = 0) (fun h => ?_) (fun h => ?_)
    · replace k := k.1 h
      show Q (cev 236 5 31 [vR 78, vU, vU, vU] [] (SH T, c))
      refine of_cev (Q := Q) ?_
      refine wq_callI (Q := Q) rfl k ?_
      intro r1 c2 k
      exact k
    · replace k := k.2 h
      refine wq_callI (Q := Q) rfl k ?_
      intro r3 c4 k
      exact k
  · replace k := k.1 h
    refine wq_callV (Q := Q) rfl k ?_
    intro c5 k
    exact k
set_option maxRecDepth 20000 in
theorem W_X12_readPart_35 {T : List Shp} {c : Nat → Int → Int} {Q : Res → Prop} {y0 : Int} (k : (((c 77 12) = 2 → ((1000 < (c 77 13) → Q (cev 236 5 60 [vR 78, vI y0, vU, vU] [vI 0] (SH T, c))) ∧ (¬ 1000 < (c 77 13) → Q (cev 236 5 60 [vR 78, vI y0, vU, vU] [vI 1] (SH T, c))))) ∧ (¬ (c 77 12) = 2 → Q (cev 236 5 60 [vR 78, vI y0, vU, vU] [vI 0] (SH T, c))))) : Q (cev 236 5 35 [vR 78, vU, vU, vU] [vI y0] (SH T, c)) := by
  refine of_cev (Q := Q) ?_
  refine wq_ite (Q := Q) (p := (c 77 12) = 2) (fun h => ?_) (fun h => ?_)
  · replace k := k.1 h
    refine wq_lc4 (Q := Q) (x := (c 77 13)) (y := 1000) (fun h => ?_) (fun h => ?_)
    · replace k := k.1 h
      show Q (cev 236 5 59 [vR 78, vI y0, vU, vU] [] (SH T, c))
      refine of_cev (Q := Q) ?_
      exact k
    · replace k := k.2 h
      exact k
  · replace k := k.2 h
    show Q (cev 236 5 59 [vR 78, vI y0, vU, vU] [] (SH T, c))
    refine of_cev (Q := Q) ?_
    exact k
set_option maxRecDepth 20000 in
theorem W_X12_readPart_60 {T : List Shp} {c : Nat → Int → Int} {Q : Res → Prop} {x1 y0 : Int} (k : ((x1 = (-1) → ((y0 = 0 → Q (cev 236 5 76 [vR 78, vI x1, vI y0, vU] [vI 0, vR 78] (SH T, c))) ∧ (¬ y0 = 0 → Q (cev 236 5 76 [vR 78, vI x1, vI y0, vU] [vI 1, vR 78] (SH T, c))))) ∧ (¬ x1 = (-1) → Q (cev 236 5 76 [vR 78, vI x1, vI y0, vU] [vI 1, vR 78] (SH T, c))))) : Q (cev 236 5 60 [vR 78, vI x1, vU, vU] [vI y0] (SH T, c)) := by
  refine of_cev (Q := Q) ?_
  refine wq_ite (Q := Q) (p := x1 = (-1)) (fun h => ?_) (fun h => ?_)
  · replace k := k.1 h
    refine wq_ite (Q := Q) (p := y0 = 0) (fun h => ?_) (fun h => ?_)
    · replace k := k.1 h
      show Q (cev 236 5 75 [vR 78, vI x1, vI y0, vU] [vR 78] (SH T, c))
      refine of_cev (Q := Q) ?_
      exact k
    · replace k := k.2 h
      show Q (cev 236 5 71 [vR 78, vI x1, vI y0, vU] [vR 78] (SH T, c))
      refine of_cev (Q := Q) ?_
      exact k
  · replace k := k.2 h
    show Q (cev 236 5 71 [vR 78, vI x1, vI y0, vU] [vR 78] (SH T, c))
    refine of_cev (Q := Q) ?_
    exact k
set_option maxRecDepth 20000 in
theorem W_X12_readPart_76 {T : List Shp} {c : Nat → Int → Int} {Q : Res → Prop} {x1 x2 y0 : Int} (k : ((x1 = (-1) → Q (cev 236 5 86 [vR 78, vI x1, vI x2, vU] [vI 0, vI y0, vR 78] (SH T, c))) ∧ (¬ x1 = (-1) → Q (cev 236 5 86 [vR 78, vI x1, vI x2, vU] [vI x1, vI y0, vR 78] (SH T, c))))) : Q (cev 236 5 76 [vR 78, vI x1, vI x2, vU] [vI y0, vR 78] (SH T, c)) := by
  refine of_cev (Q := Q) ?_
  refine wq_ite (Q := Q) (p := x1 = (-1)) (fun h => ?_) (fun h => ?_)
  · replace k := k.1 h
    exact k
  · replace k := k.2 h
    show Q (cev 236 5 85 [vR 78, vI x1, vI x2, vU] [vI y0, vR 78] (SH T, c))
    refine of_cev (Q := Q) ?_
    exact k
set_option maxRecDepth 20000 in
theorem W_X12_readPart_86 {T : List Shp} {c : Nat → Int → Int} {Q : Res → Prop} {x1 x2 y0 y1 : Int} (k : ((x2 = 0 → Q (cev 236 5 99 [vR 78, vI x1, vU, vU] [vI 0, vI y0, vI y1, vR 78] (SH T, c))) ∧ (¬ x2 = 0 → Q (cev 236 5 99 [vR 78, vI x1, vU, vU] [vI (w32 (c 77 13)), vI y0, vI y1, vR 78] (SH T, c))))) : Q (cev 236 5 86 [vR 78, vI x1, vI x2, vU] [vI y0, vI y1, vR 78] (SH T, c)) := by
  refine of_cev (Q := Q) ?_
  refine wq_ite (Q := Q) (p := x2 = 0) (fun h => ?_) (fun h => ?_)
  · replace k := k.1 h
    show Q (cev 236 5 98 [vR 78, vI x1, vU, vU] [vI y0, vI y1, vR 78] (SH T, c))
    refine of_cev (Q := Q) ?_
    exact k
  · replace k := k.2 h
    exact k
set_option maxRecDepth 20000 in
theorem W_X12_readPart_99 {T : List Shp} {c : Nat → Int → Int} {Q : Res → Prop} {x1 y0 y1 y2 : Int} (k : (QV T (fun c1 => (((c1 77 16) = 0 → Q (some (some (vI 3), (SH T, c1)))) ∧ (¬ (c1 77 16) = 0 → ((x1 = 7 → (((c1 77 15) = 0 → ((-2147483648 ≤ (c1 77 19) - 1 ∧ (c1 77 19) - 1 < 2147483648) ∧ (QI T (fun r2 c3 => ((0 ≤ ((c1 77 19) - 1) ∧ ((c1 77 19) - 1) < 400) ∧ Q (some (some (vI 3), (SH T, (up c3 86 ((c1 77 19) - 1) r2)))))) (ccal 224 [vR 78, vL 0, vL 11] (SH T, c1))))) ∧ (¬ (c1 77 15) = 0 → Q (some (some (vI 3), (SH T, c1)))))) ∧ (¬ x1 = 7 → Q (some (some (vI 3), (SH T, c1)))))))) (ccal 235 [vR 78, vI y2, vI y1, vI y0] (SH T, c)))) : Q (cev 236 5 99 [vR 78, vI x1, vU, vU] [vI y0, vI y1, vI y2, vR 78] (SH T, c)) := by
  refine of_cev (Q := Q) ?_
  refine wq_callV (Q := Q) rfl k ?_
  intro c1 k
  refine wq_ite (Q := Q) (p := (c1 77 16) = 0) (fun h => ?_) (fun h => ?_)
  · replace k := k.1 h
    show Q (cev 236 5 143 [vU, vU, vU, vU] [] (SH T, c1))
    refine of_cev (Q := Q) ?_
    exact k
  · replace k := k.2 h
    refine wq_ite (Q := Q) (p := x1 = 7) (fun h => ?_) (fun h => ?_)
    · replace k := k.1 h
      refine wq_ite (Q := Q) (p := (c1 77 15) = 0) (fun h => ?_) (fun h => ?_)
      · replace k := k.1 h
        refine wq_pos (Q := Q) k.1 ?_
        replace k := k.2
        refine wq_callI (Q := Q) rfl k ?_
        intro r2 c3 k
        refine wq_pos (Q := Q) k.1 ?_
        show Q (cev 236 5 143 [vU, vU, vU, vU] [] (SH T, (up c3 86 ((c1 77 19) - 1) r2)))
        refine of_cev (Q := Q) ?_
        replace k := k.2
        exact k
      · replace k := k.2 h
        show Q (cev 236 5 143 [vU, vU, vU, vU] [] (SH T, c1))
        refine of_cev (Q := Q) ?_
        exact k
    · replace k := k.2 h
      show Q (cev 236 5 143 [vU, vU, vU, vU] [] (SH T, c1))
      refine of_cev (Q := Q) ?_
      exact k
set_option maxRecDepth 20000 in
theorem W_X12_readPlain {T : List Shp} {c : Nat → Int → Int} {Q : Res → Prop} (k : (((c 77 12) = 1 ∧ (c 77 13) = 14836 → ((0 ≤ (c 77 25) ∧ (c 77 25) < 400) ∧ (QV T (fun c4 => Q (some (some (vI 0), (SH T, c4)))) (ccal 220 [vR 78] (SH T, (up (up (up c 87 (c 77 25) 27) 88 (c 77 25) 0) 77 25 ((c 77 25) + 1))))))) ∧ (¬ ((c 77 12) = 1 ∧ (c 77 13) = 14836) → (((c 77 12) = 3 ∧ (c 77 13) = 40 → (QV T (fun c3 => Q (some (some (vI 0), (SH T, c3)))) (ccal 234 [vR 78, vI 30] (SH T, c)))) ∧ (¬ ((c 77 12) = 3 ∧ (c 77 13) = 40) → (QI T (fun r1 c2 => Q (some (some (vI r1), (SH T, c2)))) (ccal 236 [vR 78] (SH T, c)))))))) : Q (ccal 237 [vR 78] (SH T, c)) := by
  refine of_cev (Q := Q) ?_
  refine wq_sum (Q := Q) rfl (S_X12_isWord T c 14836) ?_
  refine wq_b01 (Q := Q) (p := (c 77 12) = 1 ∧ (c 77 13) = 14836) (fun h => ?_) (fun h => ?_)
  · replace k := k.2 h
    show Q (cev 237 6 23 [vR 78] [] (SH T, c))
    refine of_cev (Q := Q) ?_
    refine wq_sum (Q := Q) rfl (S_X12_isSign T c 40) ?_
    refine wq_b01 (Q := Q) (p := (c 77 12) = 3 ∧ (c 77 13) = 40) (fun h => ?_) (fun h => ?_)
    · replace k := k.2 h
      show Q (cev 237 6 40 [vR 78] [] (SH T, c))
      refine of_cev (Q := Q) ?_
      refine wq_callI (Q := Q) rfl k ?_
      intro r1 c2 k
      exact k
    · replace k := k.1 h
      refine wq_callV (Q := Q) rfl k ?_
      intro c3 k
      exact k
  · replace k := k.1 h
    refine wq_sum (Q := Q) rfl (S_X12_push T c 27 0 k.1) ?_
    replace k := k.2
    refine wq_callV (Q := Q) rfl k ?_
    intro c4 k
    exact k
set_option maxRecDepth 20000 in
theorem W_X12_behindSum {T : List Shp} {c : Nat → Int → Int} {Q : Res → Prop} {x1 : Int} (k : (((c 77 12) = 3 ∧ (c 77 13) = 43 → Q (cev 238 4 57 [vR 78, vI x1, vU, vU] [vI 20] (SH T, c))) ∧ (¬ ((c 77 12) = 3 ∧ (c 77 13) = 43) → (((c 77 12) = 3 ∧ (c 77 13) = 45 → Q (cev 238 4 57 [vR 78, vI x1, vU, vU] [vI 21] (SH T, c))) ∧ (¬ ((c 77 12) = 3 ∧ (c 77 13) = 45) → (((c 77 12) = 3 ∧ (c 77 13) = 42 → Q (cev 238 4 57 [vR 78, vI x1, vU, vU] [vI 22] (SH T, c))) ∧ (¬ ((c 77 12) = 3 ∧ (c 77 13) = 42) → (((c 77 12) = 3 ∧ (c 77 13) = 47 → Q (cev 238 4 57 [vR 78, vI x1, vU, vU] [vI 23] (SH T, c))) ∧ (¬ ((c 77 12) = 3 ∧ (c 77 13) = 47) → Q (cev 238 4 57 [vR 78, vI x1, vU, vU] [vI (-1)] (SH T, c))))))))))) : Q (ccal 238 [vR 78, vI x1] (SH T, c)) := by
  refine of_cev (Q := Q) ?_
  refine wq_sum (Q := Q) rfl (S_X12_isSign T c 43) ?_
  refine wq_b01 (Q := Q) (p := (c 77 12) = 3 ∧ (c 77 13) = 43) (fun h => ?_) (fun h => ?_)
  · replace k := k.2 h
    show Q (cev 238 4 14 [vR 78, vI x1, vU, vU] [] (SH T, c))
    refine of_cev (Q := Q) ?_
    refine wq_sum (Q := Q) rfl (S_X12_isSign T c 45) ?_
    refine wq_b01 (Q := Q) (p := (c 77 12) = 3 ∧ (c 77 13) = 45) (fun h => ?_) (fun h => ?_)
    · replace k := k.2 h
      show Q (cev 238 4 28 [vR 78, vI x1, vU, vU] [] (SH T, c))
      refine of_cev (Q := Q) ?_
      refine wq_sum (Q := Q) rfl (S_X12_isSign T c 42) ?_
      refine wq_b01 (Q := Q) (p := (c 77 12) = 3 ∧ (c 77 13) = 42) (fun h => ?_) (fun h => ?_)
      · replace k := k.2 h
        show Q (cev 238 4 42 [vR 78, vI x1, vU, vU] [] (SH T, c))
        refine of_cev (Q := Q) ?_
        refine wq_sum (Q := Q) rfl (S_X12_isSign T c 47) ?_
        refine wq_b01 (Q := Q) (p := (c 77 12) = 3 ∧ (c 77 13) = 47) (fun h => ?_) (fun h => ?_)
        · replace k := k.2 h
          show Q (cev 238 4 56 [vR 78, vI x1, vU, vU] [] (SH T, c))
          refine of_cev (Q := Q) ?_
          exact k
        · replace k := k.1 h
          exact k
      · replace k := k.1 h
        exact k
    · replace k := k.1 h
      exact k
  · replace k := k.1 h
    exact k
set_option maxRecDepth 20000 in
theorem W_X12_behindSum_57 {T : List Shp} {c : Nat → Int → Int} {Q : Res → Prop} {x1 y0 : Int} (k : ((y0 = (-1) → (QI T (fun r1 c2 => ((r1 = 31 → (QV T (fun c3 => (((c3 77 15) = 0 → (QV T (fun c4 => (((-2147483648 ≤ (c4 77 25) - 1 ∧ (c4 77 25) - 1 < 2147483648) ∧ (-2147483648 ≤ (c4 77 26) - 1 ∧ (c4 77 26) - 1 < 2147483648)) ∧ Q (some (some (vI 3), (SH T, (up (up c4 77 25 ((c4 77 25) - 1)) 77 26 ((c4 77 26) - 1))))))) (ccal 229 [vR 78, vI 5] (SH T, c3)))) ∧ (¬ (c3 77 15) = 0 → Q (some (some (vI 3), (SH T, c3)))))) (ccal 223 [vR 78, vI (b01 ((c2 77 12) = 3 ∧ (c2 77 13) = 93))] (SH T, c2)))) ∧ (¬ r1 = 31 → ((r1 = (-1) → ((x1 = 0 → Q (some (some (vI 4), (SH T, c2)))) ∧ (¬ x1 = 0 → Q (cev 238 4 149 [vR 78, vU, vU, vU] [] (SH T, c2))))) ∧ (¬ r1 = (-1) → Q (cev 238 4 149 [vR 78, vU, vU, vU] [] (SH T, c2))))))) (ccal 230 [vR 78] (SH T, c)))) ∧ (¬ y0 = (-1) → (QV T (fun c5 => ((0 ≤ (c5 77 25) ∧ (c5 77 25) < 400) ∧ (QV T (fun c6 => Q (some (some (vI 1), (SH T, c6)))) (ccal 220 [vR 78] (SH T, (up (up (up c5 87 (c5 77 25) y0) 88 (c5 77 25) 0) 77 25 ((c5 77 25) + 1))))))) (ccal 229 [vR 78, vI (bnd y0)] (SH T, c)))))) : Q (cev 238 4 57 [vR 78, vI x1, vU, vU] [vI y0] (SH T, c)) := by
  refine of_cev (Q := Q) ?_
  refine wq_ite (Q := Q) (p := y0 = (-1)) (fun h => ?_) (fun h => ?_)
  · replace k := k.1 h
    show Q (cev 238 4 83 [vR 78, vI x1, vU, vU] [] (SH T, c))
    refine of_cev (Q := Q) ?_
    refine wq_callI (Q := Q) rfl k ?_
    intro r1 c2 k
    refine wq_ite (Q := Q) (p := r1 = 31) (fun h => ?_) (fun h => ?_)
    · replace k := k.1 h
      refine wq_sum (Q := Q) rfl (S_X12_isSign T c2 93) ?_
      refine wq_callV (Q := Q) rfl k ?_
      intro c3 k
      refine wq_ite (Q := Q) (p := (c3 77 15) = 0) (fun h => ?_) (fun h => ?_)
      · replace k := k.1 h
        refine wq_callV (Q := Q) rfl k ?_
        intro c4 k
        refine wq_pos (Q := Q) k.1.1 ?_
        refine wq_pos (Q := Q) k.1.2 ?_
        show Q (cev 238 4 136 [vU, vU, vU, vU] [] (SH T, (up (up c4 77 25 ((c4 77 25) - 1)) 77 26 ((c4 77 26) - 1))))
        refine of_cev (Q := Q) ?_
        replace k := k.2
        exact k
      · replace k := k.2 h
        show Q (cev 238 4 136 [vU, vU, vU, vU] [] (SH T, c3))
        refine of_cev (Q := Q) ?_
        exact k
    · replace k := k.2 h
      show Q (cev 238 4 138 [vR 78, vI x1, vU, vI r1] [] (SH T, c2))
      refine of_cev (Q := Q) ?_
      refine wq_ite (Q := Q) (p := r1 = (-1)) (fun h => ?_) (fun h => ?_)
      · replace k := k.1 h
        refine wq_ite (Q := Q) (p := x1 = 0) (fun h => ?_) (fun h => ?_)
        · replace k := k.1 h
          exact k
        · replace k := k.2 h
          exact k
      · replace k := k.2 h
        exact k
  · replace k := k.2 h
    refine wq_sum (Q := Q) rfl (S_X12_binds T c y0) ?_
    refine wq_callV (Q := Q) rfl k ?_
    intro c5 k
    refine wq_sum (Q := Q) rfl (S_X12_push T c5 y0 0 k.1) ?_
    replace k := k.2
    refine wq_callV (Q := Q) rfl k ?_
    intro c6 k
    exact k
set_option maxRecDepth 20000 in
theorem W_X12_behindSum_149 {T : List Shp} {c : Nat → Int → Int} {Q : Res → Prop} (k : (QI T (fun r1 c2 => ((r1 = 0 → (((c2 77 12) = 3 ∧ (c2 77 13) = 60 → Q (cev 238 4 188 [vR 78, vU, vU, vU] [vI 24] (SH T, c2))) ∧ (¬ ((c2 77 12) = 3 ∧ (c2 77 13) = 60) → (((c2 77 12) = 3 ∧ (c2 77 13) = 62 → Q (cev 238 4 188 [vR 78, vU, vU, vU] [vI 25] (SH T, c2))) ∧ (¬ ((c2 77 12) = 3 ∧ (c2 77 13) = 62) → Q (cev 238 4 188 [vR 78, vU, vU, vU] [vI 26] (SH T, c2))))))) ∧ (¬ r1 = 0 → Q (some (some (vI 2), (SH T, c2)))))) (ccal 231 [vR 78] (SH T, c)))) : Q (cev 238 4 149 [vR 78, vU, vU, vU] [] (SH T, c)) := by
  refine of_cev (Q := Q) ?_
  refine wq_callI (Q := Q) rfl k ?_
  intro r1 c2 k
  refine wq_ite (Q := Q) (p := r1 = 0) (fun h => ?_) (fun h => ?_)
  · replace k := k.1 h
    show Q (cev 238 4 158 [vR 78, vU, vU, vU] [] (SH T, c2))
    refine of_cev (Q := Q) ?_
    refine wq_sum (Q := Q) rfl (S_X12_isSign T c2 60) ?_
    refine wq_b01 (Q := Q) (p := (c2 77 12) = 3 ∧ (c2 77 13) = 60) (fun h => ?_) (fun h => ?_)
    · replace k := k.2 h
      show Q (cev 238 4 172 [vR 78, vU, vU, vU] [] (SH T, c2))
      refine of_cev (Q := Q) ?_
      refine wq_sum (Q := Q) rfl (S_X12_isSign T c2 62) ?_
      refine wq_b01 (Q := Q) (p := (c2 77 12) = 3 ∧ (c2 77 13) = 62) (fun h => ?_) (fun h => ?_)
      · replace k := k.2 h
        show Q (cev 238 4 186 [vR 78, vU, vU, vU] [] (SH T, c2))
        refine of_cev (Q := Q) ?_
        exact k
      · replace k := k.1 h
        exact k
    · replace k := k.1 h
      exact k
  · replace k := k.2 h
    exact k
set_option maxRecDepth 20000 in
theorem W_X12_behindSum_188 {T : List Shp} {c : Nat → Int → Int} {Q : Res → Prop} {y0 : Int} (k : ((y0 = 26 → (((c 77 12) = 3 ∧ (c 77 13) = 61 → Q (cev 238 4 210 [vR 78, vU, vI y0, vU] [vI 1, vR 78] (SH T, c))) ∧ (¬ ((c 77 12) = 3 ∧ (c 77 13) = 61) → Q (cev 238 4 210 [vR 78, vU, vI y0, vU] [vI 0, vR 78] (SH T, c))))) ∧ (¬ y0 = 26 → Q (cev 238 4 210 [vR 78, vU, vI y0, vU] [vI 1, vR 78] (SH T, c))))) : Q (cev 238 4 188 [vR 78, vU, vU, vU] [vI y0] (SH T, c)) := by
  refine of_cev (Q := Q) ?_
  refine wq_ite (Q := Q) (p := y0 = 26) (fun h => ?_) (fun h => ?_)
  · replace k := k.1 h
    refine wq_sum (Q := Q) rfl (S_X12_isSign T c 61) ?_
    refine wq_b01 (Q := Q) (p := (c 77 12) = 3 ∧ (c 77 13) = 61) (fun h => ?_) (fun h => ?_)
    · replace k := k.2 h
      show Q (cev 238 4 209 [vR 78, vU, vI y0, vU] [vR 78] (SH T, c))
      refine of_cev (Q := Q) ?_
      exact k
    · replace k := k.1 h
      show Q (cev 238 4 205 [vR 78, vU, vI y0, vU] [vR 78] (SH T, c))
      refine of_cev (Q := Q) ?_
      exact k
  · replace k := k.2 h
    show Q (cev 238 4 205 [vR 78, vU, vI y0, vU] [vR 78] (SH T, c))
    refine of_cev (Q := Q) ?_
    exact k
set_option maxRecDepth 20000 in
theorem W_X12_behindSum_210 {T : List Shp} {c : Nat → Int → Int} {Q : Res → Prop} {x2 y0 : Int} (k : (QV T (fun c1 => (((c1 77 15) = 0 → (QV T (fun c2 => ((0 ≤ (c2 77 25) ∧ (c2 77 25) < 400) ∧ Q (some (some (vI 1), (SH T, (up (up (up c2 87 (c2 77 25) x2) 88 (c2 77 25) 0) 77 25 ((c2 77 25) + 1))))))) (ccal 229 [vR 78, vI 5] (SH T, c1)))) ∧ (¬ (c1 77 15) = 0 → Q (some (some (vI 1), (SH T, c1)))))) (ccal 223 [vR 78, vI y0] (SH T, c)))) : Q (cev 238 4 210 [vR 78, vU, vI x2, vU] [vI y0, vR 78] (SH T, c)) := by
  refine of_cev (Q := Q) ?_
  refine wq_callV (Q := Q) rfl k ?_
  intro c1 k
  refine wq_ite (Q := Q) (p := (c1 77 15) = 0) (fun h => ?_) (fun h => ?_)
  · replace k := k.1 h
    refine wq_callV (Q := Q) rfl k ?_
    intro c2 k
    refine wq_sum (Q := Q) rfl (S_X12_push T c2 x2 0 k.1) ?_
    show Q (cev 238 4 231 [vU, vU, vU, vU] [] (SH T, (up (up (up c2 87 (c2 77 25) x2) 88 (c2 77 25) 0) 77 25 ((c2 77 25) + 1))))
    refine of_cev (Q := Q) ?_
    replace k := k.2
    exact k
  · replace k := k.2 h
    show Q (cev 238 4 231 [vU, vU, vU, vU] [] (SH T, c1))
    refine of_cev (Q := Q) ?_
    exact k
set_option maxRecDepth 20000 in
theorem W_X12_behindTest {T : List Shp} {c : Nat → Int → Int} {Q : Res → Prop} (k : (((c 77 12) = 1 ∧ (c 77 13) = 1476 → Q (cev 239 4 22 [vR 78, vI (b01 ((c 77 12) = 1 ∧ (c 77 13) = 1476))] [] (SH T, c))) ∧ (¬ ((c 77 12) = 1 ∧ (c 77 13) = 1476) → (((c 77 12) = 1 ∧ (c 77 13) = 498 → Q (cev 239 4 22 [vR 78, vI (b01 ((c 77 12) = 1 ∧ (c 77 13) = 1476))] [] (SH T, c))) ∧ (¬ ((c 77 12) = 1 ∧ (c 77 13) = 498) → (QI T (fun r1 c2 => ((r1 = (-1) → Q (some (some (vI 4), (SH T, c2)))) ∧ (¬ r1 = (-1) → (QV T (fun c3 => (((c3 77 15) = 0 → (QV T (fun c4 => (((-2147483648 ≤ (c4 77 25) - 1 ∧ (c4 77 25) - 1 < 2147483648) ∧ (-2147483648 ≤ (c4 77 26) - 1 ∧ (c4 77 26) - 1 < 2147483648)) ∧ Q (some (some (vI 2), (SH T, (up (up c4 77 25 ((c4 77 25) - 1)) 77 26 ((c4 77 26) - 1))))))) (ccal 229 [vR 78, vI 1] (SH T, c3)))) ∧ (¬ (c3 77 15) = 0 → Q (some (some (vI 2), (SH T, c3)))))) (ccal 223 [vR 78, vI (b01 ((c2 77 12) = 3 ∧ (c2 77 13) = 41))] (SH T, c2)))))) (ccal 230 [vR 78] (SH T, c)))))))) : Q (ccal 239 [vR 78] (SH T, c)) := by
  refine of_cev (Q := Q) ?_
  refine wq_sum (Q := Q) rfl (S_X12_isWord T c 1476) ?_
  refine wq_b01 (Q := Q) (p := (c 77 12) = 1 ∧ (c 77 13) = 1476) (fun h => ?_) (fun h => ?_)
  · replace k := k.2 h
    refine wq_sum (Q := Q) rfl (S_X12_isWord T c 498) ?_
    refine wq_b01 (Q := Q) (p := (c 77 12) = 1 ∧ (c 77 13) = 498) (fun h => ?_) (fun h => ?_)
    · replace k := k.2 h
      show Q (cev 239 4 76 [vR 78, vU] [] (SH T, c))
      refine of_cev (Q := Q) ?_
      refine wq_callI (Q := Q) rfl k ?_
      intro r1 c2 k
      refine wq_ite (Q := Q) (p := r1 = (-1)) (fun h => ?_) (fun h => ?_)
      · replace k := k.1 h
        exact k
      · replace k := k.2 h
        show Q (cev 239 4 86 [vR 78, vU] [] (SH T, c2))
        refine of_cev (Q := Q) ?_
        refine wq_sum (Q := Q) rfl (S_X12_isSign T c2 41) ?_
        refine wq_callV (Q := Q) rfl k ?_
        intro c3 k
        refine wq_ite (Q := Q) (p := (c3 77 15) = 0) (fun h => ?_) (fun h => ?_)
        · replace k := k.1 h
          refine wq_callV (Q := Q) rfl k ?_
          intro c4 k
          refine wq_pos (Q := Q) k.1.1 ?_
          refine wq_pos (Q := Q) k.1.2 ?_
          show Q (cev 239 4 128 [vU, vU] [] (SH T, (up (up c4 77 25 ((c4 77 25) - 1)) 77 26 ((c4 77 26) - 1))))
          refine of_cev (Q := Q) ?_
          replace k := k.2
          exact k
        · replace k := k.2 h
          show Q (cev 239 4 128 [vU, vU] [] (SH T, c3))
          refine of_cev (Q := Q) ?_
          exact k
    · replace k := k.1 h
      exact k
  · replace k := k.1 h
    exact k

set_option maxRecDepth 20000 in
theorem W_X12_claim {T : List Shp} {c : Nat → Int → Int} {Q : Res → Prop} {x1 x2 x3 : Int} (k : ((x2 = 0 → Q (cev 313 3 45 [vR 78, vI x1, vI x2, vI x3, vU] [vI (b01 (0 ≤ x3 ∧ x3 ≤ 150))] (SH T, (up c 77 0 0)))) ∧ (¬ x2 = 0 → ((x2 = 1 → (((-1) ≤ x3 ∧ x3 ≤ 5 → Q (cev 313 3 45 [vR 78, vI x1, vI x2, vI x3, vU] [vI 1] (SH T, (up c 77 0 0)))) ∧ (¬ ((-1) ≤ x3 ∧ x3 ≤ 5) → Q (cev 313 3 45 [vR 78, vI x1, vI x2, vI x3, vU] [vI 0] (SH T, (up c 77 0 0)))))) ∧ (¬ x2 = 1 → Q (cev 313 3 45 [vR 78, vI x1, vI x2, vI x3, vU] [vI 0] (SH T, (up c 77 0 0)))))))) : Q (ccal 313 [vR 78, vI x1, vI x2, vI x3] (SH T, c)) := by
  refine of_cev (Q := Q) ?_
  refine wq_ite (Q := Q) (p := x2 = 0) (fun h => ?_) (fun h => ?_)
  · replace k := k.1 h
    refine wq_sum (Q := Q) rfl (S_X12_in T (up c 77 0 0) x3 0 150) ?_
    exact k
  · replace k := k.2 h
    show Q (cev 313 3 21 [vR 78, vI x1, vI x2, vI x3, vU] [] (SH T, (up c 77 0 0)))
    refine of_cev (Q := Q) ?_
    refine wq_ite (Q := Q) (p := x2 = 1) (fun h => ?_) (fun h => ?_)
    · replace k := k.1 h
      refine wq_sum (Q := Q) rfl (S_X12_in T (up c 77 0 0) x3 (-1) 5) ?_
      refine wq_b01 (Q := Q) (p := (-1) ≤ x3 ∧ x3 ≤ 5) (fun h => ?_) (fun h => ?_)
      · replace k := k.2 h
        show Q (cev 313 3 44 [vR 78, vI x1, vI x2, vI x3, vU] [] (SH T, (up c 77 0 0)))
        refine of_cev (Q := Q) ?_
        exact k
      · replace k := k.1 h
        exact k
    · replace k := k.2 h
      show Q (cev 313 3 44 [vR 78, vI x1, vI x2, vI x3, vU] [] (SH T, (up c 77 0 0)))
      refine of_cev (Q := Q) ?_
      exact k
set_option maxRecDepth 20000 in
theorem W_X12_claim_45 {T : List Shp} {c : Nat → Int → Int} {Q : Res → Prop} {x1 x2 x3 y0 : Int} (k : ((y0 = 0 → ((-2147483648 ≤ (c 78 1) + 1 ∧ (c 78 1) + 1 < 2147483648) ∧ Q (some (some (vI (-1)), (SH T, (up (up c 77 1 (-1)) 78 1 ((c 78 1) + 1))))))) ∧ (¬ y0 = 0 → ((-9223372036854775808 ≤ (c 79 6) - 1 ∧ (c 79 6) - 1 < 9223372036854775808) ∧ ((0 ≤ x1 ∧ x1 < (c 79 6) → ((x2 = 0 → ((0 ≤ x1 ∧ x1 < 8) ∧ (((c 79 (348 + 4 * x1 + 1)) < x3 → Q (cev 313 3 95 [vR 78, vI x1, vI x2, vI x3, vU] [] (SH T, c))) ∧ (¬ (c 79 (348 + 4 * x1 + 1)) < x3 → ((-2147483648 ≤ (c 78 1) + 1 ∧ (c 78 1) + 1 < 2147483648) ∧ Q (some (some (vI (-1)), (SH T, (up (up c 77 1 (-1)) 78 1 ((c 78 1) + 1)))))))))) ∧ (¬ x2 = 0 → Q (cev 313 3 95 [vR 78, vI x1, vI x2, vI x3, vU] [] (SH T, c))))) ∧ (¬ (0 ≤ x1 ∧ x1 < (c 79 6)) → ((-2147483648 ≤ (c 78 2) + 1 ∧ (c 78 2) + 1 < 2147483648) ∧ Q (some (some (vI (-2)), (SH T, (up (up c 77 1 (-2)) 78 2 ((c 78 2) + 1)))))))))))) : Q (cev 313 3 45 [vR 78, vI x1, vI x2, vI x3, vU] [vI y0] (SH T, c)) := by
  refine of_cev (Q := Q) ?_
  refine wq_ite (Q := Q) (p := y0 = 0) (fun h => ?_) (fun h => ?_)
  · replace k := k.1 h
    refine wq_sum (Q := Q) rfl (S_X12_tell_1 T c k.1) ?_
    replace k := k.2
    exact k
  · replace k := k.2 h
    show Q (cev 313 3 58 [vR 78, vI x1, vI x2, vI x3, vU] [] (SH T, c))
    refine of_cev (Q := Q) ?_
    refine wq_sum (Q := Q) rfl (S_X12_isClaimant T c x1 k.1) ?_
    replace k := k.2
    refine wq_b01 (Q := Q) (p := 0 ≤ x1 ∧ x1 < (c 79 6)) (fun h => ?_) (fun h => ?_)
    · replace k := k.2 h
      refine wq_sum (Q := Q) rfl (S_X12_tell_2 T c k.1) ?_
      replace k := k.2
      exact k
    · replace k := k.1 h
      show Q (cev 313 3 73 [vR 78, vI x1, vI x2, vI x3, vU] [] (SH T, c))
      refine of_cev (Q := Q) ?_
      refine wq_ite (Q := Q) (p := x2 = 0) (fun h => ?_) (fun h => ?_)
      · replace k := k.1 h
        refine wq_sum (Q := Q) rfl (S_X12_ofClaimant_1 T c x1 k.1) ?_
        replace k := k.2
        refine wq_ite (Q := Q) (p := (c 79 (348 + 4 * x1 + 1)) < x3) (fun h => ?_) (fun h => ?_)
        · replace k := k.1 h
          exact k
        · replace k := k.2 h
          refine wq_sum (Q := Q) rfl (S_X12_tell_1 T c k.1) ?_
          replace k := k.2
          exact k
      · replace k := k.2 h
        exact k
set_option maxRecDepth 20000 in
theorem W_X12_claim_95 {T : List Shp} {c : Nat → Int → Int} {Q : Res → Prop} {x1 x2 x3 : Int} (k : (((-2147483648 ≤ 4 * x1 ∧ 4 * x1 < 2147483648) ∧ (-2147483648 ≤ 348 + (4 * x1) ∧ 348 + (4 * x1) < 2147483648) ∧ (-2147483648 ≤ (348 + (4 * x1)) + 2 ∧ (348 + (4 * x1)) + 2 < 2147483648) ∧ (-2147483648 ≤ ((348 + (4 * x1)) + 2) + x2 ∧ ((348 + (4 * x1)) + 2) + x2 < 2147483648) ∧ (0 ≤ (((348 + (4 * x1)) + 2) + x2) ∧ (((348 + (4 * x1)) + 2) + x2) < 5780)) ∧ Q (some (some (vI (c 79 (((348 + (4 * x1)) + 2) + x2))), (SH T, (up (up c 79 (((348 + (4 * x1)) + 2) + x2) x3) 77 1 0)))))) : Q (cev 313 3 95 [vR 78, vI x1, vI x2, vI x3, vU] [] (SH T, c)) := by
  refine of_cev (Q := Q) ?_
  refine wq_pos (Q := Q) k.1.1 ?_
  refine wq_pos (Q := Q) k.1.2.1 ?_
  refine wq_pos (Q := Q) k.1.2.2.1 ?_
  refine wq_pos (Q := Q) k.1.2.2.2.1 ?_
  refine wq_sum (Q := Q) rfl (S_X12_change T c (((348 + (4 * x1)) + 2) + x2) x3 k.1.2.2.2.2) ?_
  replace k := k.2
  exact k
set_option maxRecDepth 20000 in
theorem W_X12_born {T : List Shp} {c : Nat → Int → Int} {Q : Res → Prop} {x1 x2 : Int} (k : ((-9223372036854775808 ≤ (c 79 6) - 1 ∧ (c 79 6) - 1 < 9223372036854775808) ∧ ((0 ≤ x1 ∧ x1 < (c 79 6) → ((0 ≤ x2 ∧ x2 ≤ 3 → (((0 ≤ x1 ∧ x1 < 8) ∧ (0 ≤ x2 ∧ x2 < 4)) ∧ Q (some (some (vI (c 79 (348 + 4 * x1 + x2))), (SH T, (up c 77 0 0)))))) ∧ (¬ (0 ≤ x2 ∧ x2 ≤ 3) → Q (some (some (vI (-1)), (SH T, (up c 77 0 0))))))) ∧ (¬ (0 ≤ x1 ∧ x1 < (c 79 6)) → Q (some (some (vI (-1)), (SH T, (up c 77 0 0)))))))) : Q (ccal 314 [vR 78, vI x1, vI x2] (SH T, c)) := by
  refine of_cev (Q := Q) ?_
  refine wq_sum (Q := Q) rfl (S_X12_isClaimant T (up c 77 0 0) x1 k.1) ?_
  replace k := k.2
  refine wq_b01 (Q := Q) (p := 0 ≤ x1 ∧ x1 < (c 79 6)) (fun h => ?_) (fun h => ?_)
  · replace k := k.2 h
    show Q (cev 314 3 34 [vU, vU, vU] [] (SH T, (up c 77 0 0)))
    refine of_cev (Q := Q) ?_
    exact k
  · replace k := k.1 h
    refine wq_sum (Q := Q) rfl (S_X12_in T (up c 77 0 0) x2 0 3) ?_
    refine wq_b01 (Q := Q) (p := 0 ≤ x2 ∧ x2 ≤ 3) (fun h => ?_) (fun h => ?_)
    · replace k := k.2 h
      show Q (cev 314 3 34 [vU, vU, vU] [] (SH T, (up c 77 0 0)))
      refine of_cev (Q := Q) ?_
      exact k
    · replace k := k.1 h
      refine wq_sum (Q := Q) rfl (S_X12_ofClaimant T (up c 77 0 0) x1 x2 k.1.1 k.1.2) ?_
      replace k := k.2
      exact k
set_option maxRecDepth 20000 in
theorem W_X12_childrenOf {T : List Shp} {c : Nat → Int → Int} {Q : Res → Prop} {x1 x2 : Int} (k : Q (cev 316 3 5 [vR 78, vI x1, vI x2, vI 0, vI 0] [] (SH T, c))) : Q (ccal 316 [vR 78, vI x1, vI x2] (SH T, c)) := by
  refine of_cev (Q := Q) ?_
  exact k
set_option maxRecDepth 20000 in
theorem W_X12_childrenOf_5 {T : List Shp} {c : Nat → Int → Int} {Q : Res → Prop} {x1 x2 x3 x4 : Int} (k : ((x4 < (c 79 6) → ((0 ≤ x4 ∧ x4 < 8) ∧ (((c 79 (348 + 4 * x4 + 0)) = x1 → ((0 ≤ x4 ∧ x4 < 8) ∧ ((c 79 (348 + 4 * x4 + 1) ≤ x2 ∧ x2 < c 79 (348 + 4 * x4 + 2) → (((-2147483648 ≤ x3 + 1 ∧ x3 + 1 < 2147483648) ∧ (-2147483648 ≤ x4 + 1 ∧ x4 + 1 < 2147483648)) ∧ Q (cev 316 3 5 [vR 78, vI x1, vI x2, vI (x3 + 1), vI (x4 + 1)] [] (SH T, c)))) ∧ (¬ (c 79 (348 + 4 * x4 + 1) ≤ x2 ∧ x2 < c 79 (348 + 4 * x4 + 2)) → (((-2147483648 ≤ x3 + 0 ∧ x3 + 0 < 2147483648) ∧ (-2147483648 ≤ x4 + 1 ∧ x4 + 1 < 2147483648)) ∧ Q (cev 316 3 5 [vR 78, vI x1, vI x2, vI (x3 + 0), vI (x4 + 1)] [] (SH T, c))))))) ∧ (¬ (c 79 (348 + 4 * x4 + 0)) = x1 → (((-2147483648 ≤ x3 + 0 ∧ x3 + 0 < 2147483648) ∧ (-2147483648 ≤ x4 + 1 ∧ x4 + 1 < 2147483648)) ∧ Q (cev 316 3 5 [vR 78, vI x1, vI x2, vI (x3 + 0), vI (x4 + 1)] [] (SH T, c))))))) ∧ (¬ x4 < (c 79 6) → Q (some (some (vI x3), (SH T, c)))))) : Q (cev 316 3 5 [vR 78, vI x1, vI x2, vI x3, vI x4] [] (SH T, c)) := by
  refine of_cev (Q := Q) ?_
  refine wq_ite (Q := Q) (p := x4 < (c 79 6)) (fun h => ?_) (fun h => ?_)
  · replace k := k.1 h
    refine wq_sum (Q := Q) rfl (S_X12_ofClaimant_0 T c x4 k.1) ?_
    replace k := k.2
    refine wq_ite (Q := Q) (p := (c 79 (348 + 4 * x4 + 0)) = x1) (fun h => ?_) (fun h => ?_)
    · replace k := k.1 h
      refine wq_sum (Q := Q) rfl (S_X12_isAlive T c x4 x2 k.1) ?_
      replace k := k.2
      refine wq_b01 (Q := Q) (p := c 79 (348 + 4 * x4 + 1) ≤ x2 ∧ x2 < c 79 (348 + 4 * x4 + 2)) (fun h => ?_) (fun h => ?_)
      · replace k := k.2 h
        show Q (cev 316 3 43 [vR 78, vI x1, vI x2, vU, vI x4] [vI x3] (SH T, c))
        refine of_cev (Q := Q) ?_
        refine wq_pos (Q := Q) k.1.1 ?_
        refine wq_pos (Q := Q) k.1.2 ?_
        replace k := k.2
        exact k
      · replace k := k.1 h
        refine wq_pos (Q := Q) k.1.1 ?_
        refine wq_pos (Q := Q) k.1.2 ?_
        replace k := k.2
        exact k
    · replace k := k.2 h
      show Q (cev 316 3 43 [vR 78, vI x1, vI x2, vU, vI x4] [vI x3] (SH T, c))
      refine of_cev (Q := Q) ?_
      refine wq_pos (Q := Q) k.1.1 ?_
      refine wq_pos (Q := Q) k.1.2 ?_
      replace k := k.2
      exact k
  · replace k := k.2 h
    show Q (cev 316 3 52 [vU, vU, vU, vI x3, vU] [] (SH T, c))
    refine of_cev (Q := Q) ?_
    exact k
set_option maxRecDepth 20000 in
theorem W_X12_setClaimant {T : List Shp} {c : Nat → Int → Int} {Q : Res → Prop} {x1 x2 : Int} (k : ((0 ≤ x1 ∧ x1 < 8) ∧ (QV T (fun c1 => (((0 ≤ x1 ∧ x1 < 8) ∧ (-2147483648 ≤ x2 - (c1 79 (348 + 4 * x1 + 1)) ∧ x2 - (c1 79 (348 + 4 * x1 + 1)) < 2147483648) ∧ (-9223372036854775808 ≤ (c1 79 5) - 1 ∧ (c1 79 5) - 1 < 9223372036854775808)) ∧ ((0 ≤ (c 79 (348 + 4 * x1 + 3)) ∧ (c 79 (348 + 4 * x1 + 3)) < (c1 79 5) → (QI T (fun r2 c3 => Q (cev 317 4 76 [vR 78, vI x1, vI x2, vU] [vL r2, vI 9, vR 93] (SH T, c3))) (ccal 290 [vR 78, vI (c 79 (348 + 4 * x1 + 3))] (SH T, (up (up (up c1 92 2 (x2 - (c1 79 (348 + 4 * x1 + 1)))) 92 7 x1) 92 8 (c1 79 (348 + 4 * x1 + 1))))))) ∧ (¬ (0 ≤ (c 79 (348 + 4 * x1 + 3)) ∧ (c 79 (348 + 4 * x1 + 3)) < (c1 79 5)) → Q (cev 317 4 76 [vR 78, vI x1, vI x2, vU] [vL (-1), vI 9, vR 93] (SH T, (up (up (up c1 92 2 (x2 - (c1 79 (348 + 4 * x1 + 1)))) 92 7 x1) 92 8 (c1 79 (348 + 4 * x1 + 1))))))))) (ccal 250 [vR 78, vI x2] (SH T, c))))) : Q (ccal 317 [vR 78, vI x1, vI x2] (SH T, c)) := by
  refine of_cev (Q := Q) ?_
  refine wq_sum (Q := Q) rfl (S_X12_ofClaimant_3 T c x1 k.1) ?_
  replace k := k.2
  refine wq_callV (Q := Q) rfl k ?_
  intro c1 k
  refine wq_sum (Q := Q) rfl (S_X12_ofClaimant_1 T c1 x1 k.1.1) ?_
  refine wq_pos (Q := Q) k.1.2.1 ?_
  refine wq_sum (Q := Q) rfl (S_X12_ofClaimant_1 T (up (up c1 92 2 (x2 - (c1 79 (348 + 4 * x1 + 1)))) 92 7 x1) x1 k.1.1) ?_
  refine wq_sum (Q := Q) rfl (S_X12_isCopy T (up (up (up c1 92 2 (x2 - (c1 79 (348 + 4 * x1 + 1)))) 92 7 x1) 92 8 (c1 79 (348 + 4 * x1 + 1))) (c 79 (348 + 4 * x1 + 3)) k.1.2.2) ?_
  replace k := k.2
  refine wq_b01 (Q := Q) (p := 0 ≤ (c 79 (348 + 4 * x1 + 3)) ∧ (c 79 (348 + 4 * x1 + 3)) < (c1 79 5)) (fun h => ?_) (fun h => ?_)
  · replace k := k.2 h
    show Q (cev 317 4 73 [vR 78, vI x1, vI x2, vU] [vI 9, vR 93] (SH T, (up (up (up c1 92 2 (x2 - (c1 79 (348 + 4 * x1 + 1)))) 92 7 x1) 92 8 (c1 79 (348 + 4 * x1 + 1)))))
    refine of_cev (Q := Q) ?_
    exact k
  · replace k := k.1 h
    refine wq_callI (Q := Q) rfl k ?_
    intro r2 c3 k
    exact k
set_option maxRecDepth 20000 in
theorem W_X12_setClaimant_76 {T : List Shp} {c : Nat → Int → Int} {Q : Res → Prop} {x1 x2 y0 y1 : Int} (k : ((0 ≤ y1 ∧ y1 < 13) ∧ (QI T (fun r1 c2 => Q (some (none, (SH T, (up c2 92 10 r1))))) (ccal 316 [vR 78, vI x1, vI x2] (SH T, (up c 92 y1 y0)))))) : Q (cev 317 4 76 [vR 78, vI x1, vI x2, vU] [vL y0, vI y1, vR 93] (SH T, c)) := by
  refine of_cev (Q := Q) ?_
  refine wq_pos (Q := Q) k.1 ?_
  replace k := k.2
  refine wq_callI (Q := Q) rfl k ?_
  intro r1 c2 k
  exact k
set_option maxRecDepth 20000 in
theorem W_X12_ranks {T : List Shp} {c : Nat → Int → Int} {Q : Res → Prop} {x1 x2 : Int} (k : (QV T (fun c1 => (QL T (fun r2 c3 => ((-2147483648 ≤ 0 ∧ 999 < 2147483648) ∧ Q (some (some (vI (clp r2 0 999)), (SH T, c3))))) (ccal 249 [vR 78, vI 3, vL x1] (SH T, c1)))) (ccal 317 [vR 78, vI x1, vI x2] (SH T, c)))) : Q (ccal 318 [vR 78, vI x1, vI x2] (SH T, c)) := by
  refine of_cev (Q := Q) ?_
  refine wq_callV (Q := Q) rfl k ?_
  intro c1 k
  refine wq_callL (Q := Q) rfl k ?_
  intro r2 c3 k
  refine wq_sum (Q := Q) rfl (S_X12_within T c3 r2 0 999 k.1) ?_
  replace k := k.2
  exact k
set_option maxRecDepth 20000 in
theorem W_X12_isOut {T : List Shp} {c : Nat → Int → Int} {Q : Res → Prop} {x1 x2 : Int} (k : (QV T (fun c1 => (QL T (fun r2 c3 => ((r2 = 1 → Q (some (some (vI 1), (SH T, c3)))) ∧ (¬ r2 = 1 → Q (some (some (vI 0), (SH T, c3)))))) (ccal 249 [vR 78, vI 4, vL 0] (SH T, c1)))) (ccal 317 [vR 78, vI x1, vI x2] (SH T, c)))) : Q (ccal 319 [vR 78, vI x1, vI x2] (SH T, c)) := by
  refine of_cev (Q := Q) ?_
  refine wq_callV (Q := Q) rfl k ?_
  intro c1 k
  refine wq_callL (Q := Q) rfl k ?_
  intro r2 c3 k
  refine wq_lc1 (Q := Q) (x := r2) (y := 1) (fun h => ?_) (fun h => ?_)
  · replace k := k.1 h
    exact k
  · replace k := k.2 h
    show Q (cev 319 6 21 [vU, vU, vU] [] (SH T, c3))
    refine of_cev (Q := Q) ?_
    exact k
set_option maxRecDepth 20000 in
theorem W_X12_stands {T : List Shp} {c : Nat → Int → Int} {Q : Res → Prop} {x1 x2 x3 : Int} (k : ((-9223372036854775808 ≤ (c 79 6) - 1 ∧ (c 79 6) - 1 < 9223372036854775808) ∧ ((0 ≤ x1 ∧ x1 < (c 79 6) → ((0 ≤ x2 ∧ x2 < 100 → ((0 ≤ x3 ∧ x3 ≤ 3 → ((x3 = 0 → ((0 ≤ x1 ∧ x1 < 8) ∧ ((c 79 (348 + 4 * x1 + 1) ≤ x2 ∧ x2 < c 79 (348 + 4 * x1 + 2) → Q (some (some (vI 1), (SH T, (up c 77 0 0))))) ∧ (¬ (c 79 (348 + 4 * x1 + 1) ≤ x2 ∧ x2 < c 79 (348 + 4 * x1 + 2)) → Q (some (some (vI 0), (SH T, (up c 77 0 0)))))))) ∧ ((x3 = 1 → (QI T (fun r1 c2 => Q (some (some (vI r1), (SH T, c2)))) (ccal 318 [vR 78, vI x1, vI x2] (SH T, (up c 77 0 0))))) ∧ ((x3 = 2 → (QI T (fun r3 c4 => ((r3 = 0 → Q (some (some (vI 0), (SH T, c4)))) ∧ (¬ r3 = 0 → Q (some (some (vI 1), (SH T, c4)))))) (ccal 319 [vR 78, vI x1, vI x2] (SH T, (up c 77 0 0))))) ∧ (¬ (x3 = 0 ∨ x3 = 1 ∨ x3 = 2) → (QI T (fun r5 c6 => Q (some (some (vI r5), (SH T, c6)))) (ccal 316 [vR 78, vI x1, vI x2] (SH T, (up c 77 0 0))))))))) ∧ (¬ (0 ≤ x3 ∧ x3 ≤ 3) → Q (some (some (vI (-1)), (SH T, (up c 77 0 0))))))) ∧ (¬ (0 ≤ x2 ∧ x2 < 100) → Q (some (some (vI (-1)), (SH T, (up c 77 0 0))))))) ∧ (¬ (0 ≤ x1 ∧ x1 < (c 79 6)) → Q (some (some (vI (-1)), (SH T, (up c 77 0 0)))))))) : Q (ccal 320 [vR 78, vI x1, vI x2, vI x3] (SH T, c)) := by
  refine of_cev (Q := Q) ?_
  refine wq_sum (Q := Q) rfl (S_X12_isClaimant T (up c 77 0 0) x1 k.1) ?_
  replace k := k.2
  refine wq_b01 (Q := Q) (p := 0 ≤ x1 ∧ x1 < (c 79 6)) (fun h => ?_) (fun h => ?_)
  · replace k := k.2 h
    show Q (cev 320 7 32 [vU, vU, vU, vU] [] (SH T, (up c 77 0 0)))
    refine of_cev (Q := Q) ?_
    exact k
  · replace k := k.1 h
    refine wq_sum (Q := Q) rfl (S_X12_isYear T (up c 77 0 0) x2) ?_
    refine wq_b01 (Q := Q) (p := 0 ≤ x2 ∧ x2 < 100) (fun h => ?_) (fun h => ?_)
    · replace k := k.2 h
      show Q (cev 320 7 32 [vU, vU, vU, vU] [] (SH T, (up c 77 0 0)))
      refine of_cev (Q := Q) ?_
      exact k
    · replace k := k.1 h
      refine wq_sum (Q := Q) rfl (S_X12_in T (up c 77 0 0) x3 0 3) ?_
      refine wq_b01 (Q := Q) (p := 0 ≤ x3 ∧ x3 ≤ 3) (fun h => ?_) (fun h => ?_)
      · replace k := k.2 h
        show Q (cev 320 7 32 [vU, vU, vU, vU] [] (SH T, (up c 77 0 0)))
        refine of_cev (Q := Q) ?_
        exact k
      · replace k := k.1 h
        show Q (cev 320 7 34 [vR 78, vI x1, vI x2, vI x3] [] (SH T, (up c 77 0 0)))
        refine of_cev (Q := Q) ?_
        refine wq_ite (Q := Q) (p := x3 = 0) (fun h0 => ?_) (fun h0 => ?_)
        · replace k := k.1 h0
          show Q (cev 320 7 60 [vR 78, vI x1, vI x2, vU] [] (SH T, (up c 77 0 0)))
          refine of_cev (Q := Q) ?_
          refine wq_sum (Q := Q) rfl (S_X12_isAlive T (up c 77 0 0) x1 x2 k.1) ?_
          replace k := k.2
          refine wq_b01 (Q := Q) (p := c 79 (348 + 4 * x1 + 1) ≤ x2 ∧ x2 < c 79 (348 + 4 * x1 + 2)) (fun h => ?_) (fun h => ?_)
          · replace k := k.2 h
            show Q (cev 320 7 73 [vU, vU, vU, vU] [] (SH T, (up c 77 0 0)))
            refine of_cev (Q := Q) ?_
            exact k
          · replace k := k.1 h
            exact k
        replace k := k.2
        refine wq_ite (Q := Q) (p := x3 = 1) (fun h1 => ?_) (fun h1 => ?_)
        · replace k := k.1 h1
          show Q (cev 320 7 75 [vR 78, vI x1, vI x2, vU] [] (SH T, (up c 77 0 0)))
          refine of_cev (Q := Q) ?_
          refine wq_callI (Q := Q) rfl k ?_
          intro r1 c2 k
          exact k
        replace k := k.2
        refine wq_ite (Q := Q) (p := x3 = 2) (fun h2 => ?_) (fun h2 => ?_)
        · replace k := k.1 h2
          show Q (cev 320 7 82 [vR 78, vI x1, vI x2, vU] [] (SH T, (up c 77 0 0)))
          refine of_cev (Q := Q) ?_
          refine wq_callI (Q := Q) rfl k ?_
          intro r3 c4 k
          refine wq_ite (Q := Q) (p := r3 = 0) (fun h => ?_) (fun h => ?_)
          · replace k := k.1 h
            show Q (cev 320 7 95 [vU, vU, vU, vU] [] (SH T, c4))
            refine of_cev (Q := Q) ?_
            exact k
          · replace k := k.2 h
            exact k
        replace k := k.2
        replace k := k (fun h => by rcases h with h | h | h <;> first | exact h0 h | exact h1 h | exact h2 h)
        show Q (cev 320 7 97 [vR 78, vI x1, vI x2, vU] [] (SH T, (up c 77 0 0)))
        refine of_cev (Q := Q) ?_
        refine wq_callI (Q := Q) rfl k ?_
        intro r5 c6 k
        exact k
set_option maxRecDepth 20000 in
theorem W_X12_findRulers {T : List Shp} {c : Nat → Int → Int} {Q : Res → Prop} (k : Q (cev 321 7 2 [vR 78, vI 0, vU, vU, vU, vU, vU] [] (SH T, c))) : Q (ccal 321 [vR 78] (SH T, c)) := by
  refine of_cev (Q := Q) ?_
  exact k
set_option maxRecDepth 20000 in
theorem W_X12_findRulers_2 {T : List Shp} {c : Nat → Int → Int} {Q : Res → Prop} {x1 : Int} (k : ((x1 < 100 → ((x1 = 0 → Q (cev 321 7 24 [vR 78, vI x1, vU, vU, vU, vU, vU] [vI (-1)] (SH T, c))) ∧ (¬ x1 = 0 → (((-2147483648 ≤ x1 - 1 ∧ x1 - 1 < 2147483648) ∧ (0 ≤ (x1 - 1) ∧ (x1 - 1) < 100)) ∧ Q (cev 321 7 24 [vR 78, vI x1, vU, vU, vU, vU, vU] [vI (c 105 (x1 - 1))] (SH T, c)))))) ∧ (¬ x1 < 100 → Q (some (none, (SH T, c)))))) : Q (cev 321 7 2 [vR 78, vI x1, vU, vU, vU, vU, vU] [] (SH T, c)) := by
  refine of_cev (Q := Q) ?_
  refine wq_ite (Q := Q) (p := x1 < 100) (fun h => ?_) (fun h => ?_)
  · replace k := k.1 h
    refine wq_ite (Q := Q) (p := x1 = 0) (fun h => ?_) (fun h => ?_)
    · replace k := k.1 h
      exact k
    · replace k := k.2 h
      show Q (cev 321 7 16 [vR 78, vI x1, vU, vU, vU, vU, vU] [] (SH T, c))
      refine of_cev (Q := Q) ?_
      refine wq_pos (Q := Q) k.1.1 ?_
      refine wq_pos (Q := Q) k.1.2 ?_
      replace k := k.2
      exact k
  · replace k := k.2 h
    show Q (cev 321 7 161 [vU, vU, vU, vU, vU, vU, vU] [] (SH T, c))
    refine of_cev (Q := Q) ?_
    exact k
set_option maxRecDepth 20000 in
theorem W_X12_findRulers_24 {T : List Shp} {c : Nat → Int → Int} {Q : Res → Prop} {x1 y0 : Int} (k : ((y0 = (-1) → Q (cev 321 7 44 [vR 78, vI x1, vU, vU, vU, vU, vU] [vI (-1)] (SH T, c))) ∧ (¬ y0 = (-1) → ((0 ≤ y0 ∧ y0 < 8) ∧ ((c 79 (348 + 4 * y0 + 1) ≤ x1 ∧ x1 < c 79 (348 + 4 * y0 + 2) → Q (cev 321 7 44 [vR 78, vI x1, vU, vU, vU, vU, vU] [vI y0] (SH T, c))) ∧ (¬ (c 79 (348 + 4 * y0 + 1) ≤ x1 ∧ x1 < c 79 (348 + 4 * y0 + 2)) → Q (cev 321 7 44 [vR 78, vI x1, vU, vU, vU, vU, vU] [vI (-1)] (SH T, c)))))))) : Q (cev 321 7 24 [vR 78, vI x1, vU, vU, vU, vU, vU] [vI y0] (SH T, c)) := by
  refine of_cev (Q := Q) ?_
  refine wq_ite (Q := Q) (p := y0 = (-1)) (fun h => ?_) (fun h => ?_)
  · replace k := k.1 h
    show Q (cev 321 7 43 [vR 78, vI x1, vU, vU, vU, vU, vU] [] (SH T, c))
    refine of_cev (Q := Q) ?_
    exact k
  · replace k := k.2 h
    refine wq_sum (Q := Q) rfl (S_X12_isAlive T c y0 x1 k.1) ?_
    replace k := k.2
    refine wq_b01 (Q := Q) (p := c 79 (348 + 4 * y0 + 1) ≤ x1 ∧ x1 < c 79 (348 + 4 * y0 + 2)) (fun h => ?_) (fun h => ?_)
    · replace k := k.2 h
      show Q (cev 321 7 43 [vR 78, vI x1, vU, vU, vU, vU, vU] [] (SH T, c))
      refine of_cev (Q := Q) ?_
      exact k
    · replace k := k.1 h
      exact k
set_option maxRecDepth 20000 in
theorem W_X12_findRulers_44 {T : List Shp} {c : Nat → Int → Int} {Q : Res → Prop} {x1 y0 : Int} (k : ((y0 = (-1) → Q (cev 321 7 64 [vR 78, vI x1, vI y0, vI 100000000, vI 0, vI 0, vU] [] (SH T, c))) ∧ (¬ y0 = (-1) → Q (cev 321 7 64 [vR 78, vI x1, vI y0, vI 100000000, vI 1, vI 0, vU] [] (SH T, c))))) : Q (cev 321 7 44 [vR 78, vI x1, vU, vU, vU, vU, vU] [vI y0] (SH T, c)) := by
  refine of_cev (Q := Q) ?_
  refine wq_ite (Q := Q) (p := y0 = (-1)) (fun h => ?_) (fun h => ?_)
  · replace k := k.1 h
    show Q (cev 321 7 58 [vR 78, vI x1, vI y0, vI 100000000, vU, vU, vU] [] (SH T, c))
    refine of_cev (Q := Q) ?_
    exact k
  · replace k := k.2 h
    exact k
set_option maxRecDepth 20000 in
theorem W_X12_findRulers_64 {T : List Shp} {c : Nat → Int → Int} {Q : Res → Prop} {x1 x2 x3 x4 x5 : Int} (k : ((x5 < (c 79 6) → ((x4 = 0 → ((0 ≤ x5 ∧ x5 < 8) ∧ ((c 79 (348 + 4 * x5 + 1) ≤ x1 ∧ x1 < c 79 (348 + 4 * x5 + 2) → (QI T (fun r1 c2 => ((r1 = 0 → (QI T (fun r3 c4 => Q (cev 321 7 114 [vR 78, vI x1, vI x2, vI x3, vI x4, vI x5, vU] [vI r3] (SH T, c4))) (ccal 318 [vR 78, vI x5, vI x1] (SH T, c2)))) ∧ (¬ r1 = 0 → Q (cev 321 7 114 [vR 78, vI x1, vI x2, vI x3, vI x4, vI x5, vU] [vI 100000000] (SH T, c2))))) (ccal 319 [vR 78, vI x5, vI x1] (SH T, c)))) ∧ (¬ (c 79 (348 + 4 * x5 + 1) ≤ x1 ∧ x1 < c 79 (348 + 4 * x5 + 2)) → Q (cev 321 7 114 [vR 78, vI x1, vI x2, vI x3, vI x4, vI x5, vU] [vI 100000000] (SH T, c)))))) ∧ (¬ x4 = 0 → (((0 ≤ x1 ∧ x1 < 100) ∧ (-2147483648 ≤ x1 + 1 ∧ x1 + 1 < 2147483648)) ∧ Q (cev 321 7 2 [vR 78, vI (x1 + 1), vU, vU, vU, vU, vU] [] (SH T, (up c 105 x1 x2))))))) ∧ (¬ x5 < (c 79 6) → (((0 ≤ x1 ∧ x1 < 100) ∧ (-2147483648 ≤ x1 + 1 ∧ x1 + 1 < 2147483648)) ∧ Q (cev 321 7 2 [vR 78, vI (x1 + 1), vU, vU, vU, vU, vU] [] (SH T, (up c 105 x1 x2))))))) : Q (cev 321 7 64 [vR 78, vI x1, vI x2, vI x3, vI x4, vI x5, vU] [] (SH T, c)) := by
  refine of_cev (Q := Q) ?_
  refine wq_ite (Q := Q) (p := x5 < (c 79 6)) (fun h => ?_) (fun h => ?_)
  · replace k := k.1 h
    refine wq_ite (Q := Q) (p := x4 = 0) (fun h => ?_) (fun h => ?_)
    · replace k := k.1 h
      refine wq_sum (Q := Q) rfl (S_X12_isAlive T c x5 x1 k.1) ?_
      replace k := k.2
      refine wq_b01 (Q := Q) (p := c 79 (348 + 4 * x5 + 1) ≤ x1 ∧ x1 < c 79 (348 + 4 * x5 + 2)) (fun h => ?_) (fun h => ?_)
      · replace k := k.2 h
        show Q (cev 321 7 111 [vR 78, vI x1, vI x2, vI x3, vI x4, vI x5, vU] [] (SH T, c))
        refine of_cev (Q := Q) ?_
        exact k
      · replace k := k.1 h
        refine wq_callI (Q := Q) rfl k ?_
        intro r1 c2 k
        refine wq_ite (Q := Q) (p := r1 = 0) (fun h => ?_) (fun h => ?_)
        · replace k := k.1 h
          refine wq_callI (Q := Q) rfl k ?_
          intro r3 c4 k
          exact k
        · replace k := k.2 h
          show Q (cev 321 7 111 [vR 78, vI x1, vI x2, vI x3, vI x4, vI x5, vU] [] (SH T, c2))
          refine of_cev (Q := Q) ?_
          exact k
    · replace k := k.2 h
      show Q (cev 321 7 148 [vR 78, vI x1, vI x2, vU, vU, vU, vU] [] (SH T, c))
      refine of_cev (Q := Q) ?_
      refine wq_pos (Q := Q) k.1.1 ?_
      refine wq_pos (Q := Q) k.1.2 ?_
      replace k := k.2
      exact k
  · replace k := k.2 h
    show Q (cev 321 7 148 [vR 78, vI x1, vI x2, vU, vU, vU, vU] [] (SH T, c))
    refine of_cev (Q := Q) ?_
    refine wq_pos (Q := Q) k.1.1 ?_
    refine wq_pos (Q := Q) k.1.2 ?_
    replace k := k.2
    exact k
set_option maxRecDepth 20000 in
theorem W_X12_findRulers_114 {T : List Shp} {c : Nat → Int → Int} {Q : Res → Prop} {x1 x2 x3 x4 x5 y0 : Int} (k : ((y0 < x3 → Q (cev 321 7 128 [vR 78, vI x1, vU, vI x3, vI x4, vI x5, vI y0] [vI x5] (SH T, c))) ∧ (¬ y0 < x3 → Q (cev 321 7 128 [vR 78, vI x1, vU, vI x3, vI x4, vI x5, vI y0] [vI x2] (SH T, c))))) : Q (cev 321 7 114 [vR 78, vI x1, vI x2, vI x3, vI x4, vI x5, vU] [vI y0] (SH T, c)) := by
  refine of_cev (Q := Q) ?_
  refine wq_ite (Q := Q) (p := y0 < x3) (fun h => ?_) (fun h => ?_)
  · replace k := k.1 h
    exact k
  · replace k := k.2 h
    show Q (cev 321 7 127 [vR 78, vI x1, vI x2, vI x3, vI x4, vI x5, vI y0] [] (SH T, c))
    refine of_cev (Q := Q) ?_
    exact k
set_option maxRecDepth 20000 in
theorem W_X12_findRulers_128 {T : List Shp} {c : Nat → Int → Int} {Q : Res → Prop} {x1 x3 x4 x5 x6 y0 : Int} (k : ((x6 < x3 → ((-2147483648 ≤ x5 + 1 ∧ x5 + 1 < 2147483648) ∧ Q (cev 321 7 64 [vR 78, vI x1, vI y0, vI x6, vI x4, vI (x5 + 1), vU] [] (SH T, c)))) ∧ (¬ x6 < x3 → ((-2147483648 ≤ x5 + 1 ∧ x5 + 1 < 2147483648) ∧ Q (cev 321 7 64 [vR 78, vI x1, vI y0, vI x3, vI x4, vI (x5 + 1), vU] [] (SH T, c)))))) : Q (cev 321 7 128 [vR 78, vI x1, vU, vI x3, vI x4, vI x5, vI x6] [vI y0] (SH T, c)) := by
  refine of_cev (Q := Q) ?_
  refine wq_ite (Q := Q) (p := x6 < x3) (fun h => ?_) (fun h => ?_)
  · replace k := k.1 h
    refine wq_pos (Q := Q) k.1 ?_
    replace k := k.2
    exact k
  · replace k := k.2 h
    show Q (cev 321 7 140 [vR 78, vI x1, vI y0, vI x3, vI x4, vI x5, vU] [] (SH T, c))
    refine of_cev (Q := Q) ?_
    refine wq_pos (Q := Q) k.1 ?_
    replace k := k.2
    exact k
set_option maxRecDepth 20000 in
theorem W_X12_ruler {T : List Shp} {c : Nat → Int → Int} {Q : Res → Prop} {x1 : Int} (k : ((0 ≤ x1 ∧ x1 < 100 → (QV T (fun c1 => ((0 ≤ x1 ∧ x1 < 100) ∧ Q (some (some (vI (c1 105 x1)), (SH T, c1))))) (ccal 321 [vR 78] (SH T, (up c 77 0 0))))) ∧ (¬ (0 ≤ x1 ∧ x1 < 100) → Q (some (some (vI (-1)), (SH T, (up c 77 0 0))))))) : Q (ccal 322 [vR 78, vI x1] (SH T, c)) := by
  refine of_cev (Q := Q) ?_
  refine wq_sum (Q := Q) rfl (S_X12_isYear T (up c 77 0 0) x1) ?_
  refine wq_b01 (Q := Q) (p := 0 ≤ x1 ∧ x1 < 100) (fun h => ?_) (fun h => ?_)
  · replace k := k.2 h
    exact k
  · replace k := k.1 h
    show Q (cev 322 8 14 [vR 78, vI x1] [] (SH T, (up c 77 0 0)))
    refine of_cev (Q := Q) ?_
    refine wq_callV (Q := Q) rfl k ?_
    intro c1 k
    refine wq_pos (Q := Q) k.1 ?_
    replace k := k.2
    exact k
set_option maxRecDepth 20000 in
theorem W_X12_reign {T : List Shp} {c : Nat → Int → Int} {Q : Res → Prop} {x1 x2 : Int} (k : ((x1 = (-1) → Q (cev 323 8 24 [vR 78, vI x1, vI x2, vU, vU, vU] [] (SH T, (up c 77 0 0)))) ∧ (¬ x1 = (-1) → ((0 ≤ x2 ∧ x2 ≤ 2 → Q (cev 323 8 24 [vR 78, vI x1, vI x2, vU, vU, vU] [] (SH T, (up c 77 0 0)))) ∧ (¬ (0 ≤ x2 ∧ x2 ≤ 2) → Q (some (some (vI (-1)), (SH T, (up c 77 0 0))))))))) : Q (ccal 323 [vR 78, vI x1, vI x2] (SH T, c)) := by
  refine of_cev (Q := Q) ?_
  refine wq_ite (Q := Q) (p := x1 = (-1)) (fun h => ?_) (fun h => ?_)
  · replace k := k.1 h
    exact k
  · replace k := k.2 h
    refine wq_sum (Q := Q) rfl (S_X12_in T (up c 77 0 0) x2 0 2) ?_
    refine wq_b01 (Q := Q) (p := 0 ≤ x2 ∧ x2 ≤ 2) (fun h => ?_) (fun h => ?_)
    · replace k := k.2 h
      exact k
    · replace k := k.1 h
      exact k
set_option maxRecDepth 20000 in
theorem W_X12_reign_24 {T : List Shp} {c : Nat → Int → Int} {Q : Res → Prop} {x1 x2 : Int} (k : (QV T (fun c1 => Q (cev 323 8 33 [vR 78, vI x1, vI x2, vI 0, vI 0, vU] [] (SH T, c1))) (ccal 321 [vR 78] (SH T, c)))) : Q (cev 323 8 24 [vR 78, vI x1, vI x2, vU, vU, vU] [] (SH T, c)) := by
  refine of_cev (Q := Q) ?_
  refine wq_callV (Q := Q) rfl k ?_
  intro c1 k
  exact k
set_option maxRecDepth 20000 in
theorem W_X12_reign_33 {T : List Shp} {c : Nat → Int → Int} {Q : Res → Prop} {x1 x2 x3 x4 : Int} (k : ((x4 < 100 → Q (cev 323 8 44 [vR 78, vI x1, vI x2, vI x3, vI x4, vI x4] [] (SH T, c))) ∧ (¬ x4 < 100 → ((x1 = (-1) → Q (some (some (vI x3), (SH T, c)))) ∧ (¬ x1 = (-1) → Q (some (some (vI (-1)), (SH T, c)))))))) : Q (cev 323 8 33 [vR 78, vI x1, vI x2, vI x3, vI x4, vU] [] (SH T, c)) := by
  refine of_cev (Q := Q) ?_
  refine wq_ite (Q := Q) (p := x4 < 100) (fun h => ?_) (fun h => ?_)
  · replace k := k.1 h
    exact k
  · replace k := k.2 h
    show Q (cev 323 8 130 [vU, vI x1, vU, vI x3, vU, vU] [] (SH T, c))
    refine of_cev (Q := Q) ?_
    refine wq_ite (Q := Q) (p := x1 = (-1)) (fun h => ?_) (fun h => ?_)
    · replace k := k.1 h
      exact k
    · replace k := k.2 h
      show Q (cev 323 8 139 [vU, vU, vU, vU, vU, vU] [] (SH T, c))
      refine of_cev (Q := Q) ?_
      exact k
set_option maxRecDepth 20000 in
theorem W_X12_reign_44 {T : List Shp} {c : Nat → Int → Int} {Q : Res → Prop} {x1 x2 x3 x4 x5 : Int} (k : ((x5 < 100 → (((0 ≤ x5 ∧ x5 < 100) ∧ (0 ≤ x4 ∧ x4 < 100)) ∧ (((c 105 x5) = (c 105 x4) → ((-2147483648 ≤ x5 + 1 ∧ x5 + 1 < 2147483648) ∧ Q (cev 323 8 44 [vR 78, vI x1, vI x2, vI x3, vI x4, vI (x5 + 1)] [] (SH T, c)))) ∧ (¬ (c 105 x5) = (c 105 x4) → Q (cev 323 8 74 [vR 78, vI x1, vI x2, vI x3, vI x4, vI x5] [] (SH T, c)))))) ∧ (¬ x5 < 100 → Q (cev 323 8 74 [vR 78, vI x1, vI x2, vI x3, vI x4, vI x5] [] (SH T, c))))) : Q (cev 323 8 44 [vR 78, vI x1, vI x2, vI x3, vI x4, vI x5] [] (SH T, c)) := by
  refine of_cev (Q := Q) ?_
  refine wq_ite (Q := Q) (p := x5 < 100) (fun h => ?_) (fun h => ?_)
  · replace k := k.1 h
    refine wq_pos (Q := Q) k.1.1 ?_
    refine wq_pos (Q := Q) k.1.2 ?_
    replace k := k.2
    refine wq_ite (Q := Q) (p := (c 105 x5) = (c 105 x4)) (fun h => ?_) (fun h => ?_)
    · replace k := k.1 h
      refine wq_pos (Q := Q) k.1 ?_
      replace k := k.2
      exact k
    · replace k := k.2 h
      exact k
  · replace k := k.2 h
    exact k
set_option maxRecDepth 20000 in
theorem W_X12_reign_74 {T : List Shp} {c : Nat → Int → Int} {Q : Res → Prop} {x1 x2 x3 x4 x5 : Int} (k : ((0 ≤ x4 ∧ x4 < 100) ∧ (((c 105 x4) = (-1) → Q (cev 323 8 33 [vR 78, vI x1, vI x2, vI x3, vI x5, vU] [] (SH T, c))) ∧ (¬ (c 105 x4) = (-1) → ((x3 = x1 → ((x2 = 0 → ((0 ≤ x4 ∧ x4 < 100) ∧ Q (some (some (vI (c 105 x4)), (SH T, c))))) ∧ (¬ x2 = 0 → ((x2 = 1 → Q (some (some (vI x4), (SH T, c)))) ∧ (¬ x2 = 1 → ((-2147483648 ≤ x5 - x4 ∧ x5 - x4 < 2147483648) ∧ Q (some (some (vI (x5 - x4)), (SH T, c))))))))) ∧ (¬ x3 = x1 → ((-2147483648 ≤ x3 + 1 ∧ x3 + 1 < 2147483648) ∧ Q (cev 323 8 33 [vR 78, vI x1, vI x2, vI (x3 + 1), vI x5, vU] [] (SH T, c))))))))) : Q (cev 323 8 74 [vR 78, vI x1, vI x2, vI x3, vI x4, vI x5] [] (SH T, c)) := by
  refine of_cev (Q := Q) ?_
  refine wq_pos (Q := Q) k.1 ?_
  replace k := k.2
  refine wq_ite (Q := Q) (p := (c 105 x4) = (-1)) (fun h => ?_) (fun h => ?_)
  · replace k := k.1 h
    show Q (cev 323 8 123 [vR 78, vI x1, vI x2, vI x3, vU, vI x5] [] (SH T, c))
    refine of_cev (Q := Q) ?_
    exact k
  · replace k := k.2 h
    refine wq_ite (Q := Q) (p := x3 = x1) (fun h => ?_) (fun h => ?_)
    · replace k := k.1 h
      refine wq_ite (Q := Q) (p := x2 = 0) (fun h => ?_) (fun h => ?_)
      · replace k := k.1 h
        refine wq_pos (Q := Q) k.1 ?_
        replace k := k.2
        exact k
      · replace k := k.2 h
        show Q (cev 323 8 104 [vU, vU, vI x2, vU, vI x4, vI x5] [] (SH T, c))
        refine of_cev (Q := Q) ?_
        refine wq_ite (Q := Q) (p := x2 = 1) (fun h => ?_) (fun h => ?_)
        · replace k := k.1 h
          exact k
        · replace k := k.2 h
          show Q (cev 323 8 114 [vU, vU, vU, vU, vI x4, vI x5] [] (SH T, c))
          refine of_cev (Q := Q) ?_
          refine wq_pos (Q := Q) k.1 ?_
          replace k := k.2
          exact k
    · replace k := k.2 h
      show Q (cev 323 8 120 [vR 78, vI x1, vI x2, vI x3, vU, vI x5] [] (SH T, c))
      refine of_cev (Q := Q) ?_
      refine wq_pos (Q := Q) k.1 ?_
      show Q (cev 323 8 123 [vR 78, vI x1, vI x2, vI (x3 + 1), vU, vI x5] [] (SH T, c))
      refine of_cev (Q := Q) ?_
      replace k := k.2
      exact k
set_option maxRecDepth 20000 in
theorem W_X12_vacant {T : List Shp} {c : Nat → Int → Int} {Q : Res → Prop} (k : (QV T (fun c1 => Q (cev 324 8 13 [vR 78, vI 0, vI 0] [] (SH T, c1))) (ccal 321 [vR 78] (SH T, (up c 77 0 0))))) : Q (ccal 324 [vR 78] (SH T, c)) := by
  refine of_cev (Q := Q) ?_
  refine wq_callV (Q := Q) rfl k ?_
  intro c1 k
  exact k
set_option maxRecDepth 20000 in
theorem W_X12_vacant_13 {T : List Shp} {c : Nat → Int → Int} {Q : Res → Prop} {x1 x2 : Int} (k : ((x2 < 100 → ((0 ≤ x2 ∧ x2 < 100) ∧ (((c 105 x2) = (-1) → (((-2147483648 ≤ x1 + 1 ∧ x1 + 1 < 2147483648) ∧ (-2147483648 ≤ x2 + 1 ∧ x2 + 1 < 2147483648)) ∧ Q (cev 324 8 13 [vR 78, vI (x1 + 1), vI (x2 + 1)] [] (SH T, c)))) ∧ (¬ (c 105 x2) = (-1) → (((-2147483648 ≤ x1 + 0 ∧ x1 + 0 < 2147483648) ∧ (-2147483648 ≤ x2 + 1 ∧ x2 + 1 < 2147483648)) ∧ Q (cev 324 8 13 [vR 78, vI (x1 + 0), vI (x2 + 1)] [] (SH T, c))))))) ∧ (¬ x2 < 100 → Q (some (some (vI x1), (SH T, c)))))) : Q (cev 324 8 13 [vR 78, vI x1, vI x2] [] (SH T, c)) := by
  refine of_cev (Q := Q) ?_
  refine wq_ite (Q := Q) (p := x2 < 100) (fun h => ?_) (fun h => ?_)
  · replace k := k.1 h
    refine wq_pos (Q := Q) k.1 ?_
    replace k := k.2
    refine wq_ite (Q := Q) (p := (c 105 x2) = (-1)) (fun h => ?_) (fun h => ?_)
    · replace k := k.1 h
      refine wq_pos (Q := Q) k.1.1 ?_
      refine wq_pos (Q := Q) k.1.2 ?_
      replace k := k.2
      exact k
    · replace k := k.2 h
      show Q (cev 324 8 34 [vR 78, vU, vI x2] [vI x1] (SH T, c))
      refine of_cev (Q := Q) ?_
      refine wq_pos (Q := Q) k.1.1 ?_
      refine wq_pos (Q := Q) k.1.2 ?_
      replace k := k.2
      exact k
  · replace k := k.2 h
    show Q (cev 324 8 43 [vU, vI x1, vU] [] (SH T, c))
    refine of_cev (Q := Q) ?_
    exact k
set_option maxRecDepth 20000 in
theorem W_X12_line {T : List Shp} {c : Nat → Int → Int} {Q : Res → Prop} {x1 x2 : Int} (k : ((0 ≤ x1 ∧ x1 < 100 → Q (cev 325 7 19 [vR 78, vI x1, vI x2, vI 0, vI 0, vU, vU] [] (SH T, (up c 77 0 0)))) ∧ (¬ (0 ≤ x1 ∧ x1 < 100) → Q (some (some (vI (-1)), (SH T, (up c 77 0 0))))))) : Q (ccal 325 [vR 78, vI x1, vI x2] (SH T, c)) := by
  refine of_cev (Q := Q) ?_
  refine wq_sum (Q := Q) rfl (S_X12_isYear T (up c 77 0 0) x1) ?_
  refine wq_b01 (Q := Q) (p := 0 ≤ x1 ∧ x1 < 100) (fun h => ?_) (fun h => ?_)
  · replace k := k.2 h
    exact k
  · replace k := k.1 h
    show Q (cev 325 7 14 [vR 78, vI x1, vI x2, vU, vU, vU, vU] [] (SH T, (up c 77 0 0)))
    refine of_cev (Q := Q) ?_
    exact k
set_option maxRecDepth 20000 in
theorem W_X12_line_19 {T : List Shp} {c : Nat → Int → Int} {Q : Res → Prop} {x1 x2 x3 x4 : Int} (k : ((x4 < (c 79 6) → ((0 ≤ x4 ∧ x4 < 8) ∧ ((c 79 (348 + 4 * x4 + 1) ≤ x1 ∧ x1 < c 79 (348 + 4 * x4 + 2) → (QI T (fun r1 c2 => ((r1 = 0 → (QI T (fun r3 c4 => Q (cev 325 7 70 [vR 78, vI x1, vI x2, vI x3, vI x4, vU, vU] [vI r3, vI x4, vR 107] (SH T, c4))) (ccal 318 [vR 78, vI x4, vI x1] (SH T, c2)))) ∧ (¬ r1 = 0 → Q (cev 325 7 70 [vR 78, vI x1, vI x2, vI x3, vI x4, vU, vU] [vI 100000000, vI x4, vR 107] (SH T, c2))))) (ccal 319 [vR 78, vI x4, vI x1] (SH T, c)))) ∧ (¬ (c 79 (348 + 4 * x4 + 1) ≤ x1 ∧ x1 < c 79 (348 + 4 * x4 + 2)) → Q (cev 325 7 70 [vR 78, vI x1, vI x2, vI x3, vI x4, vU, vU] [vI 100000000, vI x4, vR 107] (SH T, c)))))) ∧ (¬ x4 < (c 79 6) → Q (cev 325 7 101 [vR 78, vU, vI x2, vI x3, vI 0, vU, vU] [] (SH T, c))))) : Q (cev 325 7 19 [vR 78, vI x1, vI x2, vI x3, vI x4, vU, vU] [] (SH T, c)) := by
  refine of_cev (Q := Q) ?_
  refine wq_ite (Q := Q) (p := x4 < (c 79 6)) (fun h => ?_) (fun h => ?_)
  · replace k := k.1 h
    refine wq_sum (Q := Q) rfl (S_X12_isAlive T c x4 x1 k.1) ?_
    replace k := k.2
    refine wq_b01 (Q := Q) (p := c 79 (348 + 4 * x4 + 1) ≤ x1 ∧ x1 < c 79 (348 + 4 * x4 + 2)) (fun h => ?_) (fun h => ?_)
    · replace k := k.2 h
      show Q (cev 325 7 67 [vR 78, vI x1, vI x2, vI x3, vI x4, vU, vU] [vI x4, vR 107] (SH T, c))
      refine of_cev (Q := Q) ?_
      exact k
    · replace k := k.1 h
      refine wq_callI (Q := Q) rfl k ?_
      intro r1 c2 k
      refine wq_ite (Q := Q) (p := r1 = 0) (fun h => ?_) (fun h => ?_)
      · replace k := k.1 h
        refine wq_callI (Q := Q) rfl k ?_
        intro r3 c4 k
        exact k
      · replace k := k.2 h
        show Q (cev 325 7 67 [vR 78, vI x1, vI x2, vI x3, vI x4, vU, vU] [vI x4, vR 107] (SH T, c2))
        refine of_cev (Q := Q) ?_
        exact k
  · replace k := k.2 h
    show Q (cev 325 7 98 [vR 78, vU, vI x2, vI x3, vU, vU, vU] [] (SH T, c))
    refine of_cev (Q := Q) ?_
    exact k
set_option maxRecDepth 20000 in
theorem W_X12_line_70 {T : List Shp} {c : Nat → Int → Int} {Q : Res → Prop} {x1 x2 x3 x4 y0 y1 : Int} (k : (((0 ≤ y1 ∧ y1 < 8) ∧ (0 ≤ x4 ∧ x4 < 8)) ∧ ((((up c 106 y1 y0) 106 x4) < 100000000 → (((-2147483648 ≤ x3 + 1 ∧ x3 + 1 < 2147483648) ∧ (-2147483648 ≤ x4 + 1 ∧ x4 + 1 < 2147483648)) ∧ Q (cev 325 7 19 [vR 78, vI x1, vI x2, vI (x3 + 1), vI (x4 + 1), vU, vU] [] (SH T, (up c 106 y1 y0))))) ∧ (¬ ((up c 106 y1 y0) 106 x4) < 100000000 → (((-2147483648 ≤ x3 + 0 ∧ x3 + 0 < 2147483648) ∧ (-2147483648 ≤ x4 + 1 ∧ x4 + 1 < 2147483648)) ∧ Q (cev 325 7 19 [vR 78, vI x1, vI x2, vI (x3 + 0), vI (x4 + 1), vU, vU] [] (SH T, (up c 106 y1 y0)))))))) : Q (cev 325 7 70 [vR 78, vI x1, vI x2, vI x3, vI x4, vU, vU] [vI y0, vI y1, vR 107] (SH T, c)) := by
  refine of_cev (Q := Q) ?_
  refine wq_pos (Q := Q) k.1.1 ?_
  refine wq_pos (Q := Q) k.1.2 ?_
  replace k := k.2
  refine wq_ite (Q := Q) (p := ((up c 106 y1 y0) 106 x4) < 100000000) (fun h => ?_) (fun h => ?_)
  · replace k := k.1 h
    refine wq_pos (Q := Q) k.1.1 ?_
    refine wq_pos (Q := Q) k.1.2 ?_
    replace k := k.2
    exact k
  · replace k := k.2 h
    show Q (cev 325 7 89 [vR 78, vI x1, vI x2, vU, vI x4, vU, vU] [vI x3] (SH T, (up c 106 y1 y0)))
    refine of_cev (Q := Q) ?_
    refine wq_pos (Q := Q) k.1.1 ?_
    refine wq_pos (Q := Q) k.1.2 ?_
    replace k := k.2
    exact k
set_option maxRecDepth 20000 in
theorem W_X12_line_101 {T : List Shp} {c : Nat → Int → Int} {Q : Res → Prop} {x2 x3 x4 : Int} (k : ((x4 < (c 79 6) → ((x2 = (-1) → Q (cev 325 7 221 [vU, vU, vI x2, vI x3, vU, vU, vU] [] (SH T, c))) ∧ (¬ x2 = (-1) → Q (cev 325 7 124 [vR 78, vU, vI x2, vI x3, vI x4, vI 0, vI 0] [] (SH T, c))))) ∧ (¬ x4 < (c 79 6) → Q (cev 325 7 221 [vU, vU, vI x2, vI x3, vU, vU, vU] [] (SH T, c))))) : Q (cev 325 7 101 [vR 78, vU, vI x2, vI x3, vI x4, vU, vU] [] (SH T, c)) := by
  refine of_cev (Q := Q) ?_
  refine wq_ite (Q := Q) (p := x4 < (c 79 6)) (fun h => ?_) (fun h => ?_)
  · replace k := k.1 h
    refine wq_ite (Q := Q) (p := x2 = (-1)) (fun h => ?_) (fun h => ?_)
    · replace k := k.1 h
      exact k
    · replace k := k.2 h
      exact k
  · replace k := k.2 h
    exact k
set_option maxRecDepth 20000 in
theorem W_X12_line_124 {T : List Shp} {c : Nat → Int → Int} {Q : Res → Prop} {x2 x3 x4 x5 x6 : Int} (k : ((x6 < (c 79 6) → (((0 ≤ x6 ∧ x6 < 8) ∧ (0 ≤ x4 ∧ x4 < 8)) ∧ (((c 106 x6) < (c 106 x4) → (((-2147483648 ≤ x5 + 1 ∧ x5 + 1 < 2147483648) ∧ (-2147483648 ≤ x6 + 1 ∧ x6 + 1 < 2147483648)) ∧ Q (cev 325 7 124 [vR 78, vU, vI x2, vI x3, vI x4, vI (x5 + 1), vI (x6 + 1)] [] (SH T, c)))) ∧ (¬ (c 106 x6) < (c 106 x4) → (((0 ≤ x6 ∧ x6 < 8) ∧ (0 ≤ x4 ∧ x4 < 8)) ∧ (((c 106 x6) = (c 106 x4) → ((x6 < x4 → (((-2147483648 ≤ x5 + 1 ∧ x5 + 1 < 2147483648) ∧ (-2147483648 ≤ x6 + 1 ∧ x6 + 1 < 2147483648)) ∧ Q (cev 325 7 124 [vR 78, vU, vI x2, vI x3, vI x4, vI (x5 + 1), vI (x6 + 1)] [] (SH T, c)))) ∧ (¬ x6 < x4 → (((-2147483648 ≤ x5 + 0 ∧ x5 + 0 < 2147483648) ∧ (-2147483648 ≤ x6 + 1 ∧ x6 + 1 < 2147483648)) ∧ Q (cev 325 7 124 [vR 78, vU, vI x2, vI x3, vI x4, vI (x5 + 0), vI (x6 + 1)] [] (SH T, c)))))) ∧ (¬ (c 106 x6) = (c 106 x4) → (((-2147483648 ≤ x5 + 0 ∧ x5 + 0 < 2147483648) ∧ (-2147483648 ≤ x6 + 1 ∧ x6 + 1 < 2147483648)) ∧ Q (cev 325 7 124 [vR 78, vU, vI x2, vI x3, vI x4, vI (x5 + 0), vI (x6 + 1)] [] (SH T, c)))))))))) ∧ (¬ x6 < (c 79 6) → ((0 ≤ x4 ∧ x4 < 8) ∧ (((c 106 x4) < 100000000 → ((x5 = x2 → Q (some (some (vI x4), (SH T, c)))) ∧ (¬ x5 = x2 → ((-2147483648 ≤ x4 + 1 ∧ x4 + 1 < 2147483648) ∧ Q (cev 325 7 101 [vR 78, vU, vI x2, vI x3, vI (x4 + 1), vU, vU] [] (SH T, c)))))) ∧ (¬ (c 106 x4) < 100000000 → ((-2147483648 ≤ x4 + 1 ∧ x4 + 1 < 2147483648) ∧ Q (cev 325 7 101 [vR 78, vU, vI x2, vI x3, vI (x4 + 1), vU, vU] [] (SH T, c))))))))) : Q (cev 325 7 124 [vR 78, vU, vI x2, vI x3, vI x4, vI x5, vI x6] [] (SH T, c)) := by
  refine of_cev (Q := Q) ?_
  refine wq_ite (Q := Q) (p := x6 < (c 79 6)) (fun h => ?_) (fun h => ?_)
  · replace k := k.1 h
    refine wq_pos (Q := Q) k.1.1 ?_
    refine wq_pos (Q := Q) k.1.2 ?_
    replace k := k.2
    refine wq_ite (Q := Q) (p := (c 106 x6) < (c 106 x4)) (fun h => ?_) (fun h => ?_)
    · replace k := k.1 h
      show Q (cev 325 7 179 [vR 78, vU, vI x2, vI x3, vI x4, vU, vI x6] [vI x5] (SH T, c))
      refine of_cev (Q := Q) ?_
      refine wq_pos (Q := Q) k.1.1 ?_
      refine wq_pos (Q := Q) k.1.2 ?_
      replace k := k.2
      exact k
    · replace k := k.2 h
      refine wq_pos (Q := Q) k.1.1 ?_
      refine wq_pos (Q := Q) k.1.2 ?_
      replace k := k.2
      refine wq_ite (Q := Q) (p := (c 106 x6) = (c 106 x4)) (fun h => ?_) (fun h => ?_)
      · replace k := k.1 h
        refine wq_ite (Q := Q) (p := x6 < x4) (fun h => ?_) (fun h => ?_)
        · replace k := k.1 h
          show Q (cev 325 7 179 [vR 78, vU, vI x2, vI x3, vI x4, vU, vI x6] [vI x5] (SH T, c))
          refine of_cev (Q := Q) ?_
          refine wq_pos (Q := Q) k.1.1 ?_
          refine wq_pos (Q := Q) k.1.2 ?_
          replace k := k.2
          exact k
        · replace k := k.2 h
          show Q (cev 325 7 183 [vR 78, vU, vI x2, vI x3, vI x4, vU, vI x6] [vI x5] (SH T, c))
          refine of_cev (Q := Q) ?_
          refine wq_pos (Q := Q) k.1.1 ?_
          refine wq_pos (Q := Q) k.1.2 ?_
          replace k := k.2
          exact k
      · replace k := k.2 h
        show Q (cev 325 7 183 [vR 78, vU, vI x2, vI x3, vI x4, vU, vI x6] [vI x5] (SH T, c))
        refine of_cev (Q := Q) ?_
        refine wq_pos (Q := Q) k.1.1 ?_
        refine wq_pos (Q := Q) k.1.2 ?_
        replace k := k.2
        exact k
  · replace k := k.2 h
    show Q (cev 325 7 193 [vR 78, vU, vI x2, vI x3, vI x4, vI x5, vU] [] (SH T, c))
    refine of_cev (Q := Q) ?_
    refine wq_pos (Q := Q) k.1 ?_
    replace k := k.2
    refine wq_ite (Q := Q) (p := (c 106 x4) < 100000000) (fun h => ?_) (fun h => ?_)
    · replace k := k.1 h
      refine wq_ite (Q := Q) (p := x5 = x2) (fun h => ?_) (fun h => ?_)
      · replace k := k.1 h
        exact k
      · replace k := k.2 h
        show Q (cev 325 7 215 [vR 78, vU, vI x2, vI x3, vI x4, vU, vU] [] (SH T, c))
        refine of_cev (Q := Q) ?_
        refine wq_pos (Q := Q) k.1 ?_
        replace k := k.2
        exact k
    · replace k := k.2 h
      show Q (cev 325 7 215 [vR 78, vU, vI x2, vI x3, vI x4, vU, vU] [] (SH T, c))
      refine of_cev (Q := Q) ?_
      refine wq_pos (Q := Q) k.1 ?_
      replace k := k.2
      exact k
set_option maxRecDepth 20000 in
theorem W_X12_line_221 {T : List Shp} {c : Nat → Int → Int} {Q : Res → Prop} {x2 x3 : Int} (k : ((x2 = (-1) → Q (some (some (vI x3), (SH T, c)))) ∧ (¬ x2 = (-1) → Q (some (some (vI (-1)), (SH T, c)))))) : Q (cev 325 7 221 [vU, vU, vI x2, vI x3, vU, vU, vU] [] (SH T, c)) := by
  refine of_cev (Q := Q) ?_
  refine wq_ite (Q := Q) (p := x2 = (-1)) (fun h => ?_) (fun h => ?_)
  · replace k := k.1 h
    exact k
  · replace k := k.2 h
    show Q (cev 325 7 230 [vU, vU, vU, vU, vU, vU, vU] [] (SH T, c))
    refine of_cev (Q := Q) ?_
    exact k
set_option maxRecDepth 20000 in
theorem W_X12_readSum {T : List Shp} {c : Nat → Int → Int} {Q : Res → Prop} {x1 : Int} (k : ((0 ≤ x1 ∧ x1 < 120) ∧ (((c 77 15) = 0 → (QV T (fun c1 => (((-2147483648 ≤ x1 + 1 ∧ x1 + 1 < 2147483648) ∧ (0 ≤ (x1 + 1) ∧ (x1 + 1) < 120)) ∧ Q (some (none, (SH T, (up c1 107 (x1 + 1) (c1 77 19))))))) (ccal 240 [vR 78, vI 0] (SH T, (up c 107 x1 (c 77 19)))))) ∧ (¬ (c 77 15) = 0 → (((-2147483648 ≤ x1 + 1 ∧ x1 + 1 < 2147483648) ∧ (0 ≤ (x1 + 1) ∧ (x1 + 1) < 120)) ∧ Q (some (none, (SH T, (up (up c 107 x1 (c 77 19)) 107 (x1 + 1) (c 77 19)))))))))) : Q (ccal 326 [vR 78, vI x1] (SH T, c)) := by
  refine of_cev (Q := Q) ?_
  refine wq_pos (Q := Q) k.1 ?_
  replace k := k.2
  refine wq_ite (Q := Q) (p := (c 77 15) = 0) (fun h => ?_) (fun h => ?_)
  · replace k := k.1 h
    refine wq_callV (Q := Q) rfl k ?_
    intro c1 k
    show Q (cev 326 8 22 [vR 78, vI x1] [] (SH T, c1))
    refine of_cev (Q := Q) ?_
    refine wq_pos (Q := Q) k.1.1 ?_
    refine wq_pos (Q := Q) k.1.2 ?_
    replace k := k.2
    exact k
  · replace k := k.2 h
    show Q (cev 326 8 22 [vR 78, vI x1] [] (SH T, (up c 107 x1 (c 77 19))))
    refine of_cev (Q := Q) ?_
    refine wq_pos (Q := Q) k.1.1 ?_
    refine wq_pos (Q := Q) k.1.2 ?_
    replace k := k.2
    exact k
set_option maxRecDepth 20000 in
theorem W_X12_readHead {T : List Shp} {c : Nat → Int → Int} {Q : Res → Prop} (k : (((c 77 12) = 1 ∧ (c 77 13) = 641271301 → Q (cev 327 4 51 [vR 78, vI (b01 ((c 77 12) = 1 ∧ (c 77 13) = 16819668)), vU] [vI 3] (SH T, c))) ∧ (¬ ((c 77 12) = 1 ∧ (c 77 13) = 641271301) → (((c 77 12) = 1 ∧ (c 77 13) = 114201 → Q (cev 327 4 51 [vR 78, vI (b01 ((c 77 12) = 1 ∧ (c 77 13) = 16819668)), vU] [vI 4] (SH T, c))) ∧ (¬ ((c 77 12) = 1 ∧ (c 77 13) = 114201) → (((c 77 12) = 1 ∧ (c 77 13) = 21484648 → Q (cev 327 4 51 [vR 78, vI (b01 ((c 77 12) = 1 ∧ (c 77 13) = 16819668)), vU] [vI 5] (SH T, c))) ∧ (¬ ((c 77 12) = 1 ∧ (c 77 13) = 21484648) → Q (cev 327 4 51 [vR 78, vI (b01 ((c 77 12) = 1 ∧ (c 77 13) = 16819668)), vU] [vI (-1)] (SH T, c))))))))) : Q (ccal 327 [vR 78] (SH T, c)) := by
  refine of_cev (Q := Q) ?_
  refine wq_sum (Q := Q) rfl (S_X12_isWord T c 16819668) ?_
  refine wq_sum (Q := Q) rfl (S_X12_isWord T c 641271301) ?_
  refine wq_b01 (Q := Q) (p := (c 77 12) = 1 ∧ (c 77 13) = 641271301) (fun h => ?_) (fun h => ?_)
  · replace k := k.2 h
    show Q (cev 327 4 22 [vR 78, vI (b01 ((c 77 12) = 1 ∧ (c 77 13) = 16819668)), vU] [] (SH T, c))
    refine of_cev (Q := Q) ?_
    refine wq_sum (Q := Q) rfl (S_X12_isWord T c 114201) ?_
    refine wq_b01 (Q := Q) (p := (c 77 12) = 1 ∧ (c 77 13) = 114201) (fun h => ?_) (fun h => ?_)
    · replace k := k.2 h
      show Q (cev 327 4 36 [vR 78, vI (b01 ((c 77 12) = 1 ∧ (c 77 13) = 16819668)), vU] [] (SH T, c))
      refine of_cev (Q := Q) ?_
      refine wq_sum (Q := Q) rfl (S_X12_isWord T c 21484648) ?_
      refine wq_b01 (Q := Q) (p := (c 77 12) = 1 ∧ (c 77 13) = 21484648) (fun h => ?_) (fun h => ?_)
      · replace k := k.2 h
        show Q (cev 327 4 50 [vR 78, vI (b01 ((c 77 12) = 1 ∧ (c 77 13) = 16819668)), vU] [] (SH T, c))
        refine of_cev (Q := Q) ?_
        exact k
      · replace k := k.1 h
        exact k
    · replace k := k.1 h
      exact k
  · replace k := k.1 h
    exact k
set_option maxRecDepth 20000 in
theorem W_X12_readHead_51 {T : List Shp} {c : Nat → Int → Int} {Q : Res → Prop} {x1 y0 : Int} (k : ((x1 = 0 → ((y0 = (-1) → Q (cev 327 4 76 [vR 78, vI x1, vI y0] [vI 0, vR 78] (SH T, c))) ∧ (¬ y0 = (-1) → Q (cev 327 4 62 [vR 78, vI x1, vI y0] [vR 78] (SH T, c))))) ∧ (¬ x1 = 0 → Q (cev 327 4 62 [vR 78, vI x1, vI y0] [vR 78] (SH T, c))))) : Q (cev 327 4 51 [vR 78, vI x1, vU] [vI y0] (SH T, c)) := by
  refine of_cev (Q := Q) ?_
  refine wq_ite (Q := Q) (p := x1 = 0) (fun h => ?_) (fun h => ?_)
  · replace k := k.1 h
    refine wq_ite (Q := Q) (p := y0 = (-1)) (fun h => ?_) (fun h => ?_)
    · replace k := k.1 h
      show Q (cev 327 4 75 [vR 78, vI x1, vI y0] [vR 78] (SH T, c))
      refine of_cev (Q := Q) ?_
      exact k
    · replace k := k.2 h
      exact k
  · replace k := k.2 h
    exact k
set_option maxRecDepth 20000 in
theorem W_X12_readHead_62 {T : List Shp} {c : Nat → Int → Int} {Q : Res → Prop} {x1 x2 : Int} (k : (((c 77 17) < 12 → Q (cev 327 4 76 [vR 78, vI x1, vI x2] [vI 1, vR 78] (SH T, c))) ∧ (¬ (c 77 17) < 12 → Q (cev 327 4 76 [vR 78, vI x1, vI x2] [vI 0, vR 78] (SH T, c))))) : Q (cev 327 4 62 [vR 78, vI x1, vI x2] [vR 78] (SH T, c)) := by
  refine of_cev (Q := Q) ?_
  refine wq_ite (Q := Q) (p := (c 77 17) < 12) (fun h => ?_) (fun h => ?_)
  · replace k := k.1 h
    exact k
  · replace k := k.2 h
    show Q (cev 327 4 75 [vR 78, vI x1, vI x2] [vR 78] (SH T, c))
    refine of_cev (Q := Q) ?_
    exact k
set_option maxRecDepth 20000 in
theorem W_X12_readHead_76 {T : List Shp} {c : Nat → Int → Int} {Q : Res → Prop} {x1 x2 y0 : Int} (k : (QV T (fun c1 => (((c1 77 15) = 0 → ((x1 = 0 → Q (some (some (vI x2), (SH T, c1)))) ∧ (¬ x1 = 0 → (((c1 77 12) = 1 ∧ (c1 77 13) = 412456564 → Q (cev 327 4 135 [vR 78, vU, vU] [vI 0] (SH T, c1))) ∧ (¬ ((c1 77 12) = 1 ∧ (c1 77 13) = 412456564) → (((c1 77 12) = 1 ∧ (c1 77 13) = 111838500468 → Q (cev 327 4 135 [vR 78, vU, vU] [vI 1] (SH T, c1))) ∧ (¬ ((c1 77 12) = 1 ∧ (c1 77 13) = 111838500468) → (((c1 77 12) = 1 ∧ (c1 77 13) = 89 → Q (cev 327 4 135 [vR 78, vU, vU] [vI 2] (SH T, c1))) ∧ (¬ ((c1 77 12) = 1 ∧ (c1 77 13) = 89) → Q (cev 327 4 135 [vR 78, vU, vU] [vI (-1)] (SH T, c1))))))))))) ∧ (¬ (c1 77 15) = 0 → Q (some (some (vI x2), (SH T, c1)))))) (ccal 223 [vR 78, vI y0] (SH T, c)))) : Q (cev 327 4 76 [vR 78, vI x1, vI x2] [vI y0, vR 78] (SH T, c)) := by
  refine of_cev (Q := Q) ?_
  refine wq_callV (Q := Q) rfl k ?_
  intro c1 k
  refine wq_ite (Q := Q) (p := (c1 77 15) = 0) (fun h => ?_) (fun h => ?_)
  · replace k := k.1 h
    refine wq_ite (Q := Q) (p := x1 = 0) (fun h => ?_) (fun h => ?_)
    · replace k := k.1 h
      show Q (cev 327 4 90 [vU, vU, vI x2] [] (SH T, c1))
      refine of_cev (Q := Q) ?_
      exact k
    · replace k := k.2 h
      show Q (cev 327 4 92 [vR 78, vU, vU] [] (SH T, c1))
      refine of_cev (Q := Q) ?_
      refine wq_sum (Q := Q) rfl (S_X12_isWord T c1 412456564) ?_
      refine wq_b01 (Q := Q) (p := (c1 77 12) = 1 ∧ (c1 77 13) = 412456564) (fun h => ?_) (fun h => ?_)
      · replace k := k.2 h
        show Q (cev 327 4 106 [vR 78, vU, vU] [] (SH T, c1))
        refine of_cev (Q := Q) ?_
        refine wq_sum (Q := Q) rfl (S_X12_isWord T c1 111838500468) ?_
        refine wq_b01 (Q := Q) (p := (c1 77 12) = 1 ∧ (c1 77 13) = 111838500468) (fun h => ?_) (fun h => ?_)
        · replace k := k.2 h
          show Q (cev 327 4 120 [vR 78, vU, vU] [] (SH T, c1))
          refine of_cev (Q := Q) ?_
          refine wq_sum (Q := Q) rfl (S_X12_isWord T c1 89) ?_
          refine wq_b01 (Q := Q) (p := (c1 77 12) = 1 ∧ (c1 77 13) = 89) (fun h => ?_) (fun h => ?_)
          · replace k := k.2 h
            show Q (cev 327 4 134 [vR 78, vU, vU] [] (SH T, c1))
            refine of_cev (Q := Q) ?_
            exact k
          · replace k := k.1 h
            exact k
        · replace k := k.1 h
          exact k
      · replace k := k.1 h
        exact k
  · replace k := k.2 h
    show Q (cev 327 4 90 [vU, vU, vI x2] [] (SH T, c1))
    refine of_cev (Q := Q) ?_
    exact k
set_option maxRecDepth 20000 in
theorem W_X12_readHead_135 {T : List Shp} {c : Nat → Int → Int} {Q : Res → Prop} {y0 : Int} (k : ((y0 = (-1) → (QV T (fun c1 => Q (some (some (vI y0), (SH T, c1)))) (ccal 223 [vR 78, vI 0] (SH T, c)))) ∧ (¬ y0 = (-1) → (QV T (fun c2 => Q (some (some (vI y0), (SH T, c2)))) (ccal 223 [vR 78, vI 1] (SH T, c)))))) : Q (cev 327 4 135 [vR 78, vU, vU] [vI y0] (SH T, c)) := by
  refine of_cev (Q := Q) ?_
  refine wq_ite (Q := Q) (p := y0 = (-1)) (fun h => ?_) (fun h => ?_)
  · replace k := k.1 h
    show Q (cev 327 4 146 [vU, vU, vI y0] [vR 78] (SH T, c))
    refine of_cev (Q := Q) ?_
    refine wq_callV (Q := Q) rfl k ?_
    intro c1 k
    exact k
  · replace k := k.2 h
    refine wq_callV (Q := Q) rfl k ?_
    intro c2 k
    exact k
set_option maxRecDepth 20000 in
theorem W_X12_readOrder {T : List Shp} {c : Nat → Int → Int} {Q : Res → Prop} (k : (QI T (fun r1 c2 => (((c2 77 15) = 0 → (((-2147483648 ≤ 10 * (c2 77 17) ∧ 10 * (c2 77 17) < 2147483648) ∧ (-2147483648 ≤ (c2 77 17) + 1 ∧ (c2 77 17) + 1 < 2147483648) ∧ (0 ≤ (10 * (c2 77 17)) ∧ (10 * (c2 77 17)) < 120)) ∧ ((r1 = 2 → Q (cev 328 9 48 [vR 78, vI r1, vI (10 * (c2 77 17))] [] (SH T, (up (up c2 77 17 ((c2 77 17) + 1)) 107 (10 * (c2 77 17)) r1)))) ∧ (¬ r1 = 2 → ((r1 = 5 → Q (cev 328 9 48 [vR 78, vI r1, vI (10 * (c2 77 17))] [] (SH T, (up (up c2 77 17 ((c2 77 17) + 1)) 107 (10 * (c2 77 17)) r1)))) ∧ (¬ r1 = 5 → Q (cev 328 9 55 [vR 78, vI r1, vI (10 * (c2 77 17))] [] (SH T, (up (up c2 77 17 ((c2 77 17) + 1)) 107 (10 * (c2 77 17)) r1))))))))) ∧ (¬ (c2 77 15) = 0 → Q (some (none, (SH T, c2)))))) (ccal 327 [vR 78] (SH T, c)))) : Q (ccal 328 [vR 78] (SH T, c)) := by
  refine of_cev (Q := Q) ?_
  refine wq_callI (Q := Q) rfl k ?_
  intro r1 c2 k
  refine wq_ite (Q := Q) (p := (c2 77 15) = 0) (fun h => ?_) (fun h => ?_)
  · replace k := k.1 h
    show Q (cev 328 9 13 [vR 78, vI r1, vU] [] (SH T, c2))
    refine of_cev (Q := Q) ?_
    refine wq_pos (Q := Q) k.1.1 ?_
    refine wq_pos (Q := Q) k.1.2.1 ?_
    refine wq_pos (Q := Q) k.1.2.2 ?_
    replace k := k.2
    refine wq_ite (Q := Q) (p := r1 = 2) (fun h => ?_) (fun h => ?_)
    · replace k := k.1 h
      exact k
    · replace k := k.2 h
      refine wq_ite (Q := Q) (p := r1 = 5) (fun h => ?_) (fun h => ?_)
      · replace k := k.1 h
        exact k
      · replace k := k.2 h
        exact k
  · replace k := k.2 h
    exact k
set_option maxRecDepth 20000 in
theorem W_X12_readOrder_48 {T : List Shp} {c : Nat → Int → Int} {Q : Res → Prop} {x1 x2 : Int} (k : ((-2147483648 ≤ x2 + 1 ∧ x2 + 1 < 2147483648) ∧ (QV T (fun c1 => Q (cev 328 9 55 [vR 78, vI x1, vI x2] [] (SH T, c1))) (ccal 326 [vR 78, vI (x2 + 1)] (SH T, c))))) : Q (cev 328 9 48 [vR 78, vI x1, vI x2] [] (SH T, c)) := by
  refine of_cev (Q := Q) ?_
  refine wq_pos (Q := Q) k.1 ?_
  replace k := k.2
  refine wq_callV (Q := Q) rfl k ?_
  intro c1 k
  exact k
set_option maxRecDepth 20000 in
theorem W_X12_readOrder_55 {T : List Shp} {c : Nat → Int → Int} {Q : Res → Prop} {x1 x2 : Int} (k : ((x1 = 5 → (((c 77 15) = 0 → (QV T (fun c1 => ((-2147483648 ≤ x2 + 3 ∧ x2 + 3 < 2147483648) ∧ (QV T (fun c2 => Q (cev 328 9 85 [vR 78, vI x1, vI x2] [] (SH T, c2))) (ccal 326 [vR 78, vI (x2 + 3)] (SH T, c1))))) (ccal 223 [vR 78, vI (b01 ((c 77 12) = 1 ∧ (c 77 13) = 52))] (SH T, c)))) ∧ (¬ (c 77 15) = 0 → Q (cev 328 9 85 [vR 78, vI x1, vI x2] [] (SH T, c))))) ∧ (¬ x1 = 5 → Q (cev 328 9 85 [vR 78, vI x1, vI x2] [] (SH T, c))))) : Q (cev 328 9 55 [vR 78, vI x1, vI x2] [] (SH T, c)) := by
  refine of_cev (Q := Q) ?_
  refine wq_ite (Q := Q) (p := x1 = 5) (fun h => ?_) (fun h => ?_)
  · replace k := k.1 h
    refine wq_ite (Q := Q) (p := (c 77 15) = 0) (fun h => ?_) (fun h => ?_)
    · replace k := k.1 h
      refine wq_sum (Q := Q) rfl (S_X12_isWord T c 52) ?_
      refine wq_callV (Q := Q) rfl k ?_
      intro c1 k
      refine wq_pos (Q := Q) k.1 ?_
      replace k := k.2
      refine wq_callV (Q := Q) rfl k ?_
      intro c2 k
      exact k
    · replace k := k.2 h
      exact k
  · replace k := k.2 h
    exact k
set_option maxRecDepth 20000 in
theorem W_X12_readOrder_85 {T : List Shp} {c : Nat → Int → Int} {Q : Res → Prop} {x1 x2 : Int} (k : ((x1 = 5 → (((c 77 15) = 0 → (QV T (fun c1 => ((-2147483648 ≤ x2 + 5 ∧ x2 + 5 < 2147483648) ∧ (QV T (fun c2 => Q (cev 328 9 115 [vR 78, vU, vI x2] [] (SH T, c2))) (ccal 326 [vR 78, vI (x2 + 5)] (SH T, c1))))) (ccal 223 [vR 78, vI (b01 ((c 77 12) = 1 ∧ (c 77 13) = 763528))] (SH T, c)))) ∧ (¬ (c 77 15) = 0 → Q (cev 328 9 115 [vR 78, vU, vI x2] [] (SH T, c))))) ∧ (¬ x1 = 5 → Q (cev 328 9 115 [vR 78, vU, vI x2] [] (SH T, c))))) : Q (cev 328 9 85 [vR 78, vI x1, vI x2] [] (SH T, c)) := by
  refine of_cev (Q := Q) ?_
  refine wq_ite (Q := Q) (p := x1 = 5) (fun h => ?_) (fun h => ?_)
  · replace k := k.1 h
    refine wq_ite (Q := Q) (p := (c 77 15) = 0) (fun h => ?_) (fun h => ?_)
    · replace k := k.1 h
      refine wq_sum (Q := Q) rfl (S_X12_isWord T c 763528) ?_
      refine wq_callV (Q := Q) rfl k ?_
      intro c1 k
      refine wq_pos (Q := Q) k.1 ?_
      replace k := k.2
      refine wq_callV (Q := Q) rfl k ?_
      intro c2 k
      exact k
    · replace k := k.2 h
      exact k
  · replace k := k.2 h
    exact k
set_option maxRecDepth 20000 in
theorem W_X12_readOrder_115 {T : List Shp} {c : Nat → Int → Int} {Q : Res → Prop} {x2 : Int} (k : (((-2147483648 ≤ x2 + 9 ∧ x2 + 9 < 2147483648) ∧ (0 ≤ (x2 + 9) ∧ (x2 + 9) < 120)) ∧ (((c 77 15) = 0 → (((c 77 12) = 1 ∧ (c 77 13) = 21279923 → (QV T (fun c1 => ((-2147483648 ≤ x2 + 9 ∧ x2 + 9 < 2147483648) ∧ (QI T (fun r2 c3 => ((0 ≤ (x2 + 9) ∧ (x2 + 9) < 120) ∧ Q (cev 328 9 163 [vR 78, vU, vI x2] [] (SH T, (up c3 107 (x2 + 9) r2))))) (ccal 224 [vR 78, vL 1, vL 20] (SH T, c1))))) (ccal 220 [vR 78] (SH T, (up c 107 (x2 + 9) 1))))) ∧ (¬ ((c 77 12) = 1 ∧ (c 77 13) = 21279923) → Q (cev 328 9 163 [vR 78, vU, vI x2] [] (SH T, (up c 107 (x2 + 9) 1)))))) ∧ (¬ (c 77 15) = 0 → Q (cev 328 9 163 [vR 78, vU, vI x2] [] (SH T, (up c 107 (x2 + 9) 1))))))) : Q (cev 328 9 115 [vR 78, vU, vI x2] [] (SH T, c)) := by
  refine of_cev (Q := Q) ?_
  refine wq_pos (Q := Q) k.1.1 ?_
  refine wq_pos (Q := Q) k.1.2 ?_
  replace k := k.2
  refine wq_ite (Q := Q) (p := (c 77 15) = 0) (fun h => ?_) (fun h => ?_)
  · replace k := k.1 h
    refine wq_sum (Q := Q) rfl (S_X12_isWord T (up c 107 (x2 + 9) 1) 21279923) ?_
    refine wq_b01 (Q := Q) (p := (c 77 12) = 1 ∧ (c 77 13) = 21279923) (fun h => ?_) (fun h => ?_)
    · replace k := k.2 h
      exact k
    · replace k := k.1 h
      refine wq_callV (Q := Q) rfl k ?_
      intro c1 k
      refine wq_pos (Q := Q) k.1 ?_
      replace k := k.2
      refine wq_callI (Q := Q) rfl k ?_
      intro r2 c3 k
      refine wq_pos (Q := Q) k.1 ?_
      replace k := k.2
      exact k
  · replace k := k.2 h
    exact k
set_option maxRecDepth 20000 in
theorem W_X12_readOrder_163 {T : List Shp} {c : Nat → Int → Int} {Q : Res → Prop} {x2 : Int} (k : (((-2147483648 ≤ x2 + 7 ∧ x2 + 7 < 2147483648) ∧ (0 ≤ (x2 + 7) ∧ (x2 + 7) < 120)) ∧ (((c 77 15) = 0 → (((c 77 12) = 1 ∧ (c 77 13) = 294 → (QV T (fun c1 => (QV T (fun c2 => (((-2147483648 ≤ x2 + 8 ∧ x2 + 8 < 2147483648) ∧ (0 ≤ (x2 + 8) ∧ (x2 + 8) < 120)) ∧ Q (some (none, (SH T, (up c2 107 (x2 + 8) (c2 77 19))))))) (ccal 240 [vR 78, vI 1] (SH T, c1)))) (ccal 220 [vR 78] (SH T, (up c 107 (x2 + 7) (c 77 19)))))) ∧ (¬ ((c 77 12) = 1 ∧ (c 77 13) = 294) → (((-2147483648 ≤ x2 + 8 ∧ x2 + 8 < 2147483648) ∧ (0 ≤ (x2 + 8) ∧ (x2 + 8) < 120)) ∧ Q (some (none, (SH T, (up (up c 107 (x2 + 7) (c 77 19)) 107 (x2 + 8) (c 77 19))))))))) ∧ (¬ (c 77 15) = 0 → (((-2147483648 ≤ x2 + 8 ∧ x2 + 8 < 2147483648) ∧ (0 ≤ (x2 + 8) ∧ (x2 + 8) < 120)) ∧ Q (some (none, (SH T, (up (up c 107 (x2 + 7) (c 77 19)) 107 (x2 + 8) (c 77 19)))))))))) : Q (cev 328 9 163 [vR 78, vU, vI x2] [] (SH T, c)) := by
  refine of_cev (Q := Q) ?_
  refine wq_pos (Q := Q) k.1.1 ?_
  refine wq_pos (Q := Q) k.1.2 ?_
  replace k := k.2
  refine wq_ite (Q := Q) (p := (c 77 15) = 0) (fun h => ?_) (fun h => ?_)
  · replace k := k.1 h
    refine wq_sum (Q := Q) rfl (S_X12_isWord T (up c 107 (x2 + 7) (c 77 19)) 294) ?_
    refine wq_b01 (Q := Q) (p := (c 77 12) = 1 ∧ (c 77 13) = 294) (fun h => ?_) (fun h => ?_)
    · replace k := k.2 h
      show Q (cev 328 9 202 [vR 78, vU, vI x2] [] (SH T, (up c 107 (x2 + 7) (c 77 19))))
      refine of_cev (Q := Q) ?_
      refine wq_pos (Q := Q) k.1.1 ?_
      refine wq_pos (Q := Q) k.1.2 ?_
      replace k := k.2
      exact k
    · replace k := k.1 h
      refine wq_callV (Q := Q) rfl k ?_
      intro c1 k
      refine wq_callV (Q := Q) rfl k ?_
      intro c2 k
      show Q (cev 328 9 202 [vR 78, vU, vI x2] [] (SH T, c2))
      refine of_cev (Q := Q) ?_
      refine wq_pos (Q := Q) k.1.1 ?_
      refine wq_pos (Q := Q) k.1.2 ?_
      replace k := k.2
      exact k
  · replace k := k.2 h
    show Q (cev 328 9 202 [vR 78, vU, vI x2] [] (SH T, (up c 107 (x2 + 7) (c 77 19))))
    refine of_cev (Q := Q) ?_
    refine wq_pos (Q := Q) k.1.1 ?_
    refine wq_pos (Q := Q) k.1.2 ?_
    replace k := k.2
    exact k
set_option maxRecDepth 20000 in
theorem W_X12_setNow {T : List Shp} {c : Nat → Int → Int} {Q : Res → Prop} (k : (QI T (fun r1 c2 => (QI T (fun r3 c4 => (QI T (fun r5 c6 => Q (some (none, (SH T, (up (up c6 93 5 r5) 93 6 (c6 77 55)))))) (ccal 251 [vR 78, vI (c4 79 4)] (SH T, (up (up c4 93 3 r3) 93 4 (c4 79 5)))))) (ccal 274 [vR 78, vI (c2 79 4)] (SH T, (up c2 93 2 r1))))) (ccal 264 [vR 78, vI (c 79 4)] (SH T, (up c 93 1 (c 79 4)))))) : Q (ccal 329 [vR 78] (SH T, c)) := by
  refine of_cev (Q := Q) ?_
  refine wq_sum (Q := Q) rfl (S_X12_years T c ) ?_
  refine wq_sum (Q := Q) rfl (S_X12_years T (up c 93 1 (c 79 4)) ) ?_
  refine wq_callI (Q := Q) rfl k ?_
  intro r1 c2 k
  refine wq_sum (Q := Q) rfl (S_X12_years T (up c2 93 2 r1) ) ?_
  refine wq_callI (Q := Q) rfl k ?_
  intro r3 c4 k
  refine wq_sum (Q := Q) rfl (S_X12_years T (up (up c4 93 3 r3) 93 4 (c4 79 5)) ) ?_
  refine wq_callI (Q := Q) rfl k ?_
  intro r5 c6 k
  exact k
set_option maxRecDepth 20000 in
theorem W_X12_sumOf {T : List Shp} {c : Nat → Int → Int} {Q : Res → Prop} {x1 : Int} (k : (((0 ≤ x1 ∧ x1 < 120) ∧ (-2147483648 ≤ x1 + 1 ∧ x1 + 1 < 2147483648) ∧ (0 ≤ (x1 + 1) ∧ (x1 + 1) < 120)) ∧ (QV T (fun c1 => Q (some (some (vL (c1 77 35)), (SH T, (up c1 77 16 0))))) (ccal 247 [vR 78, vI (c 107 x1), vI (c 107 (x1 + 1))] (SH T, (up c 77 16 1)))))) : Q (ccal 330 [vR 78, vI x1] (SH T, c)) := by
  refine of_cev (Q := Q) ?_
  refine wq_pos (Q := Q) k.1.1 ?_
  refine wq_pos (Q := Q) k.1.2.1 ?_
  refine wq_pos (Q := Q) k.1.2.2 ?_
  replace k := k.2
  refine wq_callV (Q := Q) rfl k ?_
  intro c1 k
  exact k
set_option maxRecDepth 20000 in
theorem W_X12_run {T : List Shp} {c : Nat → Int → Int} {Q : Res → Prop} {x1 : Int} (k : (QV T (fun c1 => (((-2147483648 ≤ x1 + 7 ∧ x1 + 7 < 2147483648) ∧ (0 ≤ (x1 + 7) ∧ (x1 + 7) < 120) ∧ (-2147483648 ≤ x1 + 8 ∧ x1 + 8 < 2147483648) ∧ (0 ≤ (x1 + 8) ∧ (x1 + 8) < 120)) ∧ (((c1 107 (x1 + 7)) < (c1 107 (x1 + 8)) → ((-2147483648 ≤ x1 + 7 ∧ x1 + 7 < 2147483648) ∧ (QL T (fun r2 c3 => (((c3 77 34) = 0 → ((r2 = 0 → Q (some (some (vI 0), (SH T, c3)))) ∧ (¬ r2 = 0 → Q (cev 331 11 49 [vR 78, vI x1, vU, vU] [] (SH T, c3))))) ∧ (¬ (c3 77 34) = 0 → Q (some (some (vI 0), (SH T, c3)))))) (ccal 330 [vR 78, vI (x1 + 7)] (SH T, c1))))) ∧ (¬ (c1 107 (x1 + 7)) < (c1 107 (x1 + 8)) → Q (cev 331 11 49 [vR 78, vI x1, vU, vU] [] (SH T, c1)))))) (ccal 329 [vR 78] (SH T, c)))) : Q (ccal 331 [vR 78, vI x1] (SH T, c)) := by
  refine of_cev (Q := Q) ?_
  refine wq_callV (Q := Q) rfl k ?_
  intro c1 k
  refine wq_pos (Q := Q) k.1.1 ?_
  refine wq_pos (Q := Q) k.1.2.1 ?_
  refine wq_pos (Q := Q) k.1.2.2.1 ?_
  refine wq_pos (Q := Q) k.1.2.2.2 ?_
  replace k := k.2
  refine wq_ite (Q := Q) (p := (c1 107 (x1 + 7)) < (c1 107 (x1 + 8))) (fun h => ?_) (fun h => ?_)
  · replace k := k.1 h
    refine wq_pos (Q := Q) k.1 ?_
    replace k := k.2
    refine wq_callL (Q := Q) rfl k ?_
    intro r2 c3 k
    refine wq_ite (Q := Q) (p := (c3 77 34) = 0) (fun h => ?_) (fun h => ?_)
    · replace k := k.1 h
      refine wq_lc1 (Q := Q) (x := r2) (y := 0) (fun h => ?_) (fun h => ?_)
      · replace k := k.1 h
        show Q (cev 331 11 47 [vU, vU, vU, vU] [] (SH T, c3))
        refine of_cev (Q := Q) ?_
        exact k
      · replace k := k.2 h
        exact k
    · replace k := k.2 h
      show Q (cev 331 11 47 [vU, vU, vU, vU] [] (SH T, c3))
      refine of_cev (Q := Q) ?_
      exact k
  · replace k := k.2 h
    exact k
set_option maxRecDepth 20000 in
theorem W_X12_run_49 {T : List Shp} {c : Nat → Int → Int} {Q : Res → Prop} {x1 : Int} (k : ((0 ≤ x1 ∧ x1 < 120) ∧ (QI T (fun r1 c2 => ((r1 < 0 → Q (cev 331 11 75 [vU, vU, vI r1, vU] [vI 0, vI (c2 77 55), vR 78] (SH T, c2))) ∧ (¬ r1 < 0 → Q (cev 331 11 75 [vU, vU, vI r1, vU] [vI 1, vI (c2 77 55), vR 78] (SH T, c2))))) (ccal 332 [vR 78, vI x1, vI (c 107 x1)] (SH T, c))))) : Q (cev 331 11 49 [vR 78, vI x1, vU, vU] [] (SH T, c)) := by
  refine of_cev (Q := Q) ?_
  refine wq_pos (Q := Q) k.1 ?_
  replace k := k.2
  refine wq_callI (Q := Q) rfl k ?_
  intro r1 c2 k
  refine wq_ite (Q := Q) (p := r1 < 0) (fun h => ?_) (fun h => ?_)
  · replace k := k.1 h
    exact k
  · replace k := k.2 h
    show Q (cev 331 11 74 [vU, vU, vI r1, vU] [vI (c2 77 55), vR 78] (SH T, c2))
    refine of_cev (Q := Q) ?_
    exact k
set_option maxRecDepth 20000 in
theorem W_X12_run_75 {T : List Shp} {c : Nat → Int → Int} {Q : Res → Prop} {x2 y0 y1 : Int} (k : ((-2147483648 ≤ y1 + y0 ∧ y1 + y0 < 2147483648) ∧ ((x2 < 0 → Q (some (some (vI x2), (SH T, (up c 77 55 (y1 + y0)))))) ∧ (¬ x2 < 0 → Q (some (some (vI 0), (SH T, (up c 77 55 (y1 + y0))))))))) : Q (cev 331 11 75 [vU, vU, vI x2, vU] [vI y0, vI y1, vR 78] (SH T, c)) := by
  refine of_cev (Q := Q) ?_
  refine wq_pos (Q := Q) k.1 ?_
  replace k := k.2
  refine wq_ite (Q := Q) (p := x2 < 0) (fun h => ?_) (fun h => ?_)
  · replace k := k.1 h
    exact k
  · replace k := k.2 h
    show Q (cev 331 11 87 [vU, vU, vU, vU] [] (SH T, (up c 77 55 (y1 + y0))))
    refine of_cev (Q := Q) ?_
    exact k
set_option maxRecDepth 20000 in
theorem W_X12_act {T : List Shp} {c : Nat → Int → Int} {Q : Res → Prop} {x1 x2 : Int} (k : ((x2 = 2 → ((-2147483648 ≤ x1 + 1 ∧ x1 + 1 < 2147483648) ∧ (QL T (fun r1 c2 => (((c2 77 34) = 0 → ((-9223372036854775808 ≤ (c2 79 0) - 1 ∧ (c2 79 0) - 1 < 9223372036854775808) ∧ ((0 ≤ r1 ∧ r1 ≤ ((c2 79 0) - 1) → (QI T (fun r3 c4 => Q (some (some (vI r3), (SH T, c4)))) (ccal 266 [vR 78, vI (w32 r1)] (SH T, c2)))) ∧ (¬ (0 ≤ r1 ∧ r1 ≤ ((c2 79 0) - 1)) → Q (some (some (vI (-3)), (SH T, c2))))))) ∧ (¬ (c2 77 34) = 0 → Q (some (some (vI (-3)), (SH T, c2)))))) (ccal 330 [vR 78, vI (x1 + 1)] (SH T, c))))) ∧ ((x2 = 3 → (((c 79 4) = 0 → Q (some (some (vI (-3)), (SH T, c)))) ∧ (¬ (c 79 4) = 0 → ((-2147483648 ≤ (c 79 4) - 1 ∧ (c 79 4) - 1 < 2147483648) ∧ Q (some (some (vI 0), (SH T, (up c 79 4 ((c 79 4) - 1))))))))) ∧ ((x2 = 4 → (QI T (fun r5 c6 => Q (some (some (vI r5), (SH T, c6)))) (ccal 285 [vR 78] (SH T, c)))) ∧ ((x2 = 5 → (QI T (fun r7 c8 => Q (some (some (vI r7), (SH T, c8)))) (ccal 333 [vR 78, vI x1] (SH T, c)))) ∧ (¬ (x2 = 2 ∨ x2 = 3 ∨ x2 = 4 ∨ x2 = 5) → (QV T (fun c9 => (((c9 77 46) = 0 → Q (some (some (vI (-3)), (SH T, c9)))) ∧ (¬ (c9 77 46) = 0 → (QI T (fun r10 c11 => Q (some (some (vI r10), (SH T, c11)))) (ccal 266 [vR 78, vI (c9 98 0)] (SH T, c9)))))) (ccal 278 [vR 78, vI x2, vI 1] (SH T, c))))))))) : Q (ccal 332 [vR 78, vI x1, vI x2] (SH T, c)) := by
  refine of_cev (Q := Q) ?_
  refine wq_ite (Q := Q) (p := x2 = 2) (fun h0 => ?_) (fun h0 => ?_)
  · replace k := k.1 h0
    show Q (cev 332 10 65 [vR 78, vI x1, vU, vU, vU] [] (SH T, c))
    refine of_cev (Q := Q) ?_
    refine wq_pos (Q := Q) k.1 ?_
    replace k := k.2
    refine wq_callL (Q := Q) rfl k ?_
    intro r1 c2 k
    refine wq_ite (Q := Q) (p := (c2 77 34) = 0) (fun h => ?_) (fun h => ?_)
    · replace k := k.1 h
      refine wq_pos (Q := Q) k.1 ?_
      refine wq_sum (Q := Q) rfl (S_X12_in T c2 r1 0 ((c2 79 0) - 1)) ?_
      replace k := k.2
      refine wq_b01 (Q := Q) (p := 0 ≤ r1 ∧ r1 ≤ ((c2 79 0) - 1)) (fun h => ?_) (fun h => ?_)
      · replace k := k.2 h
        show Q (cev 332 10 97 [vU, vU, vU, vU, vU] [] (SH T, c2))
        refine of_cev (Q := Q) ?_
        exact k
      · replace k := k.1 h
        show Q (cev 332 10 102 [vR 78, vU, vU, vL r1, vU] [] (SH T, c2))
        refine of_cev (Q := Q) ?_
        refine wq_callI (Q := Q) rfl k ?_
        intro r3 c4 k
        exact k
    · replace k := k.2 h
      show Q (cev 332 10 97 [vU, vU, vU, vU, vU] [] (SH T, c2))
      refine of_cev (Q := Q) ?_
      exact k
  replace k := k.2
  refine wq_ite (Q := Q) (p := x2 = 3) (fun h1 => ?_) (fun h1 => ?_)
  · replace k := k.1 h1
    show Q (cev 332 10 32 [vR 78, vU, vU, vU, vU] [] (SH T, c))
    refine of_cev (Q := Q) ?_
    refine wq_sum (Q := Q) rfl (S_X12_years T c ) ?_
    refine wq_ite (Q := Q) (p := (c 79 4) = 0) (fun h => ?_) (fun h => ?_)
    · replace k := k.1 h
      exact k
    · replace k := k.2 h
      show Q (cev 332 10 42 [vR 78, vU, vU, vU, vU] [] (SH T, c))
      refine of_cev (Q := Q) ?_
      refine wq_pos (Q := Q) k.1 ?_
      replace k := k.2
      exact k
  replace k := k.2
  refine wq_ite (Q := Q) (p := x2 = 4) (fun h2 => ?_) (fun h2 => ?_)
  · replace k := k.1 h2
    show Q (cev 332 10 54 [vR 78, vU, vU, vU, vU] [] (SH T, c))
    refine of_cev (Q := Q) ?_
    refine wq_callI (Q := Q) rfl k ?_
    intro r5 c6 k
    exact k
  replace k := k.2
  refine wq_ite (Q := Q) (p := x2 = 5) (fun h3 => ?_) (fun h3 => ?_)
  · replace k := k.1 h3
    show Q (cev 332 10 59 [vR 78, vI x1, vU, vU, vU] [] (SH T, c))
    refine of_cev (Q := Q) ?_
    refine wq_callI (Q := Q) rfl k ?_
    intro r7 c8 k
    exact k
  replace k := k.2
  replace k := k (fun h => by rcases h with h | h | h | h <;> first | exact h0 h | exact h1 h | exact h2 h | exact h3 h)
  show Q (cev 332 10 109 [vR 78, vU, vI x2, vU, vU] [] (SH T, c))
  refine of_cev (Q := Q) ?_
  refine wq_callV (Q := Q) rfl k ?_
  intro c9 k
  refine wq_ite (Q := Q) (p := (c9 77 46) = 0) (fun h => ?_) (fun h => ?_)
  · replace k := k.1 h
    exact k
  · replace k := k.2 h
    show Q (cev 332 10 127 [vR 78, vU, vU, vU, vU] [] (SH T, c9))
    refine of_cev (Q := Q) ?_
    refine wq_callI (Q := Q) rfl k ?_
    intro r10 c11 k
    exact k
set_option maxRecDepth 20000 in
theorem W_X12_touchNow {T : List Shp} {c : Nat → Int → Int} {Q : Res → Prop} {x1 : Int} (k : ((-2147483648 ≤ x1 + 1 ∧ x1 + 1 < 2147483648) ∧ (QL T (fun r1 c2 => (((c2 77 34) = 0 → Q (cev 333 5 20 [vR 78, vI x1, vL r1, vU, vU, vU, vU, vU, vU] [vI 1] (SH T, c2))) ∧ (¬ (c2 77 34) = 0 → Q (cev 333 5 20 [vR 78, vI x1, vL r1, vU, vU, vU, vU, vU, vU] [vI 0] (SH T, c2))))) (ccal 330 [vR 78, vI (x1 + 1)] (SH T, c))))) : Q (ccal 333 [vR 78, vI x1] (SH T, c)) := by
  refine of_cev (Q := Q) ?_
  refine wq_pos (Q := Q) k.1 ?_
  replace k := k.2
  refine wq_callL (Q := Q) rfl k ?_
  intro r1 c2 k
  refine wq_ite (Q := Q) (p := (c2 77 34) = 0) (fun h => ?_) (fun h => ?_)
  · replace k := k.1 h
    exact k
  · replace k := k.2 h
    show Q (cev 333 5 19 [vR 78, vI x1, vL r1, vU, vU, vU, vU, vU, vU] [] (SH T, c2))
    refine of_cev (Q := Q) ?_
    exact k
set_option maxRecDepth 20000 in
theorem W_X12_touchNow_20 {T : List Shp} {c : Nat → Int → Int} {Q : Res → Prop} {x1 x2 y0 : Int} (k : ((y0 = 0 → Q (cev 333 5 38 [vR 78, vI x1, vL x2, vU, vI y0, vU, vU, vU, vU] [vL 0] (SH T, c))) ∧ (¬ y0 = 0 → ((-2147483648 ≤ x1 + 3 ∧ x1 + 3 < 2147483648) ∧ (QL T (fun r1 c2 => Q (cev 333 5 38 [vR 78, vI x1, vL x2, vU, vI y0, vU, vU, vU, vU] [vL r1] (SH T, c2))) (ccal 330 [vR 78, vI (x1 + 3)] (SH T, c))))))) : Q (cev 333 5 20 [vR 78, vI x1, vL x2, vU, vU, vU, vU, vU, vU] [vI y0] (SH T, c)) := by
  refine of_cev (Q := Q) ?_
  refine wq_ite (Q := Q) (p := y0 = 0) (fun h => ?_) (fun h => ?_)
  · replace k := k.1 h
    show Q (cev 333 5 37 [vR 78, vI x1, vL x2, vU, vI y0, vU, vU, vU, vU] [] (SH T, c))
    refine of_cev (Q := Q) ?_
    exact k
  · replace k := k.2 h
    refine wq_pos (Q := Q) k.1 ?_
    replace k := k.2
    refine wq_callL (Q := Q) rfl k ?_
    intro r1 c2 k
    exact k
set_option maxRecDepth 20000 in
theorem W_X12_touchNow_38 {T : List Shp} {c : Nat → Int → Int} {Q : Res → Prop} {x1 x2 x4 y0 : Int} (k : ((x4 = 0 → Q (cev 333 5 57 [vR 78, vI x1, vL x2, vU, vU, vL y0, vU, vU, vU] [vI 0] (SH T, c))) ∧ (¬ x4 = 0 → (((c 77 34) = 0 → Q (cev 333 5 57 [vR 78, vI x1, vL x2, vU, vU, vL y0, vU, vU, vU] [vI 1] (SH T, c))) ∧ (¬ (c 77 34) = 0 → Q (cev 333 5 57 [vR 78, vI x1, vL x2, vU, vU, vL y0, vU, vU, vU] [vI 0] (SH T, c))))))) : Q (cev 333 5 38 [vR 78, vI x1, vL x2, vU, vI x4, vU, vU, vU, vU] [vL y0] (SH T, c)) := by
  refine of_cev (Q := Q) ?_
  refine wq_ite (Q := Q) (p := x4 = 0) (fun h => ?_) (fun h => ?_)
  · replace k := k.1 h
    show Q (cev 333 5 56 [vR 78, vI x1, vL x2, vU, vU, vL y0, vU, vU, vU] [] (SH T, c))
    refine of_cev (Q := Q) ?_
    exact k
  · replace k := k.2 h
    refine wq_ite (Q := Q) (p := (c 77 34) = 0) (fun h => ?_) (fun h => ?_)
    · replace k := k.1 h
      exact k
    · replace k := k.2 h
      show Q (cev 333 5 56 [vR 78, vI x1, vL x2, vU, vU, vL y0, vU, vU, vU] [] (SH T, c))
      refine of_cev (Q := Q) ?_
      exact k
set_option maxRecDepth 20000 in
theorem W_X12_touchNow_57 {T : List Shp} {c : Nat → Int → Int} {Q : Res → Prop} {x1 x2 x5 y0 : Int} (k : ((y0 = 0 → Q (cev 333 5 75 [vR 78, vU, vL x2, vU, vI y0, vL x5, vU, vU, vU] [vL 0] (SH T, c))) ∧ (¬ y0 = 0 → ((-2147483648 ≤ x1 + 5 ∧ x1 + 5 < 2147483648) ∧ (QL T (fun r1 c2 => Q (cev 333 5 75 [vR 78, vU, vL x2, vU, vI y0, vL x5, vU, vU, vU] [vL r1] (SH T, c2))) (ccal 330 [vR 78, vI (x1 + 5)] (SH T, c))))))) : Q (cev 333 5 57 [vR 78, vI x1, vL x2, vU, vU, vL x5, vU, vU, vU] [vI y0] (SH T, c)) := by
  refine of_cev (Q := Q) ?_
  refine wq_ite (Q := Q) (p := y0 = 0) (fun h => ?_) (fun h => ?_)
  · replace k := k.1 h
    show Q (cev 333 5 74 [vR 78, vU, vL x2, vU, vI y0, vL x5, vU, vU, vU] [] (SH T, c))
    refine of_cev (Q := Q) ?_
    exact k
  · replace k := k.2 h
    refine wq_pos (Q := Q) k.1 ?_
    replace k := k.2
    refine wq_callL (Q := Q) rfl k ?_
    intro r1 c2 k
    exact k
set_option maxRecDepth 20000 in
theorem W_X12_touchNow_75 {T : List Shp} {c : Nat → Int → Int} {Q : Res → Prop} {x2 x4 x5 y0 : Int} (k : ((x4 = 0 → Q (cev 333 5 94 [vR 78, vU, vL x2, vU, vU, vL x5, vU, vL y0, vU] [vI 0] (SH T, c))) ∧ (¬ x4 = 0 → (((c 77 34) = 0 → Q (cev 333 5 94 [vR 78, vU, vL x2, vU, vU, vL x5, vU, vL y0, vU] [vI 1] (SH T, c))) ∧ (¬ (c 77 34) = 0 → Q (cev 333 5 94 [vR 78, vU, vL x2, vU, vU, vL x5, vU, vL y0, vU] [vI 0] (SH T, c))))))) : Q (cev 333 5 75 [vR 78, vU, vL x2, vU, vI x4, vL x5, vU, vU, vU] [vL y0] (SH T, c)) := by
  refine of_cev (Q := Q) ?_
  refine wq_ite (Q := Q) (p := x4 = 0) (fun h => ?_) (fun h => ?_)
  · replace k := k.1 h
    show Q (cev 333 5 93 [vR 78, vU, vL x2, vU, vU, vL x5, vU, vL y0, vU] [] (SH T, c))
    refine of_cev (Q := Q) ?_
    exact k
  · replace k := k.2 h
    refine wq_ite (Q := Q) (p := (c 77 34) = 0) (fun h => ?_) (fun h => ?_)
    · replace k := k.1 h
      exact k
    · replace k := k.2 h
      show Q (cev 333 5 93 [vR 78, vU, vL x2, vU, vU, vL x5, vU, vL y0, vU] [] (SH T, c))
      refine of_cev (Q := Q) ?_
      exact k
set_option maxRecDepth 20000 in
theorem W_X12_touchNow_94 {T : List Shp} {c : Nat → Int → Int} {Q : Res → Prop} {x2 x5 x7 y0 : Int} (k : ((y0 = 0 → Q (some (some (vI (-3)), (SH T, c)))) ∧ (¬ y0 = 0 → ((-9223372036854775808 ≤ (c 79 5) - 1 ∧ (c 79 5) - 1 < 9223372036854775808) ∧ ((0 ≤ x2 ∧ x2 ≤ ((c 79 5) - 1) → ((0 ≤ x5 ∧ x5 ≤ 11 → ((0 ≤ x7 ∧ x7 ≤ 9 → (((-2147483648 ≤ 12 * (w32 x2) ∧ 12 * (w32 x2) < 2147483648) ∧ (-2147483648 ≤ 276 + (12 * (w32 x2)) ∧ 276 + (12 * (w32 x2)) < 2147483648) ∧ (-2147483648 ≤ (276 + (12 * (w32 x2))) + (w32 x5) ∧ (276 + (12 * (w32 x2))) + (w32 x5) < 2147483648) ∧ (0 ≤ ((276 + (12 * (w32 x2))) + (w32 x5)) ∧ ((276 + (12 * (w32 x2))) + (w32 x5)) < 5780)) ∧ Q (some (some (vI 0), (SH T, (up c 79 ((276 + (12 * (w32 x2))) + (w32 x5)) (w32 x7))))))) ∧ (¬ (0 ≤ x7 ∧ x7 ≤ 9) → Q (some (some (vI (-3)), (SH T, c)))))) ∧ (¬ (0 ≤ x5 ∧ x5 ≤ 11) → Q (some (some (vI (-3)), (SH T, c)))))) ∧ (¬ (0 ≤ x2 ∧ x2 ≤ ((c 79 5) - 1)) → Q (some (some (vI (-3)), (SH T, c))))))))) : Q (cev 333 5 94 [vR 78, vU, vL x2, vU, vU, vL x5, vU, vL x7, vU] [vI y0] (SH T, c)) := by
  refine of_cev (Q := Q) ?_
  refine wq_ite (Q := Q) (p := y0 = 0) (fun h => ?_) (fun h => ?_)
  · replace k := k.1 h
    show Q (cev 333 5 142 [vU, vU, vU, vU, vU, vU, vU, vU, vU] [] (SH T, c))
    refine of_cev (Q := Q) ?_
    exact k
  · replace k := k.2 h
    refine wq_pos (Q := Q) k.1 ?_
    refine wq_sum (Q := Q) rfl (S_X12_in T c x2 0 ((c 79 5) - 1)) ?_
    replace k := k.2
    refine wq_b01 (Q := Q) (p := 0 ≤ x2 ∧ x2 ≤ ((c 79 5) - 1)) (fun h => ?_) (fun h => ?_)
    · replace k := k.2 h
      show Q (cev 333 5 142 [vU, vU, vU, vU, vU, vU, vU, vU, vU] [] (SH T, c))
      refine of_cev (Q := Q) ?_
      exact k
    · replace k := k.1 h
      refine wq_sum (Q := Q) rfl (S_X12_in T c x5 0 11) ?_
      refine wq_b01 (Q := Q) (p := 0 ≤ x5 ∧ x5 ≤ 11) (fun h => ?_) (fun h => ?_)
      · replace k := k.2 h
        show Q (cev 333 5 142 [vU, vU, vU, vU, vU, vU, vU, vU, vU] [] (SH T, c))
        refine of_cev (Q := Q) ?_
        exact k
      · replace k := k.1 h
        refine wq_sum (Q := Q) rfl (S_X12_in T c x7 0 9) ?_
        refine wq_b01 (Q := Q) (p := 0 ≤ x7 ∧ x7 ≤ 9) (fun h => ?_) (fun h => ?_)
        · replace k := k.2 h
          show Q (cev 333 5 142 [vU, vU, vU, vU, vU, vU, vU, vU, vU] [] (SH T, c))
          refine of_cev (Q := Q) ?_
          exact k
        · replace k := k.1 h
          show Q (cev 333 5 145 [vR 78, vU, vL x2, vU, vU, vL x5, vU, vL x7, vU] [] (SH T, c))
          refine of_cev (Q := Q) ?_
          refine wq_pos (Q := Q) k.1.1 ?_
          refine wq_pos (Q := Q) k.1.2.1 ?_
          refine wq_pos (Q := Q) k.1.2.2.1 ?_
          refine wq_pos (Q := Q) k.1.2.2.2 ?_
          replace k := k.2
          exact k
set_option maxRecDepth 20000 in
theorem W_X12_orders {T : List Shp} {c : Nat → Int → Int} {Q : Res → Prop} (k : (QV T (fun c1 => (QV T (fun c2 => Q (cev 334 12 19 [vR 78, vU, vU, vU, vU] [] (SH T, c2))) (ccal 328 [vR 78] (SH T, c1)))) (ccal 242 [vR 78, vI 1] (SH T, (up (up c 77 0 0) 77 56 (-1)))))) : Q (ccal 334 [vR 78] (SH T, c)) := by
  refine of_cev (Q := Q) ?_
  refine wq_callV (Q := Q) rfl k ?_
  intro c1 k
  refine wq_callV (Q := Q) rfl k ?_
  intro c2 k
  exact k
set_option maxRecDepth 20000 in
theorem W_X12_orders_19 {T : List Shp} {c : Nat → Int → Int} {Q : Res → Prop} (k : (((c 77 15) = 0 → (((c 77 12) = 3 ∧ (c 77 13) = 59 → (QV T (fun c1 => (QV T (fun c2 => Q (cev 334 12 19 [vR 78, vU, vU, vU, vU] [] (SH T, c2))) (ccal 328 [vR 78] (SH T, c1)))) (ccal 220 [vR 78] (SH T, c)))) ∧ (¬ ((c 77 12) = 3 ∧ (c 77 13) = 59) → Q (cev 334 12 46 [vR 78, vU, vU, vU, vU] [] (SH T, c))))) ∧ (¬ (c 77 15) = 0 → Q (cev 334 12 46 [vR 78, vU, vU, vU, vU] [] (SH T, c))))) : Q (cev 334 12 19 [vR 78, vU, vU, vU, vU] [] (SH T, c)) := by
  refine of_cev (Q := Q) ?_
  refine wq_ite (Q := Q) (p := (c 77 15) = 0) (fun h => ?_) (fun h => ?_)
  · replace k := k.1 h
    refine wq_sum (Q := Q) rfl (S_X12_isSign T c 59) ?_
    refine wq_b01 (Q := Q) (p := (c 77 12) = 3 ∧ (c 77 13) = 59) (fun h => ?_) (fun h => ?_)
    · replace k := k.2 h
      exact k
    · replace k := k.1 h
      refine wq_callV (Q := Q) rfl k ?_
      intro c1 k
      refine wq_callV (Q := Q) rfl k ?_
      intro c2 k
      exact k
  · replace k := k.2 h
    exact k
set_option maxRecDepth 20000 in
theorem W_X12_orders_46 {T : List Shp} {c : Nat → Int → Int} {Q : Res → Prop} (k : (QV T (fun c1 => (((c1 77 15) = 0 → Q (cev 334 12 66 [vR 78, vI 0, vU, vU, vU] [] (SH T, c1))) ∧ (¬ (c1 77 15) = 0 → ((-2147483648 ≤ (c1 78 6) + 1 ∧ (c1 78 6) + 1 < 2147483648) ∧ Q (some (some (vI (-6)), (SH T, (up (up c1 77 1 (-6)) 78 6 ((c1 78 6) + 1))))))))) (ccal 243 [vR 78] (SH T, c)))) : Q (cev 334 12 46 [vR 78, vU, vU, vU, vU] [] (SH T, c)) := by
  refine of_cev (Q := Q) ?_
  refine wq_callV (Q := Q) rfl k ?_
  intro c1 k
  refine wq_ite (Q := Q) (p := (c1 77 15) = 0) (fun h => ?_) (fun h => ?_)
  · replace k := k.1 h
    show Q (cev 334 12 64 [vR 78, vU, vU, vU, vU] [] (SH T, c1))
    refine of_cev (Q := Q) ?_
    exact k
  · replace k := k.2 h
    refine wq_sum (Q := Q) rfl (S_X12_tell_6 T c1 k.1) ?_
    replace k := k.2
    exact k
set_option maxRecDepth 20000 in
theorem W_X12_orders_66 {T : List Shp} {c : Nat → Int → Int} {Q : Res → Prop} {x1 : Int} (k : ((x1 < 5780 → (((0 ≤ x1 ∧ x1 < 5780) ∧ (-2147483648 ≤ x1 + 1 ∧ x1 + 1 < 2147483648)) ∧ Q (cev 334 12 66 [vR 78, vI (x1 + 1), vU, vU, vU] [] (SH T, (up c 81 x1 (c 79 x1)))))) ∧ (¬ x1 < 5780 → Q (cev 334 12 98 [vR 78, vI 0, vU, vU, vU] [] (SH T, (up c 77 55 0)))))) : Q (cev 334 12 66 [vR 78, vI x1, vU, vU, vU] [] (SH T, c)) := by
  refine of_cev (Q := Q) ?_
  refine wq_ite (Q := Q) (p := x1 < 5780) (fun h => ?_) (fun h => ?_)
  · replace k := k.1 h
    refine wq_pos (Q := Q) k.1.1 ?_
    refine wq_pos (Q := Q) k.1.1 ?_
    refine wq_pos (Q := Q) k.1.2 ?_
    replace k := k.2
    exact k
  · replace k := k.2 h
    show Q (cev 334 12 91 [vR 78, vU, vU, vU, vU] [] (SH T, c))
    refine of_cev (Q := Q) ?_
    exact k
set_option maxRecDepth 20000 in
theorem W_X12_orders_98 {T : List Shp} {c : Nat → Int → Int} {Q : Res → Prop} {x1 : Int} (k : ((x1 < (c 77 17) → Q (cev 334 12 108 [vR 78, vI x1, vI 0, vU, vU] [] (SH T, c))) ∧ (¬ x1 < (c 77 17) → (QI T (fun r1 c2 => Q (some (some (vI r1), (SH T, c2)))) (ccal 190 [vR 78, vI (c 77 55)] (SH T, c)))))) : Q (cev 334 12 98 [vR 78, vI x1, vU, vU, vU] [] (SH T, c)) := by
  refine of_cev (Q := Q) ?_
  refine wq_ite (Q := Q) (p := x1 < (c 77 17)) (fun h => ?_) (fun h => ?_)
  · replace k := k.1 h
    exact k
  · replace k := k.2 h
    show Q (cev 334 12 191 [vR 78, vU, vU, vU, vU] [] (SH T, c))
    refine of_cev (Q := Q) ?_
    refine wq_callI (Q := Q) rfl k ?_
    intro r1 c2 k
    exact k
set_option maxRecDepth 20000 in
theorem W_X12_orders_108 {T : List Shp} {c : Nat → Int → Int} {Q : Res → Prop} {x1 x2 : Int} (k : (((-2147483648 ≤ 10 * x1 ∧ 10 * x1 < 2147483648) ∧ (-2147483648 ≤ (10 * x1) + 9 ∧ (10 * x1) + 9 < 2147483648) ∧ (0 ≤ ((10 * x1) + 9) ∧ ((10 * x1) + 9) < 120)) ∧ ((x2 < (c 107 ((10 * x1) + 9)) → ((-2147483648 ≤ 10 * x1 ∧ 10 * x1 < 2147483648) ∧ (QI T (fun r1 c2 => ((r1 < 0 → Q (cev 334 12 140 [vR 78, vI x1, vU, vI r1, vI 0] [] (SH T, c2))) ∧ (¬ r1 < 0 → ((-2147483648 ≤ x2 + 1 ∧ x2 + 1 < 2147483648) ∧ Q (cev 334 12 108 [vR 78, vI x1, vI (x2 + 1), vU, vU] [] (SH T, c2)))))) (ccal 331 [vR 78, vI (10 * x1)] (SH T, c))))) ∧ (¬ x2 < (c 107 ((10 * x1) + 9)) → ((-2147483648 ≤ x1 + 1 ∧ x1 + 1 < 2147483648) ∧ Q (cev 334 12 98 [vR 78, vI (x1 + 1), vU, vU, vU] [] (SH T, c))))))) : Q (cev 334 12 108 [vR 78, vI x1, vI x2, vU, vU] [] (SH T, c)) := by
  refine of_cev (Q := Q) ?_
  refine wq_pos (Q := Q) k.1.1 ?_
  refine wq_pos (Q := Q) k.1.2.1 ?_
  refine wq_pos (Q := Q) k.1.2.2 ?_
  replace k := k.2
  refine wq_ite (Q := Q) (p := x2 < (c 107 ((10 * x1) + 9))) (fun h => ?_) (fun h => ?_)
  · replace k := k.1 h
    refine wq_pos (Q := Q) k.1 ?_
    replace k := k.2
    refine wq_callI (Q := Q) rfl k ?_
    intro r1 c2 k
    refine wq_ite (Q := Q) (p := r1 < 0) (fun h => ?_) (fun h => ?_)
    · replace k := k.1 h
      exact k
    · replace k := k.2 h
      show Q (cev 334 12 179 [vR 78, vI x1, vI x2, vU, vU] [] (SH T, c2))
      refine of_cev (Q := Q) ?_
      refine wq_pos (Q := Q) k.1 ?_
      replace k := k.2
      exact k
  · replace k := k.2 h
    show Q (cev 334 12 185 [vR 78, vI x1, vU, vU, vU] [] (SH T, c))
    refine of_cev (Q := Q) ?_
    refine wq_pos (Q := Q) k.1 ?_
    replace k := k.2
    exact k
set_option maxRecDepth 20000 in
theorem W_X12_orders_140 {T : List Shp} {c : Nat → Int → Int} {Q : Res → Prop} {x1 x3 x4 : Int} (k : ((x4 < 5780 → (((0 ≤ x4 ∧ x4 < 5780) ∧ (-2147483648 ≤ x4 + 1 ∧ x4 + 1 < 2147483648)) ∧ Q (cev 334 12 140 [vR 78, vI x1, vU, vI x3, vI (x4 + 1)] [] (SH T, (up c 79 x4 (c 81 x4)))))) ∧ (¬ x4 < 5780 → (QI T (fun r1 c2 => Q (some (some (vI r1), (SH T, c2)))) (ccal 190 [vR 78, vI x3] (SH T, (up c 77 56 x1))))))) : Q (cev 334 12 140 [vR 78, vI x1, vU, vI x3, vI x4] [] (SH T, c)) := by
  refine of_cev (Q := Q) ?_
  refine wq_ite (Q := Q) (p := x4 < 5780) (fun h => ?_) (fun h => ?_)
  · replace k := k.1 h
    refine wq_pos (Q := Q) k.1.1 ?_
    refine wq_pos (Q := Q) k.1.1 ?_
    refine wq_pos (Q := Q) k.1.2 ?_
    replace k := k.2
    exact k
  · replace k := k.2 h
    show Q (cev 334 12 168 [vR 78, vI x1, vU, vI x3, vU] [] (SH T, c))
    refine of_cev (Q := Q) ?_
    refine wq_callI (Q := Q) rfl k ?_
    intro r1 c2 k
    exact k
set_option maxRecDepth 20000 in
theorem W_X12_stopped {T : List Shp} {c : Nat → Int → Int} {Q : Res → Prop} (k : Q (some (some (vI (c 77 56)), (SH T, (up c 77 0 0))))) : Q (ccal 335 [vR 78] (SH T, c)) := by
  refine of_cev (Q := Q) ?_
  exact k
set_option maxRecDepth 20000 in
theorem W_X12_draw {T : List Shp} {c : Nat → Int → Int} {Q : Res → Prop} {x1 : Int} (k : (((-9223372036854775808 ≤ (c 77 57) * 1103 ∧ (c 77 57) * 1103 < 9223372036854775808) ∧ (-9223372036854775808 ≤ ((c 77 57) * 1103) + 12345 ∧ ((c 77 57) * 1103) + 12345 < 9223372036854775808) ∧ ((0 ≤ (((c 77 57) * 1103) + 12345) ∧ (((c 77 57) * 1103) + 12345) < 9223372036854775808) ∧ (0 : Int) < 1000003) ∧ ((0 ≤ ((((c 77 57) * 1103) + 12345) % 1000003) ∧ ((((c 77 57) * 1103) + 12345) % 1000003) < 9223372036854775808) ∧ (0 : Int) < x1)) ∧ Q (some (some (vI (w32 (((((c 77 57) * 1103) + 12345) % 1000003) % x1))), (SH T, (up c 77 57 ((((c 77 57) * 1103) + 12345) % 1000003))))))) : Q (ccal 336 [vR 78, vI x1] (SH T, c)) := by
  refine of_cev (Q := Q) ?_
  refine wq_pos (Q := Q) k.1.1 ?_
  refine wq_pos (Q := Q) k.1.2.1 ?_
  refine wq_pos (Q := Q) k.1.2.2.1 ?_
  refine wq_pos (Q := Q) k.1.2.2.2 ?_
  replace k := k.2
  exact k
set_option maxRecDepth 20000 in
theorem W_X12_century {T : List Shp} {c : Nat → Int → Int} {Q : Res → Prop} {x1 x2 : Int} (k : ((0 ≤ x1 ∧ x1 ≤ 1000000 → ((0 ≤ x2 ∧ x2 ≤ 40 → ((-2147483648 ≤ (c 79 4) + x2 ∧ (c 79 4) + x2 < 2147483648) ∧ ((0 ≤ ((c 79 4) + x2) ∧ ((c 79 4) + x2) < 100 → Q (cev 337 8 70 [vR 78, vU, vI x2, vI 0, vU, vU, vU, vU] [] (SH T, (up (up (up (up c 77 0 0) 77 57 x1) 77 59 1) 77 60 (c 79 0))))) ∧ (¬ (0 ≤ ((c 79 4) + x2) ∧ ((c 79 4) + x2) < 100) → ((-2147483648 ≤ (c 78 1) + 1 ∧ (c 78 1) + 1 < 2147483648) ∧ Q (some (some (vI (-1)), (SH T, (up (up (up c 77 0 0) 77 1 (-1)) 78 1 ((c 78 1) + 1)))))))))) ∧ (¬ (0 ≤ x2 ∧ x2 ≤ 40) → ((-2147483648 ≤ (c 78 1) + 1 ∧ (c 78 1) + 1 < 2147483648) ∧ Q (some (some (vI (-1)), (SH T, (up (up (up c 77 0 0) 77 1 (-1)) 78 1 ((c 78 1) + 1))))))))) ∧ (¬ (0 ≤ x1 ∧ x1 ≤ 1000000) → ((-2147483648 ≤ (c 78 1) + 1 ∧ (c 78 1) + 1 < 2147483648) ∧ Q (some (some (vI (-1)), (SH T, (up (up (up c 77 0 0) 77 1 (-1)) 78 1 ((c 78 1) + 1))))))))) : Q (ccal 337 [vR 78, vI x1, vI x2] (SH T, c)) := by
  refine of_cev (Q := Q) ?_
  refine wq_sum (Q := Q) rfl (S_X12_in T (up c 77 0 0) x1 0 1000000) ?_
  refine wq_b01 (Q := Q) (p := 0 ≤ x1 ∧ x1 ≤ 1000000) (fun h => ?_) (fun h => ?_)
  · replace k := k.2 h
    show Q (cev 337 8 41 [vR 78, vU, vU, vU, vU, vU, vU, vU] [] (SH T, (up c 77 0 0)))
    refine of_cev (Q := Q) ?_
    refine wq_sum (Q := Q) rfl (S_X12_tell_1 T (up c 77 0 0) k.1) ?_
    replace k := k.2
    exact k
  · replace k := k.1 h
    refine wq_sum (Q := Q) rfl (S_X12_in T (up c 77 0 0) x2 0 40) ?_
    refine wq_b01 (Q := Q) (p := 0 ≤ x2 ∧ x2 ≤ 40) (fun h => ?_) (fun h => ?_)
    · replace k := k.2 h
      show Q (cev 337 8 41 [vR 78, vU, vU, vU, vU, vU, vU, vU] [] (SH T, (up c 77 0 0)))
      refine of_cev (Q := Q) ?_
      refine wq_sum (Q := Q) rfl (S_X12_tell_1 T (up c 77 0 0) k.1) ?_
      replace k := k.2
      exact k
    · replace k := k.1 h
      refine wq_sum (Q := Q) rfl (S_X12_years T (up c 77 0 0) ) ?_
      refine wq_pos (Q := Q) k.1 ?_
      refine wq_sum (Q := Q) rfl (S_X12_isYear T (up c 77 0 0) ((c 79 4) + x2)) ?_
      replace k := k.2
      refine wq_b01 (Q := Q) (p := 0 ≤ ((c 79 4) + x2) ∧ ((c 79 4) + x2) < 100) (fun h => ?_) (fun h => ?_)
      · replace k := k.2 h
        show Q (cev 337 8 41 [vR 78, vU, vU, vU, vU, vU, vU, vU] [] (SH T, (up c 77 0 0)))
        refine of_cev (Q := Q) ?_
        refine wq_sum (Q := Q) rfl (S_X12_tell_1 T (up c 77 0 0) k.1) ?_
        replace k := k.2
        exact k
      · replace k := k.1 h
        show Q (cev 337 8 47 [vR 78, vI x1, vI x2, vU, vU, vU, vU, vU] [] (SH T, (up c 77 0 0)))
        refine of_cev (Q := Q) ?_
        exact k
set_option maxRecDepth 20000 in
theorem W_X12_century_70 {T : List Shp} {c : Nat → Int → Int} {Q : Res → Prop} {x2 x3 : Int} (k : ((x3 < 17 → ((x3 < 12 → (((0 ≤ (c 79 4) ∧ (c 79 4) < 100) ∧ (0 ≤ x3 ∧ x3 < 12) ∧ (0 ≤ x3 ∧ x3 < 17) ∧ (-2147483648 ≤ x3 + 1 ∧ x3 + 1 < 2147483648)) ∧ Q (cev 337 8 70 [vR 78, vU, vI x2, vI (x3 + 1), vU, vU, vU, vU] [] (SH T, (up c 108 x3 (c 79 (12 + 12 * (c 79 4) + x3))))))) ∧ (¬ x3 < 12 → (((0 ≤ x3 ∧ x3 < 17) ∧ (-2147483648 ≤ x3 + 1 ∧ x3 + 1 < 2147483648)) ∧ Q (cev 337 8 70 [vR 78, vU, vI x2, vI (x3 + 1), vU, vU, vU, vU] [] (SH T, (up c 108 x3 0))))))) ∧ (¬ x3 < 17 → ((-2147483648 ≤ (c 79 4) + 1 ∧ (c 79 4) + 1 < 2147483648) ∧ Q (cev 337 8 110 [vR 78, vU, vI x2, vI ((c 79 4) + 1), vU, vU, vU, vU] [] (SH T, c)))))) : Q (cev 337 8 70 [vR 78, vU, vI x2, vI x3, vU, vU, vU, vU] [] (SH T, c)) := by
  refine of_cev (Q := Q) ?_
  refine wq_ite (Q := Q) (p := x3 < 17) (fun h => ?_) (fun h => ?_)
  · replace k := k.1 h
    refine wq_ite (Q := Q) (p := x3 < 12) (fun h => ?_) (fun h => ?_)
    · replace k := k.1 h
      refine wq_sum (Q := Q) rfl (S_X12_seen T c x3 k.1.1 k.1.2.1) ?_
      refine wq_pos (Q := Q) k.1.2.2.1 ?_
      refine wq_pos (Q := Q) k.1.2.2.2 ?_
      replace k := k.2
      exact k
    · replace k := k.2 h
      show Q (cev 337 8 95 [vR 78, vU, vI x2, vI x3, vU, vU, vU, vU] [vI x3, vR 109] (SH T, c))
      refine of_cev (Q := Q) ?_
      refine wq_pos (Q := Q) k.1.1 ?_
      refine wq_pos (Q := Q) k.1.2 ?_
      replace k := k.2
      exact k
  · replace k := k.2 h
    show Q (cev 337 8 103 [vR 78, vU, vI x2, vU, vU, vU, vU, vU] [] (SH T, c))
    refine of_cev (Q := Q) ?_
    refine wq_sum (Q := Q) rfl (S_X12_years T c ) ?_
    refine wq_pos (Q := Q) k.1 ?_
    replace k := k.2
    exact k
set_option maxRecDepth 20000 in
theorem W_X12_century_110 {T : List Shp} {c : Nat → Int → Int} {Q : Res → Prop} {x2 x3 : Int} (k : ((-2147483648 ≤ (c 79 4) + x2 ∧ (c 79 4) + x2 < 2147483648) ∧ ((((c 79 4) + x2) < x3 → Q (cev 337 8 251 [vR 78, vU, vI x2, vU, vU, vU, vU, vU] [] (SH T, c))) ∧ (¬ ((c 79 4) + x2) < x3 → ((0 < (c 79 0) → (QV T (fun c1 => (QI T (fun r2 c3 => (((-2147483648 ≤ 12 + r2 ∧ 12 + r2 < 2147483648) ∧ (0 ≤ (12 + r2) ∧ (12 + r2) < 17) ∧ (-2147483648 ≤ (c3 108 (12 + r2)) + 1 ∧ (c3 108 (12 + r2)) + 1 < 2147483648)) ∧ Q (cev 337 8 163 [vR 78, vU, vI x2, vI x3, vI r2, vI 0, vU, vU] [] (SH T, (up c3 108 (12 + r2) ((c3 108 (12 + r2)) + 1)))))) (ccal 336 [vR 78, vI (c1 79 0)] (SH T, c1)))) (ccal 259 [vR 78, vI x3] (SH T, c)))) ∧ (¬ 0 < (c 79 0) → Q (cev 337 8 251 [vR 78, vU, vI x2, vU, vU, vU, vU, vU] [] (SH T, c)))))))) : Q (cev 337 8 110 [vR 78, vU, vI x2, vI x3, vU, vU, vU, vU] [] (SH T, c)) := by
  refine of_cev (Q := Q) ?_
  refine wq_sum (Q := Q) rfl (S_X12_years T c ) ?_
  refine wq_pos (Q := Q) k.1 ?_
  replace k := k.2
  refine wq_ite (Q := Q) (p := ((c 79 4) + x2) < x3) (fun h => ?_) (fun h => ?_)
  · replace k := k.1 h
    exact k
  · replace k := k.2 h
    refine wq_ite (Q := Q) (p := 0 < (c 79 0)) (fun h => ?_) (fun h => ?_)
    · replace k := k.1 h
      refine wq_callV (Q := Q) rfl k ?_
      intro c1 k
      refine wq_callI (Q := Q) rfl k ?_
      intro r2 c3 k
      refine wq_pos (Q := Q) k.1.1 ?_
      refine wq_pos (Q := Q) k.1.2.1 ?_
      refine wq_pos (Q := Q) k.1.2.2 ?_
      refine wq_pos (Q := Q) k.1.2.1 ?_
      replace k := k.2
      exact k
    · replace k := k.2 h
      exact k
set_option maxRecDepth 20000 in
theorem W_X12_century_163 {T : List Shp} {c : Nat → Int → Int} {Q : Res → Prop} {x2 x3 x4 x5 : Int} (k : ((x5 < 12 → ((0 ≤ x5 ∧ x5 < 17) ∧ (QI T (fun r1 c2 => (QI T (fun r3 c4 => ((r3 = 0 → (((-2147483648 ≤ r1 - 1 ∧ r1 - 1 < 2147483648) ∧ (-2147483648 ≤ 0 ∧ 9 < 2147483648) ∧ (0 ≤ x5 ∧ x5 < 17) ∧ (-2147483648 ≤ x5 + 1 ∧ x5 + 1 < 2147483648)) ∧ Q (cev 337 8 163 [vR 78, vU, vI x2, vI x3, vI x4, vI (x5 + 1), vU, vU] [] (SH T, (up c4 108 x5 (clp (r1 - 1) 0 9)))))) ∧ (¬ r3 = 0 → ((r3 = 1 → (((-2147483648 ≤ r1 + 1 ∧ r1 + 1 < 2147483648) ∧ (-2147483648 ≤ 0 ∧ 9 < 2147483648) ∧ (0 ≤ x5 ∧ x5 < 17) ∧ (-2147483648 ≤ x5 + 1 ∧ x5 + 1 < 2147483648)) ∧ Q (cev 337 8 163 [vR 78, vU, vI x2, vI x3, vI x4, vI (x5 + 1), vU, vU] [] (SH T, (up c4 108 x5 (clp (r1 + 1) 0 9)))))) ∧ (¬ r3 = 1 → (((-2147483648 ≤ 0 ∧ 9 < 2147483648) ∧ (0 ≤ x5 ∧ x5 < 17) ∧ (-2147483648 ≤ x5 + 1 ∧ x5 + 1 < 2147483648)) ∧ Q (cev 337 8 163 [vR 78, vU, vI x2, vI x3, vI x4, vI (x5 + 1), vU, vU] [] (SH T, (up c4 108 x5 (clp r1 0 9)))))))))) (ccal 336 [vR 78, vI 8] (SH T, c2)))) (ccal 260 [vR 78, vI x4, vI x5, vI x3, vI (c 108 x5)] (SH T, c))))) ∧ (¬ x5 < 12 → ((-2147483648 ≤ x3 + 1 ∧ x3 + 1 < 2147483648) ∧ Q (cev 337 8 110 [vR 78, vU, vI x2, vI (x3 + 1), vU, vU, vU, vU] [] (SH T, c)))))) : Q (cev 337 8 163 [vR 78, vU, vI x2, vI x3, vI x4, vI x5, vU, vU] [] (SH T, c)) := by
  refine of_cev (Q := Q) ?_
  refine wq_ite (Q := Q) (p := x5 < 12) (fun h => ?_) (fun h => ?_)
  · replace k := k.1 h
    refine wq_pos (Q := Q) k.1 ?_
    replace k := k.2
    refine wq_callI (Q := Q) rfl k ?_
    intro r1 c2 k
    refine wq_callI (Q := Q) rfl k ?_
    intro r3 c4 k
    refine wq_ite (Q := Q) (p := r3 = 0) (fun h => ?_) (fun h => ?_)
    · replace k := k.1 h
      refine wq_pos (Q := Q) k.1.1 ?_
      refine wq_sum (Q := Q) rfl (S_X12_within T c4 (r1 - 1) 0 9 k.1.2.1) ?_
      refine wq_pos (Q := Q) k.1.2.2.1 ?_
      refine wq_pos (Q := Q) k.1.2.2.2 ?_
      replace k := k.2
      exact k
    · replace k := k.2 h
      show Q (cev 337 8 215 [vR 78, vU, vI x2, vI x3, vI x4, vI x5, vI r1, vI r3] [vI x5, vR 109] (SH T, c4))
      refine of_cev (Q := Q) ?_
      refine wq_ite (Q := Q) (p := r3 = 1) (fun h => ?_) (fun h => ?_)
      · replace k := k.1 h
        refine wq_pos (Q := Q) k.1.1 ?_
        refine wq_sum (Q := Q) rfl (S_X12_within T c4 (r1 + 1) 0 9 k.1.2.1) ?_
        refine wq_pos (Q := Q) k.1.2.2.1 ?_
        refine wq_pos (Q := Q) k.1.2.2.2 ?_
        replace k := k.2
        exact k
      · replace k := k.2 h
        show Q (cev 337 8 229 [vR 78, vU, vI x2, vI x3, vI x4, vI x5, vI r1, vU] [vI x5, vR 109] (SH T, c4))
        refine of_cev (Q := Q) ?_
        refine wq_sum (Q := Q) rfl (S_X12_within T c4 r1 0 9 k.1.1) ?_
        refine wq_pos (Q := Q) k.1.2.1 ?_
        refine wq_pos (Q := Q) k.1.2.2 ?_
        replace k := k.2
        exact k
  · replace k := k.2 h
    show Q (cev 337 8 245 [vR 78, vU, vI x2, vI x3, vU, vU, vU, vU] [] (SH T, c))
    refine of_cev (Q := Q) ?_
    refine wq_pos (Q := Q) k.1 ?_
    replace k := k.2
    exact k
set_option maxRecDepth 20000 in
theorem W_X12_century_251 {T : List Shp} {c : Nat → Int → Int} {Q : Res → Prop} {x2 : Int} (k : ((-2147483648 ≤ (c 79 4) + x2 ∧ (c 79 4) + x2 < 2147483648) ∧ (QV T (fun c1 => Q (cev 337 8 266 [vR 78, vU, vI x2, vI 0, vI 0, vU, vU, vU] [] (SH T, c1))) (ccal 259 [vR 78, vI ((c 79 4) + x2)] (SH T, c))))) : Q (cev 337 8 251 [vR 78, vU, vI x2, vU, vU, vU, vU, vU] [] (SH T, c)) := by
  refine of_cev (Q := Q) ?_
  refine wq_sum (Q := Q) rfl (S_X12_years T c ) ?_
  refine wq_pos (Q := Q) k.1 ?_
  replace k := k.2
  refine wq_callV (Q := Q) rfl k ?_
  intro c1 k
  exact k
set_option maxRecDepth 20000 in
theorem W_X12_century_266 {T : List Shp} {c : Nat → Int → Int} {Q : Res → Prop} {x2 x3 x4 : Int} (k : ((x4 < 12 → (((0 ≤ x4 ∧ x4 < 17) ∧ (-2147483648 ≤ (c 79 4) + x2 ∧ (c 79 4) + x2 < 2147483648) ∧ (-2147483648 ≤ 12 * ((c 79 4) + x2) ∧ 12 * ((c 79 4) + x2) < 2147483648) ∧ (-2147483648 ≤ (12 * ((c 79 4) + x2)) + x4 ∧ (12 * ((c 79 4) + x2)) + x4 < 2147483648) ∧ (0 ≤ ((12 * ((c 79 4) + x2)) + x4) ∧ ((12 * ((c 79 4) + x2)) + x4) < 1200) ∧ (-2147483648 ≤ (c 108 x4) - (c 95 ((12 * ((c 79 4) + x2)) + x4)) ∧ (c 108 x4) - (c 95 ((12 * ((c 79 4) + x2)) + x4)) < 2147483648) ∧ (-2147483648 ≤ -((c 108 x4) - (c 95 ((12 * ((c 79 4) + x2)) + x4))) ∧ -((c 108 x4) - (c 95 ((12 * ((c 79 4) + x2)) + x4))) < 2147483648) ∧ (-2147483648 ≤ x3 + (abz ((c 108 x4) - (c 95 ((12 * ((c 79 4) + x2)) + x4)))) ∧ x3 + (abz ((c 108 x4) - (c 95 ((12 * ((c 79 4) + x2)) + x4)))) < 2147483648) ∧ (-2147483648 ≤ x4 + 1 ∧ x4 + 1 < 2147483648)) ∧ Q (cev 337 8 266 [vR 78, vU, vI x2, vI (x3 + (abz ((c 108 x4) - (c 95 ((12 * ((c 79 4) + x2)) + x4))))), vI (x4 + 1), vU, vU, vU] [] (SH T, c)))) ∧ (¬ x4 < 12 → ((0 ≤ x3) ∧ Q (some (some (vI x3), (SH T, (up c 77 1 0)))))))) : Q (cev 337 8 266 [vR 78, vU, vI x2, vI x3, vI x4, vU, vU, vU] [] (SH T, c)) := by
  refine of_cev (Q := Q) ?_
  refine wq_ite (Q := Q) (p := x4 < 12) (fun h => ?_) (fun h => ?_)
  · replace k := k.1 h
    refine wq_pos (Q := Q) k.1.1 ?_
    refine wq_sum (Q := Q) rfl (S_X12_years T c ) ?_
    refine wq_pos (Q := Q) k.1.2.1 ?_
    refine wq_pos (Q := Q) k.1.2.2.1 ?_
    refine wq_pos (Q := Q) k.1.2.2.2.1 ?_
    refine wq_pos (Q := Q) k.1.2.2.2.2.1 ?_
    refine wq_pos (Q := Q) k.1.2.2.2.2.2.1 ?_
    refine wq_sum (Q := Q) rfl (S_X12_size T c ((c 108 x4) - (c 95 ((12 * ((c 79 4) + x2)) + x4))) k.1.2.2.2.2.2.2.1) ?_
    refine wq_pos (Q := Q) k.1.2.2.2.2.2.2.2.1 ?_
    refine wq_pos (Q := Q) k.1.2.2.2.2.2.2.2.2 ?_
    replace k := k.2
    exact k
  · replace k := k.2 h
    show Q (cev 337 8 310 [vR 78, vU, vU, vI x3, vU, vU, vU, vU] [] (SH T, c))
    refine of_cev (Q := Q) ?_
    refine wq_sum (Q := Q) rfl (S_X12_tell T c x3 k.1) ?_
    replace k := k.2
    exact k
set_option maxRecDepth 20000 in
theorem W_X12_drawn {T : List Shp} {c : Nat → Int → Int} {Q : Res → Prop} {x1 : Int} (k : (((c 77 59) = 0 → Q (some (some (vI (-1)), (SH T, (up c 77 0 0))))) ∧ (¬ (c 77 59) = 0 → ((0 ≤ x1 ∧ x1 < 12 → ((0 ≤ x1 ∧ x1 < 17) ∧ Q (some (some (vI (c 108 x1)), (SH T, (up c 77 0 0)))))) ∧ (¬ (0 ≤ x1 ∧ x1 < 12) → ((-9223372036854775808 ≤ 99 + (c 77 60) ∧ 99 + (c 77 60) < 9223372036854775808) ∧ ((100 ≤ x1 ∧ x1 ≤ (99 + (c 77 60)) → (((-2147483648 ≤ 12 + x1 ∧ 12 + x1 < 2147483648) ∧ (-2147483648 ≤ (12 + x1) - 100 ∧ (12 + x1) - 100 < 2147483648) ∧ (0 ≤ ((12 + x1) - 100) ∧ ((12 + x1) - 100) < 17)) ∧ Q (some (some (vI (c 108 ((12 + x1) - 100))), (SH T, (up c 77 0 0)))))) ∧ (¬ (100 ≤ x1 ∧ x1 ≤ (99 + (c 77 60))) → Q (some (some (vI (-1)), (SH T, (up c 77 0 0)))))))))))) : Q (ccal 338 [vR 78, vI x1] (SH T, c)) := by
  refine of_cev (Q := Q) ?_
  refine wq_ite (Q := Q) (p := (c 77 59) = 0) (fun h => ?_) (fun h => ?_)
  · replace k := k.1 h
    exact k
  · replace k := k.2 h
    show Q (cev 338 3 14 [vR 78, vI x1] [] (SH T, (up c 77 0 0)))
    refine of_cev (Q := Q) ?_
    refine wq_sum (Q := Q) rfl (S_X12_isCell T (up c 77 0 0) x1) ?_
    refine wq_b01 (Q := Q) (p := 0 ≤ x1 ∧ x1 < 12) (fun h => ?_) (fun h => ?_)
    · replace k := k.2 h
      show Q (cev 338 3 30 [vR 78, vI x1] [] (SH T, (up c 77 0 0)))
      refine of_cev (Q := Q) ?_
      refine wq_pos (Q := Q) k.1 ?_
      refine wq_sum (Q := Q) rfl (S_X12_in T (up c 77 0 0) x1 100 (99 + (c 77 60))) ?_
      replace k := k.2
      refine wq_b01 (Q := Q) (p := 100 ≤ x1 ∧ x1 ≤ (99 + (c 77 60))) (fun h => ?_) (fun h => ?_)
      · replace k := k.2 h
        show Q (cev 338 3 65 [vU, vU] [] (SH T, (up c 77 0 0)))
        refine of_cev (Q := Q) ?_
        exact k
      · replace k := k.1 h
        refine wq_pos (Q := Q) k.1.1 ?_
        refine wq_pos (Q := Q) k.1.2.1 ?_
        refine wq_pos (Q := Q) k.1.2.2 ?_
        replace k := k.2
        exact k
    · replace k := k.1 h
      refine wq_pos (Q := Q) k.1 ?_
      replace k := k.2
      exact k
set_option maxRecDepth 20000 in
theorem W_X12_count {T : List Shp} {c : Nat → Int → Int} {Q : Res → Prop} {x1 : Int} (k : ((x1 = 0 → Q (some (some (vI (c 79 0)), (SH T, (up c 77 0 0))))) ∧ ((x1 = 1 → Q (some (some (vI (c 79 1)), (SH T, (up c 77 0 0))))) ∧ ((x1 = 2 → Q (some (some (vI (c 79 3)), (SH T, (up c 77 0 0))))) ∧ ((x1 = 3 → Q (some (some (vI (c 79 4)), (SH T, (up c 77 0 0))))) ∧ ((x1 = 4 → Q (some (some (vI (c 79 5)), (SH T, (up c 77 0 0))))) ∧ ((x1 = 5 → Q (some (some (vI (c 79 6)), (SH T, (up c 77 0 0))))) ∧ ((x1 = 6 → Q (some (some (vI (c 77 9)), (SH T, (up c 77 0 0))))) ∧ ((x1 = 7 → Q (some (some (vI (c 78 1)), (SH T, (up c 77 0 0))))) ∧ ((x1 = 8 → Q (some (some (vI (c 78 2)), (SH T, (up c 77 0 0))))) ∧ ((x1 = 9 → Q (some (some (vI (c 78 3)), (SH T, (up c 77 0 0))))) ∧ ((x1 = 10 → Q (some (some (vI (c 78 5)), (SH T, (up c 77 0 0))))) ∧ ((x1 = 11 → Q (some (some (vI (c 78 6)), (SH T, (up c 77 0 0))))) ∧ ((x1 = 12 → Q (some (some (vI (c 79 2)), (SH T, (up c 77 0 0))))) ∧ (¬ (x1 = 0 ∨ x1 = 1 ∨ x1 = 2 ∨ x1 = 3 ∨ x1 = 4 ∨ x1 = 5 ∨ x1 = 6 ∨ x1 = 7 ∨ x1 = 8 ∨ x1 = 9 ∨ x1 = 10 ∨ x1 = 11 ∨ x1 = 12) → ((13 ≤ x1 ∧ x1 ≤ 17 → (((-2147483648 ≤ 7 + x1 ∧ 7 + x1 < 2147483648) ∧ (-2147483648 ≤ (7 + x1) - 13 ∧ (7 + x1) - 13 < 2147483648) ∧ (0 ≤ ((7 + x1) - 13) ∧ ((7 + x1) - 13) < 5780)) ∧ Q (some (some (vI (c 79 ((7 + x1) - 13))), (SH T, (up c 77 0 0)))))) ∧ (¬ (13 ≤ x1 ∧ x1 ≤ 17) → Q (some (some (vI (-1)), (SH T, (up c 77 0 0))))))))))))))))))))) : Q (ccal 339 [vR 78, vI x1] (SH T, c)) := by
  refine of_cev (Q := Q) ?_
  refine wq_ite (Q := Q) (p := x1 = 0) (fun h0 => ?_) (fun h0 => ?_)
  · replace k := k.1 h0
    show Q (cev 339 2 72 [vR 78, vU] [] (SH T, (up c 77 0 0)))
    refine of_cev (Q := Q) ?_
    exact k
  replace k := k.2
  refine wq_ite (Q := Q) (p := x1 = 1) (fun h1 => ?_) (fun h1 => ?_)
  · replace k := k.1 h1
    show Q (cev 339 2 79 [vR 78, vU] [] (SH T, (up c 77 0 0)))
    refine of_cev (Q := Q) ?_
    exact k
  replace k := k.2
  refine wq_ite (Q := Q) (p := x1 = 2) (fun h2 => ?_) (fun h2 => ?_)
  · replace k := k.1 h2
    show Q (cev 339 2 86 [vR 78, vU] [] (SH T, (up c 77 0 0)))
    refine of_cev (Q := Q) ?_
    exact k
  replace k := k.2
  refine wq_ite (Q := Q) (p := x1 = 3) (fun h3 => ?_) (fun h3 => ?_)
  · replace k := k.1 h3
    show Q (cev 339 2 93 [vR 78, vU] [] (SH T, (up c 77 0 0)))
    refine of_cev (Q := Q) ?_
    refine wq_sum (Q := Q) rfl (S_X12_years T (up c 77 0 0) ) ?_
    exact k
  replace k := k.2
  refine wq_ite (Q := Q) (p := x1 = 4) (fun h4 => ?_) (fun h4 => ?_)
  · replace k := k.1 h4
    show Q (cev 339 2 98 [vR 78, vU] [] (SH T, (up c 77 0 0)))
    refine of_cev (Q := Q) ?_
    exact k
  replace k := k.2
  refine wq_ite (Q := Q) (p := x1 = 5) (fun h5 => ?_) (fun h5 => ?_)
  · replace k := k.1 h5
    show Q (cev 339 2 105 [vR 78, vU] [] (SH T, (up c 77 0 0)))
    refine of_cev (Q := Q) ?_
    exact k
  replace k := k.2
  refine wq_ite (Q := Q) (p := x1 = 6) (fun h6 => ?_) (fun h6 => ?_)
  · replace k := k.1 h6
    show Q (cev 339 2 113 [vR 78, vU] [] (SH T, (up c 77 0 0)))
    refine of_cev (Q := Q) ?_
    exact k
  replace k := k.2
  refine wq_ite (Q := Q) (p := x1 = 7) (fun h7 => ?_) (fun h7 => ?_)
  · replace k := k.1 h7
    show Q (cev 339 2 118 [vR 78, vU] [] (SH T, (up c 77 0 0)))
    refine of_cev (Q := Q) ?_
    exact k
  replace k := k.2
  refine wq_ite (Q := Q) (p := x1 = 8) (fun h8 => ?_) (fun h8 => ?_)
  · replace k := k.1 h8
    show Q (cev 339 2 125 [vR 78, vU] [] (SH T, (up c 77 0 0)))
    refine of_cev (Q := Q) ?_
    exact k
  replace k := k.2
  refine wq_ite (Q := Q) (p := x1 = 9) (fun h9 => ?_) (fun h9 => ?_)
  · replace k := k.1 h9
    show Q (cev 339 2 132 [vR 78, vU] [] (SH T, (up c 77 0 0)))
    refine of_cev (Q := Q) ?_
    exact k
  replace k := k.2
  refine wq_ite (Q := Q) (p := x1 = 10) (fun h10 => ?_) (fun h10 => ?_)
  · replace k := k.1 h10
    show Q (cev 339 2 139 [vR 78, vU] [] (SH T, (up c 77 0 0)))
    refine of_cev (Q := Q) ?_
    exact k
  replace k := k.2
  refine wq_ite (Q := Q) (p := x1 = 11) (fun h11 => ?_) (fun h11 => ?_)
  · replace k := k.1 h11
    show Q (cev 339 2 146 [vR 78, vU] [] (SH T, (up c 77 0 0)))
    refine of_cev (Q := Q) ?_
    exact k
  replace k := k.2
  refine wq_ite (Q := Q) (p := x1 = 12) (fun h12 => ?_) (fun h12 => ?_)
  · replace k := k.1 h12
    show Q (cev 339 2 154 [vR 78, vU] [] (SH T, (up c 77 0 0)))
    refine of_cev (Q := Q) ?_
    exact k
  replace k := k.2
  replace k := k (fun h => by rcases h with h | h | h | h | h | h | h | h | h | h | h | h | h <;> first | exact h0 h | exact h1 h | exact h2 h | exact h3 h | exact h4 h | exact h5 h | exact h6 h | exact h7 h | exact h8 h | exact h9 h | exact h10 h | exact h11 h | exact h12 h)
  show Q (cev 339 2 161 [vR 78, vI x1] [] (SH T, (up c 77 0 0)))
  refine of_cev (Q := Q) ?_
  refine wq_sum (Q := Q) rfl (S_X12_in T (up c 77 0 0) x1 13 17) ?_
  refine wq_b01 (Q := Q) (p := 13 ≤ x1 ∧ x1 ≤ 17) (fun h => ?_) (fun h => ?_)
  · replace k := k.2 h
    show Q (cev 339 2 190 [vU, vU] [] (SH T, (up c 77 0 0)))
    refine of_cev (Q := Q) ?_
    exact k
  · replace k := k.1 h
    refine wq_pos (Q := Q) k.1.1 ?_
    refine wq_pos (Q := Q) k.1.2.1 ?_
    refine wq_pos (Q := Q) k.1.2.2 ?_
    replace k := k.2
    exact k
set_option maxRecDepth 20000 in
theorem W_X12_status {T : List Shp} {c : Nat → Int → Int} {Q : Res → Prop} (k : Q (some (some (vI (c 77 1)), (SH T, (up c 77 0 0))))) : Q (ccal 340 [vR 78] (SH T, c)) := by
  refine of_cev (Q := Q) ?_
  exact k
set_option maxRecDepth 20000 in
theorem W_L_law_18 {T : List Shp} {c : Nat → Int → Int} {Q : Res → Prop} {x3 : Int} (k : ((-2147483648 ≤ (c 1000001 0) - 6 ∧ (c 1000001 0) - 6 < 2147483648) ∧ ((((c 1000001 0) - 6) < x3 → Q (some (some (vI 1), (SH T, c)))) ∧ (¬ ((c 1000001 0) - 6) < x3 → ((0 ≤ x3 ∧ x3 < c 1000001 0) ∧ (((iand (c 1000000 x3) 63) = 0 → (((-2147483648 ≤ x3 + 1 ∧ x3 + 1 < 2147483648) ∧ (0 ≤ (x3 + 1) ∧ (x3 + 1) < c 1000001 0) ∧ (-2147483648 ≤ x3 + 2 ∧ x3 + 2 < 2147483648) ∧ (0 ≤ (x3 + 2) ∧ (x3 + 2) < c 1000001 0)) ∧ (QI T (fun r1 c2 => (((-2147483648 ≤ x3 + 1 ∧ x3 + 1 < 2147483648) ∧ (0 ≤ (x3 + 1) ∧ (x3 + 1) < c 1000001 0) ∧ (-2147483648 ≤ x3 + 2 ∧ x3 + 2 < 2147483648) ∧ (0 ≤ (x3 + 2) ∧ (x3 + 2) < c 1000001 0)) ∧ (QI T (fun r3 c4 => ((r1 = r3 → ((-2147483648 ≤ x3 + 6 ∧ x3 + 6 < 2147483648) ∧ Q (cev 356 106 18 [vR (-1), vR 1, vR 78, vI (x3 + 6)] [] (SH T, c4)))) ∧ (¬ r1 = r3 → Q (some (some (vI 0), (SH T, c4)))))) (ccal 204 [vR 78, vI (c2 1000000 (x3 + 1)), vI (c2 1000000 (x3 + 2))] (SH T, c2))))) (ccal 114 [vR 1, vI (c 1000000 (x3 + 1)), vI (c 1000000 (x3 + 2))] (SH T, c))))) ∧ (((iand (c 1000000 x3) 63) = 1 → (((-2147483648 ≤ x3 + 1 ∧ x3 + 1 < 2147483648) ∧ (0 ≤ (x3 + 1) ∧ (x3 + 1) < c 1000001 0) ∧ (-2147483648 ≤ x3 + 2 ∧ x3 + 2 < 2147483648) ∧ (0 ≤ (x3 + 2) ∧ (x3 + 2) < c 1000001 0)) ∧ (QI T (fun r5 c6 => (((-2147483648 ≤ x3 + 1 ∧ x3 + 1 < 2147483648) ∧ (0 ≤ (x3 + 1) ∧ (x3 + 1) < c 1000001 0) ∧ (-2147483648 ≤ x3 + 2 ∧ x3 + 2 < 2147483648) ∧ (0 ≤ (x3 + 2) ∧ (x3 + 2) < c 1000001 0)) ∧ (QI T (fun r7 c8 => ((r5 = r7 → ((-2147483648 ≤ x3 + 6 ∧ x3 + 6 < 2147483648) ∧ Q (cev 356 106 18 [vR (-1), vR 1, vR 78, vI (x3 + 6)] [] (SH T, c8)))) ∧ (¬ r5 = r7 → Q (some (some (vI 0), (SH T, c8)))))) (ccal 205 [vR 78, vI (c6 1000000 (x3 + 1)), vI (c6 1000000 (x3 + 2))] (SH T, c6))))) (ccal 115 [vR 1, vI (c 1000000 (x3 + 1)), vI (c 1000000 (x3 + 2))] (SH T, c))))) ∧ (((iand (c 1000000 x3) 63) = 2 → (((-2147483648 ≤ x3 + 1 ∧ x3 + 1 < 2147483648) ∧ (0 ≤ (x3 + 1) ∧ (x3 + 1) < c 1000001 0) ∧ (-2147483648 ≤ x3 + 2 ∧ x3 + 2 < 2147483648) ∧ (0 ≤ (x3 + 2) ∧ (x3 + 2) < c 1000001 0) ∧ (-2147483648 ≤ x3 + 3 ∧ x3 + 3 < 2147483648) ∧ (0 ≤ (x3 + 3) ∧ (x3 + 3) < c 1000001 0)) ∧ (QI T (fun r9 c10 => (((-2147483648 ≤ x3 + 1 ∧ x3 + 1 < 2147483648) ∧ (0 ≤ (x3 + 1) ∧ (x3 + 1) < c 1000001 0) ∧ (-2147483648 ≤ x3 + 2 ∧ x3 + 2 < 2147483648) ∧ (0 ≤ (x3 + 2) ∧ (x3 + 2) < c 1000001 0) ∧ (-2147483648 ≤ x3 + 3 ∧ x3 + 3 < 2147483648) ∧ (0 ≤ (x3 + 3) ∧ (x3 + 3) < c 1000001 0)) ∧ (QI T (fun r11 c12 => ((r9 = r11 → ((-2147483648 ≤ x3 + 6 ∧ x3 + 6 < 2147483648) ∧ Q (cev 356 106 18 [vR (-1), vR 1, vR 78, vI (x3 + 6)] [] (SH T, c12)))) ∧ (¬ r9 = r11 → Q (some (some (vI 0), (SH T, c12)))))) (ccal 206 [vR 78, vI (c10 1000000 (x3 + 1)), vI (c10 1000000 (x3 + 2)), vI (c10 1000000 (x3 + 3))] (SH T, c10))))) (ccal 116 [vR 1, vI (c 1000000 (x3 + 1)), vI (c 1000000 (x3 + 2)), vI (c 1000000 (x3 + 3))] (SH T, c))))) ∧ (((iand (c 1000000 x3) 63) = 3 → (((-2147483648 ≤ x3 + 1 ∧ x3 + 1 < 2147483648) ∧ (0 ≤ (x3 + 1) ∧ (x3 + 1) < c 1000001 0) ∧ (-2147483648 ≤ x3 + 2 ∧ x3 + 2 < 2147483648) ∧ (0 ≤ (x3 + 2) ∧ (x3 + 2) < c 1000001 0)) ∧ (QI T (fun r13 c14 => (((-2147483648 ≤ x3 + 1 ∧ x3 + 1 < 2147483648) ∧ (0 ≤ (x3 + 1) ∧ (x3 + 1) < c 1000001 0) ∧ (-2147483648 ≤ x3 + 2 ∧ x3 + 2 < 2147483648) ∧ (0 ≤ (x3 + 2) ∧ (x3 + 2) < c 1000001 0)) ∧ (QI T (fun r15 c16 => ((r13 = r15 → ((-2147483648 ≤ x3 + 6 ∧ x3 + 6 < 2147483648) ∧ Q (cev 356 106 18 [vR (-1), vR 1, vR 78, vI (x3 + 6)] [] (SH T, c16)))) ∧ (¬ r13 = r15 → Q (some (some (vI 0), (SH T, c16)))))) (ccal 207 [vR 78, vI (c14 1000000 (x3 + 1)), vI (c14 1000000 (x3 + 2))] (SH T, c14))))) (ccal 117 [vR 1, vI (c 1000000 (x3 + 1)), vI (c 1000000 (x3 + 2))] (SH T, c))))) ∧ (((iand (c 1000000 x3) 63) = 4 → (((-2147483648 ≤ x3 + 1 ∧ x3 + 1 < 2147483648) ∧ (0 ≤ (x3 + 1) ∧ (x3 + 1) < c 1000001 0) ∧ (-2147483648 ≤ x3 + 2 ∧ x3 + 2 < 2147483648) ∧ (0 ≤ (x3 + 2) ∧ (x3 + 2) < c 1000001 0)) ∧ (QI T (fun r17 c18 => (((-2147483648 ≤ x3 + 1 ∧ x3 + 1 < 2147483648) ∧ (0 ≤ (x3 + 1) ∧ (x3 + 1) < c 1000001 0) ∧ (-2147483648 ≤ x3 + 2 ∧ x3 + 2 < 2147483648) ∧ (0 ≤ (x3 + 2) ∧ (x3 + 2) < c 1000001 0)) ∧ (QI T (fun r19 c20 => ((r17 = r19 → ((-2147483648 ≤ x3 + 6 ∧ x3 + 6 < 2147483648) ∧ Q (cev 356 106 18 [vR (-1), vR 1, vR 78, vI (x3 + 6)] [] (SH T, c20)))) ∧ (¬ r17 = r19 → Q (some (some (vI 0), (SH T, c20)))))) (ccal 209 [vR 78, vI (c18 1000000 (x3 + 1)), vI (c18 1000000 (x3 + 2))] (SH T, c18))))) (ccal 118 [vR 1, vI (c 1000000 (x3 + 1)), vI (c 1000000 (x3 + 2))] (SH T, c))))) ∧ (((iand (c 1000000 x3) 63) = 5 → (((-2147483648 ≤ x3 + 1 ∧ x3 + 1 < 2147483648) ∧ (0 ≤ (x3 + 1) ∧ (x3 + 1) < c 1000001 0) ∧ (-2147483648 ≤ x3 + 2 ∧ x3 + 2 < 2147483648) ∧ (0 ≤ (x3 + 2) ∧ (x3 + 2) < c 1000001 0) ∧ (-2147483648 ≤ x3 + 3 ∧ x3 + 3 < 2147483648) ∧ (0 ≤ (x3 + 3) ∧ (x3 + 3) < c 1000001 0)) ∧ (QI T (fun r21 c22 => (((-2147483648 ≤ x3 + 1 ∧ x3 + 1 < 2147483648) ∧ (0 ≤ (x3 + 1) ∧ (x3 + 1) < c 1000001 0) ∧ (-2147483648 ≤ x3 + 2 ∧ x3 + 2 < 2147483648) ∧ (0 ≤ (x3 + 2) ∧ (x3 + 2) < c 1000001 0) ∧ (-2147483648 ≤ x3 + 3 ∧ x3 + 3 < 2147483648) ∧ (0 ≤ (x3 + 3) ∧ (x3 + 3) < c 1000001 0)) ∧ (QI T (fun r23 c24 => ((r21 = r23 → ((-2147483648 ≤ x3 + 6 ∧ x3 + 6 < 2147483648) ∧ Q (cev 356 106 18 [vR (-1), vR 1, vR 78, vI (x3 + 6)] [] (SH T, c24)))) ∧ (¬ r21 = r23 → Q (some (some (vI 0), (SH T, c24)))))) (ccal 210 [vR 78, vI (c22 1000000 (x3 + 1)), vI (c22 1000000 (x3 + 2)), vI (c22 1000000 (x3 + 3))] (SH T, c22))))) (ccal 119 [vR 1, vI (c 1000000 (x3 + 1)), vI (c 1000000 (x3 + 2)), vI (c 1000000 (x3 + 3))] (SH T, c))))) ∧ (((iand (c 1000000 x3) 63) = 6 → (((-2147483648 ≤ x3 + 1 ∧ x3 + 1 < 2147483648) ∧ (0 ≤ (x3 + 1) ∧ (x3 + 1) < c 1000001 0)) ∧ (QI T (fun r25 c26 => (((-2147483648 ≤ x3 + 1 ∧ x3 + 1 < 2147483648) ∧ (0 ≤ (x3 + 1) ∧ (x3 + 1) < c 1000001 0)) ∧ (QI T (fun r27 c28 => ((r25 = r27 → ((-2147483648 ≤ x3 + 6 ∧ x3 + 6 < 2147483648) ∧ Q (cev 356 106 18 [vR (-1), vR 1, vR 78, vI (x3 + 6)] [] (SH T, c28)))) ∧ (¬ r25 = r27 → Q (some (some (vI 0), (SH T, c28)))))) (ccal 211 [vR 78, vI (c26 1000000 (x3 + 1))] (SH T, c26))))) (ccal 120 [vR 1, vI (c 1000000 (x3 + 1))] (SH T, c))))) ∧ (((iand (c 1000000 x3) 63) = 7 → (((-2147483648 ≤ x3 + 1 ∧ x3 + 1 < 2147483648) ∧ (0 ≤ (x3 + 1) ∧ (x3 + 1) < c 1000001 0) ∧ (-2147483648 ≤ x3 + 2 ∧ x3 + 2 < 2147483648) ∧ (0 ≤ (x3 + 2) ∧ (x3 + 2) < c 1000001 0) ∧ (-2147483648 ≤ x3 + 3 ∧ x3 + 3 < 2147483648) ∧ (0 ≤ (x3 + 3) ∧ (x3 + 3) < c 1000001 0) ∧ (-2147483648 ≤ x3 + 4 ∧ x3 + 4 < 2147483648) ∧ (0 ≤ (x3 + 4) ∧ (x3 + 4) < c 1000001 0) ∧ (-2147483648 ≤ x3 + 5 ∧ x3 + 5 < 2147483648) ∧ (0 ≤ (x3 + 5) ∧ (x3 + 5) < c 1000001 0)) ∧ (QI T (fun r29 c30 => (((-2147483648 ≤ x3 + 1 ∧ x3 + 1 < 2147483648) ∧ (0 ≤ (x3 + 1) ∧ (x3 + 1) < c 1000001 0) ∧ (-2147483648 ≤ x3 + 2 ∧ x3 + 2 < 2147483648) ∧ (0 ≤ (x3 + 2) ∧ (x3 + 2) < c 1000001 0) ∧ (-2147483648 ≤ x3 + 3 ∧ x3 + 3 < 2147483648) ∧ (0 ≤ (x3 + 3) ∧ (x3 + 3) < c 1000001 0) ∧ (-2147483648 ≤ x3 + 4 ∧ x3 + 4 < 2147483648) ∧ (0 ≤ (x3 + 4) ∧ (x3 + 4) < c 1000001 0) ∧ (-2147483648 ≤ x3 + 5 ∧ x3 + 5 < 2147483648) ∧ (0 ≤ (x3 + 5) ∧ (x3 + 5) < c 1000001 0)) ∧ (QI T (fun r31 c32 => ((r29 = r31 → ((-2147483648 ≤ x3 + 6 ∧ x3 + 6 < 2147483648) ∧ Q (cev 356 106 18 [vR (-1), vR 1, vR 78, vI (x3 + 6)] [] (SH T, c32)))) ∧ (¬ r29 = r31 → Q (some (some (vI 0), (SH T, c32)))))) (ccal 215 [vR 78, vI (c30 1000000 (x3 + 1)), vI (c30 1000000 (x3 + 2)), vI (c30 1000000 (x3 + 3)), vI (c30 1000000 (x3 + 4)), vI (c30 1000000 (x3 + 5))] (SH T, c30))))) (ccal 121 [vR 1, vI (c 1000000 (x3 + 1)), vI (c 1000000 (x3 + 2)), vI (c 1000000 (x3 + 3)), vI (c 1000000 (x3 + 4)), vI (c 1000000 (x3 + 5))] (SH T, c))))) ∧ (((iand (c 1000000 x3) 63) = 8 → (((-2147483648 ≤ x3 + 1 ∧ x3 + 1 < 2147483648) ∧ (0 ≤ (x3 + 1) ∧ (x3 + 1) < c 1000001 0)) ∧ (QI T (fun r33 c34 => (((-2147483648 ≤ x3 + 1 ∧ x3 + 1 < 2147483648) ∧ (0 ≤ (x3 + 1) ∧ (x3 + 1) < c 1000001 0)) ∧ (QI T (fun r35 c36 => ((r33 = r35 → ((-2147483648 ≤ x3 + 6 ∧ x3 + 6 < 2147483648) ∧ Q (cev 356 106 18 [vR (-1), vR 1, vR 78, vI (x3 + 6)] [] (SH T, c36)))) ∧ (¬ r33 = r35 → Q (some (some (vI 0), (SH T, c36)))))) (ccal 216 [vR 78, vI (c34 1000000 (x3 + 1))] (SH T, c34))))) (ccal 122 [vR 1, vI (c 1000000 (x3 + 1))] (SH T, c))))) ∧ (((iand (c 1000000 x3) 63) = 9 → (QI T (fun r37 c38 => (QI T (fun r39 c40 => ((r37 = r39 → ((-2147483648 ≤ x3 + 6 ∧ x3 + 6 < 2147483648) ∧ Q (cev 356 106 18 [vR (-1), vR 1, vR 78, vI (x3 + 6)] [] (SH T, c40)))) ∧ (¬ r37 = r39 → Q (some (some (vI 0), (SH T, c40)))))) (ccal 212 [vR 78] (SH T, c38)))) (ccal 123 [vR 1] (SH T, c)))) ∧ (((iand (c 1000000 x3) 63) = 10 → (QI T (fun r41 c42 => (QI T (fun r43 c44 => ((r41 = r43 → ((-2147483648 ≤ x3 + 6 ∧ x3 + 6 < 2147483648) ∧ Q (cev 356 106 18 [vR (-1), vR 1, vR 78, vI (x3 + 6)] [] (SH T, c44)))) ∧ (¬ r41 = r43 → Q (some (some (vI 0), (SH T, c44)))))) (ccal 213 [vR 78] (SH T, c42)))) (ccal 124 [vR 1] (SH T, c)))) ∧ (((iand (c 1000000 x3) 63) = 11 → (QI T (fun r45 c46 => (QI T (fun r47 c48 => ((r45 = r47 → ((-2147483648 ≤ x3 + 6 ∧ x3 + 6 < 2147483648) ∧ Q (cev 356 106 18 [vR (-1), vR 1, vR 78, vI (x3 + 6)] [] (SH T, c48)))) ∧ (¬ r45 = r47 → Q (some (some (vI 0), (SH T, c48)))))) (ccal 244 [vR 78] (SH T, c46)))) (ccal 125 [vR 1] (SH T, c)))) ∧ (((iand (c 1000000 x3) 63) = 12 → (QI T (fun r49 c50 => (QI T (fun r51 c52 => ((r49 = r51 → ((-2147483648 ≤ x3 + 6 ∧ x3 + 6 < 2147483648) ∧ Q (cev 356 106 18 [vR (-1), vR 1, vR 78, vI (x3 + 6)] [] (SH T, c52)))) ∧ (¬ r49 = r51 → Q (some (some (vI 0), (SH T, c52)))))) (ccal 334 [vR 78] (SH T, c50)))) (ccal 126 [vR 1] (SH T, c)))) ∧ (((iand (c 1000000 x3) 63) = 13 → (QI T (fun r53 c54 => (QI T (fun r55 c56 => ((r53 = r55 → ((-2147483648 ≤ x3 + 6 ∧ x3 + 6 < 2147483648) ∧ Q (cev 356 106 18 [vR (-1), vR 1, vR 78, vI (x3 + 6)] [] (SH T, c56)))) ∧ (¬ r53 = r55 → Q (some (some (vI 0), (SH T, c56)))))) (ccal 225 [vR 78] (SH T, c54)))) (ccal 127 [vR 1] (SH T, c)))) ∧ (((iand (c 1000000 x3) 63) = 14 → (QI T (fun r57 c58 => (QI T (fun r59 c60 => ((r57 = r59 → ((-2147483648 ≤ x3 + 6 ∧ x3 + 6 < 2147483648) ∧ Q (cev 356 106 18 [vR (-1), vR 1, vR 78, vI (x3 + 6)] [] (SH T, c60)))) ∧ (¬ r57 = r59 → Q (some (some (vI 0), (SH T, c60)))))) (ccal 335 [vR 78] (SH T, c58)))) (ccal 128 [vR 1] (SH T, c)))) ∧ (((iand (c 1000000 x3) 63) = 15 → (((-2147483648 ≤ x3 + 1 ∧ x3 + 1 < 2147483648) ∧ (0 ≤ (x3 + 1) ∧ (x3 + 1) < c 1000001 0)) ∧ (QI T (fun r61 c62 => (((-2147483648 ≤ x3 + 1 ∧ x3 + 1 < 2147483648) ∧ (0 ≤ (x3 + 1) ∧ (x3 + 1) < c 1000001 0)) ∧ (QI T (fun r63 c64 => ((r61 = r63 → ((-2147483648 ≤ x3 + 6 ∧ x3 + 6 < 2147483648) ∧ Q (cev 356 106 18 [vR (-1), vR 1, vR 78, vI (x3 + 6)] [] (SH T, c64)))) ∧ (¬ r61 = r63 → Q (some (some (vI 0), (SH T, c64)))))) (ccal 245 [vR 78, vI (c62 1000000 (x3 + 1))] (SH T, c62))))) (ccal 129 [vR 1, vI (c 1000000 (x3 + 1))] (SH T, c))))) ∧ (((iand (c 1000000 x3) 63) = 16 → (((-2147483648 ≤ x3 + 1 ∧ x3 + 1 < 2147483648) ∧ (0 ≤ (x3 + 1) ∧ (x3 + 1) < c 1000001 0) ∧ (-2147483648 ≤ x3 + 2 ∧ x3 + 2 < 2147483648) ∧ (0 ≤ (x3 + 2) ∧ (x3 + 2) < c 1000001 0) ∧ (-2147483648 ≤ x3 + 3 ∧ x3 + 3 < 2147483648) ∧ (0 ≤ (x3 + 3) ∧ (x3 + 3) < c 1000001 0)) ∧ (QI T (fun r65 c66 => (((-2147483648 ≤ x3 + 1 ∧ x3 + 1 < 2147483648) ∧ (0 ≤ (x3 + 1) ∧ (x3 + 1) < c 1000001 0) ∧ (-2147483648 ≤ x3 + 2 ∧ x3 + 2 < 2147483648) ∧ (0 ≤ (x3 + 2) ∧ (x3 + 2) < c 1000001 0) ∧ (-2147483648 ≤ x3 + 3 ∧ x3 + 3 < 2147483648) ∧ (0 ≤ (x3 + 3) ∧ (x3 + 3) < c 1000001 0)) ∧ (QI T (fun r67 c68 => ((r65 = r67 → ((-2147483648 ≤ x3 + 6 ∧ x3 + 6 < 2147483648) ∧ Q (cev 356 106 18 [vR (-1), vR 1, vR 78, vI (x3 + 6)] [] (SH T, c68)))) ∧ (¬ r65 = r67 → Q (some (some (vI 0), (SH T, c68)))))) (ccal 257 [vR 78, vI (c66 1000000 (x3 + 1)), vI (c66 1000000 (x3 + 2)), vI (c66 1000000 (x3 + 3))] (SH T, c66))))) (ccal 130 [vR 1, vI (c 1000000 (x3 + 1)), vI (c 1000000 (x3 + 2)), vI (c 1000000 (x3 + 3))] (SH T, c))))) ∧ (((iand (c 1000000 x3) 63) = 17 → (((-2147483648 ≤ x3 + 1 ∧ x3 + 1 < 2147483648) ∧ (0 ≤ (x3 + 1) ∧ (x3 + 1) < c 1000001 0) ∧ (-2147483648 ≤ x3 + 2 ∧ x3 + 2 < 2147483648) ∧ (0 ≤ (x3 + 2) ∧ (x3 + 2) < c 1000001 0) ∧ (-2147483648 ≤ x3 + 3 ∧ x3 + 3 < 2147483648) ∧ (0 ≤ (x3 + 3) ∧ (x3 + 3) < c 1000001 0)) ∧ (QI T (fun r69 c70 => (((-2147483648 ≤ x3 + 1 ∧ x3 + 1 < 2147483648) ∧ (0 ≤ (x3 + 1) ∧ (x3 + 1) < c 1000001 0) ∧ (-2147483648 ≤ x3 + 2 ∧ x3 + 2 < 2147483648) ∧ (0 ≤ (x3 + 2) ∧ (x3 + 2) < c 1000001 0) ∧ (-2147483648 ≤ x3 + 3 ∧ x3 + 3 < 2147483648) ∧ (0 ≤ (x3 + 3) ∧ (x3 + 3) < c 1000001 0)) ∧ (QI T (fun r71 c72 => ((r69 = r71 → ((-2147483648 ≤ x3 + 6 ∧ x3 + 6 < 2147483648) ∧ Q (cev 356 106 18 [vR (-1), vR 1, vR 78, vI (x3 + 6)] [] (SH T, c72)))) ∧ (¬ r69 = r71 → Q (some (some (vI 0), (SH T, c72)))))) (ccal 258 [vR 78, vI (c70 1000000 (x3 + 1)), vI (c70 1000000 (x3 + 2)), vI (c70 1000000 (x3 + 3))] (SH T, c70))))) (ccal 131 [vR 1, vI (c 1000000 (x3 + 1)), vI (c 1000000 (x3 + 2)), vI (c 1000000 (x3 + 3))] (SH T, c))))) ∧ (((iand (c 1000000 x3) 63) = 18 → (((-2147483648 ≤ x3 + 1 ∧ x3 + 1 < 2147483648) ∧ (0 ≤ (x3 + 1) ∧ (x3 + 1) < c 1000001 0)) ∧ (QI T (fun r73 c74 => (((-2147483648 ≤ x3 + 1 ∧ x3 + 1 < 2147483648) ∧ (0 ≤ (x3 + 1) ∧ (x3 + 1) < c 1000001 0)) ∧ (QI T (fun r75 c76 => ((r73 = r75 → ((-2147483648 ≤ x3 + 6 ∧ x3 + 6 < 2147483648) ∧ Q (cev 356 106 18 [vR (-1), vR 1, vR 78, vI (x3 + 6)] [] (SH T, c76)))) ∧ (¬ r73 = r75 → Q (some (some (vI 0), (SH T, c76)))))) (ccal 267 [vR 78, vI (c74 1000000 (x3 + 1))] (SH T, c74))))) (ccal 132 [vR 1, vI (c 1000000 (x3 + 1))] (SH T, c))))) ∧ (((iand (c 1000000 x3) 63) = 19 → (QI T (fun r77 c78 => (QI T (fun r79 c80 => ((r77 = r79 → ((-2147483648 ≤ x3 + 6 ∧ x3 + 6 < 2147483648) ∧ Q (cev 356 106 18 [vR (-1), vR 1, vR 78, vI (x3 + 6)] [] (SH T, c80)))) ∧ (¬ r77 = r79 → Q (some (some (vI 0), (SH T, c80)))))) (ccal 268 [vR 78] (SH T, c78)))) (ccal 133 [vR 1] (SH T, c)))) ∧ (((iand (c 1000000 x3) 63) = 20 → (((-2147483648 ≤ x3 + 1 ∧ x3 + 1 < 2147483648) ∧ (0 ≤ (x3 + 1) ∧ (x3 + 1) < c 1000001 0) ∧ (-2147483648 ≤ x3 + 2 ∧ x3 + 2 < 2147483648) ∧ (0 ≤ (x3 + 2) ∧ (x3 + 2) < c 1000001 0)) ∧ (QI T (fun r81 c82 => (((-2147483648 ≤ x3 + 1 ∧ x3 + 1 < 2147483648) ∧ (0 ≤ (x3 + 1) ∧ (x3 + 1) < c 1000001 0) ∧ (-2147483648 ≤ x3 + 2 ∧ x3 + 2 < 2147483648) ∧ (0 ≤ (x3 + 2) ∧ (x3 + 2) < c 1000001 0)) ∧ (QI T (fun r83 c84 => ((r81 = r83 → ((-2147483648 ≤ x3 + 6 ∧ x3 + 6 < 2147483648) ∧ Q (cev 356 106 18 [vR (-1), vR 1, vR 78, vI (x3 + 6)] [] (SH T, c84)))) ∧ (¬ r81 = r83 → Q (some (some (vI 0), (SH T, c84)))))) (ccal 269 [vR 78, vI (c82 1000000 (x3 + 1)), vI (c82 1000000 (x3 + 2))] (SH T, c82))))) (ccal 134 [vR 1, vI (c 1000000 (x3 + 1)), vI (c 1000000 (x3 + 2))] (SH T, c))))) ∧ (((iand (c 1000000 x3) 63) = 21 → (((-2147483648 ≤ x3 + 1 ∧ x3 + 1 < 2147483648) ∧ (0 ≤ (x3 + 1) ∧ (x3 + 1) < c 1000001 0) ∧ (-2147483648 ≤ x3 + 2 ∧ x3 + 2 < 2147483648) ∧ (0 ≤ (x3 + 2) ∧ (x3 + 2) < c 1000001 0)) ∧ (QI T (fun r85 c86 => (((-2147483648 ≤ x3 + 1 ∧ x3 + 1 < 2147483648) ∧ (0 ≤ (x3 + 1) ∧ (x3 + 1) < c 1000001 0) ∧ (-2147483648 ≤ x3 + 2 ∧ x3 + 2 < 2147483648) ∧ (0 ≤ (x3 + 2) ∧ (x3 + 2) < c 1000001 0)) ∧ (QI T (fun r87 c88 => ((r85 = r87 → ((-2147483648 ≤ x3 + 6 ∧ x3 + 6 < 2147483648) ∧ Q (cev 356 106 18 [vR (-1), vR 1, vR 78, vI (x3 + 6)] [] (SH T, c88)))) ∧ (¬ r85 = r87 → Q (some (some (vI 0), (SH T, c88)))))) (ccal 272 [vR 78, vI (c86 1000000 (x3 + 1)), vI (c86 1000000 (x3 + 2))] (SH T, c86))))) (ccal 135 [vR 1, vI (c 1000000 (x3 + 1)), vI (c 1000000 (x3 + 2))] (SH T, c))))) ∧ (((iand (c 1000000 x3) 63) = 22 → (QI T (fun r89 c90 => (QI T (fun r91 c92 => ((r89 = r91 → ((-2147483648 ≤ x3 + 6 ∧ x3 + 6 < 2147483648) ∧ Q (cev 356 106 18 [vR (-1), vR 1, vR 78, vI (x3 + 6)] [] (SH T, c92)))) ∧ (¬ r89 = r91 → Q (some (some (vI 0), (SH T, c92)))))) (ccal 273 [vR 78] (SH T, c90)))) (ccal 136 [vR 1] (SH T, c)))) ∧ (((iand (c 1000000 x3) 63) = 23 → (((-2147483648 ≤ x3 + 1 ∧ x3 + 1 < 2147483648) ∧ (0 ≤ (x3 + 1) ∧ (x3 + 1) < c 1000001 0)) ∧ (QI T (fun r93 c94 => (((-2147483648 ≤ x3 + 1 ∧ x3 + 1 < 2147483648) ∧ (0 ≤ (x3 + 1) ∧ (x3 + 1) < c 1000001 0)) ∧ (QI T (fun r95 c96 => ((r93 = r95 → ((-2147483648 ≤ x3 + 6 ∧ x3 + 6 < 2147483648) ∧ Q (cev 356 106 18 [vR (-1), vR 1, vR 78, vI (x3 + 6)] [] (SH T, c96)))) ∧ (¬ r93 = r95 → Q (some (some (vI 0), (SH T, c96)))))) (ccal 275 [vR 78, vI (c94 1000000 (x3 + 1))] (SH T, c94))))) (ccal 137 [vR 1, vI (c 1000000 (x3 + 1))] (SH T, c))))) ∧ (((iand (c 1000000 x3) 63) = 24 → (QI T (fun r97 c98 => (QI T (fun r99 c100 => ((r97 = r99 → ((-2147483648 ≤ x3 + 6 ∧ x3 + 6 < 2147483648) ∧ Q (cev 356 106 18 [vR (-1), vR 1, vR 78, vI (x3 + 6)] [] (SH T, c100)))) ∧ (¬ r97 = r99 → Q (some (some (vI 0), (SH T, c100)))))) (ccal 276 [vR 78] (SH T, c98)))) (ccal 138 [vR 1] (SH T, c)))) ∧ (((iand (c 1000000 x3) 63) = 25 → (((-2147483648 ≤ x3 + 1 ∧ x3 + 1 < 2147483648) ∧ (0 ≤ (x3 + 1) ∧ (x3 + 1) < c 1000001 0) ∧ (-2147483648 ≤ x3 + 2 ∧ x3 + 2 < 2147483648) ∧ (0 ≤ (x3 + 2) ∧ (x3 + 2) < c 1000001 0) ∧ (-2147483648 ≤ x3 + 3 ∧ x3 + 3 < 2147483648) ∧ (0 ≤ (x3 + 3) ∧ (x3 + 3) < c 1000001 0)) ∧ (QI T (fun r101 c102 => (((-2147483648 ≤ x3 + 1 ∧ x3 + 1 < 2147483648) ∧ (0 ≤ (x3 + 1) ∧ (x3 + 1) < c 1000001 0) ∧ (-2147483648 ≤ x3 + 2 ∧ x3 + 2 < 2147483648) ∧ (0 ≤ (x3 + 2) ∧ (x3 + 2) < c 1000001 0) ∧ (-2147483648 ≤ x3 + 3 ∧ x3 + 3 < 2147483648) ∧ (0 ≤ (x3 + 3) ∧ (x3 + 3) < c 1000001 0)) ∧ (QI T (fun r103 c104 => ((r101 = r103 → ((-2147483648 ≤ x3 + 6 ∧ x3 + 6 < 2147483648) ∧ Q (cev 356 106 18 [vR (-1), vR 1, vR 78, vI (x3 + 6)] [] (SH T, c104)))) ∧ (¬ r101 = r103 → Q (some (some (vI 0), (SH T, c104)))))) (ccal 280 [vR 78, vI (c102 1000000 (x3 + 1)), vI (c102 1000000 (x3 + 2)), vI (c102 1000000 (x3 + 3))] (SH T, c102))))) (ccal 139 [vR 1, vI (c 1000000 (x3 + 1)), vI (c 1000000 (x3 + 2)), vI (c 1000000 (x3 + 3))] (SH T, c))))) ∧ (((iand (c 1000000 x3) 63) = 26 → (((-2147483648 ≤ x3 + 1 ∧ x3 + 1 < 2147483648) ∧ (0 ≤ (x3 + 1) ∧ (x3 + 1) < c 1000001 0) ∧ (-2147483648 ≤ x3 + 2 ∧ x3 + 2 < 2147483648) ∧ (0 ≤ (x3 + 2) ∧ (x3 + 2) < c 1000001 0) ∧ (-2147483648 ≤ x3 + 3 ∧ x3 + 3 < 2147483648) ∧ (0 ≤ (x3 + 3) ∧ (x3 + 3) < c 1000001 0)) ∧ (QI T (fun r105 c106 => (((-2147483648 ≤ x3 + 1 ∧ x3 + 1 < 2147483648) ∧ (0 ≤ (x3 + 1) ∧ (x3 + 1) < c 1000001 0) ∧ (-2147483648 ≤ x3 + 2 ∧ x3 + 2 < 2147483648) ∧ (0 ≤ (x3 + 2) ∧ (x3 + 2) < c 1000001 0) ∧ (-2147483648 ≤ x3 + 3 ∧ x3 + 3 < 2147483648) ∧ (0 ≤ (x3 + 3) ∧ (x3 + 3) < c 1000001 0)) ∧ (QI T (fun r107 c108 => ((r105 = r107 → ((-2147483648 ≤ x3 + 6 ∧ x3 + 6 < 2147483648) ∧ Q (cev 356 106 18 [vR (-1), vR 1, vR 78, vI (x3 + 6)] [] (SH T, c108)))) ∧ (¬ r105 = r107 → Q (some (some (vI 0), (SH T, c108)))))) (ccal 282 [vR 78, vI (c106 1000000 (x3 + 1)), vI (c106 1000000 (x3 + 2)), vI (c106 1000000 (x3 + 3))] (SH T, c106))))) (ccal 140 [vR 1, vI (c 1000000 (x3 + 1)), vI (c 1000000 (x3 + 2)), vI (c 1000000 (x3 + 3))] (SH T, c))))) ∧ (((iand (c 1000000 x3) 63) = 27 → (((-2147483648 ≤ x3 + 1 ∧ x3 + 1 < 2147483648) ∧ (0 ≤ (x3 + 1) ∧ (x3 + 1) < c 1000001 0)) ∧ (QI T (fun r109 c110 => (((-2147483648 ≤ x3 + 1 ∧ x3 + 1 < 2147483648) ∧ (0 ≤ (x3 + 1) ∧ (x3 + 1) < c 1000001 0)) ∧ (QI T (fun r111 c112 => ((r109 = r111 → ((-2147483648 ≤ x3 + 6 ∧ x3 + 6 < 2147483648) ∧ Q (cev 356 106 18 [vR (-1), vR 1, vR 78, vI (x3 + 6)] [] (SH T, c112)))) ∧ (¬ r109 = r111 → Q (some (some (vI 0), (SH T, c112)))))) (ccal 283 [vR 78, vI (c110 1000000 (x3 + 1))] (SH T, c110))))) (ccal 141 [vR 1, vI (c 1000000 (x3 + 1))] (SH T, c))))) ∧ (((iand (c 1000000 x3) 63) = 28 → (QI T (fun r113 c114 => (QI T (fun r115 c116 => ((r113 = r115 → ((-2147483648 ≤ x3 + 6 ∧ x3 + 6 < 2147483648) ∧ Q (cev 356 106 18 [vR (-1), vR 1, vR 78, vI (x3 + 6)] [] (SH T, c116)))) ∧ (¬ r113 = r115 → Q (some (some (vI 0), (SH T, c116)))))) (ccal 286 [vR 78] (SH T, c114)))) (ccal 142 [vR 1] (SH T, c)))) ∧ (((iand (c 1000000 x3) 63) = 29 → (((-2147483648 ≤ x3 + 1 ∧ x3 + 1 < 2147483648) ∧ (0 ≤ (x3 + 1) ∧ (x3 + 1) < c 1000001 0) ∧ (-2147483648 ≤ x3 + 2 ∧ x3 + 2 < 2147483648) ∧ (0 ≤ (x3 + 2) ∧ (x3 + 2) < c 1000001 0) ∧ (-2147483648 ≤ x3 + 3 ∧ x3 + 3 < 2147483648) ∧ (0 ≤ (x3 + 3) ∧ (x3 + 3) < c 1000001 0)) ∧ (QI T (fun r117 c118 => (((-2147483648 ≤ x3 + 1 ∧ x3 + 1 < 2147483648) ∧ (0 ≤ (x3 + 1) ∧ (x3 + 1) < c 1000001 0) ∧ (-2147483648 ≤ x3 + 2 ∧ x3 + 2 < 2147483648) ∧ (0 ≤ (x3 + 2) ∧ (x3 + 2) < c 1000001 0) ∧ (-2147483648 ≤ x3 + 3 ∧ x3 + 3 < 2147483648) ∧ (0 ≤ (x3 + 3) ∧ (x3 + 3) < c 1000001 0)) ∧ (QI T (fun r119 c120 => ((r117 = r119 → ((-2147483648 ≤ x3 + 6 ∧ x3 + 6 < 2147483648) ∧ Q (cev 356 106 18 [vR (-1), vR 1, vR 78, vI (x3 + 6)] [] (SH T, c120)))) ∧ (¬ r117 = r119 → Q (some (some (vI 0), (SH T, c120)))))) (ccal 287 [vR 78, vI (c118 1000000 (x3 + 1)), vI (c118 1000000 (x3 + 2)), vI (c118 1000000 (x3 + 3))] (SH T, c118))))) (ccal 143 [vR 1, vI (c 1000000 (x3 + 1)), vI (c 1000000 (x3 + 2)), vI (c 1000000 (x3 + 3))] (SH T, c))))) ∧ (((iand (c 1000000 x3) 63) = 30 → (QI T (fun r121 c122 => (QI T (fun r123 c124 => ((r121 = r123 → ((-2147483648 ≤ x3 + 6 ∧ x3 + 6 < 2147483648) ∧ Q (cev 356 106 18 [vR (-1), vR 1, vR 78, vI (x3 + 6)] [] (SH T, c124)))) ∧ (¬ r121 = r123 → Q (some (some (vI 0), (SH T, c124)))))) (ccal 288 [vR 78] (SH T, c122)))) (ccal 144 [vR 1] (SH T, c)))) ∧ (((iand (c 1000000 x3) 63) = 31 → (((-2147483648 ≤ x3 + 1 ∧ x3 + 1 < 2147483648) ∧ (0 ≤ (x3 + 1) ∧ (x3 + 1) < c 1000001 0)) ∧ (QI T (fun r125 c126 => (((-2147483648 ≤ x3 + 1 ∧ x3 + 1 < 2147483648) ∧ (0 ≤ (x3 + 1) ∧ (x3 + 1) < c 1000001 0)) ∧ (QI T (fun r127 c128 => ((r125 = r127 → ((-2147483648 ≤ x3 + 6 ∧ x3 + 6 < 2147483648) ∧ Q (cev 356 106 18 [vR (-1), vR 1, vR 78, vI (x3 + 6)] [] (SH T, c128)))) ∧ (¬ r125 = r127 → Q (some (some (vI 0), (SH T, c128)))))) (ccal 291 [vR 78, vI (c126 1000000 (x3 + 1))] (SH T, c126))))) (ccal 145 [vR 1, vI (c 1000000 (x3 + 1))] (SH T, c))))) ∧ (((iand (c 1000000 x3) 63) = 32 → (((-2147483648 ≤ x3 + 1 ∧ x3 + 1 < 2147483648) ∧ (0 ≤ (x3 + 1) ∧ (x3 + 1) < c 1000001 0) ∧ (-2147483648 ≤ x3 + 2 ∧ x3 + 2 < 2147483648) ∧ (0 ≤ (x3 + 2) ∧ (x3 + 2) < c 1000001 0)) ∧ (QI T (fun r129 c130 => (((-2147483648 ≤ x3 + 1 ∧ x3 + 1 < 2147483648) ∧ (0 ≤ (x3 + 1) ∧ (x3 + 1) < c 1000001 0) ∧ (-2147483648 ≤ x3 + 2 ∧ x3 + 2 < 2147483648) ∧ (0 ≤ (x3 + 2) ∧ (x3 + 2) < c 1000001 0)) ∧ (QI T (fun r131 c132 => ((r129 = r131 → ((-2147483648 ≤ x3 + 6 ∧ x3 + 6 < 2147483648) ∧ Q (cev 356 106 18 [vR (-1), vR 1, vR 78, vI (x3 + 6)] [] (SH T, c132)))) ∧ (¬ r129 = r131 → Q (some (some (vI 0), (SH T, c132)))))) (ccal 293 [vR 78, vI (c130 1000000 (x3 + 1)), vI (c130 1000000 (x3 + 2))] (SH T, c130))))) (ccal 146 [vR 1, vI (c 1000000 (x3 + 1)), vI (c 1000000 (x3 + 2))] (SH T, c))))) ∧ (((iand (c 1000000 x3) 63) = 33 → (((-2147483648 ≤ x3 + 1 ∧ x3 + 1 < 2147483648) ∧ (0 ≤ (x3 + 1) ∧ (x3 + 1) < c 1000001 0)) ∧ (QI T (fun r133 c134 => (((-2147483648 ≤ x3 + 1 ∧ x3 + 1 < 2147483648) ∧ (0 ≤ (x3 + 1) ∧ (x3 + 1) < c 1000001 0)) ∧ (QI T (fun r135 c136 => ((r133 = r135 → ((-2147483648 ≤ x3 + 6 ∧ x3 + 6 < 2147483648) ∧ Q (cev 356 106 18 [vR (-1), vR 1, vR 78, vI (x3 + 6)] [] (SH T, c136)))) ∧ (¬ r133 = r135 → Q (some (some (vI 0), (SH T, c136)))))) (ccal 296 [vR 78, vI (c134 1000000 (x3 + 1))] (SH T, c134))))) (ccal 147 [vR 1, vI (c 1000000 (x3 + 1))] (SH T, c))))) ∧ (((iand (c 1000000 x3) 63) = 34 → (QI T (fun r137 c138 => (QI T (fun r139 c140 => ((r137 = r139 → ((-2147483648 ≤ x3 + 6 ∧ x3 + 6 < 2147483648) ∧ Q (cev 356 106 18 [vR (-1), vR 1, vR 78, vI (x3 + 6)] [] (SH T, c140)))) ∧ (¬ r137 = r139 → Q (some (some (vI 0), (SH T, c140)))))) (ccal 297 [vR 78] (SH T, c138)))) (ccal 148 [vR 1] (SH T, c)))) ∧ (((iand (c 1000000 x3) 63) = 35 → (((-2147483648 ≤ x3 + 1 ∧ x3 + 1 < 2147483648) ∧ (0 ≤ (x3 + 1) ∧ (x3 + 1) < c 1000001 0) ∧ (-2147483648 ≤ x3 + 2 ∧ x3 + 2 < 2147483648) ∧ (0 ≤ (x3 + 2) ∧ (x3 + 2) < c 1000001 0)) ∧ (QI T (fun r141 c142 => (((-2147483648 ≤ x3 + 1 ∧ x3 + 1 < 2147483648) ∧ (0 ≤ (x3 + 1) ∧ (x3 + 1) < c 1000001 0) ∧ (-2147483648 ≤ x3 + 2 ∧ x3 + 2 < 2147483648) ∧ (0 ≤ (x3 + 2) ∧ (x3 + 2) < c 1000001 0)) ∧ (QI T (fun r143 c144 => ((r141 = r143 → ((-2147483648 ≤ x3 + 6 ∧ x3 + 6 < 2147483648) ∧ Q (cev 356 106 18 [vR (-1), vR 1, vR 78, vI (x3 + 6)] [] (SH T, c144)))) ∧ (¬ r141 = r143 → Q (some (some (vI 0), (SH T, c144)))))) (ccal 298 [vR 78, vI (c142 1000000 (x3 + 1)), vI (c142 1000000 (x3 + 2))] (SH T, c142))))) (ccal 149 [vR 1, vI (c 1000000 (x3 + 1)), vI (c 1000000 (x3 + 2))] (SH T, c))))) ∧ (((iand (c 1000000 x3) 63) = 36 → (((-2147483648 ≤ x3 + 1 ∧ x3 + 1 < 2147483648) ∧ (0 ≤ (x3 + 1) ∧ (x3 + 1) < c 1000001 0)) ∧ (QI T (fun r145 c146 => (((-2147483648 ≤ x3 + 1 ∧ x3 + 1 < 2147483648) ∧ (0 ≤ (x3 + 1) ∧ (x3 + 1) < c 1000001 0)) ∧ (QI T (fun r147 c148 => ((r145 = r147 → ((-2147483648 ≤ x3 + 6 ∧ x3 + 6 < 2147483648) ∧ Q (cev 356 106 18 [vR (-1), vR 1, vR 78, vI (x3 + 6)] [] (SH T, c148)))) ∧ (¬ r145 = r147 → Q (some (some (vI 0), (SH T, c148)))))) (ccal 301 [vR 78, vI (c146 1000000 (x3 + 1))] (SH T, c146))))) (ccal 150 [vR 1, vI (c 1000000 (x3 + 1))] (SH T, c))))) ∧ (((iand (c 1000000 x3) 63) = 37 → (((-2147483648 ≤ x3 + 1 ∧ x3 + 1 < 2147483648) ∧ (0 ≤ (x3 + 1) ∧ (x3 + 1) < c 1000001 0)) ∧ (QI T (fun r149 c150 => (((-2147483648 ≤ x3 + 1 ∧ x3 + 1 < 2147483648) ∧ (0 ≤ (x3 + 1) ∧ (x3 + 1) < c 1000001 0)) ∧ (QI T (fun r151 c152 => ((r149 = r151 → ((-2147483648 ≤ x3 + 6 ∧ x3 + 6 < 2147483648) ∧ Q (cev 356 106 18 [vR (-1), vR 1, vR 78, vI (x3 + 6)] [] (SH T, c152)))) ∧ (¬ r149 = r151 → Q (some (some (vI 0), (SH T, c152)))))) (ccal 303 [vR 78, vI (c150 1000000 (x3 + 1))] (SH T, c150))))) (ccal 151 [vR 1, vI (c 1000000 (x3 + 1))] (SH T, c))))) ∧ (((iand (c 1000000 x3) 63) = 38 → (((-2147483648 ≤ x3 + 1 ∧ x3 + 1 < 2147483648) ∧ (0 ≤ (x3 + 1) ∧ (x3 + 1) < c 1000001 0) ∧ (-2147483648 ≤ x3 + 2 ∧ x3 + 2 < 2147483648) ∧ (0 ≤ (x3 + 2) ∧ (x3 + 2) < c 1000001 0) ∧ (-2147483648 ≤ x3 + 3 ∧ x3 + 3 < 2147483648) ∧ (0 ≤ (x3 + 3) ∧ (x3 + 3) < c 1000001 0)) ∧ (QI T (fun r153 c154 => (((-2147483648 ≤ x3 + 1 ∧ x3 + 1 < 2147483648) ∧ (0 ≤ (x3 + 1) ∧ (x3 + 1) < c 1000001 0) ∧ (-2147483648 ≤ x3 + 2 ∧ x3 + 2 < 2147483648) ∧ (0 ≤ (x3 + 2) ∧ (x3 + 2) < c 1000001 0) ∧ (-2147483648 ≤ x3 + 3 ∧ x3 + 3 < 2147483648) ∧ (0 ≤ (x3 + 3) ∧ (x3 + 3) < c 1000001 0)) ∧ (QI T (fun r155 c156 => ((r153 = r155 → ((-2147483648 ≤ x3 + 6 ∧ x3 + 6 < 2147483648) ∧ Q (cev 356 106 18 [vR (-1), vR 1, vR 78, vI (x3 + 6)] [] (SH T, c156)))) ∧ (¬ r153 = r155 → Q (some (some (vI 0), (SH T, c156)))))) (ccal 304 [vR 78, vI (c154 1000000 (x3 + 1)), vI (c154 1000000 (x3 + 2)), vI (c154 1000000 (x3 + 3))] (SH T, c154))))) (ccal 152 [vR 1, vI (c 1000000 (x3 + 1)), vI (c 1000000 (x3 + 2)), vI (c 1000000 (x3 + 3))] (SH T, c))))) ∧ (((iand (c 1000000 x3) 63) = 39 → (QI T (fun r157 c158 => (QI T (fun r159 c160 => ((r157 = r159 → ((-2147483648 ≤ x3 + 6 ∧ x3 + 6 < 2147483648) ∧ Q (cev 356 106 18 [vR (-1), vR 1, vR 78, vI (x3 + 6)] [] (SH T, c160)))) ∧ (¬ r157 = r159 → Q (some (some (vI 0), (SH T, c160)))))) (ccal 305 [vR 78] (SH T, c158)))) (ccal 153 [vR 1] (SH T, c)))) ∧ (((iand (c 1000000 x3) 63) = 40 → (((-2147483648 ≤ x3 + 1 ∧ x3 + 1 < 2147483648) ∧ (0 ≤ (x3 + 1) ∧ (x3 + 1) < c 1000001 0) ∧ (-2147483648 ≤ x3 + 2 ∧ x3 + 2 < 2147483648) ∧ (0 ≤ (x3 + 2) ∧ (x3 + 2) < c 1000001 0)) ∧ (QI T (fun r161 c162 => (((-2147483648 ≤ x3 + 1 ∧ x3 + 1 < 2147483648) ∧ (0 ≤ (x3 + 1) ∧ (x3 + 1) < c 1000001 0) ∧ (-2147483648 ≤ x3 + 2 ∧ x3 + 2 < 2147483648) ∧ (0 ≤ (x3 + 2) ∧ (x3 + 2) < c 1000001 0)) ∧ (QI T (fun r163 c164 => ((r161 = r163 → ((-2147483648 ≤ x3 + 6 ∧ x3 + 6 < 2147483648) ∧ Q (cev 356 106 18 [vR (-1), vR 1, vR 78, vI (x3 + 6)] [] (SH T, c164)))) ∧ (¬ r161 = r163 → Q (some (some (vI 0), (SH T, c164)))))) (ccal 306 [vR 78, vI (c162 1000000 (x3 + 1)), vI (c162 1000000 (x3 + 2))] (SH T, c162))))) (ccal 154 [vR 1, vI (c 1000000 (x3 + 1)), vI (c 1000000 (x3 + 2))] (SH T, c))))) ∧ (((iand (c 1000000 x3) 63) = 41 → (((-2147483648 ≤ x3 + 1 ∧ x3 + 1 < 2147483648) ∧ (0 ≤ (x3 + 1) ∧ (x3 + 1) < c 1000001 0)) ∧ (QI T (fun r165 c166 => (((-2147483648 ≤ x3 + 1 ∧ x3 + 1 < 2147483648) ∧ (0 ≤ (x3 + 1) ∧ (x3 + 1) < c 1000001 0)) ∧ (QI T (fun r167 c168 => ((r165 = r167 → ((-2147483648 ≤ x3 + 6 ∧ x3 + 6 < 2147483648) ∧ Q (cev 356 106 18 [vR (-1), vR 1, vR 78, vI (x3 + 6)] [] (SH T, c168)))) ∧ (¬ r165 = r167 → Q (some (some (vI 0), (SH T, c168)))))) (ccal 309 [vR 78, vI (c166 1000000 (x3 + 1))] (SH T, c166))))) (ccal 155 [vR 1, vI (c 1000000 (x3 + 1))] (SH T, c))))) ∧ (((iand (c 1000000 x3) 63) = 42 → (QL T (fun r169 c170 => (QL T (fun r171 c172 => ((r169 = r171 → ((-2147483648 ≤ x3 + 6 ∧ x3 + 6 < 2147483648) ∧ Q (cev 356 106 18 [vR (-1), vR 1, vR 78, vI (x3 + 6)] [] (SH T, c172)))) ∧ (¬ r169 = r171 → Q (some (some (vI 0), (SH T, c172)))))) (ccal 310 [vR 78] (SH T, c170)))) (ccal 156 [vR 1] (SH T, c)))) ∧ (((iand (c 1000000 x3) 63) = 43 → (((-2147483648 ≤ x3 + 1 ∧ x3 + 1 < 2147483648) ∧ (0 ≤ (x3 + 1) ∧ (x3 + 1) < c 1000001 0) ∧ (-2147483648 ≤ x3 + 2 ∧ x3 + 2 < 2147483648) ∧ (0 ≤ (x3 + 2) ∧ (x3 + 2) < c 1000001 0) ∧ (-2147483648 ≤ x3 + 3 ∧ x3 + 3 < 2147483648) ∧ (0 ≤ (x3 + 3) ∧ (x3 + 3) < c 1000001 0) ∧ (-2147483648 ≤ x3 + 4 ∧ x3 + 4 < 2147483648) ∧ (0 ≤ (x3 + 4) ∧ (x3 + 4) < c 1000001 0)) ∧ (QI T (fun r173 c174 => (((-2147483648 ≤ x3 + 1 ∧ x3 + 1 < 2147483648) ∧ (0 ≤ (x3 + 1) ∧ (x3 + 1) < c 1000001 0) ∧ (-2147483648 ≤ x3 + 2 ∧ x3 + 2 < 2147483648) ∧ (0 ≤ (x3 + 2) ∧ (x3 + 2) < c 1000001 0) ∧ (-2147483648 ≤ x3 + 3 ∧ x3 + 3 < 2147483648) ∧ (0 ≤ (x3 + 3) ∧ (x3 + 3) < c 1000001 0) ∧ (-2147483648 ≤ x3 + 4 ∧ x3 + 4 < 2147483648) ∧ (0 ≤ (x3 + 4) ∧ (x3 + 4) < c 1000001 0)) ∧ (QI T (fun r175 c176 => ((r173 = r175 → ((-2147483648 ≤ x3 + 6 ∧ x3 + 6 < 2147483648) ∧ Q (cev 356 106 18 [vR (-1), vR 1, vR 78, vI (x3 + 6)] [] (SH T, c176)))) ∧ (¬ r173 = r175 → Q (some (some (vI 0), (SH T, c176)))))) (ccal 311 [vR 78, vI (c174 1000000 (x3 + 1)), vI (c174 1000000 (x3 + 2)), vI (c174 1000000 (x3 + 3)), vI (c174 1000000 (x3 + 4))] (SH T, c174))))) (ccal 157 [vR 1, vI (c 1000000 (x3 + 1)), vI (c 1000000 (x3 + 2)), vI (c 1000000 (x3 + 3)), vI (c 1000000 (x3 + 4))] (SH T, c))))) ∧ (((iand (c 1000000 x3) 63) = 44 → (((-2147483648 ≤ x3 + 1 ∧ x3 + 1 < 2147483648) ∧ (0 ≤ (x3 + 1) ∧ (x3 + 1) < c 1000001 0) ∧ (-2147483648 ≤ x3 + 2 ∧ x3 + 2 < 2147483648) ∧ (0 ≤ (x3 + 2) ∧ (x3 + 2) < c 1000001 0) ∧ (-2147483648 ≤ x3 + 3 ∧ x3 + 3 < 2147483648) ∧ (0 ≤ (x3 + 3) ∧ (x3 + 3) < c 1000001 0)) ∧ (QI T (fun r177 c178 => (((-2147483648 ≤ x3 + 1 ∧ x3 + 1 < 2147483648) ∧ (0 ≤ (x3 + 1) ∧ (x3 + 1) < c 1000001 0) ∧ (-2147483648 ≤ x3 + 2 ∧ x3 + 2 < 2147483648) ∧ (0 ≤ (x3 + 2) ∧ (x3 + 2) < c 1000001 0) ∧ (-2147483648 ≤ x3 + 3 ∧ x3 + 3 < 2147483648) ∧ (0 ≤ (x3 + 3) ∧ (x3 + 3) < c 1000001 0)) ∧ (QI T (fun r179 c180 => ((r177 = r179 → ((-2147483648 ≤ x3 + 6 ∧ x3 + 6 < 2147483648) ∧ Q (cev 356 106 18 [vR (-1), vR 1, vR 78, vI (x3 + 6)] [] (SH T, c180)))) ∧ (¬ r177 = r179 → Q (some (some (vI 0), (SH T, c180)))))) (ccal 313 [vR 78, vI (c178 1000000 (x3 + 1)), vI (c178 1000000 (x3 + 2)), vI (c178 1000000 (x3 + 3))] (SH T, c178))))) (ccal 158 [vR 1, vI (c 1000000 (x3 + 1)), vI (c 1000000 (x3 + 2)), vI (c 1000000 (x3 + 3))] (SH T, c))))) ∧ (((iand (c 1000000 x3) 63) = 45 → (((-2147483648 ≤ x3 + 1 ∧ x3 + 1 < 2147483648) ∧ (0 ≤ (x3 + 1) ∧ (x3 + 1) < c 1000001 0) ∧ (-2147483648 ≤ x3 + 2 ∧ x3 + 2 < 2147483648) ∧ (0 ≤ (x3 + 2) ∧ (x3 + 2) < c 1000001 0)) ∧ (QI T (fun r181 c182 => (((-2147483648 ≤ x3 + 1 ∧ x3 + 1 < 2147483648) ∧ (0 ≤ (x3 + 1) ∧ (x3 + 1) < c 1000001 0) ∧ (-2147483648 ≤ x3 + 2 ∧ x3 + 2 < 2147483648) ∧ (0 ≤ (x3 + 2) ∧ (x3 + 2) < c 1000001 0)) ∧ (QI T (fun r183 c184 => ((r181 = r183 → ((-2147483648 ≤ x3 + 6 ∧ x3 + 6 < 2147483648) ∧ Q (cev 356 106 18 [vR (-1), vR 1, vR 78, vI (x3 + 6)] [] (SH T, c184)))) ∧ (¬ r181 = r183 → Q (some (some (vI 0), (SH T, c184)))))) (ccal 314 [vR 78, vI (c182 1000000 (x3 + 1)), vI (c182 1000000 (x3 + 2))] (SH T, c182))))) (ccal 159 [vR 1, vI (c 1000000 (x3 + 1)), vI (c 1000000 (x3 + 2))] (SH T, c))))) ∧ (((iand (c 1000000 x3) 63) = 46 → (((-2147483648 ≤ x3 + 1 ∧ x3 + 1 < 2147483648) ∧ (0 ≤ (x3 + 1) ∧ (x3 + 1) < c 1000001 0) ∧ (-2147483648 ≤ x3 + 2 ∧ x3 + 2 < 2147483648) ∧ (0 ≤ (x3 + 2) ∧ (x3 + 2) < c 1000001 0) ∧ (-2147483648 ≤ x3 + 3 ∧ x3 + 3 < 2147483648) ∧ (0 ≤ (x3 + 3) ∧ (x3 + 3) < c 1000001 0)) ∧ (QI T (fun r185 c186 => (((-2147483648 ≤ x3 + 1 ∧ x3 + 1 < 2147483648) ∧ (0 ≤ (x3 + 1) ∧ (x3 + 1) < c 1000001 0) ∧ (-2147483648 ≤ x3 + 2 ∧ x3 + 2 < 2147483648) ∧ (0 ≤ (x3 + 2) ∧ (x3 + 2) < c 1000001 0) ∧ (-2147483648 ≤ x3 + 3 ∧ x3 + 3 < 2147483648) ∧ (0 ≤ (x3 + 3) ∧ (x3 + 3) < c 1000001 0)) ∧ (QI T (fun r187 c188 => ((r185 = r187 → ((-2147483648 ≤ x3 + 6 ∧ x3 + 6 < 2147483648) ∧ Q (cev 356 106 18 [vR (-1), vR 1, vR 78, vI (x3 + 6)] [] (SH T, c188)))) ∧ (¬ r185 = r187 → Q (some (some (vI 0), (SH T, c188)))))) (ccal 320 [vR 78, vI (c186 1000000 (x3 + 1)), vI (c186 1000000 (x3 + 2)), vI (c186 1000000 (x3 + 3))] (SH T, c186))))) (ccal 160 [vR 1, vI (c 1000000 (x3 + 1)), vI (c 1000000 (x3 + 2)), vI (c 1000000 (x3 + 3))] (SH T, c))))) ∧ (((iand (c 1000000 x3) 63) = 47 → (((-2147483648 ≤ x3 + 1 ∧ x3 + 1 < 2147483648) ∧ (0 ≤ (x3 + 1) ∧ (x3 + 1) < c 1000001 0)) ∧ (QI T (fun r189 c190 => (((-2147483648 ≤ x3 + 1 ∧ x3 + 1 < 2147483648) ∧ (0 ≤ (x3 + 1) ∧ (x3 + 1) < c 1000001 0)) ∧ (QI T (fun r191 c192 => ((r189 = r191 → ((-2147483648 ≤ x3 + 6 ∧ x3 + 6 < 2147483648) ∧ Q (cev 356 106 18 [vR (-1), vR 1, vR 78, vI (x3 + 6)] [] (SH T, c192)))) ∧ (¬ r189 = r191 → Q (some (some (vI 0), (SH T, c192)))))) (ccal 322 [vR 78, vI (c190 1000000 (x3 + 1))] (SH T, c190))))) (ccal 161 [vR 1, vI (c 1000000 (x3 + 1))] (SH T, c))))) ∧ (((iand (c 1000000 x3) 63) = 48 → (((-2147483648 ≤ x3 + 1 ∧ x3 + 1 < 2147483648) ∧ (0 ≤ (x3 + 1) ∧ (x3 + 1) < c 1000001 0) ∧ (-2147483648 ≤ x3 + 2 ∧ x3 + 2 < 2147483648) ∧ (0 ≤ (x3 + 2) ∧ (x3 + 2) < c 1000001 0)) ∧ (QI T (fun r193 c194 => (((-2147483648 ≤ x3 + 1 ∧ x3 + 1 < 2147483648) ∧ (0 ≤ (x3 + 1) ∧ (x3 + 1) < c 1000001 0) ∧ (-2147483648 ≤ x3 + 2 ∧ x3 + 2 < 2147483648) ∧ (0 ≤ (x3 + 2) ∧ (x3 + 2) < c 1000001 0)) ∧ (QI T (fun r195 c196 => ((r193 = r195 → ((-2147483648 ≤ x3 + 6 ∧ x3 + 6 < 2147483648) ∧ Q (cev 356 106 18 [vR (-1), vR 1, vR 78, vI (x3 + 6)] [] (SH T, c196)))) ∧ (¬ r193 = r195 → Q (some (some (vI 0), (SH T, c196)))))) (ccal 323 [vR 78, vI (c194 1000000 (x3 + 1)), vI (c194 1000000 (x3 + 2))] (SH T, c194))))) (ccal 162 [vR 1, vI (c 1000000 (x3 + 1)), vI (c 1000000 (x3 + 2))] (SH T, c))))) ∧ (((iand (c 1000000 x3) 63) = 49 → (QI T (fun r197 c198 => (QI T (fun r199 c200 => ((r197 = r199 → ((-2147483648 ≤ x3 + 6 ∧ x3 + 6 < 2147483648) ∧ Q (cev 356 106 18 [vR (-1), vR 1, vR 78, vI (x3 + 6)] [] (SH T, c200)))) ∧ (¬ r197 = r199 → Q (some (some (vI 0), (SH T, c200)))))) (ccal 324 [vR 78] (SH T, c198)))) (ccal 163 [vR 1] (SH T, c)))) ∧ (((iand (c 1000000 x3) 63) = 50 → (((-2147483648 ≤ x3 + 1 ∧ x3 + 1 < 2147483648) ∧ (0 ≤ (x3 + 1) ∧ (x3 + 1) < c 1000001 0) ∧ (-2147483648 ≤ x3 + 2 ∧ x3 + 2 < 2147483648) ∧ (0 ≤ (x3 + 2) ∧ (x3 + 2) < c 1000001 0)) ∧ (QI T (fun r201 c202 => (((-2147483648 ≤ x3 + 1 ∧ x3 + 1 < 2147483648) ∧ (0 ≤ (x3 + 1) ∧ (x3 + 1) < c 1000001 0) ∧ (-2147483648 ≤ x3 + 2 ∧ x3 + 2 < 2147483648) ∧ (0 ≤ (x3 + 2) ∧ (x3 + 2) < c 1000001 0)) ∧ (QI T (fun r203 c204 => ((r201 = r203 → ((-2147483648 ≤ x3 + 6 ∧ x3 + 6 < 2147483648) ∧ Q (cev 356 106 18 [vR (-1), vR 1, vR 78, vI (x3 + 6)] [] (SH T, c204)))) ∧ (¬ r201 = r203 → Q (some (some (vI 0), (SH T, c204)))))) (ccal 325 [vR 78, vI (c202 1000000 (x3 + 1)), vI (c202 1000000 (x3 + 2))] (SH T, c202))))) (ccal 164 [vR 1, vI (c 1000000 (x3 + 1)), vI (c 1000000 (x3 + 2))] (SH T, c))))) ∧ (((iand (c 1000000 x3) 63) = 51 → (((-2147483648 ≤ x3 + 1 ∧ x3 + 1 < 2147483648) ∧ (0 ≤ (x3 + 1) ∧ (x3 + 1) < c 1000001 0) ∧ (-2147483648 ≤ x3 + 2 ∧ x3 + 2 < 2147483648) ∧ (0 ≤ (x3 + 2) ∧ (x3 + 2) < c 1000001 0)) ∧ (QI T (fun r205 c206 => (((-2147483648 ≤ x3 + 1 ∧ x3 + 1 < 2147483648) ∧ (0 ≤ (x3 + 1) ∧ (x3 + 1) < c 1000001 0) ∧ (-2147483648 ≤ x3 + 2 ∧ x3 + 2 < 2147483648) ∧ (0 ≤ (x3 + 2) ∧ (x3 + 2) < c 1000001 0)) ∧ (QI T (fun r207 c208 => ((r205 = r207 → ((-2147483648 ≤ x3 + 6 ∧ x3 + 6 < 2147483648) ∧ Q (cev 356 106 18 [vR (-1), vR 1, vR 78, vI (x3 + 6)] [] (SH T, c208)))) ∧ (¬ r205 = r207 → Q (some (some (vI 0), (SH T, c208)))))) (ccal 337 [vR 78, vI (c206 1000000 (x3 + 1)), vI (c206 1000000 (x3 + 2))] (SH T, c206))))) (ccal 165 [vR 1, vI (c 1000000 (x3 + 1)), vI (c 1000000 (x3 + 2))] (SH T, c))))) ∧ (((iand (c 1000000 x3) 63) = 52 → (((-2147483648 ≤ x3 + 1 ∧ x3 + 1 < 2147483648) ∧ (0 ≤ (x3 + 1) ∧ (x3 + 1) < c 1000001 0)) ∧ (QI T (fun r209 c210 => (((-2147483648 ≤ x3 + 1 ∧ x3 + 1 < 2147483648) ∧ (0 ≤ (x3 + 1) ∧ (x3 + 1) < c 1000001 0)) ∧ (QI T (fun r211 c212 => ((r209 = r211 → ((-2147483648 ≤ x3 + 6 ∧ x3 + 6 < 2147483648) ∧ Q (cev 356 106 18 [vR (-1), vR 1, vR 78, vI (x3 + 6)] [] (SH T, c212)))) ∧ (¬ r209 = r211 → Q (some (some (vI 0), (SH T, c212)))))) (ccal 338 [vR 78, vI (c210 1000000 (x3 + 1))] (SH T, c210))))) (ccal 166 [vR 1, vI (c 1000000 (x3 + 1))] (SH T, c))))) ∧ (((iand (c 1000000 x3) 63) = 53 → (((-2147483648 ≤ x3 + 1 ∧ x3 + 1 < 2147483648) ∧ (0 ≤ (x3 + 1) ∧ (x3 + 1) < c 1000001 0)) ∧ (QI T (fun r213 c214 => (((-2147483648 ≤ x3 + 1 ∧ x3 + 1 < 2147483648) ∧ (0 ≤ (x3 + 1) ∧ (x3 + 1) < c 1000001 0)) ∧ (QI T (fun r215 c216 => ((r213 = r215 → ((-2147483648 ≤ x3 + 6 ∧ x3 + 6 < 2147483648) ∧ Q (cev 356 106 18 [vR (-1), vR 1, vR 78, vI (x3 + 6)] [] (SH T, c216)))) ∧ (¬ r213 = r215 → Q (some (some (vI 0), (SH T, c216)))))) (ccal 192 [vR 78, vI (c214 1000000 (x3 + 1))] (SH T, c214))))) (ccal 167 [vR 1, vI (c 1000000 (x3 + 1))] (SH T, c))))) ∧ (((iand (c 1000000 x3) 63) = 54 → (((-2147483648 ≤ x3 + 1 ∧ x3 + 1 < 2147483648) ∧ (0 ≤ (x3 + 1) ∧ (x3 + 1) < c 1000001 0)) ∧ (QI T (fun r217 c218 => (((-2147483648 ≤ x3 + 1 ∧ x3 + 1 < 2147483648) ∧ (0 ≤ (x3 + 1) ∧ (x3 + 1) < c 1000001 0)) ∧ (QI T (fun r219 c220 => ((r217 = r219 → ((-2147483648 ≤ x3 + 6 ∧ x3 + 6 < 2147483648) ∧ Q (cev 356 106 18 [vR (-1), vR 1, vR 78, vI (x3 + 6)] [] (SH T, c220)))) ∧ (¬ r217 = r219 → Q (some (some (vI 0), (SH T, c220)))))) (ccal 193 [vR 78, vI (c218 1000000 (x3 + 1))] (SH T, c218))))) (ccal 168 [vR 1, vI (c 1000000 (x3 + 1))] (SH T, c))))) ∧ (((iand (c 1000000 x3) 63) = 55 → (((-2147483648 ≤ x3 + 1 ∧ x3 + 1 < 2147483648) ∧ (0 ≤ (x3 + 1) ∧ (x3 + 1) < c 1000001 0)) ∧ (QI T (fun r221 c222 => (((-2147483648 ≤ x3 + 1 ∧ x3 + 1 < 2147483648) ∧ (0 ≤ (x3 + 1) ∧ (x3 + 1) < c 1000001 0)) ∧ (QI T (fun r223 c224 => ((r221 = r223 → ((-2147483648 ≤ x3 + 6 ∧ x3 + 6 < 2147483648) ∧ Q (cev 356 106 18 [vR (-1), vR 1, vR 78, vI (x3 + 6)] [] (SH T, c224)))) ∧ (¬ r221 = r223 → Q (some (some (vI 0), (SH T, c224)))))) (ccal 339 [vR 78, vI (c222 1000000 (x3 + 1))] (SH T, c222))))) (ccal 169 [vR 1, vI (c 1000000 (x3 + 1))] (SH T, c))))) ∧ (((iand (c 1000000 x3) 63) = 56 → (QI T (fun r225 c226 => (QI T (fun r227 c228 => ((r225 = r227 → ((-2147483648 ≤ x3 + 6 ∧ x3 + 6 < 2147483648) ∧ Q (cev 356 106 18 [vR (-1), vR 1, vR 78, vI (x3 + 6)] [] (SH T, c228)))) ∧ (¬ r225 = r227 → Q (some (some (vI 0), (SH T, c228)))))) (ccal 340 [vR 78] (SH T, c226)))) (ccal 170 [vR 1] (SH T, c)))) ∧ (¬ ((iand (c 1000000 x3) 63) = 0 ∨ (iand (c 1000000 x3) 63) = 1 ∨ (iand (c 1000000 x3) 63) = 2 ∨ (iand (c 1000000 x3) 63) = 3 ∨ (iand (c 1000000 x3) 63) = 4 ∨ (iand (c 1000000 x3) 63) = 5 ∨ (iand (c 1000000 x3) 63) = 6 ∨ (iand (c 1000000 x3) 63) = 7 ∨ (iand (c 1000000 x3) 63) = 8 ∨ (iand (c 1000000 x3) 63) = 9 ∨ (iand (c 1000000 x3) 63) = 10 ∨ (iand (c 1000000 x3) 63) = 11 ∨ (iand (c 1000000 x3) 63) = 12 ∨ (iand (c 1000000 x3) 63) = 13 ∨ (iand (c 1000000 x3) 63) = 14 ∨ (iand (c 1000000 x3) 63) = 15 ∨ (iand (c 1000000 x3) 63) = 16 ∨ (iand (c 1000000 x3) 63) = 17 ∨ (iand (c 1000000 x3) 63) = 18 ∨ (iand (c 1000000 x3) 63) = 19 ∨ (iand (c 1000000 x3) 63) = 20 ∨ (iand (c 1000000 x3) 63) = 21 ∨ (iand (c 1000000 x3) 63) = 22 ∨ (iand (c 1000000 x3) 63) = 23 ∨ (iand (c 1000000 x3) 63) = 24 ∨ (iand (c 1000000 x3) 63) = 25 ∨ (iand (c 1000000 x3) 63) = 26 ∨ (iand (c 1000000 x3) 63) = 27 ∨ (iand (c 1000000 x3) 63) = 28 ∨ (iand (c 1000000 x3) 63) = 29 ∨ (iand (c 1000000 x3) 63) = 30 ∨ (iand (c 1000000 x3) 63) = 31 ∨ (iand (c 1000000 x3) 63) = 32 ∨ (iand (c 1000000 x3) 63) = 33 ∨ (iand (c 1000000 x3) 63) = 34 ∨ (iand (c 1000000 x3) 63) = 35 ∨ (iand (c 1000000 x3) 63) = 36 ∨ (iand (c 1000000 x3) 63) = 37 ∨ (iand (c 1000000 x3) 63) = 38 ∨ (iand (c 1000000 x3) 63) = 39 ∨ (iand (c 1000000 x3) 63) = 40 ∨ (iand (c 1000000 x3) 63) = 41 ∨ (iand (c 1000000 x3) 63) = 42 ∨ (iand (c 1000000 x3) 63) = 43 ∨ (iand (c 1000000 x3) 63) = 44 ∨ (iand (c 1000000 x3) 63) = 45 ∨ (iand (c 1000000 x3) 63) = 46 ∨ (iand (c 1000000 x3) 63) = 47 ∨ (iand (c 1000000 x3) 63) = 48 ∨ (iand (c 1000000 x3) 63) = 49 ∨ (iand (c 1000000 x3) 63) = 50 ∨ (iand (c 1000000 x3) 63) = 51 ∨ (iand (c 1000000 x3) 63) = 52 ∨ (iand (c 1000000 x3) 63) = 53 ∨ (iand (c 1000000 x3) 63) = 54 ∨ (iand (c 1000000 x3) 63) = 55 ∨ (iand (c 1000000 x3) 63) = 56) → ((-2147483648 ≤ x3 + 6 ∧ x3 + 6 < 2147483648) ∧ Q (cev 356 106 18 [vR (-1), vR 1, vR 78, vI (x3 + 6)] [] (SH T, c)))))))))))))))))))))))))))))))))))))))))))))))))))))))))))))))))) : Q (cev 356 106 18 [vR (-1), vR 1, vR 78, vI x3] [] (SH T, c)) := by
  refine of_cev (Q := Q) ?_
  refine wq_pos (Q := Q) k.1 ?_
  replace k := k.2
  refine wq_ite (Q := Q) (p := ((c 1000001 0) - 6) < x3) (fun h => ?_) (fun h => ?_)
  · replace k := k.1 h
    show Q (cev 356 106 1834 [vU, vU, vU, vU] [] (SH T, c))
    refine of_cev (Q := Q) ?_
    exact k
  · replace k := k.2 h
    refine wq_pos (Q := Q) k.1 ?_
    replace k := k.2
    refine wq_ite (Q := Q) (p := (iand (c 1000000 x3) 63) = 0) (fun h0 => ?_) (fun h0 => ?_)
    · replace k := k.1 h0
      show Q (cev 356 106 276 [vR (-1), vR 1, vR 78, vI x3] [] (SH T, c))
      refine of_cev (Q := Q) ?_
      refine wq_pos (Q := Q) k.1.1 ?_
      refine wq_pos (Q := Q) k.1.2.1 ?_
      refine wq_pos (Q := Q) k.1.2.2.1 ?_
      refine wq_pos (Q := Q) k.1.2.2.2 ?_
      replace k := k.2
      refine wq_callI (Q := Q) rfl k ?_
      intro r1 c2 k
      refine wq_pos (Q := Q) k.1.1 ?_
      refine wq_pos (Q := Q) k.1.2.1 ?_
      refine wq_pos (Q := Q) k.1.2.2.1 ?_
      refine wq_pos (Q := Q) k.1.2.2.2 ?_
      replace k := k.2
      refine wq_callI (Q := Q) rfl k ?_
      intro r3 c4 k
      refine wq_ite (Q := Q) (p := r1 = r3) (fun h => ?_) (fun h => ?_)
      · replace k := k.1 h
        show Q (cev 356 106 1828 [vR (-1), vR 1, vR 78, vI x3] [] (SH T, c4))
        refine of_cev (Q := Q) ?_
        refine wq_pos (Q := Q) k.1 ?_
        replace k := k.2
        exact k
      · replace k := k.2 h
        exact k
    replace k := k.2
    refine wq_ite (Q := Q) (p := (iand (c 1000000 x3) 63) = 1) (fun h1 => ?_) (fun h1 => ?_)
    · replace k := k.1 h1
      show Q (cev 356 106 309 [vR (-1), vR 1, vR 78, vI x3] [] (SH T, c))
      refine of_cev (Q := Q) ?_
      refine wq_pos (Q := Q) k.1.1 ?_
      refine wq_pos (Q := Q) k.1.2.1 ?_
      refine wq_pos (Q := Q) k.1.2.2.1 ?_
      refine wq_pos (Q := Q) k.1.2.2.2 ?_
      replace k := k.2
      refine wq_callI (Q := Q) rfl k ?_
      intro r5 c6 k
      refine wq_pos (Q := Q) k.1.1 ?_
      refine wq_pos (Q := Q) k.1.2.1 ?_
      refine wq_pos (Q := Q) k.1.2.2.1 ?_
      refine wq_pos (Q := Q) k.1.2.2.2 ?_
      replace k := k.2
      refine wq_callI (Q := Q) rfl k ?_
      intro r7 c8 k
      refine wq_ite (Q := Q) (p := r5 = r7) (fun h => ?_) (fun h => ?_)
      · replace k := k.1 h
        show Q (cev 356 106 1828 [vR (-1), vR 1, vR 78, vI x3] [] (SH T, c8))
        refine of_cev (Q := Q) ?_
        refine wq_pos (Q := Q) k.1 ?_
        replace k := k.2
        exact k
      · replace k := k.2 h
        exact k
    replace k := k.2
    refine wq_ite (Q := Q) (p := (iand (c 1000000 x3) 63) = 2) (fun h2 => ?_) (fun h2 => ?_)
    · replace k := k.1 h2
      show Q (cev 356 106 342 [vR (-1), vR 1, vR 78, vI x3] [] (SH T, c))
      refine of_cev (Q := Q) ?_
      refine wq_pos (Q := Q) k.1.1 ?_
      refine wq_pos (Q := Q) k.1.2.1 ?_
      refine wq_pos (Q := Q) k.1.2.2.1 ?_
      refine wq_pos (Q := Q) k.1.2.2.2.1 ?_
      refine wq_pos (Q := Q) k.1.2.2.2.2.1 ?_
      refine wq_pos (Q := Q) k.1.2.2.2.2.2 ?_
      replace k := k.2
      refine wq_callI (Q := Q) rfl k ?_
      intro r9 c10 k
      refine wq_pos (Q := Q) k.1.1 ?_
      refine wq_pos (Q := Q) k.1.2.1 ?_
      refine wq_pos (Q := Q) k.1.2.2.1 ?_
      refine wq_pos (Q := Q) k.1.2.2.2.1 ?_
      refine wq_pos (Q := Q) k.1.2.2.2.2.1 ?_
      refine wq_pos (Q := Q) k.1.2.2.2.2.2 ?_
      replace k := k.2
      refine wq_callI (Q := Q) rfl k ?_
      intro r11 c12 k
      refine wq_ite (Q := Q) (p := r9 = r11) (fun h => ?_) (fun h => ?_)
      · replace k := k.1 h
        show Q (cev 356 106 1828 [vR (-1), vR 1, vR 78, vI x3] [] (SH T, c12))
        refine of_cev (Q := Q) ?_
        refine wq_pos (Q := Q) k.1 ?_
        replace k := k.2
        exact k
      · replace k := k.2 h
        exact k
    replace k := k.2
    refine wq_ite (Q := Q) (p := (iand (c 1000000 x3) 63) = 3) (fun h3 => ?_) (fun h3 => ?_)
    · replace k := k.1 h3
      show Q (cev 356 106 385 [vR (-1), vR 1, vR 78, vI x3] [] (SH T, c))
      refine of_cev (Q := Q) ?_
      refine wq_pos (Q := Q) k.1.1 ?_
      refine wq_pos (Q := Q) k.1.2.1 ?_
      refine wq_pos (Q := Q) k.1.2.2.1 ?_
      refine wq_pos (Q := Q) k.1.2.2.2 ?_
      replace k := k.2
      refine wq_callI (Q := Q) rfl k ?_
      intro r13 c14 k
      refine wq_pos (Q := Q) k.1.1 ?_
      refine wq_pos (Q := Q) k.1.2.1 ?_
      refine wq_pos (Q := Q) k.1.2.2.1 ?_
      refine wq_pos (Q := Q) k.1.2.2.2 ?_
      replace k := k.2
      refine wq_callI (Q := Q) rfl k ?_
      intro r15 c16 k
      refine wq_ite (Q := Q) (p := r13 = r15) (fun h => ?_) (fun h => ?_)
      · replace k := k.1 h
        show Q (cev 356 106 1828 [vR (-1), vR 1, vR 78, vI x3] [] (SH T, c16))
        refine of_cev (Q := Q) ?_
        refine wq_pos (Q := Q) k.1 ?_
        replace k := k.2
        exact k
      · replace k := k.2 h
        exact k
    replace k := k.2
    refine wq_ite (Q := Q) (p := (iand (c 1000000 x3) 63) = 4) (fun h4 => ?_) (fun h4 => ?_)
    · replace k := k.1 h4
      show Q (cev 356 106 418 [vR (-1), vR 1, vR 78, vI x3] [] (SH T, c))
      refine of_cev (Q := Q) ?_
      refine wq_pos (Q := Q) k.1.1 ?_
      refine wq_pos (Q := Q) k.1.2.1 ?_
      refine wq_pos (Q := Q) k.1.2.2.1 ?_
      refine wq_pos (Q := Q) k.1.2.2.2 ?_
      replace k := k.2
      refine wq_callI (Q := Q) rfl k ?_
      intro r17 c18 k
      refine wq_pos (Q := Q) k.1.1 ?_
      refine wq_pos (Q := Q) k.1.2.1 ?_
      refine wq_pos (Q := Q) k.1.2.2.1 ?_
      refine wq_pos (Q := Q) k.1.2.2.2 ?_
      replace k := k.2
      refine wq_callI (Q := Q) rfl k ?_
      intro r19 c20 k
      refine wq_ite (Q := Q) (p := r17 = r19) (fun h => ?_) (fun h => ?_)
      · replace k := k.1 h
        show Q (cev 356 106 1828 [vR (-1), vR 1, vR 78, vI x3] [] (SH T, c20))
        refine of_cev (Q := Q) ?_
        refine wq_pos (Q := Q) k.1 ?_
        replace k := k.2
        exact k
      · replace k := k.2 h
        exact k
    replace k := k.2
    refine wq_ite (Q := Q) (p := (iand (c 1000000 x3) 63) = 5) (fun h5 => ?_) (fun h5 => ?_)
    · replace k := k.1 h5
      show Q (cev 356 106 451 [vR (-1), vR 1, vR 78, vI x3] [] (SH T, c))
      refine of_cev (Q := Q) ?_
      refine wq_pos (Q := Q) k.1.1 ?_
      refine wq_pos (Q := Q) k.1.2.1 ?_
      refine wq_pos (Q := Q) k.1.2.2.1 ?_
      refine wq_pos (Q := Q) k.1.2.2.2.1 ?_
      refine wq_pos (Q := Q) k.1.2.2.2.2.1 ?_
      refine wq_pos (Q := Q) k.1.2.2.2.2.2 ?_
      replace k := k.2
      refine wq_callI (Q := Q) rfl k ?_
      intro r21 c22 k
      refine wq_pos (Q := Q) k.1.1 ?_
      refine wq_pos (Q := Q) k.1.2.1 ?_
      refine wq_pos (Q := Q) k.1.2.2.1 ?_
      refine wq_pos (Q := Q) k.1.2.2.2.1 ?_
      refine wq_pos (Q := Q) k.1.2.2.2.2.1 ?_
      refine wq_pos (Q := Q) k.1.2.2.2.2.2 ?_
      replace k := k.2
      refine wq_callI (Q := Q) rfl k ?_
      intro r23 c24 k
      refine wq_ite (Q := Q) (p := r21 = r23) (fun h => ?_) (fun h => ?_)
      · replace k := k.1 h
        show Q (cev 356 106 1828 [vR (-1), vR 1, vR 78, vI x3] [] (SH T, c24))
        refine of_cev (Q := Q) ?_
        refine wq_pos (Q := Q) k.1 ?_
        replace k := k.2
        exact k
      · replace k := k.2 h
        exact k
    replace k := k.2
    refine wq_ite (Q := Q) (p := (iand (c 1000000 x3) 63) = 6) (fun h6 => ?_) (fun h6 => ?_)
    · replace k := k.1 h6
      show Q (cev 356 106 494 [vR (-1), vR 1, vR 78, vI x3] [] (SH T, c))
      refine of_cev (Q := Q) ?_
      refine wq_pos (Q := Q) k.1.1 ?_
      refine wq_pos (Q := Q) k.1.2 ?_
      replace k := k.2
      refine wq_callI (Q := Q) rfl k ?_
      intro r25 c26 k
      refine wq_pos (Q := Q) k.1.1 ?_
      refine wq_pos (Q := Q) k.1.2 ?_
      replace k := k.2
      refine wq_callI (Q := Q) rfl k ?_
      intro r27 c28 k
      refine wq_ite (Q := Q) (p := r25 = r27) (fun h => ?_) (fun h => ?_)
      · replace k := k.1 h
        show Q (cev 356 106 1828 [vR (-1), vR 1, vR 78, vI x3] [] (SH T, c28))
        refine of_cev (Q := Q) ?_
        refine wq_pos (Q := Q) k.1 ?_
        replace k := k.2
        exact k
      · replace k := k.2 h
        exact k
    replace k := k.2
    refine wq_ite (Q := Q) (p := (iand (c 1000000 x3) 63) = 7) (fun h7 => ?_) (fun h7 => ?_)
    · replace k := k.1 h7
      show Q (cev 356 106 517 [vR (-1), vR 1, vR 78, vI x3] [] (SH T, c))
      refine of_cev (Q := Q) ?_
      refine wq_pos (Q := Q) k.1.1 ?_
      refine wq_pos (Q := Q) k.1.2.1 ?_
      refine wq_pos (Q := Q) k.1.2.2.1 ?_
      refine wq_pos (Q := Q) k.1.2.2.2.1 ?_
      refine wq_pos (Q := Q) k.1.2.2.2.2.1 ?_
      refine wq_pos (Q := Q) k.1.2.2.2.2.2.1 ?_
      refine wq_pos (Q := Q) k.1.2.2.2.2.2.2.1 ?_
      refine wq_pos (Q := Q) k.1.2.2.2.2.2.2.2.1 ?_
      refine wq_pos (Q := Q) k.1.2.2.2.2.2.2.2.2.1 ?_
      refine wq_pos (Q := Q) k.1.2.2.2.2.2.2.2.2.2 ?_
      replace k := k.2
      refine wq_callI (Q := Q) rfl k ?_
      intro r29 c30 k
      refine wq_pos (Q := Q) k.1.1 ?_
      refine wq_pos (Q := Q) k.1.2.1 ?_
      refine wq_pos (Q := Q) k.1.2.2.1 ?_
      refine wq_pos (Q := Q) k.1.2.2.2.1 ?_
      refine wq_pos (Q := Q) k.1.2.2.2.2.1 ?_
      refine wq_pos (Q := Q) k.1.2.2.2.2.2.1 ?_
      refine wq_pos (Q := Q) k.1.2.2.2.2.2.2.1 ?_
      refine wq_pos (Q := Q) k.1.2.2.2.2.2.2.2.1 ?_
      refine wq_pos (Q := Q) k.1.2.2.2.2.2.2.2.2.1 ?_
      refine wq_pos (Q := Q) k.1.2.2.2.2.2.2.2.2.2 ?_
      replace k := k.2
      refine wq_callI (Q := Q) rfl k ?_
      intro r31 c32 k
      refine wq_ite (Q := Q) (p := r29 = r31) (fun h => ?_) (fun h => ?_)
      · replace k := k.1 h
        show Q (cev 356 106 1828 [vR (-1), vR 1, vR 78, vI x3] [] (SH T, c32))
        refine of_cev (Q := Q) ?_
        refine wq_pos (Q := Q) k.1 ?_
        replace k := k.2
        exact k
      · replace k := k.2 h
        exact k
    replace k := k.2
    refine wq_ite (Q := Q) (p := (iand (c 1000000 x3) 63) = 8) (fun h8 => ?_) (fun h8 => ?_)
    · replace k := k.1 h8
      show Q (cev 356 106 580 [vR (-1), vR 1, vR 78, vI x3] [] (SH T, c))
      refine of_cev (Q := Q) ?_
      refine wq_pos (Q := Q) k.1.1 ?_
      refine wq_pos (Q := Q) k.1.2 ?_
      replace k := k.2
      refine wq_callI (Q := Q) rfl k ?_
      intro r33 c34 k
      refine wq_pos (Q := Q) k.1.1 ?_
      refine wq_pos (Q := Q) k.1.2 ?_
      replace k := k.2
      refine wq_callI (Q := Q) rfl k ?_
      intro r35 c36 k
      refine wq_ite (Q := Q) (p := r33 = r35) (fun h => ?_) (fun h => ?_)
      · replace k := k.1 h
        show Q (cev 356 106 1828 [vR (-1), vR 1, vR 78, vI x3] [] (SH T, c36))
        refine of_cev (Q := Q) ?_
        refine wq_pos (Q := Q) k.1 ?_
        replace k := k.2
        exact k
      · replace k := k.2 h
        exact k
    replace k := k.2
    refine wq_ite (Q := Q) (p := (iand (c 1000000 x3) 63) = 9) (fun h9 => ?_) (fun h9 => ?_)
    · replace k := k.1 h9
      show Q (cev 356 106 603 [vR (-1), vR 1, vR 78, vI x3] [] (SH T, c))
      refine of_cev (Q := Q) ?_
      refine wq_callI (Q := Q) rfl k ?_
      intro r37 c38 k
      refine wq_callI (Q := Q) rfl k ?_
      intro r39 c40 k
      refine wq_ite (Q := Q) (p := r37 = r39) (fun h => ?_) (fun h => ?_)
      · replace k := k.1 h
        show Q (cev 356 106 1828 [vR (-1), vR 1, vR 78, vI x3] [] (SH T, c40))
        refine of_cev (Q := Q) ?_
        refine wq_pos (Q := Q) k.1 ?_
        replace k := k.2
        exact k
      · replace k := k.2 h
        exact k
    replace k := k.2
    refine wq_ite (Q := Q) (p := (iand (c 1000000 x3) 63) = 10) (fun h10 => ?_) (fun h10 => ?_)
    · replace k := k.1 h10
      show Q (cev 356 106 616 [vR (-1), vR 1, vR 78, vI x3] [] (SH T, c))
      refine of_cev (Q := Q) ?_
      refine wq_callI (Q := Q) rfl k ?_
      intro r41 c42 k
      refine wq_callI (Q := Q) rfl k ?_
      intro r43 c44 k
      refine wq_ite (Q := Q) (p := r41 = r43) (fun h => ?_) (fun h => ?_)
      · replace k := k.1 h
        show Q (cev 356 106 1828 [vR (-1), vR 1, vR 78, vI x3] [] (SH T, c44))
        refine of_cev (Q := Q) ?_
        refine wq_pos (Q := Q) k.1 ?_
        replace k := k.2
        exact k
      · replace k := k.2 h
        exact k
    replace k := k.2
    refine wq_ite (Q := Q) (p := (iand (c 1000000 x3) 63) = 11) (fun h11 => ?_) (fun h11 => ?_)
    · replace k := k.1 h11
      show Q (cev 356 106 629 [vR (-1), vR 1, vR 78, vI x3] [] (SH T, c))
      refine of_cev (Q := Q) ?_
      refine wq_callI (Q := Q) rfl k ?_
      intro r45 c46 k
      refine wq_callI (Q := Q) rfl k ?_
      intro r47 c48 k
      refine wq_ite (Q := Q) (p := r45 = r47) (fun h => ?_) (fun h => ?_)
      · replace k := k.1 h
        show Q (cev 356 106 1828 [vR (-1), vR 1, vR 78, vI x3] [] (SH T, c48))
        refine of_cev (Q := Q) ?_
        refine wq_pos (Q := Q) k.1 ?_
        replace k := k.2
        exact k
      · replace k := k.2 h
        exact k
    replace k := k.2
    refine wq_ite (Q := Q) (p := (iand (c 1000000 x3) 63) = 12) (fun h12 => ?_) (fun h12 => ?_)
    · replace k := k.1 h12
      show Q (cev 356 106 642 [vR (-1), vR 1, vR 78, vI x3] [] (SH T, c))
      refine of_cev (Q := Q) ?_
      refine wq_callI (Q := Q) rfl k ?_
      intro r49 c50 k
      refine wq_callI (Q := Q) rfl k ?_
      intro r51 c52 k
      refine wq_ite (Q := Q) (p := r49 = r51) (fun h => ?_) (fun h => ?_)
      · replace k := k.1 h
        show Q (cev 356 106 1828 [vR (-1), vR 1, vR 78, vI x3] [] (SH T, c52))
        refine of_cev (Q := Q) ?_
        refine wq_pos (Q := Q) k.1 ?_
        replace k := k.2
        exact k
      · replace k := k.2 h
        exact k
    replace k := k.2
    refine wq_ite (Q := Q) (p := (iand (c 1000000 x3) 63) = 13) (fun h13 => ?_) (fun h13 => ?_)
    · replace k := k.1 h13
      show Q (cev 356 106 655 [vR (-1), vR 1, vR 78, vI x3] [] (SH T, c))
      refine of_cev (Q := Q) ?_
      refine wq_callI (Q := Q) rfl k ?_
      intro r53 c54 k
      refine wq_callI (Q := Q) rfl k ?_
      intro r55 c56 k
      refine wq_ite (Q := Q) (p := r53 = r55) (fun h => ?_) (fun h => ?_)
      · replace k := k.1 h
        show Q (cev 356 106 1828 [vR (-1), vR 1, vR 78, vI x3] [] (SH T, c56))
        refine of_cev (Q := Q) ?_
        refine wq_pos (Q := Q) k.1 ?_
        replace k := k.2
        exact k
      · replace k := k.2 h
        exact k
    replace k := k.2
    refine wq_ite (Q := Q) (p := (iand (c 1000000 x3) 63) = 14) (fun h14 => ?_) (fun h14 => ?_)
    · replace k := k.1 h14
      show Q (cev 356 106 668 [vR (-1), vR 1, vR 78, vI x3] [] (SH T, c))
      refine of_cev (Q := Q) ?_
      refine wq_callI (Q := Q) rfl k ?_
      intro r57 c58 k
      refine wq_callI (Q := Q) rfl k ?_
      intro r59 c60 k
      refine wq_ite (Q := Q) (p := r57 = r59) (fun h => ?_) (fun h => ?_)
      · replace k := k.1 h
        show Q (cev 356 106 1828 [vR (-1), vR 1, vR 78, vI x3] [] (SH T, c60))
        refine of_cev (Q := Q) ?_
        refine wq_pos (Q := Q) k.1 ?_
        replace k := k.2
        exact k
      · replace k := k.2 h
        exact k
    replace k := k.2
    refine wq_ite (Q := Q) (p := (iand (c 1000000 x3) 63) = 15) (fun h15 => ?_) (fun h15 => ?_)
    · replace k := k.1 h15
      show Q (cev 356 106 681 [vR (-1), vR 1, vR 78, vI x3] [] (SH T, c))
      refine of_cev (Q := Q) ?_
      refine wq_pos (Q := Q) k.1.1 ?_
      refine wq_pos (Q := Q) k.1.2 ?_
      replace k := k.2
      refine wq_callI (Q := Q) rfl k ?_
      intro r61 c62 k
      refine wq_pos (Q := Q) k.1.1 ?_
      refine wq_pos (Q := Q) k.1.2 ?_
      replace k := k.2
      refine wq_callI (Q := Q) rfl k ?_
      intro r63 c64 k
      refine wq_ite (Q := Q) (p := r61 = r63) (fun h => ?_) (fun h => ?_)
      · replace k := k.1 h
        show Q (cev 356 106 1828 [vR (-1), vR 1, vR 78, vI x3] [] (SH T, c64))
        refine of_cev (Q := Q) ?_
        refine wq_pos (Q := Q) k.1 ?_
        replace k := k.2
        exact k
      · replace k := k.2 h
        exact k
    replace k := k.2
    refine wq_ite (Q := Q) (p := (iand (c 1000000 x3) 63) = 16) (fun h16 => ?_) (fun h16 => ?_)
    · replace k := k.1 h16
      show Q (cev 356 106 704 [vR (-1), vR 1, vR 78, vI x3] [] (SH T, c))
      refine of_cev (Q := Q) ?_
      refine wq_pos (Q := Q) k.1.1 ?_
      refine wq_pos (Q := Q) k.1.2.1 ?_
      refine wq_pos (Q := Q) k.1.2.2.1 ?_
      refine wq_pos (Q := Q) k.1.2.2.2.1 ?_
      refine wq_pos (Q := Q) k.1.2.2.2.2.1 ?_
      refine wq_pos (Q := Q) k.1.2.2.2.2.2 ?_
      replace k := k.2
      refine wq_callI (Q := Q) rfl k ?_
      intro r65 c66 k
      refine wq_pos (Q := Q) k.1.1 ?_
      refine wq_pos (Q := Q) k.1.2.1 ?_
      refine wq_pos (Q := Q) k.1.2.2.1 ?_
      refine wq_pos (Q := Q) k.1.2.2.2.1 ?_
      refine wq_pos (Q := Q) k.1.2.2.2.2.1 ?_
      refine wq_pos (Q := Q) k.1.2.2.2.2.2 ?_
      replace k := k.2
      refine wq_callI (Q := Q) rfl k ?_
      intro r67 c68 k
      refine wq_ite (Q := Q) (p := r65 = r67) (fun h => ?_) (fun h => ?_)
      · replace k := k.1 h
        show Q (cev 356 106 1828 [vR (-1), vR 1, vR 78, vI x3] [] (SH T, c68))
        refine of_cev (Q := Q) ?_
        refine wq_pos (Q := Q) k.1 ?_
        replace k := k.2
        exact k
      · replace k := k.2 h
        exact k
    replace k := k.2
    refine wq_ite (Q := Q) (p := (iand (c 1000000 x3) 63) = 17) (fun h17 => ?_) (fun h17 => ?_)
    · replace k := k.1 h17
      show Q (cev 356 106 747 [vR (-1), vR 1, vR 78, vI x3] [] (SH T, c))
      refine of_cev (Q := Q) ?_
      refine wq_pos (Q := Q) k.1.1 ?_
      refine wq_pos (Q := Q) k.1.2.1 ?_
      refine wq_pos (Q := Q) k.1.2.2.1 ?_
      refine wq_pos (Q := Q) k.1.2.2.2.1 ?_
      refine wq_pos (Q := Q) k.1.2.2.2.2.1 ?_
      refine wq_pos (Q := Q) k.1.2.2.2.2.2 ?_
      replace k := k.2
      refine wq_callI (Q := Q) rfl k ?_
      intro r69 c70 k
      refine wq_pos (Q := Q) k.1.1 ?_
      refine wq_pos (Q := Q) k.1.2.1 ?_
      refine wq_pos (Q := Q) k.1.2.2.1 ?_
      refine wq_pos (Q := Q) k.1.2.2.2.1 ?_
      refine wq_pos (Q := Q) k.1.2.2.2.2.1 ?_
      refine wq_pos (Q := Q) k.1.2.2.2.2.2 ?_
      replace k := k.2
      refine wq_callI (Q := Q) rfl k ?_
      intro r71 c72 k
      refine wq_ite (Q := Q) (p := r69 = r71) (fun h => ?_) (fun h => ?_)
      · replace k := k.1 h
        show Q (cev 356 106 1828 [vR (-1), vR 1, vR 78, vI x3] [] (SH T, c72))
        refine of_cev (Q := Q) ?_
        refine wq_pos (Q := Q) k.1 ?_
        replace k := k.2
        exact k
      · replace k := k.2 h
        exact k
    replace k := k.2
    refine wq_ite (Q := Q) (p := (iand (c 1000000 x3) 63) = 18) (fun h18 => ?_) (fun h18 => ?_)
    · replace k := k.1 h18
      show Q (cev 356 106 790 [vR (-1), vR 1, vR 78, vI x3] [] (SH T, c))
      refine of_cev (Q := Q) ?_
      refine wq_pos (Q := Q) k.1.1 ?_
      refine wq_pos (Q := Q) k.1.2 ?_
      replace k := k.2
      refine wq_callI (Q := Q) rfl k ?_
      intro r73 c74 k
      refine wq_pos (Q := Q) k.1.1 ?_
      refine wq_pos (Q := Q) k.1.2 ?_
      replace k := k.2
      refine wq_callI (Q := Q) rfl k ?_
      intro r75 c76 k
      refine wq_ite (Q := Q) (p := r73 = r75) (fun h => ?_) (fun h => ?_)
      · replace k := k.1 h
        show Q (cev 356 106 1828 [vR (-1), vR 1, vR 78, vI x3] [] (SH T, c76))
        refine of_cev (Q := Q) ?_
        refine wq_pos (Q := Q) k.1 ?_
        replace k := k.2
        exact k
      · replace k := k.2 h
        exact k
    replace k := k.2
    refine wq_ite (Q := Q) (p := (iand (c 1000000 x3) 63) = 19) (fun h19 => ?_) (fun h19 => ?_)
    · replace k := k.1 h19
      show Q (cev 356 106 813 [vR (-1), vR 1, vR 78, vI x3] [] (SH T, c))
      refine of_cev (Q := Q) ?_
      refine wq_callI (Q := Q) rfl k ?_
      intro r77 c78 k
      refine wq_callI (Q := Q) rfl k ?_
      intro r79 c80 k
      refine wq_ite (Q := Q) (p := r77 = r79) (fun h => ?_) (fun h => ?_)
      · replace k := k.1 h
        show Q (cev 356 106 1828 [vR (-1), vR 1, vR 78, vI x3] [] (SH T, c80))
        refine of_cev (Q := Q) ?_
        refine wq_pos (Q := Q) k.1 ?_
        replace k := k.2
        exact k
      · replace k := k.2 h
        exact k
    replace k := k.2
    refine wq_ite (Q := Q) (p := (iand (c 1000000 x3) 63) = 20) (fun h20 => ?_) (fun h20 => ?_)
    · replace k := k.1 h20
      show Q (cev 356 106 826 [vR (-1), vR 1, vR 78, vI x3] [] (SH T, c))
      refine of_cev (Q := Q) ?_
      refine wq_pos (Q := Q) k.1.1 ?_
      refine wq_pos (Q := Q) k.1.2.1 ?_
      refine wq_pos (Q := Q) k.1.2.2.1 ?_
      refine wq_pos (Q := Q) k.1.2.2.2 ?_
      replace k := k.2
      refine wq_callI (Q := Q) rfl k ?_
      intro r81 c82 k
      refine wq_pos (Q := Q) k.1.1 ?_
      refine wq_pos (Q := Q) k.1.2.1 ?_
      refine wq_pos (Q := Q) k.1.2.2.1 ?_
      refine wq_pos (Q := Q) k.1.2.2.2 ?_
      replace k := k.2
      refine wq_callI (Q := Q) rfl k ?_
      intro r83 c84 k
      refine wq_ite (Q := Q) (p := r81 = r83) (fun h => ?_) (fun h => ?_)
      · replace k := k.1 h
        show Q (cev 356 106 1828 [vR (-1), vR 1, vR 78, vI x3] [] (SH T, c84))
        refine of_cev (Q := Q) ?_
        refine wq_pos (Q := Q) k.1 ?_
        replace k := k.2
        exact k
      · replace k := k.2 h
        exact k
    replace k := k.2
    refine wq_ite (Q := Q) (p := (iand (c 1000000 x3) 63) = 21) (fun h21 => ?_) (fun h21 => ?_)
    · replace k := k.1 h21
      show Q (cev 356 106 859 [vR (-1), vR 1, vR 78, vI x3] [] (SH T, c))
      refine of_cev (Q := Q) ?_
      refine wq_pos (Q := Q) k.1.1 ?_
      refine wq_pos (Q := Q) k.1.2.1 ?_
      refine wq_pos (Q := Q) k.1.2.2.1 ?_
      refine wq_pos (Q := Q) k.1.2.2.2 ?_
      replace k := k.2
      refine wq_callI (Q := Q) rfl k ?_
      intro r85 c86 k
      refine wq_pos (Q := Q) k.1.1 ?_
      refine wq_pos (Q := Q) k.1.2.1 ?_
      refine wq_pos (Q := Q) k.1.2.2.1 ?_
      refine wq_pos (Q := Q) k.1.2.2.2 ?_
      replace k := k.2
      refine wq_callI (Q := Q) rfl k ?_
      intro r87 c88 k
      refine wq_ite (Q := Q) (p := r85 = r87) (fun h => ?_) (fun h => ?_)
      · replace k := k.1 h
        show Q (cev 356 106 1828 [vR (-1), vR 1, vR 78, vI x3] [] (SH T, c88))
        refine of_cev (Q := Q) ?_
        refine wq_pos (Q := Q) k.1 ?_
        replace k := k.2
        exact k
      · replace k := k.2 h
        exact k
    replace k := k.2
    refine wq_ite (Q := Q) (p := (iand (c 1000000 x3) 63) = 22) (fun h22 => ?_) (fun h22 => ?_)
    · replace k := k.1 h22
      show Q (cev 356 106 892 [vR (-1), vR 1, vR 78, vI x3] [] (SH T, c))
      refine of_cev (Q := Q) ?_
      refine wq_callI (Q := Q) rfl k ?_
      intro r89 c90 k
      refine wq_callI (Q := Q) rfl k ?_
      intro r91 c92 k
      refine wq_ite (Q := Q) (p := r89 = r91) (fun h => ?_) (fun h => ?_)
      · replace k := k.1 h
        show Q (cev 356 106 1828 [vR (-1), vR 1, vR 78, vI x3] [] (SH T, c92))
        refine of_cev (Q := Q) ?_
        refine wq_pos (Q := Q) k.1 ?_
        replace k := k.2
        exact k
      · replace k := k.2 h
        exact k
    replace k := k.2
    refine wq_ite (Q := Q) (p := (iand (c 1000000 x3) 63) = 23) (fun h23 => ?_) (fun h23 => ?_)
    · replace k := k.1 h23
      show Q (cev 356 106 905 [vR (-1), vR 1, vR 78, vI x3] [] (SH T, c))
      refine of_cev (Q := Q) ?_
      refine wq_pos (Q := Q) k.1.1 ?_
      refine wq_pos (Q := Q) k.1.2 ?_
      replace k := k.2
      refine wq_callI (Q := Q) rfl k ?_
      intro r93 c94 k
      refine wq_pos (Q := Q) k.1.1 ?_
      refine wq_pos (Q := Q) k.1.2 ?_
      replace k := k.2
      refine wq_callI (Q := Q) rfl k ?_
      intro r95 c96 k
      refine wq_ite (Q := Q) (p := r93 = r95) (fun h => ?_) (fun h => ?_)
      · replace k := k.1 h
        show Q (cev 356 106 1828 [vR (-1), vR 1, vR 78, vI x3] [] (SH T, c96))
        refine of_cev (Q := Q) ?_
        refine wq_pos (Q := Q) k.1 ?_
        replace k := k.2
        exact k
      · replace k := k.2 h
        exact k
    replace k := k.2
    refine wq_ite (Q := Q) (p := (iand (c 1000000 x3) 63) = 24) (fun h24 => ?_) (fun h24 => ?_)
    · replace k := k.1 h24
      show Q (cev 356 106 928 [vR (-1), vR 1, vR 78, vI x3] [] (SH T, c))
      refine of_cev (Q := Q) ?_
      refine wq_callI (Q := Q) rfl k ?_
      intro r97 c98 k
      refine wq_callI (Q := Q) rfl k ?_
      intro r99 c100 k
      refine wq_ite (Q := Q) (p := r97 = r99) (fun h => ?_) (fun h => ?_)
      · replace k := k.1 h
        show Q (cev 356 106 1828 [vR (-1), vR 1, vR 78, vI x3] [] (SH T, c100))
        refine of_cev (Q := Q) ?_
        refine wq_pos (Q := Q) k.1 ?_
        replace k := k.2
        exact k
      · replace k := k.2 h
        exact k
    replace k := k.2
    refine wq_ite (Q := Q) (p := (iand (c 1000000 x3) 63) = 25) (fun h25 => ?_) (fun h25 => ?_)
    · replace k := k.1 h25
      show Q (cev 356 106 941 [vR (-1), vR 1, vR 78, vI x3] [] (SH T, c))
      refine of_cev (Q := Q) ?_
      refine wq_pos (Q := Q) k.1.1 ?_
      refine wq_pos (Q := Q) k.1.2.1 ?_
      refine wq_pos (Q := Q) k.1.2.2.1 ?_
      refine wq_pos (Q := Q) k.1.2.2.2.1 ?_
      refine wq_pos (Q := Q) k.1.2.2.2.2.1 ?_
      refine wq_pos (Q := Q) k.1.2.2.2.2.2 ?_
      replace k := k.2
      refine wq_callI (Q := Q) rfl k ?_
      intro r101 c102 k
      refine wq_pos (Q := Q) k.1.1 ?_
      refine wq_pos (Q := Q) k.1.2.1 ?_
      refine wq_pos (Q := Q) k.1.2.2.1 ?_
      refine wq_pos (Q := Q) k.1.2.2.2.1 ?_
      refine wq_pos (Q := Q) k.1.2.2.2.2.1 ?_
      refine wq_pos (Q := Q) k.1.2.2.2.2.2 ?_
      replace k := k.2
      refine wq_callI (Q := Q) rfl k ?_
      intro r103 c104 k
      refine wq_ite (Q := Q) (p := r101 = r103) (fun h => ?_) (fun h => ?_)
      · replace k := k.1 h
        show Q (cev 356 106 1828 [vR (-1), vR 1, vR 78, vI x3] [] (SH T, c104))
        refine of_cev (Q := Q) ?_
        refine wq_pos (Q := Q) k.1 ?_
        replace k := k.2
        exact k
      · replace k := k.2 h
        exact k
    replace k := k.2
    refine wq_ite (Q := Q) (p := (iand (c 1000000 x3) 63) = 26) (fun h26 => ?_) (fun h26 => ?_)
    · replace k := k.1 h26
      show Q (cev 356 106 984 [vR (-1), vR 1, vR 78, vI x3] [] (SH T, c))
      refine of_cev (Q := Q) ?_
      refine wq_pos (Q := Q) k.1.1 ?_
      refine wq_pos (Q := Q) k.1.2.1 ?_
      refine wq_pos (Q := Q) k.1.2.2.1 ?_
      refine wq_pos (Q := Q) k.1.2.2.2.1 ?_
      refine wq_pos (Q := Q) k.1.2.2.2.2.1 ?_
      refine wq_pos (Q := Q) k.1.2.2.2.2.2 ?_
      replace k := k.2
      refine wq_callI (Q := Q) rfl k ?_
      intro r105 c106 k
      refine wq_pos (Q := Q) k.1.1 ?_
      refine wq_pos (Q := Q) k.1.2.1 ?_
      refine wq_pos (Q := Q) k.1.2.2.1 ?_
      refine wq_pos (Q := Q) k.1.2.2.2.1 ?_
      refine wq_pos (Q := Q) k.1.2.2.2.2.1 ?_
      refine wq_pos (Q := Q) k.1.2.2.2.2.2 ?_
      replace k := k.2
      refine wq_callI (Q := Q) rfl k ?_
      intro r107 c108 k
      refine wq_ite (Q := Q) (p := r105 = r107) (fun h => ?_) (fun h => ?_)
      · replace k := k.1 h
        show Q (cev 356 106 1828 [vR (-1), vR 1, vR 78, vI x3] [] (SH T, c108))
        refine of_cev (Q := Q) ?_
        refine wq_pos (Q := Q) k.1 ?_
        replace k := k.2
        exact k
      · replace k := k.2 h
        exact k
    replace k := k.2
    refine wq_ite (Q := Q) (p := (iand (c 1000000 x3) 63) = 27) (fun h27 => ?_) (fun h27 => ?_)
    · replace k := k.1 h27
      show Q (cev 356 106 1027 [vR (-1), vR 1, vR 78, vI x3] [] (SH T, c))
      refine of_cev (Q := Q) ?_
      refine wq_pos (Q := Q) k.1.1 ?_
      refine wq_pos (Q := Q) k.1.2 ?_
      replace k := k.2
      refine wq_callI (Q := Q) rfl k ?_
      intro r109 c110 k
      refine wq_pos (Q := Q) k.1.1 ?_
      refine wq_pos (Q := Q) k.1.2 ?_
      replace k := k.2
      refine wq_callI (Q := Q) rfl k ?_
      intro r111 c112 k
      refine wq_ite (Q := Q) (p := r109 = r111) (fun h => ?_) (fun h => ?_)
      · replace k := k.1 h
        show Q (cev 356 106 1828 [vR (-1), vR 1, vR 78, vI x3] [] (SH T, c112))
        refine of_cev (Q := Q) ?_
        refine wq_pos (Q := Q) k.1 ?_
        replace k := k.2
        exact k
      · replace k := k.2 h
        exact k
    replace k := k.2
    refine wq_ite (Q := Q) (p := (iand (c 1000000 x3) 63) = 28) (fun h28 => ?_) (fun h28 => ?_)
    · replace k := k.1 h28
      show Q (cev 356 106 1050 [vR (-1), vR 1, vR 78, vI x3] [] (SH T, c))
      refine of_cev (Q := Q) ?_
      refine wq_callI (Q := Q) rfl k ?_
      intro r113 c114 k
      refine wq_callI (Q := Q) rfl k ?_
      intro r115 c116 k
      refine wq_ite (Q := Q) (p := r113 = r115) (fun h => ?_) (fun h => ?_)
      · replace k := k.1 h
        show Q (cev 356 106 1828 [vR (-1), vR 1, vR 78, vI x3] [] (SH T, c116))
        refine of_cev (Q := Q) ?_
        refine wq_pos (Q := Q) k.1 ?_
        replace k := k.2
        exact k
      · replace k := k.2 h
        exact k
    replace k := k.2
    refine wq_ite (Q := Q) (p := (iand (c 1000000 x3) 63) = 29) (fun h29 => ?_) (fun h29 => ?_)
    · replace k := k.1 h29
      show Q (cev 356 106 1063 [vR (-1), vR 1, vR 78, vI x3] [] (SH T, c))
      refine of_cev (Q := Q) ?_
      refine wq_pos (Q := Q) k.1.1 ?_
      refine wq_pos (Q := Q) k.1.2.1 ?_
      refine wq_pos (Q := Q) k.1.2.2.1 ?_
      refine wq_pos (Q := Q) k.1.2.2.2.1 ?_
      refine wq_pos (Q := Q) k.1.2.2.2.2.1 ?_
      refine wq_pos (Q := Q) k.1.2.2.2.2.2 ?_
      replace k := k.2
      refine wq_callI (Q := Q) rfl k ?_
      intro r117 c118 k
      refine wq_pos (Q := Q) k.1.1 ?_
      refine wq_pos (Q := Q) k.1.2.1 ?_
      refine wq_pos (Q := Q) k.1.2.2.1 ?_
      refine wq_pos (Q := Q) k.1.2.2.2.1 ?_
      refine wq_pos (Q := Q) k.1.2.2.2.2.1 ?_
      refine wq_pos (Q := Q) k.1.2.2.2.2.2 ?_
      replace k := k.2
      refine wq_callI (Q := Q) rfl k ?_
      intro r119 c120 k
      refine wq_ite (Q := Q) (p := r117 = r119) (fun h => ?_) (fun h => ?_)
      · replace k := k.1 h
        show Q (cev 356 106 1828 [vR (-1), vR 1, vR 78, vI x3] [] (SH T, c120))
        refine of_cev (Q := Q) ?_
        refine wq_pos (Q := Q) k.1 ?_
        replace k := k.2
        exact k
      · replace k := k.2 h
        exact k
    replace k := k.2
    refine wq_ite (Q := Q) (p := (iand (c 1000000 x3) 63) = 30) (fun h30 => ?_) (fun h30 => ?_)
    · replace k := k.1 h30
      show Q (cev 356 106 1106 [vR (-1), vR 1, vR 78, vI x3] [] (SH T, c))
      refine of_cev (Q := Q) ?_
      refine wq_callI (Q := Q) rfl k ?_
      intro r121 c122 k
      refine wq_callI (Q := Q) rfl k ?_
      intro r123 c124 k
      refine wq_ite (Q := Q) (p := r121 = r123) (fun h => ?_) (fun h => ?_)
      · replace k := k.1 h
        show Q (cev 356 106 1828 [vR (-1), vR 1, vR 78, vI x3] [] (SH T, c124))
        refine of_cev (Q := Q) ?_
        refine wq_pos (Q := Q) k.1 ?_
        replace k := k.2
        exact k
      · replace k := k.2 h
        exact k
    replace k := k.2
    refine wq_ite (Q := Q) (p := (iand (c 1000000 x3) 63) = 31) (fun h31 => ?_) (fun h31 => ?_)
    · replace k := k.1 h31
      show Q (cev 356 106 1119 [vR (-1), vR 1, vR 78, vI x3] [] (SH T, c))
      refine of_cev (Q := Q) ?_
      refine wq_pos (Q := Q) k.1.1 ?_
      refine wq_pos (Q := Q) k.1.2 ?_
      replace k := k.2
      refine wq_callI (Q := Q) rfl k ?_
      intro r125 c126 k
      refine wq_pos (Q := Q) k.1.1 ?_
      refine wq_pos (Q := Q) k.1.2 ?_
      replace k := k.2
      refine wq_callI (Q := Q) rfl k ?_
      intro r127 c128 k
      refine wq_ite (Q := Q) (p := r125 = r127) (fun h => ?_) (fun h => ?_)
      · replace k := k.1 h
        show Q (cev 356 106 1828 [vR (-1), vR 1, vR 78, vI x3] [] (SH T, c128))
        refine of_cev (Q := Q) ?_
        refine wq_pos (Q := Q) k.1 ?_
        replace k := k.2
        exact k
      · replace k := k.2 h
        exact k
    replace k := k.2
    refine wq_ite (Q := Q) (p := (iand (c 1000000 x3) 63) = 32) (fun h32 => ?_) (fun h32 => ?_)
    · replace k := k.1 h32
      show Q (cev 356 106 1142 [vR (-1), vR 1, vR 78, vI x3] [] (SH T, c))
      refine of_cev (Q := Q) ?_
      refine wq_pos (Q := Q) k.1.1 ?_
      refine wq_pos (Q := Q) k.1.2.1 ?_
      refine wq_pos (Q := Q) k.1.2.2.1 ?_
      refine wq_pos (Q := Q) k.1.2.2.2 ?_
      replace k := k.2
      refine wq_callI (Q := Q) rfl k ?_
      intro r129 c130 k
      refine wq_pos (Q := Q) k.1.1 ?_
      refine wq_pos (Q := Q) k.1.2.1 ?_
      refine wq_pos (Q := Q) k.1.2.2.1 ?_
      refine wq_pos (Q := Q) k.1.2.2.2 ?_
      replace k := k.2
      refine wq_callI (Q := Q) rfl k ?_
      intro r131 c132 k
      refine wq_ite (Q := Q) (p := r129 = r131) (fun h => ?_) (fun h => ?_)
      · replace k := k.1 h
        show Q (cev 356 106 1828 [vR (-1), vR 1, vR 78, vI x3] [] (SH T, c132))
        refine of_cev (Q := Q) ?_
        refine wq_pos (Q := Q) k.1 ?_
        replace k := k.2
        exact k
      · replace k := k.2 h
        exact k
    replace k := k.2
    refine wq_ite (Q := Q) (p := (iand (c 1000000 x3) 63) = 33) (fun h33 => ?_) (fun h33 => ?_)
    · replace k := k.1 h33
      show Q (cev 356 106 1175 [vR (-1), vR 1, vR 78, vI x3] [] (SH T, c))
      refine of_cev (Q := Q) ?_
      refine wq_pos (Q := Q) k.1.1 ?_
      refine wq_pos (Q := Q) k.1.2 ?_
      replace k := k.2
      refine wq_callI (Q := Q) rfl k ?_
      intro r133 c134 k
      refine wq_pos (Q := Q) k.1.1 ?_
      refine wq_pos (Q := Q) k.1.2 ?_
      replace k := k.2
      refine wq_callI (Q := Q) rfl k ?_
      intro r135 c136 k
      refine wq_ite (Q := Q) (p := r133 = r135) (fun h => ?_) (fun h => ?_)
      · replace k := k.1 h
        show Q (cev 356 106 1828 [vR (-1), vR 1, vR 78, vI x3] [] (SH T, c136))
        refine of_cev (Q := Q) ?_
        refine wq_pos (Q := Q) k.1 ?_
        replace k := k.2
        exact k
      · replace k := k.2 h
        exact k
    replace k := k.2
    refine wq_ite (Q := Q) (p := (iand (c 1000000 x3) 63) = 34) (fun h34 => ?_) (fun h34 => ?_)
    · replace k := k.1 h34
      show Q (cev 356 106 1198 [vR (-1), vR 1, vR 78, vI x3] [] (SH T, c))
      refine of_cev (Q := Q) ?_
      refine wq_callI (Q := Q) rfl k ?_
      intro r137 c138 k
      refine wq_callI (Q := Q) rfl k ?_
      intro r139 c140 k
      refine wq_ite (Q := Q) (p := r137 = r139) (fun h => ?_) (fun h => ?_)
      · replace k := k.1 h
        show Q (cev 356 106 1828 [vR (-1), vR 1, vR 78, vI x3] [] (SH T, c140))
        refine of_cev (Q := Q) ?_
        refine wq_pos (Q := Q) k.1 ?_
        replace k := k.2
        exact k
      · replace k := k.2 h
        exact k
    replace k := k.2
    refine wq_ite (Q := Q) (p := (iand (c 1000000 x3) 63) = 35) (fun h35 => ?_) (fun h35 => ?_)
    · replace k := k.1 h35
      show Q (cev 356 106 1211 [vR (-1), vR 1, vR 78, vI x3] [] (SH T, c))
      refine of_cev (Q := Q) ?_
      refine wq_pos (Q := Q) k.1.1 ?_
      refine wq_pos (Q := Q) k.1.2.1 ?_
      refine wq_pos (Q := Q) k.1.2.2.1 ?_
      refine wq_pos (Q := Q) k.1.2.2.2 ?_
      replace k := k.2
      refine wq_callI (Q := Q) rfl k ?_
      intro r141 c142 k
      refine wq_pos (Q := Q) k.1.1 ?_
      refine wq_pos (Q := Q) k.1.2.1 ?_
      refine wq_pos (Q := Q) k.1.2.2.1 ?_
      refine wq_pos (Q := Q) k.1.2.2.2 ?_
      replace k := k.2
      refine wq_callI (Q := Q) rfl k ?_
      intro r143 c144 k
      refine wq_ite (Q := Q) (p := r141 = r143) (fun h => ?_) (fun h => ?_)
      · replace k := k.1 h
        show Q (cev 356 106 1828 [vR (-1), vR 1, vR 78, vI x3] [] (SH T, c144))
        refine of_cev (Q := Q) ?_
        refine wq_pos (Q := Q) k.1 ?_
        replace k := k.2
        exact k
      · replace k := k.2 h
        exact k
    replace k := k.2
    refine wq_ite (Q := Q) (p := (iand (c 1000000 x3) 63) = 36) (fun h36 => ?_) (fun h36 => ?_)
    · replace k := k.1 h36
      show Q (cev 356 106 1244 [vR (-1), vR 1, vR 78, vI x3] [] (SH T, c))
      refine of_cev (Q := Q) ?_
      refine wq_pos (Q := Q) k.1.1 ?_
      refine wq_pos (Q := Q) k.1.2 ?_
      replace k := k.2
      refine wq_callI (Q := Q) rfl k ?_
      intro r145 c146 k
      refine wq_pos (Q := Q) k.1.1 ?_
      refine wq_pos (Q := Q) k.1.2 ?_
      replace k := k.2
      refine wq_callI (Q := Q) rfl k ?_
      intro r147 c148 k
      refine wq_ite (Q := Q) (p := r145 = r147) (fun h => ?_) (fun h => ?_)
      · replace k := k.1 h
        show Q (cev 356 106 1828 [vR (-1), vR 1, vR 78, vI x3] [] (SH T, c148))
        refine of_cev (Q := Q) ?_
        refine wq_pos (Q := Q) k.1 ?_
        replace k := k.2
        exact k
      · replace k := k.2 h
        exact k
    replace k := k.2
    refine wq_ite (Q := Q) (p := (iand (c 1000000 x3) 63) = 37) (fun h37 => ?_) (fun h37 => ?_)
    · replace k := k.1 h37
      show Q (cev 356 106 1267 [vR (-1), vR 1, vR 78, vI x3] [] (SH T, c))
      refine of_cev (Q := Q) ?_
      refine wq_pos (Q := Q) k.1.1 ?_
      refine wq_pos (Q := Q) k.1.2 ?_
      replace k := k.2
      refine wq_callI (Q := Q) rfl k ?_
      intro r149 c150 k
      refine wq_pos (Q := Q) k.1.1 ?_
      refine wq_pos (Q := Q) k.1.2 ?_
      replace k := k.2
      refine wq_callI (Q := Q) rfl k ?_
      intro r151 c152 k
      refine wq_ite (Q := Q) (p := r149 = r151) (fun h => ?_) (fun h => ?_)
      · replace k := k.1 h
        show Q (cev 356 106 1828 [vR (-1), vR 1, vR 78, vI x3] [] (SH T, c152))
        refine of_cev (Q := Q) ?_
        refine wq_pos (Q := Q) k.1 ?_
        replace k := k.2
        exact k
      · replace k := k.2 h
        exact k
    replace k := k.2
    refine wq_ite (Q := Q) (p := (iand (c 1000000 x3) 63) = 38) (fun h38 => ?_) (fun h38 => ?_)
    · replace k := k.1 h38
      show Q (cev 356 106 1290 [vR (-1), vR 1, vR 78, vI x3] [] (SH T, c))
      refine of_cev (Q := Q) ?_
      refine wq_pos (Q := Q) k.1.1 ?_
      refine wq_pos (Q := Q) k.1.2.1 ?_
      refine wq_pos (Q := Q) k.1.2.2.1 ?_
      refine wq_pos (Q := Q) k.1.2.2.2.1 ?_
      refine wq_pos (Q := Q) k.1.2.2.2.2.1 ?_
      refine wq_pos (Q := Q) k.1.2.2.2.2.2 ?_
      replace k := k.2
      refine wq_callI (Q := Q) rfl k ?_
      intro r153 c154 k
      refine wq_pos (Q := Q) k.1.1 ?_
      refine wq_pos (Q := Q) k.1.2.1 ?_
      refine wq_pos (Q := Q) k.1.2.2.1 ?_
      refine wq_pos (Q := Q) k.1.2.2.2.1 ?_
      refine wq_pos (Q := Q) k.1.2.2.2.2.1 ?_
      refine wq_pos (Q := Q) k.1.2.2.2.2.2 ?_
      replace k := k.2
      refine wq_callI (Q := Q) rfl k ?_
      intro r155 c156 k
      refine wq_ite (Q := Q) (p := r153 = r155) (fun h => ?_) (fun h => ?_)
      · replace k := k.1 h
        show Q (cev 356 106 1828 [vR (-1), vR 1, vR 78, vI x3] [] (SH T, c156))
        refine of_cev (Q := Q) ?_
        refine wq_pos (Q := Q) k.1 ?_
        replace k := k.2
        exact k
      · replace k := k.2 h
        exact k
    replace k := k.2
    refine wq_ite (Q := Q) (p := (iand (c 1000000 x3) 63) = 39) (fun h39 => ?_) (fun h39 => ?_)
    · replace k := k.1 h39
      show Q (cev 356 106 1333 [vR (-1), vR 1, vR 78, vI x3] [] (SH T, c))
      refine of_cev (Q := Q) ?_
      refine wq_callI (Q := Q) rfl k ?_
      intro r157 c158 k
      refine wq_callI (Q := Q) rfl k ?_
      intro r159 c160 k
      refine wq_ite (Q := Q) (p := r157 = r159) (fun h => ?_) (fun h => ?_)
      · replace k := k.1 h
        show Q (cev 356 106 1828 [vR (-1), vR 1, vR 78, vI x3] [] (SH T, c160))
        refine of_cev (Q := Q) ?_
        refine wq_pos (Q := Q) k.1 ?_
        replace k := k.2
        exact k
      · replace k := k.2 h
        exact k
    replace k := k.2
    refine wq_ite (Q := Q) (p := (iand (c 1000000 x3) 63) = 40) (fun h40 => ?_) (fun h40 => ?_)
    · replace k := k.1 h40
      show Q (cev 356 106 1346 [vR (-1), vR 1, vR 78, vI x3] [] (SH T, c))
      refine of_cev (Q := Q) ?_
      refine wq_pos (Q := Q) k.1.1 ?_
      refine wq_pos (Q := Q) k.1.2.1 ?_
      refine wq_pos (Q := Q) k.1.2.2.1 ?_
      refine wq_pos (Q := Q) k.1.2.2.2 ?_
      replace k := k.2
      refine wq_callI (Q := Q) rfl k ?_
      intro r161 c162 k
      refine wq_pos (Q := Q) k.1.1 ?_
      refine wq_pos (Q := Q) k.1.2.1 ?_
      refine wq_pos (Q := Q) k.1.2.2.1 ?_
      refine wq_pos (Q := Q) k.1.2.2.2 ?_
      replace k := k.2
      refine wq_callI (Q := Q) rfl k ?_
      intro r163 c164 k
      refine wq_ite (Q := Q) (p := r161 = r163) (fun h => ?_) (fun h => ?_)
      · replace k := k.1 h
        show Q (cev 356 106 1828 [vR (-1), vR 1, vR 78, vI x3] [] (SH T, c164))
        refine of_cev (Q := Q) ?_
        refine wq_pos (Q := Q) k.1 ?_
        replace k := k.2
        exact k
      · replace k := k.2 h
        exact k
    replace k := k.2
    refine wq_ite (Q := Q) (p := (iand (c 1000000 x3) 63) = 41) (fun h41 => ?_) (fun h41 => ?_)
    · replace k := k.1 h41
      show Q (cev 356 106 1379 [vR (-1), vR 1, vR 78, vI x3] [] (SH T, c))
      refine of_cev (Q := Q) ?_
      refine wq_pos (Q := Q) k.1.1 ?_
      refine wq_pos (Q := Q) k.1.2 ?_
      replace k := k.2
      refine wq_callI (Q := Q) rfl k ?_
      intro r165 c166 k
      refine wq_pos (Q := Q) k.1.1 ?_
      refine wq_pos (Q := Q) k.1.2 ?_
      replace k := k.2
      refine wq_callI (Q := Q) rfl k ?_
      intro r167 c168 k
      refine wq_ite (Q := Q) (p := r165 = r167) (fun h => ?_) (fun h => ?_)
      · replace k := k.1 h
        show Q (cev 356 106 1828 [vR (-1), vR 1, vR 78, vI x3] [] (SH T, c168))
        refine of_cev (Q := Q) ?_
        refine wq_pos (Q := Q) k.1 ?_
        replace k := k.2
        exact k
      · replace k := k.2 h
        exact k
    replace k := k.2
    refine wq_ite (Q := Q) (p := (iand (c 1000000 x3) 63) = 42) (fun h42 => ?_) (fun h42 => ?_)
    · replace k := k.1 h42
      show Q (cev 356 106 1402 [vR (-1), vR 1, vR 78, vI x3] [] (SH T, c))
      refine of_cev (Q := Q) ?_
      refine wq_callL (Q := Q) rfl k ?_
      intro r169 c170 k
      refine wq_callL (Q := Q) rfl k ?_
      intro r171 c172 k
      refine wq_lc0 (Q := Q) (x := r169) (y := r171) (fun h => ?_) (fun h => ?_)
      · replace k := k.1 h
        show Q (cev 356 106 1828 [vR (-1), vR 1, vR 78, vI x3] [] (SH T, c172))
        refine of_cev (Q := Q) ?_
        refine wq_pos (Q := Q) k.1 ?_
        replace k := k.2
        exact k
      · replace k := k.2 h
        exact k
    replace k := k.2
    refine wq_ite (Q := Q) (p := (iand (c 1000000 x3) 63) = 43) (fun h43 => ?_) (fun h43 => ?_)
    · replace k := k.1 h43
      show Q (cev 356 106 1416 [vR (-1), vR 1, vR 78, vI x3] [] (SH T, c))
      refine of_cev (Q := Q) ?_
      refine wq_pos (Q := Q) k.1.1 ?_
      refine wq_pos (Q := Q) k.1.2.1 ?_
      refine wq_pos (Q := Q) k.1.2.2.1 ?_
      refine wq_pos (Q := Q) k.1.2.2.2.1 ?_
      refine wq_pos (Q := Q) k.1.2.2.2.2.1 ?_
      refine wq_pos (Q := Q) k.1.2.2.2.2.2.1 ?_
      refine wq_pos (Q := Q) k.1.2.2.2.2.2.2.1 ?_
      refine wq_pos (Q := Q) k.1.2.2.2.2.2.2.2 ?_
      replace k := k.2
      refine wq_callI (Q := Q) rfl k ?_
      intro r173 c174 k
      refine wq_pos (Q := Q) k.1.1 ?_
      refine wq_pos (Q := Q) k.1.2.1 ?_
      refine wq_pos (Q := Q) k.1.2.2.1 ?_
      refine wq_pos (Q := Q) k.1.2.2.2.1 ?_
      refine wq_pos (Q := Q) k.1.2.2.2.2.1 ?_
      refine wq_pos (Q := Q) k.1.2.2.2.2.2.1 ?_
      refine wq_pos (Q := Q) k.1.2.2.2.2.2.2.1 ?_
      refine wq_pos (Q := Q) k.1.2.2.2.2.2.2.2 ?_
      replace k := k.2
      refine wq_callI (Q := Q) rfl k ?_
      intro r175 c176 k
      refine wq_ite (Q := Q) (p := r173 = r175) (fun h => ?_) (fun h => ?_)
      · replace k := k.1 h
        show Q (cev 356 106 1828 [vR (-1), vR 1, vR 78, vI x3] [] (SH T, c176))
        refine of_cev (Q := Q) ?_
        refine wq_pos (Q := Q) k.1 ?_
        replace k := k.2
        exact k
      · replace k := k.2 h
        exact k
    replace k := k.2
    refine wq_ite (Q := Q) (p := (iand (c 1000000 x3) 63) = 44) (fun h44 => ?_) (fun h44 => ?_)
    · replace k := k.1 h44
      show Q (cev 356 106 1469 [vR (-1), vR 1, vR 78, vI x3] [] (SH T, c))
      refine of_cev (Q := Q) ?_
      refine wq_pos (Q := Q) k.1.1 ?_
      refine wq_pos (Q := Q) k.1.2.1 ?_
      refine wq_pos (Q := Q) k.1.2.2.1 ?_
      refine wq_pos (Q := Q) k.1.2.2.2.1 ?_
      refine wq_pos (Q := Q) k.1.2.2.2.2.1 ?_
      refine wq_pos (Q := Q) k.1.2.2.2.2.2 ?_
      replace k := k.2
      refine wq_callI (Q := Q) rfl k ?_
      intro r177 c178 k
      refine wq_pos (Q := Q) k.1.1 ?_
      refine wq_pos (Q := Q) k.1.2.1 ?_
      refine wq_pos (Q := Q) k.1.2.2.1 ?_
      refine wq_pos (Q := Q) k.1.2.2.2.1 ?_
      refine wq_pos (Q := Q) k.1.2.2.2.2.1 ?_
      refine wq_pos (Q := Q) k.1.2.2.2.2.2 ?_
      replace k := k.2
      refine wq_callI (Q := Q) rfl k ?_
      intro r179 c180 k
      refine wq_ite (Q := Q) (p := r177 = r179) (fun h => ?_) (fun h => ?_)
      · replace k := k.1 h
        show Q (cev 356 106 1828 [vR (-1), vR 1, vR 78, vI x3] [] (SH T, c180))
        refine of_cev (Q := Q) ?_
        refine wq_pos (Q := Q) k.1 ?_
        replace k := k.2
        exact k
      · replace k := k.2 h
        exact k
    replace k := k.2
    refine wq_ite (Q := Q) (p := (iand (c 1000000 x3) 63) = 45) (fun h45 => ?_) (fun h45 => ?_)
    · replace k := k.1 h45
      show Q (cev 356 106 1512 [vR (-1), vR 1, vR 78, vI x3] [] (SH T, c))
      refine of_cev (Q := Q) ?_
      refine wq_pos (Q := Q) k.1.1 ?_
      refine wq_pos (Q := Q) k.1.2.1 ?_
      refine wq_pos (Q := Q) k.1.2.2.1 ?_
      refine wq_pos (Q := Q) k.1.2.2.2 ?_
      replace k := k.2
      refine wq_callI (Q := Q) rfl k ?_
      intro r181 c182 k
      refine wq_pos (Q := Q) k.1.1 ?_
      refine wq_pos (Q := Q) k.1.2.1 ?_
      refine wq_pos (Q := Q) k.1.2.2.1 ?_
      refine wq_pos (Q := Q) k.1.2.2.2 ?_
      replace k := k.2
      refine wq_callI (Q := Q) rfl k ?_
      intro r183 c184 k
      refine wq_ite (Q := Q) (p := r181 = r183) (fun h => ?_) (fun h => ?_)
      · replace k := k.1 h
        show Q (cev 356 106 1828 [vR (-1), vR 1, vR 78, vI x3] [] (SH T, c184))
        refine of_cev (Q := Q) ?_
        refine wq_pos (Q := Q) k.1 ?_
        replace k := k.2
        exact k
      · replace k := k.2 h
        exact k
    replace k := k.2
    refine wq_ite (Q := Q) (p := (iand (c 1000000 x3) 63) = 46) (fun h46 => ?_) (fun h46 => ?_)
    · replace k := k.1 h46
      show Q (cev 356 106 1545 [vR (-1), vR 1, vR 78, vI x3] [] (SH T, c))
      refine of_cev (Q := Q) ?_
      refine wq_pos (Q := Q) k.1.1 ?_
      refine wq_pos (Q := Q) k.1.2.1 ?_
      refine wq_pos (Q := Q) k.1.2.2.1 ?_
      refine wq_pos (Q := Q) k.1.2.2.2.1 ?_
      refine wq_pos (Q := Q) k.1.2.2.2.2.1 ?_
      refine wq_pos (Q := Q) k.1.2.2.2.2.2 ?_
      replace k := k.2
      refine wq_callI (Q := Q) rfl k ?_
      intro r185 c186 k
      refine wq_pos (Q := Q) k.1.1 ?_
      refine wq_pos (Q := Q) k.1.2.1 ?_
      refine wq_pos (Q := Q) k.1.2.2.1 ?_
      refine wq_pos (Q := Q) k.1.2.2.2.1 ?_
      refine wq_pos (Q := Q) k.1.2.2.2.2.1 ?_
      refine wq_pos (Q := Q) k.1.2.2.2.2.2 ?_
      replace k := k.2
      refine wq_callI (Q := Q) rfl k ?_
      intro r187 c188 k
      refine wq_ite (Q := Q) (p := r185 = r187) (fun h => ?_) (fun h => ?_)
      · replace k := k.1 h
        show Q (cev 356 106 1828 [vR (-1), vR 1, vR 78, vI x3] [] (SH T, c188))
        refine of_cev (Q := Q) ?_
        refine wq_pos (Q := Q) k.1 ?_
        replace k := k.2
        exact k
      · replace k := k.2 h
        exact k
    replace k := k.2
    refine wq_ite (Q := Q) (p := (iand (c 1000000 x3) 63) = 47) (fun h47 => ?_) (fun h47 => ?_)
    · replace k := k.1 h47
      show Q (cev 356 106 1588 [vR (-1), vR 1, vR 78, vI x3] [] (SH T, c))
      refine of_cev (Q := Q) ?_
      refine wq_pos (Q := Q) k.1.1 ?_
      refine wq_pos (Q := Q) k.1.2 ?_
      replace k := k.2
      refine wq_callI (Q := Q) rfl k ?_
      intro r189 c190 k
      refine wq_pos (Q := Q) k.1.1 ?_
      refine wq_pos (Q := Q) k.1.2 ?_
      replace k := k.2
      refine wq_callI (Q := Q) rfl k ?_
      intro r191 c192 k
      refine wq_ite (Q := Q) (p := r189 = r191) (fun h => ?_) (fun h => ?_)
      · replace k := k.1 h
        show Q (cev 356 106 1828 [vR (-1), vR 1, vR 78, vI x3] [] (SH T, c192))
        refine of_cev (Q := Q) ?_
        refine wq_pos (Q := Q) k.1 ?_
        replace k := k.2
        exact k
      · replace k := k.2 h
        exact k
    replace k := k.2
    refine wq_ite (Q := Q) (p := (iand (c 1000000 x3) 63) = 48) (fun h48 => ?_) (fun h48 => ?_)
    · replace k := k.1 h48
      show Q (cev 356 106 1611 [vR (-1), vR 1, vR 78, vI x3] [] (SH T, c))
      refine of_cev (Q := Q) ?_
      refine wq_pos (Q := Q) k.1.1 ?_
      refine wq_pos (Q := Q) k.1.2.1 ?_
      refine wq_pos (Q := Q) k.1.2.2.1 ?_
      refine wq_pos (Q := Q) k.1.2.2.2 ?_
      replace k := k.2
      refine wq_callI (Q := Q) rfl k ?_
      intro r193 c194 k
      refine wq_pos (Q := Q) k.1.1 ?_
      refine wq_pos (Q := Q) k.1.2.1 ?_
      refine wq_pos (Q := Q) k.1.2.2.1 ?_
      refine wq_pos (Q := Q) k.1.2.2.2 ?_
      replace k := k.2
      refine wq_callI (Q := Q) rfl k ?_
      intro r195 c196 k
      refine wq_ite (Q := Q) (p := r193 = r195) (fun h => ?_) (fun h => ?_)
      · replace k := k.1 h
        show Q (cev 356 106 1828 [vR (-1), vR 1, vR 78, vI x3] [] (SH T, c196))
        refine of_cev (Q := Q) ?_
        refine wq_pos (Q := Q) k.1 ?_
        replace k := k.2
        exact k
      · replace k := k.2 h
        exact k
    replace k := k.2
    refine wq_ite (Q := Q) (p := (iand (c 1000000 x3) 63) = 49) (fun h49 => ?_) (fun h49 => ?_)
    · replace k := k.1 h49
      show Q (cev 356 106 1644 [vR (-1), vR 1, vR 78, vI x3] [] (SH T, c))
      refine of_cev (Q := Q) ?_
      refine wq_callI (Q := Q) rfl k ?_
      intro r197 c198 k
      refine wq_callI (Q := Q) rfl k ?_
      intro r199 c200 k
      refine wq_ite (Q := Q) (p := r197 = r199) (fun h => ?_) (fun h => ?_)
      · replace k := k.1 h
        show Q (cev 356 106 1828 [vR (-1), vR 1, vR 78, vI x3] [] (SH T, c200))
        refine of_cev (Q := Q) ?_
        refine wq_pos (Q := Q) k.1 ?_
        replace k := k.2
        exact k
      · replace k := k.2 h
        exact k
    replace k := k.2
    refine wq_ite (Q := Q) (p := (iand (c 1000000 x3) 63) = 50) (fun h50 => ?_) (fun h50 => ?_)
    · replace k := k.1 h50
      show Q (cev 356 106 1657 [vR (-1), vR 1, vR 78, vI x3] [] (SH T, c))
      refine of_cev (Q := Q) ?_
      refine wq_pos (Q := Q) k.1.1 ?_
      refine wq_pos (Q := Q) k.1.2.1 ?_
      refine wq_pos (Q := Q) k.1.2.2.1 ?_
      refine wq_pos (Q := Q) k.1.2.2.2 ?_
      replace k := k.2
      refine wq_callI (Q := Q) rfl k ?_
      intro r201 c202 k
      refine wq_pos (Q := Q) k.1.1 ?_
      refine wq_pos (Q := Q) k.1.2.1 ?_
      refine wq_pos (Q := Q) k.1.2.2.1 ?_
      refine wq_pos (Q := Q) k.1.2.2.2 ?_
      replace k := k.2
      refine wq_callI (Q := Q) rfl k ?_
      intro r203 c204 k
      refine wq_ite (Q := Q) (p := r201 = r203) (fun h => ?_) (fun h => ?_)
      · replace k := k.1 h
        show Q (cev 356 106 1828 [vR (-1), vR 1, vR 78, vI x3] [] (SH T, c204))
        refine of_cev (Q := Q) ?_
        refine wq_pos (Q := Q) k.1 ?_
        replace k := k.2
        exact k
      · replace k := k.2 h
        exact k
    replace k := k.2
    refine wq_ite (Q := Q) (p := (iand (c 1000000 x3) 63) = 51) (fun h51 => ?_) (fun h51 => ?_)
    · replace k := k.1 h51
      show Q (cev 356 106 1690 [vR (-1), vR 1, vR 78, vI x3] [] (SH T, c))
      refine of_cev (Q := Q) ?_
      refine wq_pos (Q := Q) k.1.1 ?_
      refine wq_pos (Q := Q) k.1.2.1 ?_
      refine wq_pos (Q := Q) k.1.2.2.1 ?_
      refine wq_pos (Q := Q) k.1.2.2.2 ?_
      replace k := k.2
      refine wq_callI (Q := Q) rfl k ?_
      intro r205 c206 k
      refine wq_pos (Q := Q) k.1.1 ?_
      refine wq_pos (Q := Q) k.1.2.1 ?_
      refine wq_pos (Q := Q) k.1.2.2.1 ?_
      refine wq_pos (Q := Q) k.1.2.2.2 ?_
      replace k := k.2
      refine wq_callI (Q := Q) rfl k ?_
      intro r207 c208 k
      refine wq_ite (Q := Q) (p := r205 = r207) (fun h => ?_) (fun h => ?_)
      · replace k := k.1 h
        show Q (cev 356 106 1828 [vR (-1), vR 1, vR 78, vI x3] [] (SH T, c208))
        refine of_cev (Q := Q) ?_
        refine wq_pos (Q := Q) k.1 ?_
        replace k := k.2
        exact k
      · replace k := k.2 h
        exact k
    replace k := k.2
    refine wq_ite (Q := Q) (p := (iand (c 1000000 x3) 63) = 52) (fun h52 => ?_) (fun h52 => ?_)
    · replace k := k.1 h52
      show Q (cev 356 106 1723 [vR (-1), vR 1, vR 78, vI x3] [] (SH T, c))
      refine of_cev (Q := Q) ?_
      refine wq_pos (Q := Q) k.1.1 ?_
      refine wq_pos (Q := Q) k.1.2 ?_
      replace k := k.2
      refine wq_callI (Q := Q) rfl k ?_
      intro r209 c210 k
      refine wq_pos (Q := Q) k.1.1 ?_
      refine wq_pos (Q := Q) k.1.2 ?_
      replace k := k.2
      refine wq_callI (Q := Q) rfl k ?_
      intro r211 c212 k
      refine wq_ite (Q := Q) (p := r209 = r211) (fun h => ?_) (fun h => ?_)
      · replace k := k.1 h
        show Q (cev 356 106 1828 [vR (-1), vR 1, vR 78, vI x3] [] (SH T, c212))
        refine of_cev (Q := Q) ?_
        refine wq_pos (Q := Q) k.1 ?_
        replace k := k.2
        exact k
      · replace k := k.2 h
        exact k
    replace k := k.2
    refine wq_ite (Q := Q) (p := (iand (c 1000000 x3) 63) = 53) (fun h53 => ?_) (fun h53 => ?_)
    · replace k := k.1 h53
      show Q (cev 356 106 1746 [vR (-1), vR 1, vR 78, vI x3] [] (SH T, c))
      refine of_cev (Q := Q) ?_
      refine wq_pos (Q := Q) k.1.1 ?_
      refine wq_pos (Q := Q) k.1.2 ?_
      replace k := k.2
      refine wq_callI (Q := Q) rfl k ?_
      intro r213 c214 k
      refine wq_pos (Q := Q) k.1.1 ?_
      refine wq_pos (Q := Q) k.1.2 ?_
      replace k := k.2
      refine wq_callI (Q := Q) rfl k ?_
      intro r215 c216 k
      refine wq_ite (Q := Q) (p := r213 = r215) (fun h => ?_) (fun h => ?_)
      · replace k := k.1 h
        show Q (cev 356 106 1828 [vR (-1), vR 1, vR 78, vI x3] [] (SH T, c216))
        refine of_cev (Q := Q) ?_
        refine wq_pos (Q := Q) k.1 ?_
        replace k := k.2
        exact k
      · replace k := k.2 h
        exact k
    replace k := k.2
    refine wq_ite (Q := Q) (p := (iand (c 1000000 x3) 63) = 54) (fun h54 => ?_) (fun h54 => ?_)
    · replace k := k.1 h54
      show Q (cev 356 106 1769 [vR (-1), vR 1, vR 78, vI x3] [] (SH T, c))
      refine of_cev (Q := Q) ?_
      refine wq_pos (Q := Q) k.1.1 ?_
      refine wq_pos (Q := Q) k.1.2 ?_
      replace k := k.2
      refine wq_callI (Q := Q) rfl k ?_
      intro r217 c218 k
      refine wq_pos (Q := Q) k.1.1 ?_
      refine wq_pos (Q := Q) k.1.2 ?_
      replace k := k.2
      refine wq_callI (Q := Q) rfl k ?_
      intro r219 c220 k
      refine wq_ite (Q := Q) (p := r217 = r219) (fun h => ?_) (fun h => ?_)
      · replace k := k.1 h
        show Q (cev 356 106 1828 [vR (-1), vR 1, vR 78, vI x3] [] (SH T, c220))
        refine of_cev (Q := Q) ?_
        refine wq_pos (Q := Q) k.1 ?_
        replace k := k.2
        exact k
      · replace k := k.2 h
        exact k
    replace k := k.2
    refine wq_ite (Q := Q) (p := (iand (c 1000000 x3) 63) = 55) (fun h55 => ?_) (fun h55 => ?_)
    · replace k := k.1 h55
      show Q (cev 356 106 1792 [vR (-1), vR 1, vR 78, vI x3] [] (SH T, c))
      refine of_cev (Q := Q) ?_
      refine wq_pos (Q := Q) k.1.1 ?_
      refine wq_pos (Q := Q) k.1.2 ?_
      replace k := k.2
      refine wq_callI (Q := Q) rfl k ?_
      intro r221 c222 k
      refine wq_pos (Q := Q) k.1.1 ?_
      refine wq_pos (Q := Q) k.1.2 ?_
      replace k := k.2
      refine wq_callI (Q := Q) rfl k ?_
      intro r223 c224 k
      refine wq_ite (Q := Q) (p := r221 = r223) (fun h => ?_) (fun h => ?_)
      · replace k := k.1 h
        show Q (cev 356 106 1828 [vR (-1), vR 1, vR 78, vI x3] [] (SH T, c224))
        refine of_cev (Q := Q) ?_
        refine wq_pos (Q := Q) k.1 ?_
        replace k := k.2
        exact k
      · replace k := k.2 h
        exact k
    replace k := k.2
    refine wq_ite (Q := Q) (p := (iand (c 1000000 x3) 63) = 56) (fun h56 => ?_) (fun h56 => ?_)
    · replace k := k.1 h56
      show Q (cev 356 106 1815 [vR (-1), vR 1, vR 78, vI x3] [] (SH T, c))
      refine of_cev (Q := Q) ?_
      refine wq_callI (Q := Q) rfl k ?_
      intro r225 c226 k
      refine wq_callI (Q := Q) rfl k ?_
      intro r227 c228 k
      refine wq_ite (Q := Q) (p := r225 = r227) (fun h => ?_) (fun h => ?_)
      · replace k := k.1 h
        show Q (cev 356 106 1828 [vR (-1), vR 1, vR 78, vI x3] [] (SH T, c228))
        refine of_cev (Q := Q) ?_
        refine wq_pos (Q := Q) k.1 ?_
        replace k := k.2
        exact k
      · replace k := k.2 h
        exact k
    replace k := k.2
    replace k := k (fun h => by rcases h with h | h | h | h | h | h | h | h | h | h | h | h | h | h | h | h | h | h | h | h | h | h | h | h | h | h | h | h | h | h | h | h | h | h | h | h | h | h | h | h | h | h | h | h | h | h | h | h | h | h | h | h | h | h | h | h | h <;> first | exact h0 h | exact h1 h | exact h2 h | exact h3 h | exact h4 h | exact h5 h | exact h6 h | exact h7 h | exact h8 h | exact h9 h | exact h10 h | exact h11 h | exact h12 h | exact h13 h | exact h14 h | exact h15 h | exact h16 h | exact h17 h | exact h18 h | exact h19 h | exact h20 h | exact h21 h | exact h22 h | exact h23 h | exact h24 h | exact h25 h | exact h26 h | exact h27 h | exact h28 h | exact h29 h | exact h30 h | exact h31 h | exact h32 h | exact h33 h | exact h34 h | exact h35 h | exact h36 h | exact h37 h | exact h38 h | exact h39 h | exact h40 h | exact h41 h | exact h42 h | exact h43 h | exact h44 h | exact h45 h | exact h46 h | exact h47 h | exact h48 h | exact h49 h | exact h50 h | exact h51 h | exact h52 h | exact h53 h | exact h54 h | exact h55 h | exact h56 h)
    show Q (cev 356 106 1828 [vR (-1), vR 1, vR 78, vI x3] [] (SH T, c))
    refine of_cev (Q := Q) ?_
    refine wq_pos (Q := Q) k.1 ?_
    replace k := k.2
    exact k

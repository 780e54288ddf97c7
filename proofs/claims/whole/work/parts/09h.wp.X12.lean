set_option maxRecDepth 20000 in
theorem W_X12_claim {T : List Shp} {c : Nat → Int → Int} {Q : Res → Prop} {x1 x2 x3 : Int} (k : ((x2 = 0 → Q (cev 313 3 45 [vR 78, vI x1, vI x2, vI x3, vU] [vI (b01 (0 ≤ x3 ∧ x3 ≤ 150))] (SH T, (up c 77 0 0)))) ∧ (¬ x2 = 0 → ((x2 = 1 → (((-1) ≤ x3 ∧ x3 ≤ 5 → Q (cev 313 3 45 [vR 78, vI x1, vI x2, vI x3, vU] [vI 1] (SH T, (up c 77 0 0)))) ∧ (¬ ((-1) ≤ x3 ∧ x3 ≤ 5) → Q (cev 313 3 45 [vR 78, vI x1, vI x2, vI x3, vU] [vI 0] (SH T, (up c 77 0 0)))))) ∧ (¬ x2 = 1 → Q (cev 313 3 45 [vR 78, vI x1, vI x2, vI x3, vU] [vI 0] (SH T, (up c 77 0 0)))))))) : Q (ccal 313 [vR 78, vI x1, vI x2, vI x3] (SH T, c)) := by
  refine of_cev (Q := Q) ?_
  refine wq_ite (Q := Q) (p := x2 = 0) (fun h => ?_) (fun h => ?_)
  · replace k := k.1 h
    refine wq_sum (Q := Q) rfl (S_X12_in T (up c 77 0 0) x3 0 150) ?_
    exact k
  · replace k := k.2 h
    show Q (cev 313 3 21 [vR 78, vI x1, vI x2, vI x3, vU] [] (SH T, (up c 77 0 0)))
    refine of_cev (Q := Q) ?_
    refine wq_ite (Q := Q) (p := x2 = 1) (fun h => ?_) (fun h => ?_)
    · replace k := k.1 h
      refine wq_sum (Q := Q) rfl (S_X12_in T (up c 77 0 0) x3 (-1) 5) ?_
      refine wq_b01 (Q := Q) (p := (-1) ≤ x3 ∧ x3 ≤ 5) (fun h => ?_) (fun h => ?_)
      · replace k := k.2 h
        show Q (cev 313 3 44 [vR 78, vI x1, vI x2, vI x3, vU] [] (SH T, (up c 77 0 0)))
        refine of_cev (Q := Q) ?_
        exact k
      · replace k := k.1 h
        exact k
    · replace k := k.2 h
      show Q (cev 313 3 44 [vR 78, vI x1, vI x2, vI x3, vU] [] (SH T, (up c 77 0 0)))
      refine of_cev (Q := Q) ?_
      exact k
set_option maxRecDepth 20000 in
theorem W_X12_claim_45 {T : List Shp} {c : Nat → Int → Int} {Q : Res → Prop} {x1 x2 x3 y0 : Int} (k : ((y0 = 0 → ((-2147483648 ≤ (c 78 1) + 1 ∧ (c 78 1) + 1 < 2147483648) ∧ Q (some (some (vI (-1)), (SH T, (up (up c 77 1 (-1)) 78 1 ((c 78 1) + 1))))))) ∧ (¬ y0 = 0 → ((-9223372036854775808 ≤ (c 79 6) - 1 ∧ (c 79 6) - 1 < 9223372036854775808) ∧ ((0 ≤ x1 ∧ x1 < (c 79 6) → ((x2 = 0 → ((0 ≤ x1 ∧ x1 < 8) ∧ (((c 79 (348 + 4 * x1 + 1)) < x3 → Q (cev 313 3 95 [vR 78, vI x1, vI x2, vI x3, vU] [] (SH T, c))) ∧ (¬ (c 79 (348 + 4 * x1 + 1)) < x3 → ((-2147483648 ≤ (c 78 1) + 1 ∧ (c 78 1) + 1 < 2147483648) ∧ Q (some (some (vI (-1)), (SH T, (up (up c 77 1 (-1)) 78 1 ((c 78 1) + 1)))))))))) ∧ (¬ x2 = 0 → Q (cev 313 3 95 [vR 78, vI x1, vI x2, vI x3, vU] [] (SH T, c))))) ∧ (¬ (0 ≤ x1 ∧ x1 < (c 79 6)) → ((-2147483648 ≤ (c 78 2) + 1 ∧ (c 78 2) + 1 < 2147483648) ∧ Q (some (some (vI (-2)), (SH T, (up (up c 77 1 (-2)) 78 2 ((c 78 2) + 1)))))))))))) : Q (cev 313 3 45 [vR 78, vI x1, vI x2, vI x3, vU] [vI y0] (SH T, c)) := by
  refine of_cev (Q := Q) ?_
  refine wq_ite (Q := Q) (p := y0 = 0) (fun h => ?_) (fun h => ?_)
  · replace k := k.1 h
    refine wq_sum (Q := Q) rfl (S_X12_tell_1 T c k.1) ?_
    replace k := k.2
    exact k
  · replace k := k.2 h
    show Q (cev 313 3 58 [vR 78, vI x1, vI x2, vI x3, vU] [] (SH T, c))
    refine of_cev (Q := Q) ?_
    refine wq_sum (Q := Q) rfl (S_X12_isClaimant T c x1 k.1) ?_
    replace k := k.2
    refine wq_b01 (Q := Q) (p := 0 ≤ x1 ∧ x1 < (c 79 6)) (fun h => ?_) (fun h => ?_)
    · replace k := k.2 h
      refine wq_sum (Q := Q) rfl (S_X12_tell_2 T c k.1) ?_
      replace k := k.2
      exact k
    · replace k := k.1 h
      show Q (cev 313 3 73 [vR 78, vI x1, vI x2, vI x3, vU] [] (SH T, c))
      refine of_cev (Q := Q) ?_
      refine wq_ite (Q := Q) (p := x2 = 0) (fun h => ?_) (fun h => ?_)
      · replace k := k.1 h
        refine wq_sum (Q := Q) rfl (S_X12_ofClaimant_1 T c x1 k.1) ?_
        replace k := k.2
        refine wq_ite (Q := Q) (p := (c 79 (348 + 4 * x1 + 1)) < x3) (fun h => ?_) (fun h => ?_)
        · replace k := k.1 h
          exact k
        · replace k := k.2 h
          refine wq_sum (Q := Q) rfl (S_X12_tell_1 T c k.1) ?_
          replace k := k.2
          exact k
      · replace k := k.2 h
        exact k
set_option maxRecDepth 20000 in
theorem W_X12_claim_95 {T : List Shp} {c : Nat → Int → Int} {Q : Res → Prop} {x1 x2 x3 : Int} (k : (((-2147483648 ≤ 4 * x1 ∧ 4 * x1 < 2147483648) ∧ (-2147483648 ≤ 348 + (4 * x1) ∧ 348 + (4 * x1) < 2147483648) ∧ (-2147483648 ≤ (348 + (4 * x1)) + 2 ∧ (348 + (4 * x1)) + 2 < 2147483648) ∧ (-2147483648 ≤ ((348 + (4 * x1)) + 2) + x2 ∧ ((348 + (4 * x1)) + 2) + x2 < 2147483648) ∧ (0 ≤ (((348 + (4 * x1)) + 2) + x2) ∧ (((348 + (4 * x1)) + 2) + x2) < 5780)) ∧ Q (some (some (vI (c 79 (((348 + (4 * x1)) + 2) + x2))), (SH T, (up (up c 79 (((348 + (4 * x1)) + 2) + x2) x3) 77 1 0)))))) : Q (cev 313 3 95 [vR 78, vI x1, vI x2, vI x3, vU] [] (SH T, c)) := by
  refine of_cev (Q := Q) ?_
  refine wq_pos (Q := Q) k.1.1 ?_
  refine wq_pos (Q := Q) k.1.2.1 ?_
  refine wq_pos (Q := Q) k.1.2.2.1 ?_
  refine wq_pos (Q := Q) k.1.2.2.2.1 ?_
  refine wq_sum (Q := Q) rfl (S_X12_change T c (((348 + (4 * x1)) + 2) + x2) x3 k.1.2.2.2.2) ?_
  replace k := k.2
  exact k
set_option maxRecDepth 20000 in
theorem W_X12_born {T : List Shp} {c : Nat → Int → Int} {Q : Res → Prop} {x1 x2 : Int} (k : ((-9223372036854775808 ≤ (c 79 6) - 1 ∧ (c 79 6) - 1 < 9223372036854775808) ∧ ((0 ≤ x1 ∧ x1 < (c 79 6) → ((0 ≤ x2 ∧ x2 ≤ 3 → (((0 ≤ x1 ∧ x1 < 8) ∧ (0 ≤ x2 ∧ x2 < 4)) ∧ Q (some (some (vI (c 79 (348 + 4 * x1 + x2))), (SH T, (up c 77 0 0)))))) ∧ (¬ (0 ≤ x2 ∧ x2 ≤ 3) → Q (some (some (vI (-1)), (SH T, (up c 77 0 0))))))) ∧ (¬ (0 ≤ x1 ∧ x1 < (c 79 6)) → Q (some (some (vI (-1)), (SH T, (up c 77 0 0)))))))) : Q (ccal 314 [vR 78, vI x1, vI x2] (SH T, c)) := by
  refine of_cev (Q := Q) ?_
  refine wq_sum (Q := Q) rfl (S_X12_isClaimant T (up c 77 0 0) x1 k.1) ?_
  replace k := k.2
  refine wq_b01 (Q := Q) (p := 0 ≤ x1 ∧ x1 < (c 79 6)) (fun h => ?_) (fun h => ?_)
  · replace k := k.2 h
    show Q (cev 314 3 34 [vU, vU, vU] [] (SH T, (up c 77 0 0)))
    refine of_cev (Q := Q) ?_
    exact k
  · replace k := k.1 h
    refine wq_sum (Q := Q) rfl (S_X12_in T (up c 77 0 0) x2 0 3) ?_
    refine wq_b01 (Q := Q) (p := 0 ≤ x2 ∧ x2 ≤ 3) (fun h => ?_) (fun h => ?_)
    · replace k := k.2 h
      show Q (cev 314 3 34 [vU, vU, vU] [] (SH T, (up c 77 0 0)))
      refine of_cev (Q := Q) ?_
      exact k
    · replace k := k.1 h
      refine wq_sum (Q := Q) rfl (S_X12_ofClaimant T (up c 77 0 0) x1 x2 k.1.1 k.1.2) ?_
      replace k := k.2
      exact k
set_option maxRecDepth 20000 in
theorem W_X12_childrenOf {T : List Shp} {c : Nat → Int → Int} {Q : Res → Prop} {x1 x2 : Int} (k : Q (cev 316 3 5 [vR 78, vI x1, vI x2, vI 0, vI 0] [] (SH T, c))) : Q (ccal 316 [vR 78, vI x1, vI x2] (SH T, c)) := by
  refine of_cev (Q := Q) ?_
  exact k
set_option maxRecDepth 20000 in
theorem W_X12_childrenOf_5 {T : List Shp} {c : Nat → Int → Int} {Q : Res → Prop} {x1 x2 x3 x4 : Int} (k : ((x4 < (c 79 6) → ((0 ≤ x4 ∧ x4 < 8) ∧ (((c 79 (348 + 4 * x4 + 0)) = x1 → ((0 ≤ x4 ∧ x4 < 8) ∧ ((c 79 (348 + 4 * x4 + 1) ≤ x2 ∧ x2 < c 79 (348 + 4 * x4 + 2) → (((-2147483648 ≤ x3 + 1 ∧ x3 + 1 < 2147483648) ∧ (-2147483648 ≤ x4 + 1 ∧ x4 + 1 < 2147483648)) ∧ Q (cev 316 3 5 [vR 78, vI x1, vI x2, vI (x3 + 1), vI (x4 + 1)] [] (SH T, c)))) ∧ (¬ (c 79 (348 + 4 * x4 + 1) ≤ x2 ∧ x2 < c 79 (348 + 4 * x4 + 2)) → (((-2147483648 ≤ x3 + 0 ∧ x3 + 0 < 2147483648) ∧ (-2147483648 ≤ x4 + 1 ∧ x4 + 1 < 2147483648)) ∧ Q (cev 316 3 5 [vR 78, vI x1, vI x2, vI (x3 + 0), vI (x4 + 1)] [] (SH T, c))))))) ∧ (¬ (c 79 (348 + 4 * x4 + 0)) = x1 → (((-2147483648 ≤ x3 + 0 ∧ x3 + 0 < 2147483648) ∧ (-2147483648 ≤ x4 + 1 ∧ x4 + 1 < 2147483648)) ∧ Q (cev 316 3 5 [vR 78, vI x1, vI x2, vI (x3 + 0), vI (x4 + 1)] [] (SH T, c))))))) ∧ (¬ x4 < (c 79 6) → Q (some (some (vI x3), (SH T, c)))))) : Q (cev 316 3 5 [vR 78, vI x1, vI x2, vI x3, vI x4] [] (SH T, c)) := by
  refine of_cev (Q := Q) ?_
  refine wq_ite (Q := Q) (p := x4 < (c 79 6)) (fun h => ?_) (fun h => ?_)
  · replace k := k.1 h
    refine wq_sum (Q := Q) rfl (S_X12_ofClaimant_0 T c x4 k.1) ?_
    replace k := k.2
    refine wq_ite (Q := Q) (p := (c 79 (348 + 4 * x4 + 0)) = x1) (fun h => ?_) (fun h => ?_)
    · replace k := k.1 h
      refine wq_sum (Q := Q) rfl (S_X12_isAlive T c x4 x2 k.1) ?_
      replace k := k.2
      refine wq_b01 (Q := Q) (p := c 79 (348 + 4 * x4 + 1) ≤ x2 ∧ x2 < c 79 (348 + 4 * x4 + 2)) (fun h => ?_) (fun h => ?_)
      · replace k := k.2 h
        show Q (cev 316 3 43 [vR 78, vI x1, vI x2, vU, vI x4] [vI x3] (SH T, c))
        refine of_cev (Q := Q) ?_
        refine wq_pos (Q := Q) k.1.1 ?_
        refine wq_pos (Q := Q) k.1.2 ?_
        replace k := k.2
        exact k
      · replace k := k.1 h
        refine wq_pos (Q := Q) k.1.1 ?_
        refine wq_pos (Q := Q) k.1.2 ?_
        replace k := k.2
        exact k
    · replace k := k.2 h
      show Q (cev 316 3 43 [vR 78, vI x1, vI x2, vU, vI x4] [vI x3] (SH T, c))
      refine of_cev (Q := Q) ?_
      refine wq_pos (Q := Q) k.1.1 ?_
      refine wq_pos (Q := Q) k.1.2 ?_
      replace k := k.2
      exact k
  · replace k := k.2 h
    show Q (cev 316 3 52 [vU, vU, vU, vI x3, vU] [] (SH T, c))
    refine of_cev (Q := Q) ?_
    exact k
set_option maxRecDepth 20000 in
theorem W_X12_setClaimant {T : List Shp} {c : Nat → Int → Int} {Q : Res → Prop} {x1 x2 : Int} (k : ((0 ≤ x1 ∧ x1 < 8) ∧ (QV T (fun c1 => (((0 ≤ x1 ∧ x1 < 8) ∧ (-2147483648 ≤ x2 - (c1 79 (348 + 4 * x1 + 1)) ∧ x2 - (c1 79 (348 + 4 * x1 + 1)) < 2147483648) ∧ (-9223372036854775808 ≤ (c1 79 5) - 1 ∧ (c1 79 5) - 1 < 9223372036854775808)) ∧ ((0 ≤ (c 79 (348 + 4 * x1 + 3)) ∧ (c 79 (348 + 4 * x1 + 3)) < (c1 79 5) → (QI T (fun r2 c3 => Q (cev 317 4 76 [vR 78, vI x1, vI x2, vU] [vL r2, vI 9, vR 93] (SH T, c3))) (ccal 290 [vR 78, vI (c 79 (348 + 4 * x1 + 3))] (SH T, (up (up (up c1 92 2 (x2 - (c1 79 (348 + 4 * x1 + 1)))) 92 7 x1) 92 8 (c1 79 (348 + 4 * x1 + 1))))))) ∧ (¬ (0 ≤ (c 79 (348 + 4 * x1 + 3)) ∧ (c 79 (348 + 4 * x1 + 3)) < (c1 79 5)) → Q (cev 317 4 76 [vR 78, vI x1, vI x2, vU] [vL (-1), vI 9, vR 93] (SH T, (up (up (up c1 92 2 (x2 - (c1 79 (348 + 4 * x1 + 1)))) 92 7 x1) 92 8 (c1 79 (348 + 4 * x1 + 1))))))))) (ccal 250 [vR 78, vI x2] (SH T, c))))) : Q (ccal 317 [vR 78, vI x1, vI x2] (SH T, c)) := by
  refine of_cev (Q := Q) ?_
  refine wq_sum (Q := Q) rfl (S_X12_ofClaimant_3 T c x1 k.1) ?_
  replace k := k.2
  refine wq_callV (Q := Q) rfl k ?_
  intro c1 k
  refine wq_sum (Q := Q) rfl (S_X12_ofClaimant_1 T c1 x1 k.1.1) ?_
  refine wq_pos (Q := Q) k.1.2.1 ?_
  refine wq_sum (Q := Q) rfl (S_X12_ofClaimant_1 T (up (up c1 92 2 (x2 - (c1 79 (348 + 4 * x1 + 1)))) 92 7 x1) x1 k.1.1) ?_
  refine wq_sum (Q := Q) rfl (S_X12_isCopy T (up (up (up c1 92 2 (x2 - (c1 79 (348 + 4 * x1 + 1)))) 92 7 x1) 92 8 (c1 79 (348 + 4 * x1 + 1))) (c 79 (348 + 4 * x1 + 3)) k.1.2.2) ?_
  replace k := k.2
  refine wq_b01 (Q := Q) (p := 0 ≤ (c 79 (348 + 4 * x1 + 3)) ∧ (c 79 (348 + 4 * x1 + 3)) < (c1 79 5)) (fun h => ?_) (fun h => ?_)
  · replace k := k.2 h
    show Q (cev 317 4 73 [vR 78, vI x1, vI x2, vU] [vI 9, vR 93] (SH T, (up (up (up c1 92 2 (x2 - (c1 79 (348 + 4 * x1 + 1)))) 92 7 x1) 92 8 (c1 79 (348 + 4 * x1 + 1)))))
    refine of_cev (Q := Q) ?_
    exact k
  · replace k := k.1 h
    refine wq_callI (Q := Q) rfl k ?_
    intro r2 c3 k
    exact k
set_option maxRecDepth 20000 in
theorem W_X12_setClaimant_76 {T : List Shp} {c : Nat → Int → Int} {Q : Res → Prop} {x1 x2 y0 y1 : Int} (k : ((0 ≤ y1 ∧ y1 < 13) ∧ (QI T (fun r1 c2 => Q (some (none, (SH T, (up c2 92 10 r1))))) (ccal 316 [vR 78, vI x1, vI x2] (SH T, (up c 92 y1 y0)))))) : Q (cev 317 4 76 [vR 78, vI x1, vI x2, vU] [vL y0, vI y1, vR 93] (SH T, c)) := by
  refine of_cev (Q := Q) ?_
  refine wq_pos (Q := Q) k.1 ?_
  replace k := k.2
  refine wq_callI (Q := Q) rfl k ?_
  intro r1 c2 k
  exact k
set_option maxRecDepth 20000 in
theorem W_X12_ranks {T : List Shp} {c : Nat → Int → Int} {Q : Res → Prop} {x1 x2 : Int} (k : (QV T (fun c1 => (QL T (fun r2 c3 => Q (some (some (vI (clp r2 0 999)), (SH T, c3)))) (ccal 249 [vR 78, vI 3, vL x1] (SH T, c1)))) (ccal 317 [vR 78, vI x1, vI x2] (SH T, c)))) : Q (ccal 318 [vR 78, vI x1, vI x2] (SH T, c)) := by
  refine of_cev (Q := Q) ?_
  refine wq_callV (Q := Q) rfl k ?_
  intro c1 k
  refine wq_callL (Q := Q) rfl k ?_
  intro r2 c3 k
  refine wq_sum (Q := Q) rfl (S_X12_within T c3 r2 0 999 (by decide)) ?_
  exact k
set_option maxRecDepth 20000 in
theorem W_X12_isOut {T : List Shp} {c : Nat → Int → Int} {Q : Res → Prop} {x1 x2 : Int} (k : (QV T (fun c1 => (QL T (fun r2 c3 => ((r2 = 1 → Q (some (some (vI 1), (SH T, c3)))) ∧ (¬ r2 = 1 → Q (some (some (vI 0), (SH T, c3)))))) (ccal 249 [vR 78, vI 4, vL 0] (SH T, c1)))) (ccal 317 [vR 78, vI x1, vI x2] (SH T, c)))) : Q (ccal 319 [vR 78, vI x1, vI x2] (SH T, c)) := by
  refine of_cev (Q := Q) ?_
  refine wq_callV (Q := Q) rfl k ?_
  intro c1 k
  refine wq_callL (Q := Q) rfl k ?_
  intro r2 c3 k
  refine wq_lc1 (Q := Q) (x := r2) (y := 1) (fun h => ?_) (fun h => ?_)
  · replace k := k.1 h
    exact k
  · replace k := k.2 h
    show Q (cev 319 6 21 [vU, vU, vU] [] (SH T, c3))
    refine of_cev (Q := Q) ?_
    exact k
set_option maxRecDepth 20000 in
theorem W_X12_stands {T : List Shp} {c : Nat → Int → Int} {Q : Res → Prop} {x1 x2 x3 : Int} (k : ((-9223372036854775808 ≤ (c 79 6) - 1 ∧ (c 79 6) - 1 < 9223372036854775808) ∧ ((0 ≤ x1 ∧ x1 < (c 79 6) → ((0 ≤ x2 ∧ x2 < 100 → ((0 ≤ x3 ∧ x3 ≤ 3 → ((x3 = 0 → ((0 ≤ x1 ∧ x1 < 8) ∧ ((c 79 (348 + 4 * x1 + 1) ≤ x2 ∧ x2 < c 79 (348 + 4 * x1 + 2) → Q (some (some (vI 1), (SH T, (up c 77 0 0))))) ∧ (¬ (c 79 (348 + 4 * x1 + 1) ≤ x2 ∧ x2 < c 79 (348 + 4 * x1 + 2)) → Q (some (some (vI 0), (SH T, (up c 77 0 0)))))))) ∧ ((x3 = 1 → (QI T (fun r1 c2 => Q (some (some (vI r1), (SH T, c2)))) (ccal 318 [vR 78, vI x1, vI x2] (SH T, (up c 77 0 0))))) ∧ ((x3 = 2 → (QI T (fun r3 c4 => ((r3 = 0 → Q (some (some (vI 0), (SH T, c4)))) ∧ (¬ r3 = 0 → Q (some (some (vI 1), (SH T, c4)))))) (ccal 319 [vR 78, vI x1, vI x2] (SH T, (up c 77 0 0))))) ∧ (¬ (x3 = 0 ∨ x3 = 1 ∨ x3 = 2) → (QI T (fun r5 c6 => Q (some (some (vI r5), (SH T, c6)))) (ccal 316 [vR 78, vI x1, vI x2] (SH T, (up c 77 0 0))))))))) ∧ (¬ (0 ≤ x3 ∧ x3 ≤ 3) → Q (some (some (vI (-1)), (SH T, (up c 77 0 0))))))) ∧ (¬ (0 ≤ x2 ∧ x2 < 100) → Q (some (some (vI (-1)), (SH T, (up c 77 0 0))))))) ∧ (¬ (0 ≤ x1 ∧ x1 < (c 79 6)) → Q (some (some (vI (-1)), (SH T, (up c 77 0 0)))))))) : Q (ccal 320 [vR 78, vI x1, vI x2, vI x3] (SH T, c)) := by
  refine of_cev (Q := Q) ?_
  refine wq_sum (Q := Q) rfl (S_X12_isClaimant T (up c 77 0 0) x1 k.1) ?_
  replace k := k.2
  refine wq_b01 (Q := Q) (p := 0 ≤ x1 ∧ x1 < (c 79 6)) (fun h => ?_) (fun h => ?_)
  · replace k := k.2 h
    show Q (cev 320 7 32 [vU, vU, vU, vU] [] (SH T, (up c 77 0 0)))
    refine of_cev (Q := Q) ?_
    exact k
  · replace k := k.1 h
    refine wq_sum (Q := Q) rfl (S_X12_isYear T (up c 77 0 0) x2) ?_
    refine wq_b01 (Q := Q) (p := 0 ≤ x2 ∧ x2 < 100) (fun h => ?_) (fun h => ?_)
    · replace k := k.2 h
      show Q (cev 320 7 32 [vU, vU, vU, vU] [] (SH T, (up c 77 0 0)))
      refine of_cev (Q := Q) ?_
      exact k
    · replace k := k.1 h
      refine wq_sum (Q := Q) rfl (S_X12_in T (up c 77 0 0) x3 0 3) ?_
      refine wq_b01 (Q := Q) (p := 0 ≤ x3 ∧ x3 ≤ 3) (fun h => ?_) (fun h => ?_)
      · replace k := k.2 h
        show Q (cev 320 7 32 [vU, vU, vU, vU] [] (SH T, (up c 77 0 0)))
        refine of_cev (Q := Q) ?_
        exact k
      · replace k := k.1 h
        show Q (cev 320 7 34 [vR 78, vI x1, vI x2, vI x3] [] (SH T, (up c 77 0 0)))
        refine of_cev (Q := Q) ?_
        refine wq_ite (Q := Q) (p := x3 = 0) (fun h0 => ?_) (fun h0 => ?_)
        · replace k := k.1 h0
          show Q (cev 320 7 60 [vR 78, vI x1, vI x2, vU] [] (SH T, (up c 77 0 0)))
          refine of_cev (Q := Q) ?_
          refine wq_sum (Q := Q) rfl (S_X12_isAlive T (up c 77 0 0) x1 x2 k.1) ?_
          replace k := k.2
          refine wq_b01 (Q := Q) (p := c 79 (348 + 4 * x1 + 1) ≤ x2 ∧ x2 < c 79 (348 + 4 * x1 + 2)) (fun h => ?_) (fun h => ?_)
          · replace k := k.2 h
            show Q (cev 320 7 73 [vU, vU, vU, vU] [] (SH T, (up c 77 0 0)))
            refine of_cev (Q := Q) ?_
            exact k
          · replace k := k.1 h
            exact k
        replace k := k.2
        refine wq_ite (Q := Q) (p := x3 = 1) (fun h1 => ?_) (fun h1 => ?_)
        · replace k := k.1 h1
          show Q (cev 320 7 75 [vR 78, vI x1, vI x2, vU] [] (SH T, (up c 77 0 0)))
          refine of_cev (Q := Q) ?_
          refine wq_callI (Q := Q) rfl k ?_
          intro r1 c2 k
          exact k
        replace k := k.2
        refine wq_ite (Q := Q) (p := x3 = 2) (fun h2 => ?_) (fun h2 => ?_)
        · replace k := k.1 h2
          show Q (cev 320 7 82 [vR 78, vI x1, vI x2, vU] [] (SH T, (up c 77 0 0)))
          refine of_cev (Q := Q) ?_
          refine wq_callI (Q := Q) rfl k ?_
          intro r3 c4 k
          refine wq_ite (Q := Q) (p := r3 = 0) (fun h => ?_) (fun h => ?_)
          · replace k := k.1 h
            show Q (cev 320 7 95 [vU, vU, vU, vU] [] (SH T, c4))
            refine of_cev (Q := Q) ?_
            exact k
          · replace k := k.2 h
            exact k
        replace k := k.2
        replace k := k (fun h => by rcases h with h | h | h <;> first | exact h0 h | exact h1 h | exact h2 h)
        show Q (cev 320 7 97 [vR 78, vI x1, vI x2, vU] [] (SH T, (up c 77 0 0)))
        refine of_cev (Q := Q) ?_
        refine wq_callI (Q := Q) rfl k ?_
        intro r5 c6 k
        exact k
set_option maxRecDepth 20000 in
theorem W_X12_findRulers {T : List Shp} {c : Nat → Int → Int} {Q : Res → Prop} (k : Q (cev 321 7 2 [vR 78, vI 0, vU, vU, vU, vU, vU] [] (SH T, c))) : Q (ccal 321 [vR 78] (SH T, c)) := by
  refine of_cev (Q := Q) ?_
  exact k
set_option maxRecDepth 20000 in
theorem W_X12_findRulers_2 {T : List Shp} {c : Nat → Int → Int} {Q : Res → Prop} {x1 : Int} (k : ((x1 < 100 → ((x1 = 0 → Q (cev 321 7 24 [vR 78, vI x1, vU, vU, vU, vU, vU] [vI (-1)] (SH T, c))) ∧ (¬ x1 = 0 → (((-2147483648 ≤ x1 - 1 ∧ x1 - 1 < 2147483648) ∧ (0 ≤ (x1 - 1) ∧ (x1 - 1) < 100)) ∧ Q (cev 321 7 24 [vR 78, vI x1, vU, vU, vU, vU, vU] [vI (c 105 (x1 - 1))] (SH T, c)))))) ∧ (¬ x1 < 100 → Q (some (none, (SH T, c)))))) : Q (cev 321 7 2 [vR 78, vI x1, vU, vU, vU, vU, vU] [] (SH T, c)) := by
  refine of_cev (Q := Q) ?_
  refine wq_ite (Q := Q) (p := x1 < 100) (fun h => ?_) (fun h => ?_)
  · replace k := k.1 h
    refine wq_ite (Q := Q) (p := x1 = 0) (fun h => ?_) (fun h => ?_)
    · replace k := k.1 h
      exact k
    · replace k := k.2 h
      show Q (cev 321 7 16 [vR 78, vI x1, vU, vU, vU, vU, vU] [] (SH T, c))
      refine of_cev (Q := Q) ?_
      refine wq_pos (Q := Q) k.1.1 ?_
      refine wq_pos (Q := Q) k.1.2 ?_
      replace k := k.2
      exact k
  · replace k := k.2 h
    show Q (cev 321 7 161 [vU, vU, vU, vU, vU, vU, vU] [] (SH T, c))
    refine of_cev (Q := Q) ?_
    exact k
set_option maxRecDepth 20000 in
theorem W_X12_findRulers_24 {T : List Shp} {c : Nat → Int → Int} {Q : Res → Prop} {x1 y0 : Int} (k : ((y0 = (-1) → Q (cev 321 7 44 [vR 78, vI x1, vU, vU, vU, vU, vU] [vI (-1)] (SH T, c))) ∧ (¬ y0 = (-1) → ((0 ≤ y0 ∧ y0 < 8) ∧ ((c 79 (348 + 4 * y0 + 1) ≤ x1 ∧ x1 < c 79 (348 + 4 * y0 + 2) → Q (cev 321 7 44 [vR 78, vI x1, vU, vU, vU, vU, vU] [vI y0] (SH T, c))) ∧ (¬ (c 79 (348 + 4 * y0 + 1) ≤ x1 ∧ x1 < c 79 (348 + 4 * y0 + 2)) → Q (cev 321 7 44 [vR 78, vI x1, vU, vU, vU, vU, vU] [vI (-1)] (SH T, c)))))))) : Q (cev 321 7 24 [vR 78, vI x1, vU, vU, vU, vU, vU] [vI y0] (SH T, c)) := by
  refine of_cev (Q := Q) ?_
  refine wq_ite (Q := Q) (p := y0 = (-1)) (fun h => ?_) (fun h => ?_)
  · replace k := k.1 h
    show Q (cev 321 7 43 [vR 78, vI x1, vU, vU, vU, vU, vU] [] (SH T, c))
    refine of_cev (Q := Q) ?_
    exact k
  · replace k := k.2 h
    refine wq_sum (Q := Q) rfl (S_X12_isAlive T c y0 x1 k.1) ?_
    replace k := k.2
    refine wq_b01 (Q := Q) (p := c 79 (348 + 4 * y0 + 1) ≤ x1 ∧ x1 < c 79 (348 + 4 * y0 + 2)) (fun h => ?_) (fun h => ?_)
    · replace k := k.2 h
      show Q (cev 321 7 43 [vR 78, vI x1, vU, vU, vU, vU, vU] [] (SH T, c))
      refine of_cev (Q := Q) ?_
      exact k
    · replace k := k.1 h
      exact k
set_option maxRecDepth 20000 in
theorem W_X12_findRulers_44 {T : List Shp} {c : Nat → Int → Int} {Q : Res → Prop} {x1 y0 : Int} (k : ((y0 = (-1) → Q (cev 321 7 64 [vR 78, vI x1, vI y0, vI 100000000, vI 0, vI 0, vU] [] (SH T, c))) ∧ (¬ y0 = (-1) → Q (cev 321 7 64 [vR 78, vI x1, vI y0, vI 100000000, vI 1, vI 0, vU] [] (SH T, c))))) : Q (cev 321 7 44 [vR 78, vI x1, vU, vU, vU, vU, vU] [vI y0] (SH T, c)) := by
  refine of_cev (Q := Q) ?_
  refine wq_ite (Q := Q) (p := y0 = (-1)) (fun h => ?_) (fun h => ?_)
  · replace k := k.1 h
    show Q (cev 321 7 58 [vR 78, vI x1, vI y0, vI 100000000, vU, vU, vU] [] (SH T, c))
    refine of_cev (Q := Q) ?_
    exact k
  · replace k := k.2 h
    exact k
set_option maxRecDepth 20000 in
theorem W_X12_findRulers_64 {T : List Shp} {c : Nat → Int → Int} {Q : Res → Prop} {x1 x2 x3 x4 x5 : Int} (k : ((x5 < (c 79 6) → ((x4 = 0 → ((0 ≤ x5 ∧ x5 < 8) ∧ ((c 79 (348 + 4 * x5 + 1) ≤ x1 ∧ x1 < c 79 (348 + 4 * x5 + 2) → (QI T (fun r1 c2 => ((r1 = 0 → (QI T (fun r3 c4 => Q (cev 321 7 114 [vR 78, vI x1, vI x2, vI x3, vI x4, vI x5, vU] [vI r3] (SH T, c4))) (ccal 318 [vR 78, vI x5, vI x1] (SH T, c2)))) ∧ (¬ r1 = 0 → Q (cev 321 7 114 [vR 78, vI x1, vI x2, vI x3, vI x4, vI x5, vU] [vI 100000000] (SH T, c2))))) (ccal 319 [vR 78, vI x5, vI x1] (SH T, c)))) ∧ (¬ (c 79 (348 + 4 * x5 + 1) ≤ x1 ∧ x1 < c 79 (348 + 4 * x5 + 2)) → Q (cev 321 7 114 [vR 78, vI x1, vI x2, vI x3, vI x4, vI x5, vU] [vI 100000000] (SH T, c)))))) ∧ (¬ x4 = 0 → (((0 ≤ x1 ∧ x1 < 100) ∧ (-2147483648 ≤ x1 + 1 ∧ x1 + 1 < 2147483648)) ∧ Q (cev 321 7 2 [vR 78, vI (x1 + 1), vU, vU, vU, vU, vU] [] (SH T, (up c 105 x1 x2))))))) ∧ (¬ x5 < (c 79 6) → (((0 ≤ x1 ∧ x1 < 100) ∧ (-2147483648 ≤ x1 + 1 ∧ x1 + 1 < 2147483648)) ∧ Q (cev 321 7 2 [vR 78, vI (x1 + 1), vU, vU, vU, vU, vU] [] (SH T, (up c 105 x1 x2))))))) : Q (cev 321 7 64 [vR 78, vI x1, vI x2, vI x3, vI x4, vI x5, vU] [] (SH T, c)) := by
  refine of_cev (Q := Q) ?_
  refine wq_ite (Q := Q) (p := x5 < (c 79 6)) (fun h => ?_) (fun h => ?_)
  · replace k := k.1 h
    refine wq_ite (Q := Q) (p := x4 = 0) (fun h => ?_) (fun h => ?_)
    · replace k := k.1 h
      refine wq_sum (Q := Q) rfl (S_X12_isAlive T c x5 x1 k.1) ?_
      replace k := k.2
      refine wq_b01 (Q := Q) (p := c 79 (348 + 4 * x5 + 1) ≤ x1 ∧ x1 < c 79 (348 + 4 * x5 + 2)) (fun h => ?_) (fun h => ?_)
      · replace k := k.2 h
        show Q (cev 321 7 111 [vR 78, vI x1, vI x2, vI x3, vI x4, vI x5, vU] [] (SH T, c))
        refine of_cev (Q := Q) ?_
        exact k
      · replace k := k.1 h
        refine wq_callI (Q := Q) rfl k ?_
        intro r1 c2 k
        refine wq_ite (Q := Q) (p := r1 = 0) (fun h => ?_) (fun h => ?_)
        · replace k := k.1 h
          refine wq_callI (Q := Q) rfl k ?_
          intro r3 c4 k
          exact k
        · replace k := k.2 h
          show Q (cev 321 7 111 [vR 78, vI x1, vI x2, vI x3, vI x4, vI x5, vU] [] (SH T, c2))
          refine of_cev (Q := Q) ?_
          exact k
    · replace k := k.2 h
      show Q (cev 321 7 148 [vR 78, vI x1, vI x2, vU, vU, vU, vU] [] (SH T, c))
      refine of_cev (Q := Q) ?_
      refine wq_pos (Q := Q) k.1.1 ?_
      refine wq_pos (Q := Q) k.1.2 ?_
      replace k := k.2
      exact k
  · replace k := k.2 h
    show Q (cev 321 7 148 [vR 78, vI x1, vI x2, vU, vU, vU, vU] [] (SH T, c))
    refine of_cev (Q := Q) ?_
    refine wq_pos (Q := Q) k.1.1 ?_
    refine wq_pos (Q := Q) k.1.2 ?_
    replace k := k.2
    exact k
set_option maxRecDepth 20000 in
theorem W_X12_findRulers_114 {T : List Shp} {c : Nat → Int → Int} {Q : Res → Prop} {x1 x2 x3 x4 x5 y0 : Int} (k : ((y0 < x3 → Q (cev 321 7 128 [vR 78, vI x1, vU, vI x3, vI x4, vI x5, vI y0] [vI x5] (SH T, c))) ∧ (¬ y0 < x3 → Q (cev 321 7 128 [vR 78, vI x1, vU, vI x3, vI x4, vI x5, vI y0] [vI x2] (SH T, c))))) : Q (cev 321 7 114 [vR 78, vI x1, vI x2, vI x3, vI x4, vI x5, vU] [vI y0] (SH T, c)) := by
  refine of_cev (Q := Q) ?_
  refine wq_ite (Q := Q) (p := y0 < x3) (fun h => ?_) (fun h => ?_)
  · replace k := k.1 h
    exact k
  · replace k := k.2 h
    show Q (cev 321 7 127 [vR 78, vI x1, vI x2, vI x3, vI x4, vI x5, vI y0] [] (SH T, c))
    refine of_cev (Q := Q) ?_
    exact k
set_option maxRecDepth 20000 in
theorem W_X12_findRulers_128 {T : List Shp} {c : Nat → Int → Int} {Q : Res → Prop} {x1 x3 x4 x5 x6 y0 : Int} (k : ((x6 < x3 → ((-2147483648 ≤ x5 + 1 ∧ x5 + 1 < 2147483648) ∧ Q (cev 321 7 64 [vR 78, vI x1, vI y0, vI x6, vI x4, vI (x5 + 1), vU] [] (SH T, c)))) ∧ (¬ x6 < x3 → ((-2147483648 ≤ x5 + 1 ∧ x5 + 1 < 2147483648) ∧ Q (cev 321 7 64 [vR 78, vI x1, vI y0, vI x3, vI x4, vI (x5 + 1), vU] [] (SH T, c)))))) : Q (cev 321 7 128 [vR 78, vI x1, vU, vI x3, vI x4, vI x5, vI x6] [vI y0] (SH T, c)) := by
  refine of_cev (Q := Q) ?_
  refine wq_ite (Q := Q) (p := x6 < x3) (fun h => ?_) (fun h => ?_)
  · replace k := k.1 h
    refine wq_pos (Q := Q) k.1 ?_
    replace k := k.2
    exact k
  · replace k := k.2 h
    show Q (cev 321 7 140 [vR 78, vI x1, vI y0, vI x3, vI x4, vI x5, vU] [] (SH T, c))
    refine of_cev (Q := Q) ?_
    refine wq_pos (Q := Q) k.1 ?_
    replace k := k.2
    exact k
set_option maxRecDepth 20000 in
theorem W_X12_ruler {T : List Shp} {c : Nat → Int → Int} {Q : Res → Prop} {x1 : Int} (k : ((0 ≤ x1 ∧ x1 < 100 → (QV T (fun c1 => ((0 ≤ x1 ∧ x1 < 100) ∧ Q (some (some (vI (c1 105 x1)), (SH T, c1))))) (ccal 321 [vR 78] (SH T, (up c 77 0 0))))) ∧ (¬ (0 ≤ x1 ∧ x1 < 100) → Q (some (some (vI (-1)), (SH T, (up c 77 0 0))))))) : Q (ccal 322 [vR 78, vI x1] (SH T, c)) := by
  refine of_cev (Q := Q) ?_
  refine wq_sum (Q := Q) rfl (S_X12_isYear T (up c 77 0 0) x1) ?_
  refine wq_b01 (Q := Q) (p := 0 ≤ x1 ∧ x1 < 100) (fun h => ?_) (fun h => ?_)
  · replace k := k.2 h
    exact k
  · replace k := k.1 h
    show Q (cev 322 8 14 [vR 78, vI x1] [] (SH T, (up c 77 0 0)))
    refine of_cev (Q := Q) ?_
    refine wq_callV (Q := Q) rfl k ?_
    intro c1 k
    refine wq_pos (Q := Q) k.1 ?_
    replace k := k.2
    exact k
set_option maxRecDepth 20000 in
theorem W_X12_reign {T : List Shp} {c : Nat → Int → Int} {Q : Res → Prop} {x1 x2 : Int} (k : ((x1 = (-1) → Q (cev 323 8 24 [vR 78, vI x1, vI x2, vU, vU, vU] [] (SH T, (up c 77 0 0)))) ∧ (¬ x1 = (-1) → ((0 ≤ x2 ∧ x2 ≤ 2 → Q (cev 323 8 24 [vR 78, vI x1, vI x2, vU, vU, vU] [] (SH T, (up c 77 0 0)))) ∧ (¬ (0 ≤ x2 ∧ x2 ≤ 2) → Q (some (some (vI (-1)), (SH T, (up c 77 0 0))))))))) : Q (ccal 323 [vR 78, vI x1, vI x2] (SH T, c)) := by
  refine of_cev (Q := Q) ?_
  refine wq_ite (Q := Q) (p := x1 = (-1)) (fun h => ?_) (fun h => ?_)
  · replace k := k.1 h
    exact k
  · replace k := k.2 h
    refine wq_sum (Q := Q) rfl (S_X12_in T (up c 77 0 0) x2 0 2) ?_
    refine wq_b01 (Q := Q) (p := 0 ≤ x2 ∧ x2 ≤ 2) (fun h => ?_) (fun h => ?_)
    · replace k := k.2 h
      exact k
    · replace k := k.1 h
      exact k
set_option maxRecDepth 20000 in
theorem W_X12_reign_24 {T : List Shp} {c : Nat → Int → Int} {Q : Res → Prop} {x1 x2 : Int} (k : (QV T (fun c1 => Q (cev 323 8 33 [vR 78, vI x1, vI x2, vI 0, vI 0, vU] [] (SH T, c1))) (ccal 321 [vR 78] (SH T, c)))) : Q (cev 323 8 24 [vR 78, vI x1, vI x2, vU, vU, vU] [] (SH T, c)) := by
  refine of_cev (Q := Q) ?_
  refine wq_callV (Q := Q) rfl k ?_
  intro c1 k
  exact k
set_option maxRecDepth 20000 in
theorem W_X12_reign_33 {T : List Shp} {c : Nat → Int → Int} {Q : Res → Prop} {x1 x2 x3 x4 : Int} (k : ((x4 < 100 → Q (cev 323 8 44 [vR 78, vI x1, vI x2, vI x3, vI x4, vI x4] [] (SH T, c))) ∧ (¬ x4 < 100 → ((x1 = (-1) → Q (some (some (vI x3), (SH T, c)))) ∧ (¬ x1 = (-1) → Q (some (some (vI (-1)), (SH T, c)))))))) : Q (cev 323 8 33 [vR 78, vI x1, vI x2, vI x3, vI x4, vU] [] (SH T, c)) := by
  refine of_cev (Q := Q) ?_
  refine wq_ite (Q := Q) (p := x4 < 100) (fun h => ?_) (fun h => ?_)
  · replace k := k.1 h
    exact k
  · replace k := k.2 h
    show Q (cev 323 8 130 [vU, vI x1, vU, vI x3, vU, vU] [] (SH T, c))
    refine of_cev (Q := Q) ?_
    refine wq_ite (Q := Q) (p := x1 = (-1)) (fun h => ?_) (fun h => ?_)
    · replace k := k.1 h
      exact k
    · replace k := k.2 h
      show Q (cev 323 8 139 [vU, vU, vU, vU, vU, vU] [] (SH T, c))
      refine of_cev (Q := Q) ?_
      exact k
set_option maxRecDepth 20000 in
theorem W_X12_reign_44 {T : List Shp} {c : Nat → Int → Int} {Q : Res → Prop} {x1 x2 x3 x4 x5 : Int} (k : ((x5 < 100 → (((0 ≤ x5 ∧ x5 < 100) ∧ (0 ≤ x4 ∧ x4 < 100)) ∧ (((c 105 x5) = (c 105 x4) → ((-2147483648 ≤ x5 + 1 ∧ x5 + 1 < 2147483648) ∧ Q (cev 323 8 44 [vR 78, vI x1, vI x2, vI x3, vI x4, vI (x5 + 1)] [] (SH T, c)))) ∧ (¬ (c 105 x5) = (c 105 x4) → Q (cev 323 8 74 [vR 78, vI x1, vI x2, vI x3, vI x4, vI x5] [] (SH T, c)))))) ∧ (¬ x5 < 100 → Q (cev 323 8 74 [vR 78, vI x1, vI x2, vI x3, vI x4, vI x5] [] (SH T, c))))) : Q (cev 323 8 44 [vR 78, vI x1, vI x2, vI x3, vI x4, vI x5] [] (SH T, c)) := by
  refine of_cev (Q := Q) ?_
  refine wq_ite (Q := Q) (p := x5 < 100) (fun h => ?_) (fun h => ?_)
  · replace k := k.1 h
    refine wq_pos (Q := Q) k.1.1 ?_
    refine wq_pos (Q := Q) k.1.2 ?_
    replace k := k.2
    refine wq_ite (Q := Q) (p := (c 105 x5) = (c 105 x4)) (fun h => ?_) (fun h => ?_)
    · replace k := k.1 h
      refine wq_pos (Q := Q) k.1 ?_
      replace k := k.2
      exact k
    · replace k := k.2 h
      exact k
  · replace k := k.2 h
    exact k
set_option maxRecDepth 20000 in
theorem W_X12_reign_74 {T : List Shp} {c : Nat → Int → Int} {Q : Res → Prop} {x1 x2 x3 x4 x5 : Int} (k : ((0 ≤ x4 ∧ x4 < 100) ∧ (((c 105 x4) = (-1) → Q (cev 323 8 33 [vR 78, vI x1, vI x2, vI x3, vI x5, vU] [] (SH T, c))) ∧ (¬ (c 105 x4) = (-1) → ((x3 = x1 → ((x2 = 0 → ((0 ≤ x4 ∧ x4 < 100) ∧ Q (some (some (vI (c 105 x4)), (SH T, c))))) ∧ (¬ x2 = 0 → ((x2 = 1 → Q (some (some (vI x4), (SH T, c)))) ∧ (¬ x2 = 1 → ((-2147483648 ≤ x5 - x4 ∧ x5 - x4 < 2147483648) ∧ Q (some (some (vI (x5 - x4)), (SH T, c))))))))) ∧ (¬ x3 = x1 → ((-2147483648 ≤ x3 + 1 ∧ x3 + 1 < 2147483648) ∧ Q (cev 323 8 33 [vR 78, vI x1, vI x2, vI (x3 + 1), vI x5, vU] [] (SH T, c))))))))) : Q (cev 323 8 74 [vR 78, vI x1, vI x2, vI x3, vI x4, vI x5] [] (SH T, c)) := by
  refine of_cev (Q := Q) ?_
  refine wq_pos (Q := Q) k.1 ?_
  replace k := k.2
  refine wq_ite (Q := Q) (p := (c 105 x4) = (-1)) (fun h => ?_) (fun h => ?_)
  · replace k := k.1 h
    show Q (cev 323 8 123 [vR 78, vI x1, vI x2, vI x3, vU, vI x5] [] (SH T, c))
    refine of_cev (Q := Q) ?_
    exact k
  · replace k := k.2 h
    refine wq_ite (Q := Q) (p := x3 = x1) (fun h => ?_) (fun h => ?_)
    · replace k := k.1 h
      refine wq_ite (Q := Q) (p := x2 = 0) (fun h => ?_) (fun h => ?_)
      · replace k := k.1 h
        refine wq_pos (Q := Q) k.1 ?_
        replace k := k.2
        exact k
      · replace k := k.2 h
        show Q (cev 323 8 104 [vU, vU, vI x2, vU, vI x4, vI x5] [] (SH T, c))
        refine of_cev (Q := Q) ?_
        refine wq_ite (Q := Q) (p := x2 = 1) (fun h => ?_) (fun h => ?_)
        · replace k := k.1 h
          exact k
        · replace k := k.2 h
          show Q (cev 323 8 114 [vU, vU, vU, vU, vI x4, vI x5] [] (SH T, c))
          refine of_cev (Q := Q) ?_
          refine wq_pos (Q := Q) k.1 ?_
          replace k := k.2
          exact k
    · replace k := k.2 h
      show Q (cev 323 8 120 [vR 78, vI x1, vI x2, vI x3, vU, vI x5] [] (SH T, c))
      refine of_cev (Q := Q) ?_
      refine wq_pos (Q := Q) k.1 ?_
      show Q (cev 323 8 123 [vR 78, vI x1, vI x2, vI (x3 + 1), vU, vI x5] [] (SH T, c))
      refine of_cev (Q := Q) ?_
      replace k := k.2
      exact k
set_option maxRecDepth 20000 in
theorem W_X12_vacant {T : List Shp} {c : Nat → Int → Int} {Q : Res → Prop} (k : (QV T (fun c1 => Q (cev 324 8 13 [vR 78, vI 0, vI 0] [] (SH T, c1))) (ccal 321 [vR 78] (SH T, (up c 77 0 0))))) : Q (ccal 324 [vR 78] (SH T, c)) := by
  refine of_cev (Q := Q) ?_
  refine wq_callV (Q := Q) rfl k ?_
  intro c1 k
  exact k
set_option maxRecDepth 20000 in
theorem W_X12_vacant_13 {T : List Shp} {c : Nat → Int → Int} {Q : Res → Prop} {x1 x2 : Int} (k : ((x2 < 100 → ((0 ≤ x2 ∧ x2 < 100) ∧ (((c 105 x2) = (-1) → (((-2147483648 ≤ x1 + 1 ∧ x1 + 1 < 2147483648) ∧ (-2147483648 ≤ x2 + 1 ∧ x2 + 1 < 2147483648)) ∧ Q (cev 324 8 13 [vR 78, vI (x1 + 1), vI (x2 + 1)] [] (SH T, c)))) ∧ (¬ (c 105 x2) = (-1) → (((-2147483648 ≤ x1 + 0 ∧ x1 + 0 < 2147483648) ∧ (-2147483648 ≤ x2 + 1 ∧ x2 + 1 < 2147483648)) ∧ Q (cev 324 8 13 [vR 78, vI (x1 + 0), vI (x2 + 1)] [] (SH T, c))))))) ∧ (¬ x2 < 100 → Q (some (some (vI x1), (SH T, c)))))) : Q (cev 324 8 13 [vR 78, vI x1, vI x2] [] (SH T, c)) := by
  refine of_cev (Q := Q) ?_
  refine wq_ite (Q := Q) (p := x2 < 100) (fun h => ?_) (fun h => ?_)
  · replace k := k.1 h
    refine wq_pos (Q := Q) k.1 ?_
    replace k := k.2
    refine wq_ite (Q := Q) (p := (c 105 x2) = (-1)) (fun h => ?_) (fun h => ?_)
    · replace k := k.1 h
      refine wq_pos (Q := Q) k.1.1 ?_
      refine wq_pos (Q := Q) k.1.2 ?_
      replace k := k.2
      exact k
    · replace k := k.2 h
      show Q (cev 324 8 34 [vR 78, vU, vI x2] [vI x1] (SH T, c))
      refine of_cev (Q := Q) ?_
      refine wq_pos (Q := Q) k.1.1 ?_
      refine wq_pos (Q := Q) k.1.2 ?_
      replace k := k.2
      exact k
  · replace k := k.2 h
    show Q (cev 324 8 43 [vU, vI x1, vU] [] (SH T, c))
    refine of_cev (Q := Q) ?_
    exact k
set_option maxRecDepth 20000 in
theorem W_X12_line {T : List Shp} {c : Nat → Int → Int} {Q : Res → Prop} {x1 x2 : Int} (k : ((0 ≤ x1 ∧ x1 < 100 → Q (cev 325 7 19 [vR 78, vI x1, vI x2, vI 0, vI 0, vU, vU] [] (SH T, (up c 77 0 0)))) ∧ (¬ (0 ≤ x1 ∧ x1 < 100) → Q (some (some (vI (-1)), (SH T, (up c 77 0 0))))))) : Q (ccal 325 [vR 78, vI x1, vI x2] (SH T, c)) := by
  refine of_cev (Q := Q) ?_
  refine wq_sum (Q := Q) rfl (S_X12_isYear T (up c 77 0 0) x1) ?_
  refine wq_b01 (Q := Q) (p := 0 ≤ x1 ∧ x1 < 100) (fun h => ?_) (fun h => ?_)
  · replace k := k.2 h
    exact k
  · replace k := k.1 h
    show Q (cev 325 7 14 [vR 78, vI x1, vI x2, vU, vU, vU, vU] [] (SH T, (up c 77 0 0)))
    refine of_cev (Q := Q) ?_
    exact k
set_option maxRecDepth 20000 in
theorem W_X12_line_19 {T : List Shp} {c : Nat → Int → Int} {Q : Res → Prop} {x1 x2 x3 x4 : Int} (k : ((x4 < (c 79 6) → ((0 ≤ x4 ∧ x4 < 8) ∧ ((c 79 (348 + 4 * x4 + 1) ≤ x1 ∧ x1 < c 79 (348 + 4 * x4 + 2) → (QI T (fun r1 c2 => ((r1 = 0 → (QI T (fun r3 c4 => Q (cev 325 7 70 [vR 78, vI x1, vI x2, vI x3, vI x4, vU, vU] [vI r3, vI x4, vR 107] (SH T, c4))) (ccal 318 [vR 78, vI x4, vI x1] (SH T, c2)))) ∧ (¬ r1 = 0 → Q (cev 325 7 70 [vR 78, vI x1, vI x2, vI x3, vI x4, vU, vU] [vI 100000000, vI x4, vR 107] (SH T, c2))))) (ccal 319 [vR 78, vI x4, vI x1] (SH T, c)))) ∧ (¬ (c 79 (348 + 4 * x4 + 1) ≤ x1 ∧ x1 < c 79 (348 + 4 * x4 + 2)) → Q (cev 325 7 70 [vR 78, vI x1, vI x2, vI x3, vI x4, vU, vU] [vI 100000000, vI x4, vR 107] (SH T, c)))))) ∧ (¬ x4 < (c 79 6) → Q (cev 325 7 101 [vR 78, vU, vI x2, vI x3, vI 0, vU, vU] [] (SH T, c))))) : Q (cev 325 7 19 [vR 78, vI x1, vI x2, vI x3, vI x4, vU, vU] [] (SH T, c)) := by
  refine of_cev (Q := Q) ?_
  refine wq_ite (Q := Q) (p := x4 < (c 79 6)) (fun h => ?_) (fun h => ?_)
  · replace k := k.1 h
    refine wq_sum (Q := Q) rfl (S_X12_isAlive T c x4 x1 k.1) ?_
    replace k := k.2
    refine wq_b01 (Q := Q) (p := c 79 (348 + 4 * x4 + 1) ≤ x1 ∧ x1 < c 79 (348 + 4 * x4 + 2)) (fun h => ?_) (fun h => ?_)
    · replace k := k.2 h
      show Q (cev 325 7 67 [vR 78, vI x1, vI x2, vI x3, vI x4, vU, vU] [vI x4, vR 107] (SH T, c))
      refine of_cev (Q := Q) ?_
      exact k
    · replace k := k.1 h
      refine wq_callI (Q := Q) rfl k ?_
      intro r1 c2 k
      refine wq_ite (Q := Q) (p := r1 = 0) (fun h => ?_) (fun h => ?_)
      · replace k := k.1 h
        refine wq_callI (Q := Q) rfl k ?_
        intro r3 c4 k
        exact k
      · replace k := k.2 h
        show Q (cev 325 7 67 [vR 78, vI x1, vI x2, vI x3, vI x4, vU, vU] [vI x4, vR 107] (SH T, c2))
        refine of_cev (Q := Q) ?_
        exact k
  · replace k := k.2 h
    show Q (cev 325 7 98 [vR 78, vU, vI x2, vI x3, vU, vU, vU] [] (SH T, c))
    refine of_cev (Q := Q) ?_
    exact k
set_option maxRecDepth 20000 in
theorem W_X12_line_70 {T : List Shp} {c : Nat → Int → Int} {Q : Res → Prop} {x1 x2 x3 x4 y0 y1 : Int} (k : (((0 ≤ y1 ∧ y1 < 8) ∧ (0 ≤ x4 ∧ x4 < 8)) ∧ ((((up c 106 y1 y0) 106 x4) < 100000000 → (((-2147483648 ≤ x3 + 1 ∧ x3 + 1 < 2147483648) ∧ (-2147483648 ≤ x4 + 1 ∧ x4 + 1 < 2147483648)) ∧ Q (cev 325 7 19 [vR 78, vI x1, vI x2, vI (x3 + 1), vI (x4 + 1), vU, vU] [] (SH T, (up c 106 y1 y0))))) ∧ (¬ ((up c 106 y1 y0) 106 x4) < 100000000 → (((-2147483648 ≤ x3 + 0 ∧ x3 + 0 < 2147483648) ∧ (-2147483648 ≤ x4 + 1 ∧ x4 + 1 < 2147483648)) ∧ Q (cev 325 7 19 [vR 78, vI x1, vI x2, vI (x3 + 0), vI (x4 + 1), vU, vU] [] (SH T, (up c 106 y1 y0)))))))) : Q (cev 325 7 70 [vR 78, vI x1, vI x2, vI x3, vI x4, vU, vU] [vI y0, vI y1, vR 107] (SH T, c)) := by
  refine of_cev (Q := Q) ?_
  refine wq_pos (Q := Q) k.1.1 ?_
  refine wq_pos (Q := Q) k.1.2 ?_
  replace k := k.2
  refine wq_ite (Q := Q) (p := ((up c 106 y1 y0) 106 x4) < 100000000) (fun h => ?_) (fun h => ?_)
  · replace k := k.1 h
    refine wq_pos (Q := Q) k.1.1 ?_
    refine wq_pos (Q := Q) k.1.2 ?_
    replace k := k.2
    exact k
  · replace k := k.2 h
    show Q (cev 325 7 89 [vR 78, vI x1, vI x2, vU, vI x4, vU, vU] [vI x3] (SH T, (up c 106 y1 y0)))
    refine of_cev (Q := Q) ?_
    refine wq_pos (Q := Q) k.1.1 ?_
    refine wq_pos (Q := Q) k.1.2 ?_
    replace k := k.2
    exact k
set_option maxRecDepth 20000 in
theorem W_X12_line_101 {T : List Shp} {c : Nat → Int → Int} {Q : Res → Prop} {x2 x3 x4 : Int} (k : ((x4 < (c 79 6) → ((x2 = (-1) → Q (cev 325 7 221 [vU, vU, vI x2, vI x3, vU, vU, vU] [] (SH T, c))) ∧ (¬ x2 = (-1) → Q (cev 325 7 124 [vR 78, vU, vI x2, vI x3, vI x4, vI 0, vI 0] [] (SH T, c))))) ∧ (¬ x4 < (c 79 6) → Q (cev 325 7 221 [vU, vU, vI x2, vI x3, vU, vU, vU] [] (SH T, c))))) : Q (cev 325 7 101 [vR 78, vU, vI x2, vI x3, vI x4, vU, vU] [] (SH T, c)) := by
  refine of_cev (Q := Q) ?_
  refine wq_ite (Q := Q) (p := x4 < (c 79 6)) (fun h => ?_) (fun h => ?_)
  · replace k := k.1 h
    refine wq_ite (Q := Q) (p := x2 = (-1)) (fun h => ?_) (fun h => ?_)
    · replace k := k.1 h
      exact k
    · replace k := k.2 h
      exact k
  · replace k := k.2 h
    exact k
set_option maxRecDepth 20000 in
theorem W_X12_line_124 {T : List Shp} {c : Nat → Int → Int} {Q : Res → Prop} {x2 x3 x4 x5 x6 : Int} (k : ((x6 < (c 79 6) → (((0 ≤ x6 ∧ x6 < 8) ∧ (0 ≤ x4 ∧ x4 < 8)) ∧ (((c 106 x6) < (c 106 x4) → (((-2147483648 ≤ x5 + 1 ∧ x5 + 1 < 2147483648) ∧ (-2147483648 ≤ x6 + 1 ∧ x6 + 1 < 2147483648)) ∧ Q (cev 325 7 124 [vR 78, vU, vI x2, vI x3, vI x4, vI (x5 + 1), vI (x6 + 1)] [] (SH T, c)))) ∧ (¬ (c 106 x6) < (c 106 x4) → (((0 ≤ x6 ∧ x6 < 8) ∧ (0 ≤ x4 ∧ x4 < 8)) ∧ (((c 106 x6) = (c 106 x4) → ((x6 < x4 → (((-2147483648 ≤ x5 + 1 ∧ x5 + 1 < 2147483648) ∧ (-2147483648 ≤ x6 + 1 ∧ x6 + 1 < 2147483648)) ∧ Q (cev 325 7 124 [vR 78, vU, vI x2, vI x3, vI x4, vI (x5 + 1), vI (x6 + 1)] [] (SH T, c)))) ∧ (¬ x6 < x4 → (((-2147483648 ≤ x5 + 0 ∧ x5 + 0 < 2147483648) ∧ (-2147483648 ≤ x6 + 1 ∧ x6 + 1 < 2147483648)) ∧ Q (cev 325 7 124 [vR 78, vU, vI x2, vI x3, vI x4, vI (x5 + 0), vI (x6 + 1)] [] (SH T, c)))))) ∧ (¬ (c 106 x6) = (c 106 x4) → (((-2147483648 ≤ x5 + 0 ∧ x5 + 0 < 2147483648) ∧ (-2147483648 ≤ x6 + 1 ∧ x6 + 1 < 2147483648)) ∧ Q (cev 325 7 124 [vR 78, vU, vI x2, vI x3, vI x4, vI (x5 + 0), vI (x6 + 1)] [] (SH T, c)))))))))) ∧ (¬ x6 < (c 79 6) → ((0 ≤ x4 ∧ x4 < 8) ∧ (((c 106 x4) < 100000000 → ((x5 = x2 → Q (some (some (vI x4), (SH T, c)))) ∧ (¬ x5 = x2 → ((-2147483648 ≤ x4 + 1 ∧ x4 + 1 < 2147483648) ∧ Q (cev 325 7 101 [vR 78, vU, vI x2, vI x3, vI (x4 + 1), vU, vU] [] (SH T, c)))))) ∧ (¬ (c 106 x4) < 100000000 → ((-2147483648 ≤ x4 + 1 ∧ x4 + 1 < 2147483648) ∧ Q (cev 325 7 101 [vR 78, vU, vI x2, vI x3, vI (x4 + 1), vU, vU] [] (SH T, c))))))))) : Q (cev 325 7 124 [vR 78, vU, vI x2, vI x3, vI x4, vI x5, vI x6] [] (SH T, c)) := by
  refine of_cev (Q := Q) ?_
  refine wq_ite (Q := Q) (p := x6 < (c 79 6)) (fun h => ?_) (fun h => ?_)
  · replace k := k.1 h
    refine wq_pos (Q := Q) k.1.1 ?_
    refine wq_pos (Q := Q) k.1.2 ?_
    replace k := k.2
    refine wq_ite (Q := Q) (p := (c 106 x6) < (c 106 x4)) (fun h => ?_) (fun h => ?_)
    · replace k := k.1 h
      show Q (cev 325 7 179 [vR 78, vU, vI x2, vI x3, vI x4, vU, vI x6] [vI x5] (SH T, c))
      refine of_cev (Q := Q) ?_
      refine wq_pos (Q := Q) k.1.1 ?_
      refine wq_pos (Q := Q) k.1.2 ?_
      replace k := k.2
      exact k
    · replace k := k.2 h
      refine wq_pos (Q := Q) k.1.1 ?_
      refine wq_pos (Q := Q) k.1.2 ?_
      replace k := k.2
      refine wq_ite (Q := Q) (p := (c 106 x6) = (c 106 x4)) (fun h => ?_) (fun h => ?_)
      · replace k := k.1 h
        refine wq_ite (Q := Q) (p := x6 < x4) (fun h => ?_) (fun h => ?_)
        · replace k := k.1 h
          show Q (cev 325 7 179 [vR 78, vU, vI x2, vI x3, vI x4, vU, vI x6] [vI x5] (SH T, c))
          refine of_cev (Q := Q) ?_
          refine wq_pos (Q := Q) k.1.1 ?_
          refine wq_pos (Q := Q) k.1.2 ?_
          replace k := k.2
          exact k
        · replace k := k.2 h
          show Q (cev 325 7 183 [vR 78, vU, vI x2, vI x3, vI x4, vU, vI x6] [vI x5] (SH T, c))
          refine of_cev (Q := Q) ?_
          refine wq_pos (Q := Q) k.1.1 ?_
          refine wq_pos (Q := Q) k.1.2 ?_
          replace k := k.2
          exact k
      · replace k := k.2 h
        show Q (cev 325 7 183 [vR 78, vU, vI x2, vI x3, vI x4, vU, vI x6] [vI x5] (SH T, c))
        refine of_cev (Q := Q) ?_
        refine wq_pos (Q := Q) k.1.1 ?_
        refine wq_pos (Q := Q) k.1.2 ?_
        replace k := k.2
        exact k
  · replace k := k.2 h
    show Q (cev 325 7 193 [vR 78, vU, vI x2, vI x3, vI x4, vI x5, vU] [] (SH T, c))
    refine of_cev (Q := Q) ?_
    refine wq_pos (Q := Q) k.1 ?_
    replace k := k.2
    refine wq_ite (Q := Q) (p := (c 106 x4) < 100000000) (fun h => ?_) (fun h => ?_)
    · replace k := k.1 h
      refine wq_ite (Q := Q) (p := x5 = x2) (fun h => ?_) (fun h => ?_)
      · replace k := k.1 h
        exact k
      · replace k := k.2 h
        show Q (cev 325 7 215 [vR 78, vU, vI x2, vI x3, vI x4, vU, vU] [] (SH T, c))
        refine of_cev (Q := Q) ?_
        refine wq_pos (Q := Q) k.1 ?_
        replace k := k.2
        exact k
    · replace k := k.2 h
      show Q (cev 325 7 215 [vR 78, vU, vI x2, vI x3, vI x4, vU, vU] [] (SH T, c))
      refine of_cev (Q := Q) ?_
      refine wq_pos (Q := Q) k.1 ?_
      replace k := k.2
      exact k
set_option maxRecDepth 20000 in
theorem W_X12_line_221 {T : List Shp} {c : Nat → Int → Int} {Q : Res → Prop} {x2 x3 : Int} (k : ((x2 = (-1) → Q (some (some (vI x3), (SH T, c)))) ∧ (¬ x2 = (-1) → Q (some (some (vI (-1)), (SH T, c)))))) : Q (cev 325 7 221 [vU, vU, vI x2, vI x3, vU, vU, vU] [] (SH T, c)) := by
  refine of_cev (Q := Q) ?_
  refine wq_ite (Q := Q) (p := x2 = (-1)) (fun h => ?_) (fun h => ?_)
  · replace k := k.1 h
    exact k
  · replace k := k.2 h
    show Q (cev 325 7 230 [vU, vU, vU, vU, vU, vU, vU] [] (SH T, c))
    refine of_cev (Q := Q) ?_
    exact k
set_option maxRecDepth 20000 in
theorem W_X12_readSum {T : List Shp} {c : Nat → Int → Int} {Q : Res → Prop} {x1 : Int} (k : ((0 ≤ x1 ∧ x1 < 120) ∧ (((c 77 15) = 0 → (QV T (fun c1 => (((-2147483648 ≤ x1 + 1 ∧ x1 + 1 < 2147483648) ∧ (0 ≤ (x1 + 1) ∧ (x1 + 1) < 120)) ∧ Q (some (none, (SH T, (up c1 107 (x1 + 1) (c1 77 19))))))) (ccal 240 [vR 78, vI 0] (SH T, (up c 107 x1 (c 77 19)))))) ∧ (¬ (c 77 15) = 0 → (((-2147483648 ≤ x1 + 1 ∧ x1 + 1 < 2147483648) ∧ (0 ≤ (x1 + 1) ∧ (x1 + 1) < 120)) ∧ Q (some (none, (SH T, (up (up c 107 x1 (c 77 19)) 107 (x1 + 1) (c 77 19)))))))))) : Q (ccal 326 [vR 78, vI x1] (SH T, c)) := by
  refine of_cev (Q := Q) ?_
  refine wq_pos (Q := Q) k.1 ?_
  replace k := k.2
  refine wq_ite (Q := Q) (p := (c 77 15) = 0) (fun h => ?_) (fun h => ?_)
  · replace k := k.1 h
    refine wq_callV (Q := Q) rfl k ?_
    intro c1 k
    show Q (cev 326 8 22 [vR 78, vI x1] [] (SH T, c1))
    refine of_cev (Q := Q) ?_
    refine wq_pos (Q := Q) k.1.1 ?_
    refine wq_pos (Q := Q) k.1.2 ?_
    replace k := k.2
    exact k
  · replace k := k.2 h
    show Q (cev 326 8 22 [vR 78, vI x1] [] (SH T, (up c 107 x1 (c 77 19))))
    refine of_cev (Q := Q) ?_
    refine wq_pos (Q := Q) k.1.1 ?_
    refine wq_pos (Q := Q) k.1.2 ?_
    replace k := k.2
    exact k
set_option maxRecDepth 20000 in
theorem W_X12_readHead {T : List Shp} {c : Nat → Int → Int} {Q : Res → Prop} (k : (((c 77 12) = 1 ∧ (c 77 13) = 641271301 → Q (cev 327 4 51 [vR 78, vI (b01 ((c 77 12) = 1 ∧ (c 77 13) = 16819668)), vU] [vI 3] (SH T, c))) ∧ (¬ ((c 77 12) = 1 ∧ (c 77 13) = 641271301) → (((c 77 12) = 1 ∧ (c 77 13) = 114201 → Q (cev 327 4 51 [vR 78, vI (b01 ((c 77 12) = 1 ∧ (c 77 13) = 16819668)), vU] [vI 4] (SH T, c))) ∧ (¬ ((c 77 12) = 1 ∧ (c 77 13) = 114201) → (((c 77 12) = 1 ∧ (c 77 13) = 21484648 → Q (cev 327 4 51 [vR 78, vI (b01 ((c 77 12) = 1 ∧ (c 77 13) = 16819668)), vU] [vI 5] (SH T, c))) ∧ (¬ ((c 77 12) = 1 ∧ (c 77 13) = 21484648) → Q (cev 327 4 51 [vR 78, vI (b01 ((c 77 12) = 1 ∧ (c 77 13) = 16819668)), vU] [vI (-1)] (SH T, c))))))))) : Q (ccal 327 [vR 78] (SH T, c)) := by
  refine of_cev (Q := Q) ?_
  refine wq_sum (Q := Q) rfl (S_X12_isWord T c 16819668) ?_
  refine wq_sum (Q := Q) rfl (S_X12_isWord T c 641271301) ?_
  refine wq_b01 (Q := Q) (p := (c 77 12) = 1 ∧ (c 77 13) = 641271301) (fun h => ?_) (fun h => ?_)
  · replace k := k.2 h
    show Q (cev 327 4 22 [vR 78, vI (b01 ((c 77 12) = 1 ∧ (c 77 13) = 16819668)), vU] [] (SH T, c))
    refine of_cev (Q := Q) ?_
    refine wq_sum (Q := Q) rfl (S_X12_isWord T c 114201) ?_
    refine wq_b01 (Q := Q) (p := (c 77 12) = 1 ∧ (c 77 13) = 114201) (fun h => ?_) (fun h => ?_)
    · replace k := k.2 h
      show Q (cev 327 4 36 [vR 78, vI (b01 ((c 77 12) = 1 ∧ (c 77 13) = 16819668)), vU] [] (SH T, c))
      refine of_cev (Q := Q) ?_
      refine wq_sum (Q := Q) rfl (S_X12_isWord T c 21484648) ?_
      refine wq_b01 (Q := Q) (p := (c 77 12) = 1 ∧ (c 77 13) = 21484648) (fun h => ?_) (fun h => ?_)
      · replace k := k.2 h
        show Q (cev 327 4 50 [vR 78, vI (b01 ((c 77 12) = 1 ∧ (c 77 13) = 16819668)), vU] [] (SH T, c))
        refine of_cev (Q := Q) ?_
        exact k
      · replace k := k.1 h
        exact k
    · replace k := k.1 h
      exact k
  · replace k := k.1 h
    exact k
set_option maxRecDepth 20000 in
theorem W_X12_readHead_51 {T : List Shp} {c : Nat → Int → Int} {Q : Res → Prop} {x1 y0 : Int} (k : ((x1 = 0 → ((y0 = (-1) → Q (cev 327 4 76 [vR 78, vI x1, vI y0] [vI 0, vR 78] (SH T, c))) ∧ (¬ y0 = (-1) → Q (cev 327 4 62 [vR 78, vI x1, vI y0] [vR 78] (SH T, c))))) ∧ (¬ x1 = 0 → Q (cev 327 4 62 [vR 78, vI x1, vI y0] [vR 78] (SH T, c))))) : Q (cev 327 4 51 [vR 78, vI x1, vU] [vI y0] (SH T, c)) := by
  refine of_cev (Q := Q) ?_
  refine wq_ite (Q := Q) (p := x1 = 0) (fun h => ?_) (fun h => ?_)
  · replace k := k.1 h
    refine wq_ite (Q := Q) (p := y0 = (-1)) (fun h => ?_) (fun h => ?_)
    · replace k := k.1 h
      show Q (cev 327 4 75 [vR 78, vI x1, vI y0] [vR 78] (SH T, c))
      refine of_cev (Q := Q) ?_
      exact k
    · replace k := k.2 h
      exact k
  · replace k := k.2 h
    exact k
set_option maxRecDepth 20000 in
theorem W_X12_readHead_62 {T : List Shp} {c : Nat → Int → Int} {Q : Res → Prop} {x1 x2 : Int} (k : (((c 77 17) < 12 → Q (cev 327 4 76 [vR 78, vI x1, vI x2] [vI 1, vR 78] (SH T, c))) ∧ (¬ (c 77 17) < 12 → Q (cev 327 4 76 [vR 78, vI x1, vI x2] [vI 0, vR 78] (SH T, c))))) : Q (cev 327 4 62 [vR 78, vI x1, vI x2] [vR 78] (SH T, c)) := by
  refine of_cev (Q := Q) ?_
  refine wq_ite (Q := Q) (p := (c 77 17) < 12) (fun h => ?_) (fun h => ?_)
  · replace k := k.1 h
    exact k
  · replace k := k.2 h
    show Q (cev 327 4 75 [vR 78, vI x1, vI x2] [vR 78] (SH T, c))
    refine of_cev (Q := Q) ?_
    exact k
set_option maxRecDepth 20000 in
theorem W_X12_readHead_76 {T : List Shp} {c : Nat → Int → Int} {Q : Res → Prop} {x1 x2 y0 : Int} (k : (QV T (fun c1 => (((c1 77 15) = 0 → ((x1 = 0 → Q (some (some (vI x2), (SH T, c1)))) ∧ (¬ x1 = 0 → (((c1 77 12) = 1 ∧ (c1 77 13) = 412456564 → Q (cev 327 4 135 [vR 78, vU, vU] [vI 0] (SH T, c1))) ∧ (¬ ((c1 77 12) = 1 ∧ (c1 77 13) = 412456564) → (((c1 77 12) = 1 ∧ (c1 77 13) = 111838500468 → Q (cev 327 4 135 [vR 78, vU, vU] [vI 1] (SH T, c1))) ∧ (¬ ((c1 77 12) = 1 ∧ (c1 77 13) = 111838500468) → (((c1 77 12) = 1 ∧ (c1 77 13) = 89 → Q (cev 327 4 135 [vR 78, vU, vU] [vI 2] (SH T, c1))) ∧ (¬ ((c1 77 12) = 1 ∧ (c1 77 13) = 89) → Q (cev 327 4 135 [vR 78, vU, vU] [vI (-1)] (SH T, c1))))))))))) ∧ (¬ (c1 77 15) = 0 → Q (some (some (vI x2), (SH T, c1)))))) (ccal 223 [vR 78, vI y0] (SH T, c)))) : Q (cev 327 4 76 [vR 78, vI x1, vI x2] [vI y0, vR 78] (SH T, c)) := by
  refine of_cev (Q := Q) ?_
  refine wq_callV (Q := Q) rfl k ?_
  intro c1 k
  refine wq_ite (Q := Q) (p := (c1 77 15) = 0) (fun h => ?_) (fun h => ?_)
  · replace k := k.1 h
    refine wq_ite (Q := Q) (p := x1 = 0) (fun h => ?_) (fun h => ?_)
    · replace k := k.1 h
      show Q (cev 327 4 90 [vU, vU, vI x2] [] (SH T, c1))
      refine of_cev (Q := Q) ?_
      exact k
    · replace k := k.2 h
      show Q (cev 327 4 92 [vR 78, vU, vU] [] (SH T, c1))
      refine of_cev (Q := Q) ?_
      refine wq_sum (Q := Q) rfl (S_X12_isWord T c1 412456564) ?_
      refine wq_b01 (Q := Q) (p := (c1 77 12) = 1 ∧ (c1 77 13) = 412456564) (fun h => ?_) (fun h => ?_)
      · replace k := k.2 h
        show Q (cev 327 4 106 [vR 78, vU, vU] [] (SH T, c1))
        refine of_cev (Q := Q) ?_
        refine wq_sum (Q := Q) rfl (S_X12_isWord T c1 111838500468) ?_
        refine wq_b01 (Q := Q) (p := (c1 77 12) = 1 ∧ (c1 77 13) = 111838500468) (fun h => ?_) (fun h => ?_)
        · replace k := k.2 h
          show Q (cev 327 4 120 [vR 78, vU, vU] [] (SH T, c1))
          refine of_cev (Q := Q) ?_
          refine wq_sum (Q := Q) rfl (S_X12_isWord T c1 89) ?_
          refine wq_b01 (Q := Q) (p := (c1 77 12) = 1 ∧ (c1 77 13) = 89) (fun h => ?_) (fun h => ?_)
          · replace k := k.2 h
            show Q (cev 327 4 134 [vR 78, vU, vU] [] (SH T, c1))
            refine of_cev (Q := Q) ?_
            exact k
          · replace k := k.1 h
            exact k
        · replace k := k.1 h
          exact k
      · replace k := k.1 h
        exact k
  · replace k := k.2 h
    show Q (cev 327 4 90 [vU, vU, vI x2] [] (SH T, c1))
    refine of_cev (Q := Q) ?_
    exact k
set_option maxRecDepth 20000 in
theorem W_X12_readHead_135 {T : List Shp} {c : Nat → Int → Int} {Q : Res → Prop} {y0 : Int} (k : ((y0 = (-1) → (QV T (fun c1 => Q (some (some (vI y0), (SH T, c1)))) (ccal 223 [vR 78, vI 0] (SH T, c)))) ∧ (¬ y0 = (-1) → (QV T (fun c2 => Q (some (some (vI y0), (SH T, c2)))) (ccal 223 [vR 78, vI 1] (SH T, c)))))) : Q (cev 327 4 135 [vR 78, vU, vU] [vI y0] (SH T, c)) := by
  refine of_cev (Q := Q) ?_
  refine wq_ite (Q := Q) (p := y0 = (-1)) (fun h => ?_) (fun h => ?_)
  · replace k := k.1 h
    show Q (cev 327 4 146 [vU, vU, vI y0] [vR 78] (SH T, c))
    refine of_cev (Q := Q) ?_
    refine wq_callV (Q := Q) rfl k ?_
    intro c1 k
    exact k
  · replace k := k.2 h
    refine wq_callV (Q := Q) rfl k ?_
    intro c2 k
    exact k
set_option maxRecDepth 20000 in
theorem W_X12_readOrder {T : List Shp} {c : Nat → Int → Int} {Q : Res → Prop} (k : (QI T (fun r1 c2 => (((c2 77 15) = 0 → (((-2147483648 ≤ 10 * (c2 77 17) ∧ 10 * (c2 77 17) < 2147483648) ∧ (-2147483648 ≤ (c2 77 17) + 1 ∧ (c2 77 17) + 1 < 2147483648) ∧ (0 ≤ (10 * (c2 77 17)) ∧ (10 * (c2 77 17)) < 120)) ∧ ((r1 = 2 → Q (cev 328 9 48 [vR 78, vI r1, vI (10 * (c2 77 17))] [] (SH T, (up (up c2 77 17 ((c2 77 17) + 1)) 107 (10 * (c2 77 17)) r1)))) ∧ (¬ r1 = 2 → ((r1 = 5 → Q (cev 328 9 48 [vR 78, vI r1, vI (10 * (c2 77 17))] [] (SH T, (up (up c2 77 17 ((c2 77 17) + 1)) 107 (10 * (c2 77 17)) r1)))) ∧ (¬ r1 = 5 → Q (cev 328 9 55 [vR 78, vI r1, vI (10 * (c2 77 17))] [] (SH T, (up (up c2 77 17 ((c2 77 17) + 1)) 107 (10 * (c2 77 17)) r1))))))))) ∧ (¬ (c2 77 15) = 0 → Q (some (none, (SH T, c2)))))) (ccal 327 [vR 78] (SH T, c)))) : Q (ccal 328 [vR 78] (SH T, c)) := by
  refine of_cev (Q := Q) ?_
  refine wq_callI (Q := Q) rfl k ?_
  intro r1 c2 k
  refine wq_ite (Q := Q) (p := (c2 77 15) = 0) (fun h => ?_) (fun h => ?_)
  · replace k := k.1 h
    show Q (cev 328 9 13 [vR 78, vI r1, vU] [] (SH T, c2))
    refine of_cev (Q := Q) ?_
    refine wq_pos (Q := Q) k.1.1 ?_
    refine wq_pos (Q := Q) k.1.2.1 ?_
    refine wq_pos (Q := Q) k.1.2.2 ?_
    replace k := k.2
    refine wq_ite (Q := Q) (p := r1 = 2) (fun h => ?_) (fun h => ?_)
    · replace k := k.1 h
      exact k
    · replace k := k.2 h
      refine wq_ite (Q := Q) (p := r1 = 5) (fun h => ?_) (fun h => ?_)
      · replace k := k.1 h
        exact k
      · replace k := k.2 h
        exact k
  · replace k := k.2 h
    exact k
set_option maxRecDepth 20000 in
theorem W_X12_readOrder_48 {T : List Shp} {c : Nat → Int → Int} {Q : Res → Prop} {x1 x2 : Int} (k : ((-2147483648 ≤ x2 + 1 ∧ x2 + 1 < 2147483648) ∧ (QV T (fun c1 => Q (cev 328 9 55 [vR 78, vI x1, vI x2] [] (SH T, c1))) (ccal 326 [vR 78, vI (x2 + 1)] (SH T, c))))) : Q (cev 328 9 48 [vR 78, vI x1, vI x2] [] (SH T, c)) := by
  refine of_cev (Q := Q) ?_
  refine wq_pos (Q := Q) k.1 ?_
  replace k := k.2
  refine wq_callV (Q := Q) rfl k ?_
  intro c1 k
  exact k
set_option maxRecDepth 20000 in
theorem W_X12_readOrder_55 {T : List Shp} {c : Nat → Int → Int} {Q : Res → Prop} {x1 x2 : Int} (k : ((x1 = 5 → (((c 77 15) = 0 → (QV T (fun c1 => ((-2147483648 ≤ x2 + 3 ∧ x2 + 3 < 2147483648) ∧ (QV T (fun c2 => Q (cev 328 9 85 [vR 78, vI x1, vI x2] [] (SH T, c2))) (ccal 326 [vR 78, vI (x2 + 3)] (SH T, c1))))) (ccal 223 [vR 78, vI (b01 ((c 77 12) = 1 ∧ (c 77 13) = 52))] (SH T, c)))) ∧ (¬ (c 77 15) = 0 → Q (cev 328 9 85 [vR 78, vI x1, vI x2] [] (SH T, c))))) ∧ (¬ x1 = 5 → Q (cev 328 9 85 [vR 78, vI x1, vI x2] [] (SH T, c))))) : Q (cev 328 9 55 [vR 78, vI x1, vI x2] [] (SH T, c)) := by
  refine of_cev (Q := Q) ?_
  refine wq_ite (Q := Q) (p := x1 = 5) (fun h => ?_) (fun h => ?_)
  · replace k := k.1 h
    refine wq_ite (Q := Q) (p := (c 77 15) = 0) (fun h => ?_) (fun h => ?_)
    · replace k := k.1 h
      refine wq_sum (Q := Q) rfl (S_X12_isWord T c 52) ?_
      refine wq_callV (Q := Q) rfl k ?_
      intro c1 k
      refine wq_pos (Q := Q) k.1 ?_
      replace k := k.2
      refine wq_callV (Q := Q) rfl k ?_
      intro c2 k
      exact k
    · replace k := k.2 h
      exact k
  · replace k := k.2 h
    exact k
set_option maxRecDepth 20000 in
theorem W_X12_readOrder_85 {T : List Shp} {c : Nat → Int → Int} {Q : Res → Prop} {x1 x2 : Int} (k : ((x1 = 5 → (((c 77 15) = 0 → (QV T (fun c1 => ((-2147483648 ≤ x2 + 5 ∧ x2 + 5 < 2147483648) ∧ (QV T (fun c2 => Q (cev 328 9 115 [vR 78, vU, vI x2] [] (SH T, c2))) (ccal 326 [vR 78, vI (x2 + 5)] (SH T, c1))))) (ccal 223 [vR 78, vI (b01 ((c 77 12) = 1 ∧ (c 77 13) = 763528))] (SH T, c)))) ∧ (¬ (c 77 15) = 0 → Q (cev 328 9 115 [vR 78, vU, vI x2] [] (SH T, c))))) ∧ (¬ x1 = 5 → Q (cev 328 9 115 [vR 78, vU, vI x2] [] (SH T, c))))) : Q (cev 328 9 85 [vR 78, vI x1, vI x2] [] (SH T, c)) := by
  refine of_cev (Q := Q) ?_
  refine wq_ite (Q := Q) (p := x1 = 5) (fun h => ?_) (fun h => ?_)
  · replace k := k.1 h
    refine wq_ite (Q := Q) (p := (c 77 15) = 0) (fun h => ?_) (fun h => ?_)
    · replace k := k.1 h
      refine wq_sum (Q := Q) rfl (S_X12_isWord T c 763528) ?_
      refine wq_callV (Q := Q) rfl k ?_
      intro c1 k
      refine wq_pos (Q := Q) k.1 ?_
      replace k := k.2
      refine wq_callV (Q := Q) rfl k ?_
      intro c2 k
      exact k
    · replace k := k.2 h
      exact k
  · replace k := k.2 h
    exact k
set_option maxRecDepth 20000 in
theorem W_X12_readOrder_115 {T : List Shp} {c : Nat → Int → Int} {Q : Res → Prop} {x2 : Int} (k : (((-2147483648 ≤ x2 + 9 ∧ x2 + 9 < 2147483648) ∧ (0 ≤ (x2 + 9) ∧ (x2 + 9) < 120)) ∧ (((c 77 15) = 0 → (((c 77 12) = 1 ∧ (c 77 13) = 21279923 → (QV T (fun c1 => ((-2147483648 ≤ x2 + 9 ∧ x2 + 9 < 2147483648) ∧ (QI T (fun r2 c3 => ((0 ≤ (x2 + 9) ∧ (x2 + 9) < 120) ∧ Q (cev 328 9 163 [vR 78, vU, vI x2] [] (SH T, (up c3 107 (x2 + 9) r2))))) (ccal 224 [vR 78, vL 1, vL 20] (SH T, c1))))) (ccal 220 [vR 78] (SH T, (up c 107 (x2 + 9) 1))))) ∧ (¬ ((c 77 12) = 1 ∧ (c 77 13) = 21279923) → Q (cev 328 9 163 [vR 78, vU, vI x2] [] (SH T, (up c 107 (x2 + 9) 1)))))) ∧ (¬ (c 77 15) = 0 → Q (cev 328 9 163 [vR 78, vU, vI x2] [] (SH T, (up c 107 (x2 + 9) 1))))))) : Q (cev 328 9 115 [vR 78, vU, vI x2] [] (SH T, c)) := by
  refine of_cev (Q := Q) ?_
  refine wq_pos (Q := Q) k.1.1 ?_
  refine wq_pos (Q := Q) k.1.2 ?_
  replace k := k.2
  refine wq_ite (Q := Q) (p := (c 77 15) = 0) (fun h => ?_) (fun h => ?_)
  · replace k := k.1 h
    refine wq_sum (Q := Q) rfl (S_X12_isWord T (up c 107 (x2 + 9) 1) 21279923) ?_
    refine wq_b01 (Q := Q) (p := (c 77 12) = 1 ∧ (c 77 13) = 21279923) (fun h => ?_) (fun h => ?_)
    · replace k := k.2 h
      exact k
    · replace k := k.1 h
      refine wq_callV (Q := Q) rfl k ?_
      intro c1 k
      refine wq_pos (Q := Q) k.1 ?_
      replace k := k.2
      refine wq_callI (Q := Q) rfl k ?_
      intro r2 c3 k
      refine wq_pos (Q := Q) k.1 ?_
      replace k := k.2
      exact k
  · replace k := k.2 h
    exact k
set_option maxRecDepth 20000 in
theorem W_X12_readOrder_163 {T : List Shp} {c : Nat → Int → Int} {Q : Res → Prop} {x2 : Int} (k : (((-2147483648 ≤ x2 + 7 ∧ x2 + 7 < 2147483648) ∧ (0 ≤ (x2 + 7) ∧ (x2 + 7) < 120)) ∧ (((c 77 15) = 0 → (((c 77 12) = 1 ∧ (c 77 13) = 294 → (QV T (fun c1 => (QV T (fun c2 => (((-2147483648 ≤ x2 + 8 ∧ x2 + 8 < 2147483648) ∧ (0 ≤ (x2 + 8) ∧ (x2 + 8) < 120)) ∧ Q (some (none, (SH T, (up c2 107 (x2 + 8) (c2 77 19))))))) (ccal 240 [vR 78, vI 1] (SH T, c1)))) (ccal 220 [vR 78] (SH T, (up c 107 (x2 + 7) (c 77 19)))))) ∧ (¬ ((c 77 12) = 1 ∧ (c 77 13) = 294) → (((-2147483648 ≤ x2 + 8 ∧ x2 + 8 < 2147483648) ∧ (0 ≤ (x2 + 8) ∧ (x2 + 8) < 120)) ∧ Q (some (none, (SH T, (up (up c 107 (x2 + 7) (c 77 19)) 107 (x2 + 8) (c 77 19))))))))) ∧ (¬ (c 77 15) = 0 → (((-2147483648 ≤ x2 + 8 ∧ x2 + 8 < 2147483648) ∧ (0 ≤ (x2 + 8) ∧ (x2 + 8) < 120)) ∧ Q (some (none, (SH T, (up (up c 107 (x2 + 7) (c 77 19)) 107 (x2 + 8) (c 77 19)))))))))) : Q (cev 328 9 163 [vR 78, vU, vI x2] [] (SH T, c)) := by
  refine of_cev (Q := Q) ?_
  refine wq_pos (Q := Q) k.1.1 ?_
  refine wq_pos (Q := Q) k.1.2 ?_
  replace k := k.2
  refine wq_ite (Q := Q) (p := (c 77 15) = 0) (fun h => ?_) (fun h => ?_)
  · replace k := k.1 h
    refine wq_sum (Q := Q) rfl (S_X12_isWord T (up c 107 (x2 + 7) (c 77 19)) 294) ?_
    refine wq_b01 (Q := Q) (p := (c 77 12) = 1 ∧ (c 77 13) = 294) (fun h => ?_) (fun h => ?_)
    · replace k := k.2 h
      show Q (cev 328 9 202 [vR 78, vU, vI x2] [] (SH T, (up c 107 (x2 + 7) (c 77 19))))
      refine of_cev (Q := Q) ?_
      refine wq_pos (Q := Q) k.1.1 ?_
      refine wq_pos (Q := Q) k.1.2 ?_
      replace k := k.2
      exact k
    · replace k := k.1 h
      refine wq_callV (Q := Q) rfl k ?_
      intro c1 k
      refine wq_callV (Q := Q) rfl k ?_
      intro c2 k
      show Q (cev 328 9 202 [vR 78, vU, vI x2] [] (SH T, c2))
      refine of_cev (Q := Q) ?_
      refine wq_pos (Q := Q) k.1.1 ?_
      refine wq_pos (Q := Q) k.1.2 ?_
      replace k := k.2
      exact k
  · replace k := k.2 h
    show Q (cev 328 9 202 [vR 78, vU, vI x2] [] (SH T, (up c 107 (x2 + 7) (c 77 19))))
    refine of_cev (Q := Q) ?_
    refine wq_pos (Q := Q) k.1.1 ?_
    refine wq_pos (Q := Q) k.1.2 ?_
    replace k := k.2
    exact k
set_option maxRecDepth 20000 in
theorem W_X12_setNow {T : List Shp} {c : Nat → Int → Int} {Q : Res → Prop} (k : (QI T (fun r1 c2 => (QI T (fun r3 c4 => (QI T (fun r5 c6 => Q (some (none, (SH T, (up (up c6 93 5 r5) 93 6 (c6 77 55)))))) (ccal 251 [vR 78, vI (c4 79 4)] (SH T, (up (up c4 93 3 r3) 93 4 (c4 79 5)))))) (ccal 274 [vR 78, vI (c2 79 4)] (SH T, (up c2 93 2 r1))))) (ccal 264 [vR 78, vI (c 79 4)] (SH T, (up c 93 1 (c 79 4)))))) : Q (ccal 329 [vR 78] (SH T, c)) := by
  refine of_cev (Q := Q) ?_
  refine wq_sum (Q := Q) rfl (S_X12_years T c ) ?_
  refine wq_sum (Q := Q) rfl (S_X12_years T (up c 93 1 (c 79 4)) ) ?_
  refine wq_callI (Q := Q) rfl k ?_
  intro r1 c2 k
  refine wq_sum (Q := Q) rfl (S_X12_years T (up c2 93 2 r1) ) ?_
  refine wq_callI (Q := Q) rfl k ?_
  intro r3 c4 k
  refine wq_sum (Q := Q) rfl (S_X12_years T (up (up c4 93 3 r3) 93 4 (c4 79 5)) ) ?_
  refine wq_callI (Q := Q) rfl k ?_
  intro r5 c6 k
  exact k
set_option maxRecDepth 20000 in
theorem W_X12_sumOf {T : List Shp} {c : Nat → Int → Int} {Q : Res → Prop} {x1 : Int} (k : (((0 ≤ x1 ∧ x1 < 120) ∧ (-2147483648 ≤ x1 + 1 ∧ x1 + 1 < 2147483648) ∧ (0 ≤ (x1 + 1) ∧ (x1 + 1) < 120)) ∧ (QV T (fun c1 => Q (some (some (vL (c1 77 35)), (SH T, (up c1 77 16 0))))) (ccal 247 [vR 78, vI (c 107 x1), vI (c 107 (x1 + 1))] (SH T, (up c 77 16 1)))))) : Q (ccal 330 [vR 78, vI x1] (SH T, c)) := by
  refine of_cev (Q := Q) ?_
  refine wq_pos (Q := Q) k.1.1 ?_
  refine wq_pos (Q := Q) k.1.2.1 ?_
  refine wq_pos (Q := Q) k.1.2.2 ?_
  replace k := k.2
  refine wq_callV (Q := Q) rfl k ?_
  intro c1 k
  exact k
set_option maxRecDepth 20000 in
theorem W_X12_run {T : List Shp} {c : Nat → Int → Int} {Q : Res → Prop} {x1 : Int} (k : (QV T (fun c1 => (((-2147483648 ≤ x1 + 7 ∧ x1 + 7 < 2147483648) ∧ (0 ≤ (x1 + 7) ∧ (x1 + 7) < 120) ∧ (-2147483648 ≤ x1 + 8 ∧ x1 + 8 < 2147483648) ∧ (0 ≤ (x1 + 8) ∧ (x1 + 8) < 120)) ∧ (((c1 107 (x1 + 7)) < (c1 107 (x1 + 8)) → ((-2147483648 ≤ x1 + 7 ∧ x1 + 7 < 2147483648) ∧ (QL T (fun r2 c3 => (((c3 77 34) = 0 → ((r2 = 0 → Q (some (some (vI 0), (SH T, c3)))) ∧ (¬ r2 = 0 → Q (cev 331 11 49 [vR 78, vI x1, vU, vU] [] (SH T, c3))))) ∧ (¬ (c3 77 34) = 0 → Q (some (some (vI 0), (SH T, c3)))))) (ccal 330 [vR 78, vI (x1 + 7)] (SH T, c1))))) ∧ (¬ (c1 107 (x1 + 7)) < (c1 107 (x1 + 8)) → Q (cev 331 11 49 [vR 78, vI x1, vU, vU] [] (SH T, c1)))))) (ccal 329 [vR 78] (SH T, c)))) : Q (ccal 331 [vR 78, vI x1] (SH T, c)) := by
  refine of_cev (Q := Q) ?_
  refine wq_callV (Q := Q) rfl k ?_
  intro c1 k
  refine wq_pos (Q := Q) k.1.1 ?_
  refine wq_pos (Q := Q) k.1.2.1 ?_
  refine wq_pos (Q := Q) k.1.2.2.1 ?_
  refine wq_pos (Q := Q) k.1.2.2.2 ?_
  replace k := k.2
  refine wq_ite (Q := Q) (p := (c1 107 (x1 + 7)) < (c1 107 (x1 + 8))) (fun h => ?_) (fun h => ?_)
  · replace k := k.1 h
    refine wq_pos (Q := Q) k.1 ?_
    replace k := k.2
    refine wq_callL (Q := Q) rfl k ?_
    intro r2 c3 k
    refine wq_ite (Q := Q) (p := (c3 77 34) = 0) (fun h => ?_) (fun h => ?_)
    · replace k := k.1 h
      refine wq_lc1 (Q := Q) (x := r2) (y := 0) (fun h => ?_) (fun h => ?_)
      · replace k := k.1 h
        show Q (cev 331 11 47 [vU, vU, vU, vU] [] (SH T, c3))
        refine of_cev (Q := Q) ?_
        exact k
      · replace k := k.2 h
        exact k
    · replace k := k.2 h
      show Q (cev 331 11 47 [vU, vU, vU, vU] [] (SH T, c3))
      refine of_cev (Q := Q) ?_
      exact k
  · replace k := k.2 h
    exact k
set_option maxRecDepth 20000 in
theorem W_X12_run_49 {T : List Shp} {c : Nat → Int → Int} {Q : Res → Prop} {x1 : Int} (k : ((0 ≤ x1 ∧ x1 < 120) ∧ (QI T (fun r1 c2 => ((r1 < 0 → Q (cev 331 11 75 [vU, vU, vI r1, vU] [vI 0, vI (c2 77 55), vR 78] (SH T, c2))) ∧ (¬ r1 < 0 → Q (cev 331 11 75 [vU, vU, vI r1, vU] [vI 1, vI (c2 77 55), vR 78] (SH T, c2))))) (ccal 332 [vR 78, vI x1, vI (c 107 x1)] (SH T, c))))) : Q (cev 331 11 49 [vR 78, vI x1, vU, vU] [] (SH T, c)) := by
  refine of_cev (Q := Q) ?_
  refine wq_pos (Q := Q) k.1 ?_
  replace k := k.2
  refine wq_callI (Q := Q) rfl k ?_
  intro r1 c2 k
  refine wq_ite (Q := Q) (p := r1 < 0) (fun h => ?_) (fun h => ?_)
  · replace k := k.1 h
    exact k
  · replace k := k.2 h
    show Q (cev 331 11 74 [vU, vU, vI r1, vU] [vI (c2 77 55), vR 78] (SH T, c2))
    refine of_cev (Q := Q) ?_
    exact k
set_option maxRecDepth 20000 in
theorem W_X12_run_75 {T : List Shp} {c : Nat → Int → Int} {Q : Res → Prop} {x2 y0 y1 : Int} (k : ((-2147483648 ≤ y1 + y0 ∧ y1 + y0 < 2147483648) ∧ ((x2 < 0 → Q (some (some (vI x2), (SH T, (up c 77 55 (y1 + y0)))))) ∧ (¬ x2 < 0 → Q (some (some (vI 0), (SH T, (up c 77 55 (y1 + y0))))))))) : Q (cev 331 11 75 [vU, vU, vI x2, vU] [vI y0, vI y1, vR 78] (SH T, c)) := by
  refine of_cev (Q := Q) ?_
  refine wq_pos (Q := Q) k.1 ?_
  replace k := k.2
  refine wq_ite (Q := Q) (p := x2 < 0) (fun h => ?_) (fun h => ?_)
  · replace k := k.1 h
    exact k
  · replace k := k.2 h
    show Q (cev 331 11 87 [vU, vU, vU, vU] [] (SH T, (up c 77 55 (y1 + y0))))
    refine of_cev (Q := Q) ?_
    exact k
set_option maxRecDepth 20000 in
theorem W_X12_act {T : List Shp} {c : Nat → Int → Int} {Q : Res → Prop} {x1 x2 : Int} (k : ((x2 = 2 → ((-2147483648 ≤ x1 + 1 ∧ x1 + 1 < 2147483648) ∧ (QL T (fun r1 c2 => (((c2 77 34) = 0 → ((-9223372036854775808 ≤ (c2 79 0) - 1 ∧ (c2 79 0) - 1 < 9223372036854775808) ∧ ((0 ≤ r1 ∧ r1 ≤ ((c2 79 0) - 1) → (QI T (fun r3 c4 => Q (some (some (vI r3), (SH T, c4)))) (ccal 266 [vR 78, vI (w32 r1)] (SH T, c2)))) ∧ (¬ (0 ≤ r1 ∧ r1 ≤ ((c2 79 0) - 1)) → Q (some (some (vI (-3)), (SH T, c2))))))) ∧ (¬ (c2 77 34) = 0 → Q (some (some (vI (-3)), (SH T, c2)))))) (ccal 330 [vR 78, vI (x1 + 1)] (SH T, c))))) ∧ ((x2 = 3 → (((c 79 4) = 0 → Q (some (some (vI (-3)), (SH T, c)))) ∧ (¬ (c 79 4) = 0 → ((-2147483648 ≤ (c 79 4) - 1 ∧ (c 79 4) - 1 < 2147483648) ∧ Q (some (some (vI 0), (SH T, (up c 79 4 ((c 79 4) - 1))))))))) ∧ ((x2 = 4 → (QI T (fun r5 c6 => Q (some (some (vI r5), (SH T, c6)))) (ccal 285 [vR 78] (SH T, c)))) ∧ ((x2 = 5 → (QI T (fun r7 c8 => Q (some (some (vI r7), (SH T, c8)))) (ccal 333 [vR 78, vI x1] (SH T, c)))) ∧ (¬ (x2 = 2 ∨ x2 = 3 ∨ x2 = 4 ∨ x2 = 5) → (QV T (fun c9 => (((c9 77 46) = 0 → Q (some (some (vI (-3)), (SH T, c9)))) ∧ (¬ (c9 77 46) = 0 → (QI T (fun r10 c11 => Q (some (some (vI r10), (SH T, c11)))) (ccal 266 [vR 78, vI (c9 98 0)] (SH T, c9)))))) (ccal 278 [vR 78, vI x2, vI 1] (SH T, c))))))))) : Q (ccal 332 [vR 78, vI x1, vI x2] (SH T, c)) := by
  refine of_cev (Q := Q) ?_
  refine wq_ite (Q := Q) (p := x2 = 2) (fun h0 => ?_) (fun h0 => ?_)
  · replace k := k.1 h0
    show Q (cev 332 10 65 [vR 78, vI x1, vU, vU, vU] [] (SH T, c))
    refine of_cev (Q := Q) ?_
    refine wq_pos (Q := Q) k.1 ?_
    replace k := k.2
    refine wq_callL (Q := Q) rfl k ?_
    intro r1 c2 k
    refine wq_ite (Q := Q) (p := (c2 77 34) = 0) (fun h => ?_) (fun h => ?_)
    · replace k := k.1 h
      refine wq_pos (Q := Q) k.1 ?_
      refine wq_sum (Q := Q) rfl (S_X12_in T c2 r1 0 ((c2 79 0) - 1)) ?_
      replace k := k.2
      refine wq_b01 (Q := Q) (p := 0 ≤ r1 ∧ r1 ≤ ((c2 79 0) - 1)) (fun h => ?_) (fun h => ?_)
      · replace k := k.2 h
        show Q (cev 332 10 97 [vU, vU, vU, vU, vU] [] (SH T, c2))
        refine of_cev (Q := Q) ?_
        exact k
      · replace k := k.1 h
        show Q (cev 332 10 102 [vR 78, vU, vU, vL r1, vU] [] (SH T, c2))
        refine of_cev (Q := Q) ?_
        refine wq_callI (Q := Q) rfl k ?_
        intro r3 c4 k
        exact k
    · replace k := k.2 h
      show Q (cev 332 10 97 [vU, vU, vU, vU, vU] [] (SH T, c2))
      refine of_cev (Q := Q) ?_
      exact k
  replace k := k.2
  refine wq_ite (Q := Q) (p := x2 = 3) (fun h1 => ?_) (fun h1 => ?_)
  · replace k := k.1 h1
    show Q (cev 332 10 32 [vR 78, vU, vU, vU, vU] [] (SH T, c))
    refine of_cev (Q := Q) ?_
    refine wq_sum (Q := Q) rfl (S_X12_years T c ) ?_
    refine wq_ite (Q := Q) (p := (c 79 4) = 0) (fun h => ?_) (fun h => ?_)
    · replace k := k.1 h
      exact k
    · replace k := k.2 h
      show Q (cev 332 10 42 [vR 78, vU, vU, vU, vU] [] (SH T, c))
      refine of_cev (Q := Q) ?_
      refine wq_pos (Q := Q) k.1 ?_
      replace k := k.2
      exact k
  replace k := k.2
  refine wq_ite (Q := Q) (p := x2 = 4) (fun h2 => ?_) (fun h2 => ?_)
  · replace k := k.1 h2
    show Q (cev 332 10 54 [vR 78, vU, vU, vU, vU] [] (SH T, c))
    refine of_cev (Q := Q) ?_
    refine wq_callI (Q := Q) rfl k ?_
    intro r5 c6 k
    exact k
  replace k := k.2
  refine wq_ite (Q := Q) (p := x2 = 5) (fun h3 => ?_) (fun h3 => ?_)
  · replace k := k.1 h3
    show Q (cev 332 10 59 [vR 78, vI x1, vU, vU, vU] [] (SH T, c))
    refine of_cev (Q := Q) ?_
    refine wq_callI (Q := Q) rfl k ?_
    intro r7 c8 k
    exact k
  replace k := k.2
  replace k := k (fun h => by rcases h with h | h | h | h <;> first | exact h0 h | exact h1 h | exact h2 h | exact h3 h)
  show Q (cev 332 10 109 [vR 78, vU, vI x2, vU, vU] [] (SH T, c))
  refine of_cev (Q := Q) ?_
  refine wq_callV (Q := Q) rfl k ?_
  intro c9 k
  refine wq_ite (Q := Q) (p := (c9 77 46) = 0) (fun h => ?_) (fun h => ?_)
  · replace k := k.1 h
    exact k
  · replace k := k.2 h
    show Q (cev 332 10 127 [vR 78, vU, vU, vU, vU] [] (SH T, c9))
    refine of_cev (Q := Q) ?_
    refine wq_callI (Q := Q) rfl k ?_
    intro r10 c11 k
    exact k
set_option maxRecDepth 20000 in
theorem W_X12_touchNow {T : List Shp} {c : Nat → Int → Int} {Q : Res → Prop} {x1 : Int} (k : ((-2147483648 ≤ x1 + 1 ∧ x1 + 1 < 2147483648) ∧ (QL T (fun r1 c2 => (((c2 77 34) = 0 → Q (cev 333 5 20 [vR 78, vI x1, vL r1, vU, vU, vU, vU, vU, vU] [vI 1] (SH T, c2))) ∧ (¬ (c2 77 34) = 0 → Q (cev 333 5 20 [vR 78, vI x1, vL r1, vU, vU, vU, vU, vU, vU] [vI 0] (SH T, c2))))) (ccal 330 [vR 78, vI (x1 + 1)] (SH T, c))))) : Q (ccal 333 [vR 78, vI x1] (SH T, c)) := by
  refine of_cev (Q := Q) ?_
  refine wq_pos (Q := Q) k.1 ?_
  replace k := k.2
  refine wq_callL (Q := Q) rfl k ?_
  intro r1 c2 k
  refine wq_ite (Q := Q) (p := (c2 77 34) = 0) (fun h => ?_) (fun h => ?_)
  · replace k := k.1 h
    exact k
  · replace k := k.2 h
    show Q (cev 333 5 19 [vR 78, vI x1, vL r1, vU, vU, vU, vU, vU, vU] [] (SH T, c2))
    refine of_cev (Q := Q) ?_
    exact k
set_option maxRecDepth 20000 in
theorem W_X12_touchNow_20 {T : List Shp} {c : Nat → Int → Int} {Q : Res → Prop} {x1 x2 y0 : Int} (k : ((y0 = 0 → Q (cev 333 5 38 [vR 78, vI x1, vL x2, vU, vI y0, vU, vU, vU, vU] [vL 0] (SH T, c))) ∧ (¬ y0 = 0 → ((-2147483648 ≤ x1 + 3 ∧ x1 + 3 < 2147483648) ∧ (QL T (fun r1 c2 => Q (cev 333 5 38 [vR 78, vI x1, vL x2, vU, vI y0, vU, vU, vU, vU] [vL r1] (SH T, c2))) (ccal 330 [vR 78, vI (x1 + 3)] (SH T, c))))))) : Q (cev 333 5 20 [vR 78, vI x1, vL x2, vU, vU, vU, vU, vU, vU] [vI y0] (SH T, c)) := by
  refine of_cev (Q := Q) ?_
  refine wq_ite (Q := Q) (p := y0 = 0) (fun h => ?_) (fun h => ?_)
  · replace k := k.1 h
    show Q (cev 333 5 37 [vR 78, vI x1, vL x2, vU, vI y0, vU, vU, vU, vU] [] (SH T, c))
    refine of_cev (Q := Q) ?_
    exact k
  · replace k := k.2 h
    refine wq_pos (Q := Q) k.1 ?_
    replace k := k.2
    refine wq_callL (Q := Q) rfl k ?_
    intro r1 c2 k
    exact k
set_option maxRecDepth 20000 in
theorem W_X12_touchNow_38 {T : List Shp} {c : Nat → Int → Int} {Q : Res → Prop} {x1 x2 x4 y0 : Int} (k : ((x4 = 0 → Q (cev 333 5 57 [vR 78, vI x1, vL x2, vU, vU, vL y0, vU, vU, vU] [vI 0] (SH T, c))) ∧ (¬ x4 = 0 → (((c 77 34) = 0 → Q (cev 333 5 57 [vR 78, vI x1, vL x2, vU, vU, vL y0, vU, vU, vU] [vI 1] (SH T, c))) ∧ (¬ (c 77 34) = 0 → Q (cev 333 5 57 [vR 78, vI x1, vL x2, vU, vU, vL y0, vU, vU, vU] [vI 0] (SH T, c))))))) : Q (cev 333 5 38 [vR 78, vI x1, vL x2, vU, vI x4, vU, vU, vU, vU] [vL y0] (SH T, c)) := by
  refine of_cev (Q := Q) ?_
  refine wq_ite (Q := Q) (p := x4 = 0) (fun h => ?_) (fun h => ?_)
  · replace k := k.1 h
    show Q (cev 333 5 56 [vR 78, vI x1, vL x2, vU, vU, vL y0, vU, vU, vU] [] (SH T, c))
    refine of_cev (Q := Q) ?_
    exact k
  · replace k := k.2 h
    refine wq_ite (Q := Q) (p := (c 77 34) = 0) (fun h => ?_) (fun h => ?_)
    · replace k := k.1 h
      exact k
    · replace k := k.2 h
      show Q (cev 333 5 56 [vR 78, vI x1, vL x2, vU, vU, vL y0, vU, vU, vU] [] (SH T, c))
      refine of_cev (Q := Q) ?_
      exact k
set_option maxRecDepth 20000 in
theorem W_X12_touchNow_57 {T : List Shp} {c : Nat → Int → Int} {Q : Res → Prop} {x1 x2 x5 y0 : Int} (k : ((y0 = 0 → Q (cev 333 5 75 [vR 78, vU, vL x2, vU, vI y0, vL x5, vU, vU, vU] [vL 0] (SH T, c))) ∧ (¬ y0 = 0 → ((-2147483648 ≤ x1 + 5 ∧ x1 + 5 < 2147483648) ∧ (QL T (fun r1 c2 => Q (cev 333 5 75 [vR 78, vU, vL x2, vU, vI y0, vL x5, vU, vU, vU] [vL r1] (SH T, c2))) (ccal 330 [vR 78, vI (x1 + 5)] (SH T, c))))))) : Q (cev 333 5 57 [vR 78, vI x1, vL x2, vU, vU, vL x5, vU, vU, vU] [vI y0] (SH T, c)) := by
  refine of_cev (Q := Q) ?_
  refine wq_ite (Q := Q) (p := y0 = 0) (fun h => ?_) (fun h => ?_)
  · replace k := k.1 h
    show Q (cev 333 5 74 [vR 78, vU, vL x2, vU, vI y0, vL x5, vU, vU, vU] [] (SH T, c))
    refine of_cev (Q := Q) ?_
    exact k
  · replace k := k.2 h
    refine wq_pos (Q := Q) k.1 ?_
    replace k := k.2
    refine wq_callL (Q := Q) rfl k ?_
    intro r1 c2 k
    exact k
set_option maxRecDepth 20000 in
theorem W_X12_touchNow_75 {T : List Shp} {c : Nat → Int → Int} {Q : Res → Prop} {x2 x4 x5 y0 : Int} (k : ((x4 = 0 → Q (cev 333 5 94 [vR 78, vU, vL x2, vU, vU, vL x5, vU, vL y0, vU] [vI 0] (SH T, c))) ∧ (¬ x4 = 0 → (((c 77 34) = 0 → Q (cev 333 5 94 [vR 78, vU, vL x2, vU, vU, vL x5, vU, vL y0, vU] [vI 1] (SH T, c))) ∧ (¬ (c 77 34) = 0 → Q (cev 333 5 94 [vR 78, vU, vL x2, vU, vU, vL x5, vU, vL y0, vU] [vI 0] (SH T, c))))))) : Q (cev 333 5 75 [vR 78, vU, vL x2, vU, vI x4, vL x5, vU, vU, vU] [vL y0] (SH T, c)) := by
  refine of_cev (Q := Q) ?_
  refine wq_ite (Q := Q) (p := x4 = 0) (fun h => ?_) (fun h => ?_)
  · replace k := k.1 h
    show Q (cev 333 5 93 [vR 78, vU, vL x2, vU, vU, vL x5, vU, vL y0, vU] [] (SH T, c))
    refine of_cev (Q := Q) ?_
    exact k
  · replace k := k.2 h
    refine wq_ite (Q := Q) (p := (c 77 34) = 0) (fun h => ?_) (fun h => ?_)
    · replace k := k.1 h
      exact k
    · replace k := k.2 h
      show Q (cev 333 5 93 [vR 78, vU, vL x2, vU, vU, vL x5, vU, vL y0, vU] [] (SH T, c))
      refine of_cev (Q := Q) ?_
      exact k
set_option maxRecDepth 20000 in
theorem W_X12_touchNow_94 {T : List Shp} {c : Nat → Int → Int} {Q : Res → Prop} {x2 x5 x7 y0 : Int} (k : ((y0 = 0 → Q (some (some (vI (-3)), (SH T, c)))) ∧ (¬ y0 = 0 → ((-9223372036854775808 ≤ (c 79 5) - 1 ∧ (c 79 5) - 1 < 9223372036854775808) ∧ ((0 ≤ x2 ∧ x2 ≤ ((c 79 5) - 1) → ((0 ≤ x5 ∧ x5 ≤ 11 → ((0 ≤ x7 ∧ x7 ≤ 9 → (((-2147483648 ≤ 12 * (w32 x2) ∧ 12 * (w32 x2) < 2147483648) ∧ (-2147483648 ≤ 276 + (12 * (w32 x2)) ∧ 276 + (12 * (w32 x2)) < 2147483648) ∧ (-2147483648 ≤ (276 + (12 * (w32 x2))) + (w32 x5) ∧ (276 + (12 * (w32 x2))) + (w32 x5) < 2147483648) ∧ (0 ≤ ((276 + (12 * (w32 x2))) + (w32 x5)) ∧ ((276 + (12 * (w32 x2))) + (w32 x5)) < 5780)) ∧ Q (some (some (vI 0), (SH T, (up c 79 ((276 + (12 * (w32 x2))) + (w32 x5)) (w32 x7))))))) ∧ (¬ (0 ≤ x7 ∧ x7 ≤ 9) → Q (some (some (vI (-3)), (SH T, c)))))) ∧ (¬ (0 ≤ x5 ∧ x5 ≤ 11) → Q (some (some (vI (-3)), (SH T, c)))))) ∧ (¬ (0 ≤ x2 ∧ x2 ≤ ((c 79 5) - 1)) → Q (some (some (vI (-3)), (SH T, c))))))))) : Q (cev 333 5 94 [vR 78, vU, vL x2, vU, vU, vL x5, vU, vL x7, vU] [vI y0] (SH T, c)) := by
  refine of_cev (Q := Q) ?_
  refine wq_ite (Q := Q) (p := y0 = 0) (fun h => ?_) (fun h => ?_)
  · replace k := k.1 h
    show Q (cev 333 5 142 [vU, vU, vU, vU, vU, vU, vU, vU, vU] [] (SH T, c))
    refine of_cev (Q := Q) ?_
    exact k
  · replace k := k.2 h
    refine wq_pos (Q := Q) k.1 ?_
    refine wq_sum (Q := Q) rfl (S_X12_in T c x2 0 ((c 79 5) - 1)) ?_
    replace k := k.2
    refine wq_b01 (Q := Q) (p := 0 ≤ x2 ∧ x2 ≤ ((c 79 5) - 1)) (fun h => ?_) (fun h => ?_)
    · replace k := k.2 h
      show Q (cev 333 5 142 [vU, vU, vU, vU, vU, vU, vU, vU, vU] [] (SH T, c))
      refine of_cev (Q := Q) ?_
      exact k
    · replace k := k.1 h
      refine wq_sum (Q := Q) rfl (S_X12_in T c x5 0 11) ?_
      refine wq_b01 (Q := Q) (p := 0 ≤ x5 ∧ x5 ≤ 11) (fun h => ?_) (fun h => ?_)
      · replace k := k.2 h
        show Q (cev 333 5 142 [vU, vU, vU, vU, vU, vU, vU, vU, vU] [] (SH T, c))
        refine of_cev (Q := Q) ?_
        exact k
      · replace k := k.1 h
        refine wq_sum (Q := Q) rfl (S_X12_in T c x7 0 9) ?_
        refine wq_b01 (Q := Q) (p := 0 ≤ x7 ∧ x7 ≤ 9) (fun h => ?_) (fun h => ?_)
        · replace k := k.2 h
          show Q (cev 333 5 142 [vU, vU, vU, vU, vU, vU, vU, vU, vU] [] (SH T, c))
          refine of_cev (Q := Q) ?_
          exact k
        · replace k := k.1 h
          show Q (cev 333 5 145 [vR 78, vU, vL x2, vU, vU, vL x5, vU, vL x7, vU] [] (SH T, c))
          refine of_cev (Q := Q) ?_
          refine wq_pos (Q := Q) k.1.1 ?_
          refine wq_pos (Q := Q) k.1.2.1 ?_
          refine wq_pos (Q := Q) k.1.2.2.1 ?_
          refine wq_pos (Q := Q) k.1.2.2.2 ?_
          replace k := k.2
          exact k
set_option maxRecDepth 20000 in
theorem W_X12_orders {T : List Shp} {c : Nat → Int → Int} {Q : Res → Prop} (k : (QV T (fun c1 => (QV T (fun c2 => Q (cev 334 12 19 [vR 78, vU, vU, vU, vU] [] (SH T, c2))) (ccal 328 [vR 78] (SH T, c1)))) (ccal 242 [vR 78, vI 1] (SH T, (up (up c 77 0 0) 77 56 (-1)))))) : Q (ccal 334 [vR 78] (SH T, c)) := by
  refine of_cev (Q := Q) ?_
  refine wq_callV (Q := Q) rfl k ?_
  intro c1 k
  refine wq_callV (Q := Q) rfl k ?_
  intro c2 k
  exact k
set_option maxRecDepth 20000 in
theorem W_X12_orders_19 {T : List Shp} {c : Nat → Int → Int} {Q : Res → Prop} (k : (((c 77 15) = 0 → (((c 77 12) = 3 ∧ (c 77 13) = 59 → (QV T (fun c1 => (QV T (fun c2 => Q (cev 334 12 19 [vR 78, vU, vU, vU, vU] [] (SH T, c2))) (ccal 328 [vR 78] (SH T, c1)))) (ccal 220 [vR 78] (SH T, c)))) ∧ (¬ ((c 77 12) = 3 ∧ (c 77 13) = 59) → Q (cev 334 12 46 [vR 78, vU, vU, vU, vU] [] (SH T, c))))) ∧ (¬ (c 77 15) = 0 → Q (cev 334 12 46 [vR 78, vU, vU, vU, vU] [] (SH T, c))))) : Q (cev 334 12 19 [vR 78, vU, vU, vU, vU] [] (SH T, c)) := by
  refine of_cev (Q := Q) ?_
  refine wq_ite (Q := Q) (p := (c 77 15) = 0) (fun h => ?_) (fun h => ?_)
  · replace k := k.1 h
    refine wq_sum (Q := Q) rfl (S_X12_isSign T c 59) ?_
    refine wq_b01 (Q := Q) (p := (c 77 12) = 3 ∧ (c 77 13) = 59) (fun h => ?_) (fun h => ?_)
    · replace k := k.2 h
      exact k
    · replace k := k.1 h
      refine wq_callV (Q := Q) rfl k ?_
      intro c1 k
      refine wq_callV (Q := Q) rfl k ?_
      intro c2 k
      exact k
  · replace k := k.2 h
    exact k
set_option maxRecDepth 20000 in
theorem W_X12_orders_46 {T : List Shp} {c : Nat → Int → Int} {Q : Res → Prop} (k : (QV T (fun c1 => (((c1 77 15) = 0 → Q (cev 334 12 66 [vR 78, vI 0, vU, vU, vU] [] (SH T, c1))) ∧ (¬ (c1 77 15) = 0 → ((-2147483648 ≤ (c1 78 6) + 1 ∧ (c1 78 6) + 1 < 2147483648) ∧ Q (some (some (vI (-6)), (SH T, (up (up c1 77 1 (-6)) 78 6 ((c1 78 6) + 1))))))))) (ccal 243 [vR 78] (SH T, c)))) : Q (cev 334 12 46 [vR 78, vU, vU, vU, vU] [] (SH T, c)) := by
  refine of_cev (Q := Q) ?_
  refine wq_callV (Q := Q) rfl k ?_
  intro c1 k
  refine wq_ite (Q := Q) (p := (c1 77 15) = 0) (fun h => ?_) (fun h => ?_)
  · replace k := k.1 h
    show Q (cev 334 12 64 [vR 78, vU, vU, vU, vU] [] (SH T, c1))
    refine of_cev (Q := Q) ?_
    exact k
  · replace k := k.2 h
    refine wq_sum (Q := Q) rfl (S_X12_tell_6 T c1 k.1) ?_
    replace k := k.2
    exact k
set_option maxRecDepth 20000 in
theorem W_X12_orders_66 {T : List Shp} {c : Nat → Int → Int} {Q : Res → Prop} {x1 : Int} (k : ((x1 < 5780 → (((0 ≤ x1 ∧ x1 < 5780) ∧ (-2147483648 ≤ x1 + 1 ∧ x1 + 1 < 2147483648)) ∧ Q (cev 334 12 66 [vR 78, vI (x1 + 1), vU, vU, vU] [] (SH T, (up c 81 x1 (c 79 x1)))))) ∧ (¬ x1 < 5780 → Q (cev 334 12 98 [vR 78, vI 0, vU, vU, vU] [] (SH T, (up c 77 55 0)))))) : Q (cev 334 12 66 [vR 78, vI x1, vU, vU, vU] [] (SH T, c)) := by
  refine of_cev (Q := Q) ?_
  refine wq_ite (Q := Q) (p := x1 < 5780) (fun h => ?_) (fun h => ?_)
  · replace k := k.1 h
    refine wq_pos (Q := Q) k.1.1 ?_
    refine wq_pos (Q := Q) k.1.1 ?_
    refine wq_pos (Q := Q) k.1.2 ?_
    replace k := k.2
    exact k
  · replace k := k.2 h
    show Q (cev 334 12 91 [vR 78, vU, vU, vU, vU] [] (SH T, c))
    refine of_cev (Q := Q) ?_
    exact k
set_option maxRecDepth 20000 in
theorem W_X12_orders_98 {T : List Shp} {c : Nat → Int → Int} {Q : Res → Prop} {x1 : Int} (k : ((x1 < (c 77 17) → Q (cev 334 12 108 [vR 78, vI x1, vI 0, vU, vU] [] (SH T, c))) ∧ (¬ x1 < (c 77 17) → (QI T (fun r1 c2 => Q (some (some (vI r1), (SH T, c2)))) (ccal 190 [vR 78, vI (c 77 55)] (SH T, c)))))) : Q (cev 334 12 98 [vR 78, vI x1, vU, vU, vU] [] (SH T, c)) := by
  refine of_cev (Q := Q) ?_
  refine wq_ite (Q := Q) (p := x1 < (c 77 17)) (fun h => ?_) (fun h => ?_)
  · replace k := k.1 h
    exact k
  · replace k := k.2 h
    show Q (cev 334 12 191 [vR 78, vU, vU, vU, vU] [] (SH T, c))
    refine of_cev (Q := Q) ?_
    refine wq_callI (Q := Q) rfl k ?_
    intro r1 c2 k
    exact k
set_option maxRecDepth 20000 in
theorem W_X12_orders_108 {T : List Shp} {c : Nat → Int → Int} {Q : Res → Prop} {x1 x2 : Int} (k : (((-2147483648 ≤ 10 * x1 ∧ 10 * x1 < 2147483648) ∧ (-2147483648 ≤ (10 * x1) + 9 ∧ (10 * x1) + 9 < 2147483648) ∧ (0 ≤ ((10 * x1) + 9) ∧ ((10 * x1) + 9) < 120)) ∧ ((x2 < (c 107 ((10 * x1) + 9)) → ((-2147483648 ≤ 10 * x1 ∧ 10 * x1 < 2147483648) ∧ (QI T (fun r1 c2 => ((r1 < 0 → Q (cev 334 12 140 [vR 78, vI x1, vU, vI r1, vI 0] [] (SH T, c2))) ∧ (¬ r1 < 0 → ((-2147483648 ≤ x2 + 1 ∧ x2 + 1 < 2147483648) ∧ Q (cev 334 12 108 [vR 78, vI x1, vI (x2 + 1), vU, vU] [] (SH T, c2)))))) (ccal 331 [vR 78, vI (10 * x1)] (SH T, c))))) ∧ (¬ x2 < (c 107 ((10 * x1) + 9)) → ((-2147483648 ≤ x1 + 1 ∧ x1 + 1 < 2147483648) ∧ Q (cev 334 12 98 [vR 78, vI (x1 + 1), vU, vU, vU] [] (SH T, c))))))) : Q (cev 334 12 108 [vR 78, vI x1, vI x2, vU, vU] [] (SH T, c)) := by
  refine of_cev (Q := Q) ?_
  refine wq_pos (Q := Q) k.1.1 ?_
  refine wq_pos (Q := Q) k.1.2.1 ?_
  refine wq_pos (Q := Q) k.1.2.2 ?_
  replace k := k.2
  refine wq_ite (Q := Q) (p := x2 < (c 107 ((10 * x1) + 9))) (fun h => ?_) (fun h => ?_)
  · replace k := k.1 h
    refine wq_pos (Q := Q) k.1 ?_
    replace k := k.2
    refine wq_callI (Q := Q) rfl k ?_
    intro r1 c2 k
    refine wq_ite (Q := Q) (p := r1 < 0) (fun h => ?_) (fun h => ?_)
    · replace k := k.1 h
      exact k
    · replace k := k.2 h
      show Q (cev 334 12 179 [vR 78, vI x1, vI x2, vU, vU] [] (SH T, c2))
      refine of_cev (Q := Q) ?_
      refine wq_pos (Q := Q) k.1 ?_
      replace k := k.2
      exact k
  · replace k := k.2 h
    show Q (cev 334 12 185 [vR 78, vI x1, vU, vU, vU] [] (SH T, c))
    refine of_cev (Q := Q) ?_
    refine wq_pos (Q := Q) k.1 ?_
    replace k := k.2
    exact k
set_option maxRecDepth 20000 in
theorem W_X12_orders_140 {T : List Shp} {c : Nat → Int → Int} {Q : Res → Prop} {x1 x3 x4 : Int} (k : ((x4 < 5780 → (((0 ≤ x4 ∧ x4 < 5780) ∧ (-2147483648 ≤ x4 + 1 ∧ x4 + 1 < 2147483648)) ∧ Q (cev 334 12 140 [vR 78, vI x1, vU, vI x3, vI (x4 + 1)] [] (SH T, (up c 79 x4 (c 81 x4)))))) ∧ (¬ x4 < 5780 → (QI T (fun r1 c2 => Q (some (some (vI r1), (SH T, c2)))) (ccal 190 [vR 78, vI x3] (SH T, (up c 77 56 x1))))))) : Q (cev 334 12 140 [vR 78, vI x1, vU, vI x3, vI x4] [] (SH T, c)) := by
  refine of_cev (Q := Q) ?_
  refine wq_ite (Q := Q) (p := x4 < 5780) (fun h => ?_) (fun h => ?_)
  · replace k := k.1 h
    refine wq_pos (Q := Q) k.1.1 ?_
    refine wq_pos (Q := Q) k.1.1 ?_
    refine wq_pos (Q := Q) k.1.2 ?_
    replace k := k.2
    exact k
  · replace k := k.2 h
    show Q (cev 334 12 168 [vR 78, vI x1, vU, vI x3, vU] [] (SH T, c))
    refine of_cev (Q := Q) ?_
    refine wq_callI (Q := Q) rfl k ?_
    intro r1 c2 k
    exact k
set_option maxRecDepth 20000 in
theorem W_X12_stopped {T : List Shp} {c : Nat → Int → Int} {Q : Res → Prop} (k : Q (some (some (vI (c 77 56)), (SH T, (up c 77 0 0))))) : Q (ccal 335 [vR 78] (SH T, c)) := by
  refine of_cev (Q := Q) ?_
  exact k
set_option maxRecDepth 20000 in
theorem W_X12_draw {T : List Shp} {c : Nat → Int → Int} {Q : Res → Prop} {x1 : Int} (k : (((-9223372036854775808 ≤ (c 77 57) * 1103 ∧ (c 77 57) * 1103 < 9223372036854775808) ∧ (-9223372036854775808 ≤ ((c 77 57) * 1103) + 12345 ∧ ((c 77 57) * 1103) + 12345 < 9223372036854775808) ∧ ((0 ≤ (((c 77 57) * 1103) + 12345) ∧ (((c 77 57) * 1103) + 12345) < 9223372036854775808) ∧ (0 : Int) < 1000003) ∧ ((0 ≤ ((((c 77 57) * 1103) + 12345) % 1000003) ∧ ((((c 77 57) * 1103) + 12345) % 1000003) < 9223372036854775808) ∧ (0 : Int) < x1)) ∧ Q (some (some (vI (w32 (((((c 77 57) * 1103) + 12345) % 1000003) % x1))), (SH T, (up c 77 57 ((((c 77 57) * 1103) + 12345) % 1000003))))))) : Q (ccal 336 [vR 78, vI x1] (SH T, c)) := by
  refine of_cev (Q := Q) ?_
  refine wq_pos (Q := Q) k.1.1 ?_
  refine wq_pos (Q := Q) k.1.2.1 ?_
  refine wq_pos (Q := Q) k.1.2.2.1 ?_
  refine wq_pos (Q := Q) k.1.2.2.2 ?_
  replace k := k.2
  exact k
set_option maxRecDepth 20000 in
theorem W_X12_century {T : List Shp} {c : Nat → Int → Int} {Q : Res → Prop} {x1 x2 : Int} (k : ((0 ≤ x1 ∧ x1 ≤ 1000000 → ((0 ≤ x2 ∧ x2 ≤ 40 → ((-2147483648 ≤ (c 79 4) + x2 ∧ (c 79 4) + x2 < 2147483648) ∧ ((0 ≤ ((c 79 4) + x2) ∧ ((c 79 4) + x2) < 100 → Q (cev 337 8 70 [vR 78, vU, vI x2, vI 0, vU, vU, vU, vU] [] (SH T, (up (up (up (up c 77 0 0) 77 57 x1) 77 59 1) 77 60 (c 79 0))))) ∧ (¬ (0 ≤ ((c 79 4) + x2) ∧ ((c 79 4) + x2) < 100) → ((-2147483648 ≤ (c 78 1) + 1 ∧ (c 78 1) + 1 < 2147483648) ∧ Q (some (some (vI (-1)), (SH T, (up (up (up c 77 0 0) 77 1 (-1)) 78 1 ((c 78 1) + 1)))))))))) ∧ (¬ (0 ≤ x2 ∧ x2 ≤ 40) → ((-2147483648 ≤ (c 78 1) + 1 ∧ (c 78 1) + 1 < 2147483648) ∧ Q (some (some (vI (-1)), (SH T, (up (up (up c 77 0 0) 77 1 (-1)) 78 1 ((c 78 1) + 1))))))))) ∧ (¬ (0 ≤ x1 ∧ x1 ≤ 1000000) → ((-2147483648 ≤ (c 78 1) + 1 ∧ (c 78 1) + 1 < 2147483648) ∧ Q (some (some (vI (-1)), (SH T, (up (up (up c 77 0 0) 77 1 (-1)) 78 1 ((c 78 1) + 1))))))))) : Q (ccal 337 [vR 78, vI x1, vI x2] (SH T, c)) := by
  refine of_cev (Q := Q) ?_
  refine wq_sum (Q := Q) rfl (S_X12_in T (up c 77 0 0) x1 0 1000000) ?_
  refine wq_b01 (Q := Q) (p := 0 ≤ x1 ∧ x1 ≤ 1000000) (fun h => ?_) (fun h => ?_)
  · replace k := k.2 h
    show Q (cev 337 8 41 [vR 78, vU, vU, vU, vU, vU, vU, vU] [] (SH T, (up c 77 0 0)))
    refine of_cev (Q := Q) ?_
    refine wq_sum (Q := Q) rfl (S_X12_tell_1 T (up c 77 0 0) k.1) ?_
    replace k := k.2
    exact k
  · replace k := k.1 h
    refine wq_sum (Q := Q) rfl (S_X12_in T (up c 77 0 0) x2 0 40) ?_
    refine wq_b01 (Q := Q) (p := 0 ≤ x2 ∧ x2 ≤ 40) (fun h => ?_) (fun h => ?_)
    · replace k := k.2 h
      show Q (cev 337 8 41 [vR 78, vU, vU, vU, vU, vU, vU, vU] [] (SH T, (up c 77 0 0)))
      refine of_cev (Q := Q) ?_
      refine wq_sum (Q := Q) rfl (S_X12_tell_1 T (up c 77 0 0) k.1) ?_
      replace k := k.2
      exact k
    · replace k := k.1 h
      refine wq_sum (Q := Q) rfl (S_X12_years T (up c 77 0 0) ) ?_
      refine wq_pos (Q := Q) k.1 ?_
      refine wq_sum (Q := Q) rfl (S_X12_isYear T (up c 77 0 0) ((c 79 4) + x2)) ?_
      replace k := k.2
      refine wq_b01 (Q := Q) (p := 0 ≤ ((c 79 4) + x2) ∧ ((c 79 4) + x2) < 100) (fun h => ?_) (fun h => ?_)
      · replace k := k.2 h
        show Q (cev 337 8 41 [vR 78, vU, vU, vU, vU, vU, vU, vU] [] (SH T, (up c 77 0 0)))
        refine of_cev (Q := Q) ?_
        refine wq_sum (Q := Q) rfl (S_X12_tell_1 T (up c 77 0 0) k.1) ?_
        replace k := k.2
        exact k
      · replace k := k.1 h
        show Q (cev 337 8 47 [vR 78, vI x1, vI x2, vU, vU, vU, vU, vU] [] (SH T, (up c 77 0 0)))
        refine of_cev (Q := Q) ?_
        exact k
set_option maxRecDepth 20000 in
theorem W_X12_century_70 {T : List Shp} {c : Nat → Int → Int} {Q : Res → Prop} {x2 x3 : Int} (k : ((x3 < 17 → ((x3 < 12 → (((0 ≤ (c 79 4) ∧ (c 79 4) < 100) ∧ (0 ≤ x3 ∧ x3 < 12) ∧ (0 ≤ x3 ∧ x3 < 17) ∧ (-2147483648 ≤ x3 + 1 ∧ x3 + 1 < 2147483648)) ∧ Q (cev 337 8 70 [vR 78, vU, vI x2, vI (x3 + 1), vU, vU, vU, vU] [] (SH T, (up c 108 x3 (c 79 (12 + 12 * (c 79 4) + x3))))))) ∧ (¬ x3 < 12 → (((0 ≤ x3 ∧ x3 < 17) ∧ (-2147483648 ≤ x3 + 1 ∧ x3 + 1 < 2147483648)) ∧ Q (cev 337 8 70 [vR 78, vU, vI x2, vI (x3 + 1), vU, vU, vU, vU] [] (SH T, (up c 108 x3 0))))))) ∧ (¬ x3 < 17 → ((-2147483648 ≤ (c 79 4) + 1 ∧ (c 79 4) + 1 < 2147483648) ∧ Q (cev 337 8 110 [vR 78, vU, vI x2, vI ((c 79 4) + 1), vU, vU, vU, vU] [] (SH T, c)))))) : Q (cev 337 8 70 [vR 78, vU, vI x2, vI x3, vU, vU, vU, vU] [] (SH T, c)) := by
  refine of_cev (Q := Q) ?_
  refine wq_ite (Q := Q) (p := x3 < 17) (fun h => ?_) (fun h => ?_)
  · replace k := k.1 h
    refine wq_ite (Q := Q) (p := x3 < 12) (fun h => ?_) (fun h => ?_)
    · replace k := k.1 h
      refine wq_sum (Q := Q) rfl (S_X12_seen T c x3 k.1.1 k.1.2.1) ?_
      refine wq_pos (Q := Q) k.1.2.2.1 ?_
      refine wq_pos (Q := Q) k.1.2.2.2 ?_
      replace k := k.2
      exact k
    · replace k := k.2 h
      show Q (cev 337 8 95 [vR 78, vU, vI x2, vI x3, vU, vU, vU, vU] [vI x3, vR 109] (SH T, c))
      refine of_cev (Q := Q) ?_
      refine wq_pos (Q := Q) k.1.1 ?_
      refine wq_pos (Q := Q) k.1.2 ?_
      replace k := k.2
      exact k
  · replace k := k.2 h
    show Q (cev 337 8 103 [vR 78, vU, vI x2, vU, vU, vU, vU, vU] [] (SH T, c))
    refine of_cev (Q := Q) ?_
    refine wq_sum (Q := Q) rfl (S_X12_years T c ) ?_
    refine wq_pos (Q := Q) k.1 ?_
    replace k := k.2
    exact k
set_option maxRecDepth 20000 in
theorem W_X12_century_110 {T : List Shp} {c : Nat → Int → Int} {Q : Res → Prop} {x2 x3 : Int} (k : ((-2147483648 ≤ (c 79 4) + x2 ∧ (c 79 4) + x2 < 2147483648) ∧ ((((c 79 4) + x2) < x3 → Q (cev 337 8 251 [vR 78, vU, vI x2, vU, vU, vU, vU, vU] [] (SH T, c))) ∧ (¬ ((c 79 4) + x2) < x3 → ((0 < (c 79 0) → (QV T (fun c1 => (QI T (fun r2 c3 => (((-2147483648 ≤ 12 + r2 ∧ 12 + r2 < 2147483648) ∧ (0 ≤ (12 + r2) ∧ (12 + r2) < 17) ∧ (-2147483648 ≤ (c3 108 (12 + r2)) + 1 ∧ (c3 108 (12 + r2)) + 1 < 2147483648)) ∧ Q (cev 337 8 163 [vR 78, vU, vI x2, vI x3, vI r2, vI 0, vU, vU] [] (SH T, (up c3 108 (12 + r2) ((c3 108 (12 + r2)) + 1)))))) (ccal 336 [vR 78, vI (c1 79 0)] (SH T, c1)))) (ccal 259 [vR 78, vI x3] (SH T, c)))) ∧ (¬ 0 < (c 79 0) → Q (cev 337 8 251 [vR 78, vU, vI x2, vU, vU, vU, vU, vU] [] (SH T, c)))))))) : Q (cev 337 8 110 [vR 78, vU, vI x2, vI x3, vU, vU, vU, vU] [] (SH T, c)) := by
  refine of_cev (Q := Q) ?_
  refine wq_sum (Q := Q) rfl (S_X12_years T c ) ?_
  refine wq_pos (Q := Q) k.1 ?_
  replace k := k.2
  refine wq_ite (Q := Q) (p := ((c 79 4) + x2) < x3) (fun h => ?_) (fun h => ?_)
  · replace k := k.1 h
    exact k
  · replace k := k.2 h
    refine wq_ite (Q := Q) (p := 0 < (c 79 0)) (fun h => ?_) (fun h => ?_)
    · replace k := k.1 h
      refine wq_callV (Q := Q) rfl k ?_
      intro c1 k
      refine wq_callI (Q := Q) rfl k ?_
      intro r2 c3 k
      refine wq_pos (Q := Q) k.1.1 ?_
      refine wq_pos (Q := Q) k.1.2.1 ?_
      refine wq_pos (Q := Q) k.1.2.2 ?_
      refine wq_pos (Q := Q) k.1.2.1 ?_
      replace k := k.2
      exact k
    · replace k := k.2 h
      exact k
set_option maxRecDepth 20000 in
theorem W_X12_century_163 {T : List Shp} {c : Nat → Int → Int} {Q : Res → Prop} {x2 x3 x4 x5 : Int} (k : ((x5 < 12 → ((0 ≤ x5 ∧ x5 < 17) ∧ (QI T (fun r1 c2 => (QI T (fun r3 c4 => ((r3 = 0 → (((-2147483648 ≤ r1 - 1 ∧ r1 - 1 < 2147483648) ∧ (0 ≤ x5 ∧ x5 < 17) ∧ (-2147483648 ≤ x5 + 1 ∧ x5 + 1 < 2147483648)) ∧ Q (cev 337 8 163 [vR 78, vU, vI x2, vI x3, vI x4, vI (x5 + 1), vU, vU] [] (SH T, (up c4 108 x5 (clp (r1 - 1) 0 9)))))) ∧ (¬ r3 = 0 → ((r3 = 1 → (((-2147483648 ≤ r1 + 1 ∧ r1 + 1 < 2147483648) ∧ (0 ≤ x5 ∧ x5 < 17) ∧ (-2147483648 ≤ x5 + 1 ∧ x5 + 1 < 2147483648)) ∧ Q (cev 337 8 163 [vR 78, vU, vI x2, vI x3, vI x4, vI (x5 + 1), vU, vU] [] (SH T, (up c4 108 x5 (clp (r1 + 1) 0 9)))))) ∧ (¬ r3 = 1 → (((0 ≤ x5 ∧ x5 < 17) ∧ (-2147483648 ≤ x5 + 1 ∧ x5 + 1 < 2147483648)) ∧ Q (cev 337 8 163 [vR 78, vU, vI x2, vI x3, vI x4, vI (x5 + 1), vU, vU] [] (SH T, (up c4 108 x5 (clp r1 0 9)))))))))) (ccal 336 [vR 78, vI 8] (SH T, c2)))) (ccal 260 [vR 78, vI x4, vI x5, vI x3, vI (c 108 x5)] (SH T, c))))) ∧ (¬ x5 < 12 → ((-2147483648 ≤ x3 + 1 ∧ x3 + 1 < 2147483648) ∧ Q (cev 337 8 110 [vR 78, vU, vI x2, vI (x3 + 1), vU, vU, vU, vU] [] (SH T, c)))))) : Q (cev 337 8 163 [vR 78, vU, vI x2, vI x3, vI x4, vI x5, vU, vU] [] (SH T, c)) := by
  refine of_cev (Q := Q) ?_
  refine wq_ite (Q := Q) (p := x5 < 12) (fun h => ?_) (fun h => ?_)
  · replace k := k.1 h
    refine wq_pos (Q := Q) k.1 ?_
    replace k := k.2
    refine wq_callI (Q := Q) rfl k ?_
    intro r1 c2 k
    refine wq_callI (Q := Q) rfl k ?_
    intro r3 c4 k
    refine wq_ite (Q := Q) (p := r3 = 0) (fun h => ?_) (fun h => ?_)
    · replace k := k.1 h
      refine wq_pos (Q := Q) k.1.1 ?_
      refine wq_sum (Q := Q) rfl (S_X12_within T c4 (r1 - 1) 0 9 (by decide)) ?_
      refine wq_pos (Q := Q) k.1.2.1 ?_
      refine wq_pos (Q := Q) k.1.2.2 ?_
      replace k := k.2
      exact k
    · replace k := k.2 h
      show Q (cev 337 8 215 [vR 78, vU, vI x2, vI x3, vI x4, vI x5, vI r1, vI r3] [vI x5, vR 109] (SH T, c4))
      refine of_cev (Q := Q) ?_
      refine wq_ite (Q := Q) (p := r3 = 1) (fun h => ?_) (fun h => ?_)
      · replace k := k.1 h
        refine wq_pos (Q := Q) k.1.1 ?_
        refine wq_sum (Q := Q) rfl (S_X12_within T c4 (r1 + 1) 0 9 (by decide)) ?_
        refine wq_pos (Q := Q) k.1.2.1 ?_
        refine wq_pos (Q := Q) k.1.2.2 ?_
        replace k := k.2
        exact k
      · replace k := k.2 h
        show Q (cev 337 8 229 [vR 78, vU, vI x2, vI x3, vI x4, vI x5, vI r1, vU] [vI x5, vR 109] (SH T, c4))
        refine of_cev (Q := Q) ?_
        refine wq_sum (Q := Q) rfl (S_X12_within T c4 r1 0 9 (by decide)) ?_
        refine wq_pos (Q := Q) k.1.1 ?_
        refine wq_pos (Q := Q) k.1.2 ?_
        replace k := k.2
        exact k
  · replace k := k.2 h
    show Q (cev 337 8 245 [vR 78, vU, vI x2, vI x3, vU, vU, vU, vU] [] (SH T, c))
    refine of_cev (Q := Q) ?_
    refine wq_pos (Q := Q) k.1 ?_
    replace k := k.2
    exact k
set_option maxRecDepth 20000 in
theorem W_X12_century_251 {T : List Shp} {c : Nat → Int → Int} {Q : Res → Prop} {x2 : Int} (k : ((-2147483648 ≤ (c 79 4) + x2 ∧ (c 79 4) + x2 < 2147483648) ∧ (QV T (fun c1 => Q (cev 337 8 266 [vR 78, vU, vI x2, vI 0, vI 0, vU, vU, vU] [] (SH T, c1))) (ccal 259 [vR 78, vI ((c 79 4) + x2)] (SH T, c))))) : Q (cev 337 8 251 [vR 78, vU, vI x2, vU, vU, vU, vU, vU] [] (SH T, c)) := by
  refine of_cev (Q := Q) ?_
  refine wq_sum (Q := Q) rfl (S_X12_years T c ) ?_
  refine wq_pos (Q := Q) k.1 ?_
  replace k := k.2
  refine wq_callV (Q := Q) rfl k ?_
  intro c1 k
  exact k
set_option maxRecDepth 20000 in
theorem W_X12_century_266 {T : List Shp} {c : Nat → Int → Int} {Q : Res → Prop} {x2 x3 x4 : Int} (k : ((x4 < 12 → (((0 ≤ x4 ∧ x4 < 17) ∧ (-2147483648 ≤ (c 79 4) + x2 ∧ (c 79 4) + x2 < 2147483648) ∧ (-2147483648 ≤ 12 * ((c 79 4) + x2) ∧ 12 * ((c 79 4) + x2) < 2147483648) ∧ (-2147483648 ≤ (12 * ((c 79 4) + x2)) + x4 ∧ (12 * ((c 79 4) + x2)) + x4 < 2147483648) ∧ (0 ≤ ((12 * ((c 79 4) + x2)) + x4) ∧ ((12 * ((c 79 4) + x2)) + x4) < 1200) ∧ (-2147483648 ≤ (c 108 x4) - (c 95 ((12 * ((c 79 4) + x2)) + x4)) ∧ (c 108 x4) - (c 95 ((12 * ((c 79 4) + x2)) + x4)) < 2147483648) ∧ (-2147483648 ≤ -((c 108 x4) - (c 95 ((12 * ((c 79 4) + x2)) + x4))) ∧ -((c 108 x4) - (c 95 ((12 * ((c 79 4) + x2)) + x4))) < 2147483648) ∧ (-2147483648 ≤ x3 + (abz ((c 108 x4) - (c 95 ((12 * ((c 79 4) + x2)) + x4)))) ∧ x3 + (abz ((c 108 x4) - (c 95 ((12 * ((c 79 4) + x2)) + x4)))) < 2147483648) ∧ (-2147483648 ≤ x4 + 1 ∧ x4 + 1 < 2147483648)) ∧ Q (cev 337 8 266 [vR 78, vU, vI x2, vI (x3 + (abz ((c 108 x4) - (c 95 ((12 * ((c 79 4) + x2)) + x4))))), vI (x4 + 1), vU, vU, vU] [] (SH T, c)))) ∧ (¬ x4 < 12 → ((0 ≤ x3) ∧ Q (some (some (vI x3), (SH T, (up c 77 1 0)))))))) : Q (cev 337 8 266 [vR 78, vU, vI x2, vI x3, vI x4, vU, vU, vU] [] (SH T, c)) := by
  refine of_cev (Q := Q) ?_
  refine wq_ite (Q := Q) (p := x4 < 12) (fun h => ?_) (fun h => ?_)
  · replace k := k.1 h
    refine wq_pos (Q := Q) k.1.1 ?_
    refine wq_sum (Q := Q) rfl (S_X12_years T c ) ?_
    refine wq_pos (Q := Q) k.1.2.1 ?_
    refine wq_pos (Q := Q) k.1.2.2.1 ?_
    refine wq_pos (Q := Q) k.1.2.2.2.1 ?_
    refine wq_pos (Q := Q) k.1.2.2.2.2.1 ?_
    refine wq_pos (Q := Q) k.1.2.2.2.2.2.1 ?_
    refine wq_sum (Q := Q) rfl (S_X12_size T c ((c 108 x4) - (c 95 ((12 * ((c 79 4) + x2)) + x4))) k.1.2.2.2.2.2.2.1) ?_
    refine wq_pos (Q := Q) k.1.2.2.2.2.2.2.2.1 ?_
    refine wq_pos (Q := Q) k.1.2.2.2.2.2.2.2.2 ?_
    replace k := k.2
    exact k
  · replace k := k.2 h
    show Q (cev 337 8 310 [vR 78, vU, vU, vI x3, vU, vU, vU, vU] [] (SH T, c))
    refine of_cev (Q := Q) ?_
    refine wq_sum (Q := Q) rfl (S_X12_tell T c x3 k.1) ?_
    replace k := k.2
    exact k
set_option maxRecDepth 20000 in
theorem W_X12_drawn {T : List Shp} {c : Nat → Int → Int} {Q : Res → Prop} {x1 : Int} (k : (((c 77 59) = 0 → Q (some (some (vI (-1)), (SH T, (up c 77 0 0))))) ∧ (¬ (c 77 59) = 0 → ((0 ≤ x1 ∧ x1 < 12 → ((0 ≤ x1 ∧ x1 < 17) ∧ Q (some (some (vI (c 108 x1)), (SH T, (up c 77 0 0)))))) ∧ (¬ (0 ≤ x1 ∧ x1 < 12) → ((-9223372036854775808 ≤ 99 + (c 77 60) ∧ 99 + (c 77 60) < 9223372036854775808) ∧ ((100 ≤ x1 ∧ x1 ≤ (99 + (c 77 60)) → (((-2147483648 ≤ 12 + x1 ∧ 12 + x1 < 2147483648) ∧ (-2147483648 ≤ (12 + x1) - 100 ∧ (12 + x1) - 100 < 2147483648) ∧ (0 ≤ ((12 + x1) - 100) ∧ ((12 + x1) - 100) < 17)) ∧ Q (some (some (vI (c 108 ((12 + x1) - 100))), (SH T, (up c 77 0 0)))))) ∧ (¬ (100 ≤ x1 ∧ x1 ≤ (99 + (c 77 60))) → Q (some (some (vI (-1)), (SH T, (up c 77 0 0)))))))))))) : Q (ccal 338 [vR 78, vI x1] (SH T, c)) := by
  refine of_cev (Q := Q) ?_
  refine wq_ite (Q := Q) (p := (c 77 59) = 0) (fun h => ?_) (fun h => ?_)
  · replace k := k.1 h
    exact k
  · replace k := k.2 h
    show Q (cev 338 3 14 [vR 78, vI x1] [] (SH T, (up c 77 0 0)))
    refine of_cev (Q := Q) ?_
    refine wq_sum (Q := Q) rfl (S_X12_isCell T (up c 77 0 0) x1) ?_
    refine wq_b01 (Q := Q) (p := 0 ≤ x1 ∧ x1 < 12) (fun h => ?_) (fun h => ?_)
    · replace k := k.2 h
      show Q (cev 338 3 30 [vR 78, vI x1] [] (SH T, (up c 77 0 0)))
      refine of_cev (Q := Q) ?_
      refine wq_pos (Q := Q) k.1 ?_
      refine wq_sum (Q := Q) rfl (S_X12_in T (up c 77 0 0) x1 100 (99 + (c 77 60))) ?_
      replace k := k.2
      refine wq_b01 (Q := Q) (p := 100 ≤ x1 ∧ x1 ≤ (99 + (c 77 60))) (fun h => ?_) (fun h => ?_)
      · replace k := k.2 h
        show Q (cev 338 3 65 [vU, vU] [] (SH T, (up c 77 0 0)))
        refine of_cev (Q := Q) ?_
        exact k
      · replace k := k.1 h
        refine wq_pos (Q := Q) k.1.1 ?_
        refine wq_pos (Q := Q) k.1.2.1 ?_
        refine wq_pos (Q := Q) k.1.2.2 ?_
        replace k := k.2
        exact k
    · replace k := k.1 h
      refine wq_pos (Q := Q) k.1 ?_
      replace k := k.2
      exact k
set_option maxRecDepth 20000 in
theorem W_X12_count {T : List Shp} {c : Nat → Int → Int} {Q : Res → Prop} {x1 : Int} (k : ((x1 = 0 → Q (some (some (vI (c 79 0)), (SH T, (up c 77 0 0))))) ∧ ((x1 = 1 → Q (some (some (vI (c 79 1)), (SH T, (up c 77 0 0))))) ∧ ((x1 = 2 → Q (some (some (vI (c 79 3)), (SH T, (up c 77 0 0))))) ∧ ((x1 = 3 → Q (some (some (vI (c 79 4)), (SH T, (up c 77 0 0))))) ∧ ((x1 = 4 → Q (some (some (vI (c 79 5)), (SH T, (up c 77 0 0))))) ∧ ((x1 = 5 → Q (some (some (vI (c 79 6)), (SH T, (up c 77 0 0))))) ∧ ((x1 = 6 → Q (some (some (vI (c 77 9)), (SH T, (up c 77 0 0))))) ∧ ((x1 = 7 → Q (some (some (vI (c 78 1)), (SH T, (up c 77 0 0))))) ∧ ((x1 = 8 → Q (some (some (vI (c 78 2)), (SH T, (up c 77 0 0))))) ∧ ((x1 = 9 → Q (some (some (vI (c 78 3)), (SH T, (up c 77 0 0))))) ∧ ((x1 = 10 → Q (some (some (vI (c 78 5)), (SH T, (up c 77 0 0))))) ∧ ((x1 = 11 → Q (some (some (vI (c 78 6)), (SH T, (up c 77 0 0))))) ∧ ((x1 = 12 → Q (some (some (vI (c 79 2)), (SH T, (up c 77 0 0))))) ∧ (¬ (x1 = 0 ∨ x1 = 1 ∨ x1 = 2 ∨ x1 = 3 ∨ x1 = 4 ∨ x1 = 5 ∨ x1 = 6 ∨ x1 = 7 ∨ x1 = 8 ∨ x1 = 9 ∨ x1 = 10 ∨ x1 = 11 ∨ x1 = 12) → ((13 ≤ x1 ∧ x1 ≤ 17 → (((-2147483648 ≤ 7 + x1 ∧ 7 + x1 < 2147483648) ∧ (-2147483648 ≤ (7 + x1) - 13 ∧ (7 + x1) - 13 < 2147483648) ∧ (0 ≤ ((7 + x1) - 13) ∧ ((7 + x1) - 13) < 5780)) ∧ Q (some (some (vI (c 79 ((7 + x1) - 13))), (SH T, (up c 77 0 0)))))) ∧ (¬ (13 ≤ x1 ∧ x1 ≤ 17) → Q (some (some (vI (-1)), (SH T, (up c 77 0 0))))))))))))))))))))) : Q (ccal 339 [vR 78, vI x1] (SH T, c)) := by
  refine of_cev (Q := Q) ?_
  refine wq_ite (Q := Q) (p := x1 = 0) (fun h0 => ?_) (fun h0 => ?_)
  · replace k := k.1 h0
    show Q (cev 339 2 72 [vR 78, vU] [] (SH T, (up c 77 0 0)))
    refine of_cev (Q := Q) ?_
    exact k
  replace k := k.2
  refine wq_ite (Q := Q) (p := x1 = 1) (fun h1 => ?_) (fun h1 => ?_)
  · replace k := k.1 h1
    show Q (cev 339 2 79 [vR 78, vU] [] (SH T, (up c 77 0 0)))
    refine of_cev (Q := Q) ?_
    exact k
  replace k := k.2
  refine wq_ite (Q := Q) (p := x1 = 2) (fun h2 => ?_) (fun h2 => ?_)
  · replace k := k.1 h2
    show Q (cev 339 2 86 [vR 78, vU] [] (SH T, (up c 77 0 0)))
    refine of_cev (Q := Q) ?_
    exact k
  replace k := k.2
  refine wq_ite (Q := Q) (p := x1 = 3) (fun h3 => ?_) (fun h3 => ?_)
  · replace k := k.1 h3
    show Q (cev 339 2 93 [vR 78, vU] [] (SH T, (up c 77 0 0)))
    refine of_cev (Q := Q) ?_
    refine wq_sum (Q := Q) rfl (S_X12_years T (up c 77 0 0) ) ?_
    exact k
  replace k := k.2
  refine wq_ite (Q := Q) (p := x1 = 4) (fun h4 => ?_) (fun h4 => ?_)
  · replace k := k.1 h4
    show Q (cev 339 2 98 [vR 78, vU] [] (SH T, (up c 77 0 0)))
    refine of_cev (Q := Q) ?_
    exact k
  replace k := k.2
  refine wq_ite (Q := Q) (p := x1 = 5) (fun h5 => ?_) (fun h5 => ?_)
  · replace k := k.1 h5
    show Q (cev 339 2 105 [vR 78, vU] [] (SH T, (up c 77 0 0)))
    refine of_cev (Q := Q) ?_
    exact k
  replace k := k.2
  refine wq_ite (Q := Q) (p := x1 = 6) (fun h6 => ?_) (fun h6 => ?_)
  · replace k := k.1 h6
    show Q (cev 339 2 113 [vR 78, vU] [] (SH T, (up c 77 0 0)))
    refine of_cev (Q := Q) ?_
    exact k
  replace k := k.2
  refine wq_ite (Q := Q) (p := x1 = 7) (fun h7 => ?_) (fun h7 => ?_)
  · replace k := k.1 h7
    show Q (cev 339 2 118 [vR 78, vU] [] (SH T, (up c 77 0 0)))
    refine of_cev (Q := Q) ?_
    exact k
  replace k := k.2
  refine wq_ite (Q := Q) (p := x1 = 8) (fun h8 => ?_) (fun h8 => ?_)
  · replace k := k.1 h8
    show Q (cev 339 2 125 [vR 78, vU] [] (SH T, (up c 77 0 0)))
    refine of_cev (Q := Q) ?_
    exact k
  replace k := k.2
  refine wq_ite (Q := Q) (p := x1 = 9) (fun h9 => ?_) (fun h9 => ?_)
  · replace k := k.1 h9
    show Q (cev 339 2 132 [vR 78, vU] [] (SH T, (up c 77 0 0)))
    refine of_cev (Q := Q) ?_
    exact k
  replace k := k.2
  refine wq_ite (Q := Q) (p := x1 = 10) (fun h10 => ?_) (fun h10 => ?_)
  · replace k := k.1 h10
    show Q (cev 339 2 139 [vR 78, vU] [] (SH T, (up c 77 0 0)))
    refine of_cev (Q := Q) ?_
    exact k
  replace k := k.2
  refine wq_ite (Q := Q) (p := x1 = 11) (fun h11 => ?_) (fun h11 => ?_)
  · replace k := k.1 h11
    show Q (cev 339 2 146 [vR 78, vU] [] (SH T, (up c 77 0 0)))
    refine of_cev (Q := Q) ?_
    exact k
  replace k := k.2
  refine wq_ite (Q := Q) (p := x1 = 12) (fun h12 => ?_) (fun h12 => ?_)
  · replace k := k.1 h12
    show Q (cev 339 2 154 [vR 78, vU] [] (SH T, (up c 77 0 0)))
    refine of_cev (Q := Q) ?_
    exact k
  replace k := k.2
  replace k := k (fun h => by rcases h with h | h | h | h | h | h | h | h | h | h | h | h | h <;> first | exact h0 h | exact h1 h | exact h2 h | exact h3 h | exact h4 h | exact h5 h | exact h6 h | exact h7 h | exact h8 h | exact h9 h | exact h10 h | exact h11 h | exact h12 h)
  show Q (cev 339 2 161 [vR 78, vI x1] [] (SH T, (up c 77 0 0)))
  refine of_cev (Q := Q) ?_
  refine wq_sum (Q := Q) rfl (S_X12_in T (up c 77 0 0) x1 13 17) ?_
  refine wq_b01 (Q := Q) (p := 13 ≤ x1 ∧ x1 ≤ 17) (fun h => ?_) (fun h => ?_)
  · replace k := k.2 h
    show Q (cev 339 2 190 [vU, vU] [] (SH T, (up c 77 0 0)))
    refine of_cev (Q := Q) ?_
    exact k
  · replace k := k.1 h
    refine wq_pos (Q := Q) k.1.1 ?_
    refine wq_pos (Q := Q) k.1.2.1 ?_
    refine wq_pos (Q := Q) k.1.2.2 ?_
    replace k := k.2
    exact k
set_option maxRecDepth 20000 in
theorem W_X12_status {T : List Shp} {c : Nat → Int → Int} {Q : Res → Prop} (k : Q (some (some (vI (c 77 1)), (SH T, (up c 77 0 0))))) : Q (ccal 340 [vR 78] (SH T, c)) := by
  refine of_cev (Q := Q) ?_
  exact k

set_option maxRecDepth 20000 in
theorem W_X6_isSame_s6_27 {T : List Shp} {c : Nat → Int → Int} {Q : Res → Prop} {x2 x3 x4 : Int} (k : ((-2147483648 ≤ x3 - x2 ∧ x3 - x2 < 2147483648) ∧ ((x4 < (x3 - x2) → (((-2147483648 ≤ x2 + x4 ∧ x2 + x4 < 2147483648) ∧ (0 ≤ (x2 + x4) ∧ (x2 + x4) < 2) ∧ (-2147483648 ≤ (c 48 5) + x4 ∧ (c 48 5) + x4 < 2147483648) ∧ (0 ≤ ((c 48 5) + x4) ∧ ((c 48 5) + x4) < 400)) ∧ ((((strb 6).getD (x2 + x4).toNat 0) = (c 10 ((c 48 5) + x4)) → ((-2147483648 ≤ x4 + 1 ∧ x4 + 1 < 2147483648) ∧ Q (cev 61 5 27 [vR 49, vR (-106), vI x2, vI x3, vI (x4 + 1)] [] (SH T, c)))) ∧ (¬ ((strb 6).getD (x2 + x4).toNat 0) = (c 10 ((c 48 5) + x4)) → Q (some (some (vI 0), (SH T, c))))))) ∧ (¬ x4 < (x3 - x2) → Q (some (some (vI 1), (SH T, c))))))) : Q (cev 61 5 27 [vR 49, vR (-106), vI x2, vI x3, vI x4] [] (SH T, c)) := by
  refine of_cev (Q := Q) ?_
  refine wq_pos (Q := Q) k.1 ?_
  replace k := k.2
  refine wq_ite (Q := Q) (p := x4 < (x3 - x2)) (fun h => ?_) (fun h => ?_)
  · replace k := k.1 h
    refine wq_pos (Q := Q) k.1.1 ?_
    refine wq_sum (Q := Q) rfl (S_chr_6 T c (x2 + x4) k.1.2.1) ?_
    refine wq_pos (Q := Q) k.1.2.2.1 ?_
    refine wq_pos (Q := Q) k.1.2.2.2 ?_
    replace k := k.2
    refine wq_ite (Q := Q) (p := ((strb 6).getD (x2 + x4).toNat 0) = (c 10 ((c 48 5) + x4))) (fun h => ?_) (fun h => ?_)
    · replace k := k.1 h
      show Q (cev 61 5 60 [vR 49, vR (-106), vI x2, vI x3, vI x4] [] (SH T, c))
      refine of_cev (Q := Q) ?_
      refine wq_pos (Q := Q) k.1 ?_
      replace k := k.2
      exact k
    · replace k := k.2 h
      exact k
  · replace k := k.2 h
    show Q (cev 61 5 66 [vU, vU, vU, vU, vU] [] (SH T, c))
    refine of_cev (Q := Q) ?_
    exact k
set_option maxRecDepth 20000 in
theorem W_X6_isSame_s7 {T : List Shp} {c : Nat → Int → Int} {Q : Res → Prop} {x2 x3 : Int} (k : (((c 48 4) = 0 → (((-2147483648 ≤ x3 - x2 ∧ x3 - x2 < 2147483648) ∧ (-2147483648 ≤ (c 48 6) - (c 48 5) ∧ (c 48 6) - (c 48 5) < 2147483648)) ∧ (((x3 - x2) = ((c 48 6) - (c 48 5)) → Q (cev 61 5 27 [vR 49, vR (-107), vI x2, vI x3, vI 0] [] (SH T, c))) ∧ (¬ (x3 - x2) = ((c 48 6) - (c 48 5)) → Q (some (some (vI 0), (SH T, c))))))) ∧ (¬ (c 48 4) = 0 → Q (some (some (vI 0), (SH T, c)))))) : Q (ccal 61 [vR 49, vR (-107), vI x2, vI x3] (SH T, c)) := by
  refine of_cev (Q := Q) ?_
  refine wq_ite (Q := Q) (p := (c 48 4) = 0) (fun h => ?_) (fun h => ?_)
  · replace k := k.1 h
    refine wq_pos (Q := Q) k.1.1 ?_
    refine wq_pos (Q := Q) k.1.2 ?_
    replace k := k.2
    refine wq_ite (Q := Q) (p := (x3 - x2) = ((c 48 6) - (c 48 5))) (fun h => ?_) (fun h => ?_)
    · replace k := k.1 h
      show Q (cev 61 5 24 [vR 49, vR (-107), vI x2, vI x3, vU] [] (SH T, c))
      refine of_cev (Q := Q) ?_
      exact k
    · replace k := k.2 h
      show Q (cev 61 5 22 [vU, vU, vU, vU, vU] [] (SH T, c))
      refine of_cev (Q := Q) ?_
      exact k
  · replace k := k.2 h
    show Q (cev 61 5 22 [vU, vU, vU, vU, vU] [] (SH T, c))
    refine of_cev (Q := Q) ?_
    exact k
set_option maxRecDepth 20000 in
theorem W_X6_isSame_s7_27 {T : List Shp} {c : Nat → Int → Int} {Q : Res → Prop} {x2 x3 x4 : Int} (k : ((-2147483648 ≤ x3 - x2 ∧ x3 - x2 < 2147483648) ∧ ((x4 < (x3 - x2) → (((-2147483648 ≤ x2 + x4 ∧ x2 + x4 < 2147483648) ∧ (0 ≤ (x2 + x4) ∧ (x2 + x4) < 2) ∧ (-2147483648 ≤ (c 48 5) + x4 ∧ (c 48 5) + x4 < 2147483648) ∧ (0 ≤ ((c 48 5) + x4) ∧ ((c 48 5) + x4) < 400)) ∧ ((((strb 7).getD (x2 + x4).toNat 0) = (c 10 ((c 48 5) + x4)) → ((-2147483648 ≤ x4 + 1 ∧ x4 + 1 < 2147483648) ∧ Q (cev 61 5 27 [vR 49, vR (-107), vI x2, vI x3, vI (x4 + 1)] [] (SH T, c)))) ∧ (¬ ((strb 7).getD (x2 + x4).toNat 0) = (c 10 ((c 48 5) + x4)) → Q (some (some (vI 0), (SH T, c))))))) ∧ (¬ x4 < (x3 - x2) → Q (some (some (vI 1), (SH T, c))))))) : Q (cev 61 5 27 [vR 49, vR (-107), vI x2, vI x3, vI x4] [] (SH T, c)) := by
  refine of_cev (Q := Q) ?_
  refine wq_pos (Q := Q) k.1 ?_
  replace k := k.2
  refine wq_ite (Q := Q) (p := x4 < (x3 - x2)) (fun h => ?_) (fun h => ?_)
  · replace k := k.1 h
    refine wq_pos (Q := Q) k.1.1 ?_
    refine wq_sum (Q := Q) rfl (S_chr_7 T c (x2 + x4) k.1.2.1) ?_
    refine wq_pos (Q := Q) k.1.2.2.1 ?_
    refine wq_pos (Q := Q) k.1.2.2.2 ?_
    replace k := k.2
    refine wq_ite (Q := Q) (p := ((strb 7).getD (x2 + x4).toNat 0) = (c 10 ((c 48 5) + x4))) (fun h => ?_) (fun h => ?_)
    · replace k := k.1 h
      show Q (cev 61 5 60 [vR 49, vR (-107), vI x2, vI x3, vI x4] [] (SH T, c))
      refine of_cev (Q := Q) ?_
      refine wq_pos (Q := Q) k.1 ?_
      replace k := k.2
      exact k
    · replace k := k.2 h
      exact k
  · replace k := k.2 h
    show Q (cev 61 5 66 [vU, vU, vU, vU, vU] [] (SH T, c))
    refine of_cev (Q := Q) ?_
    exact k
set_option maxRecDepth 20000 in
theorem W_X6_isSame_s8 {T : List Shp} {c : Nat → Int → Int} {Q : Res → Prop} {x2 x3 : Int} (k : (((c 48 4) = 0 → (((-2147483648 ≤ x3 - x2 ∧ x3 - x2 < 2147483648) ∧ (-2147483648 ≤ (c 48 6) - (c 48 5) ∧ (c 48 6) - (c 48 5) < 2147483648)) ∧ (((x3 - x2) = ((c 48 6) - (c 48 5)) → Q (cev 61 5 27 [vR 49, vR (-108), vI x2, vI x3, vI 0] [] (SH T, c))) ∧ (¬ (x3 - x2) = ((c 48 6) - (c 48 5)) → Q (some (some (vI 0), (SH T, c))))))) ∧ (¬ (c 48 4) = 0 → Q (some (some (vI 0), (SH T, c)))))) : Q (ccal 61 [vR 49, vR (-108), vI x2, vI x3] (SH T, c)) := by
  refine of_cev (Q := Q) ?_
  refine wq_ite (Q := Q) (p := (c 48 4) = 0) (fun h => ?_) (fun h => ?_)
  · replace k := k.1 h
    refine wq_pos (Q := Q) k.1.1 ?_
    refine wq_pos (Q := Q) k.1.2 ?_
    replace k := k.2
    refine wq_ite (Q := Q) (p := (x3 - x2) = ((c 48 6) - (c 48 5))) (fun h => ?_) (fun h => ?_)
    · replace k := k.1 h
      show Q (cev 61 5 24 [vR 49, vR (-108), vI x2, vI x3, vU] [] (SH T, c))
      refine of_cev (Q := Q) ?_
      exact k
    · replace k := k.2 h
      show Q (cev 61 5 22 [vU, vU, vU, vU, vU] [] (SH T, c))
      refine of_cev (Q := Q) ?_
      exact k
  · replace k := k.2 h
    show Q (cev 61 5 22 [vU, vU, vU, vU, vU] [] (SH T, c))
    refine of_cev (Q := Q) ?_
    exact k
set_option maxRecDepth 20000 in
theorem W_X6_isSame_s8_27 {T : List Shp} {c : Nat → Int → Int} {Q : Res → Prop} {x2 x3 x4 : Int} (k : ((-2147483648 ≤ x3 - x2 ∧ x3 - x2 < 2147483648) ∧ ((x4 < (x3 - x2) → (((-2147483648 ≤ x2 + x4 ∧ x2 + x4 < 2147483648) ∧ (0 ≤ (x2 + x4) ∧ (x2 + x4) < 3) ∧ (-2147483648 ≤ (c 48 5) + x4 ∧ (c 48 5) + x4 < 2147483648) ∧ (0 ≤ ((c 48 5) + x4) ∧ ((c 48 5) + x4) < 400)) ∧ ((((strb 8).getD (x2 + x4).toNat 0) = (c 10 ((c 48 5) + x4)) → ((-2147483648 ≤ x4 + 1 ∧ x4 + 1 < 2147483648) ∧ Q (cev 61 5 27 [vR 49, vR (-108), vI x2, vI x3, vI (x4 + 1)] [] (SH T, c)))) ∧ (¬ ((strb 8).getD (x2 + x4).toNat 0) = (c 10 ((c 48 5) + x4)) → Q (some (some (vI 0), (SH T, c))))))) ∧ (¬ x4 < (x3 - x2) → Q (some (some (vI 1), (SH T, c))))))) : Q (cev 61 5 27 [vR 49, vR (-108), vI x2, vI x3, vI x4] [] (SH T, c)) := by
  refine of_cev (Q := Q) ?_
  refine wq_pos (Q := Q) k.1 ?_
  replace k := k.2
  refine wq_ite (Q := Q) (p := x4 < (x3 - x2)) (fun h => ?_) (fun h => ?_)
  · replace k := k.1 h
    refine wq_pos (Q := Q) k.1.1 ?_
    refine wq_sum (Q := Q) rfl (S_chr_8 T c (x2 + x4) k.1.2.1) ?_
    refine wq_pos (Q := Q) k.1.2.2.1 ?_
    refine wq_pos (Q := Q) k.1.2.2.2 ?_
    replace k := k.2
    refine wq_ite (Q := Q) (p := ((strb 8).getD (x2 + x4).toNat 0) = (c 10 ((c 48 5) + x4))) (fun h => ?_) (fun h => ?_)
    · replace k := k.1 h
      show Q (cev 61 5 60 [vR 49, vR (-108), vI x2, vI x3, vI x4] [] (SH T, c))
      refine of_cev (Q := Q) ?_
      refine wq_pos (Q := Q) k.1 ?_
      replace k := k.2
      exact k
    · replace k := k.2 h
      exact k
  · replace k := k.2 h
    show Q (cev 61 5 66 [vU, vU, vU, vU, vU] [] (SH T, c))
    refine of_cev (Q := Q) ?_
    exact k
set_option maxRecDepth 20000 in
theorem W_X6_isSame_s9 {T : List Shp} {c : Nat → Int → Int} {Q : Res → Prop} {x2 x3 : Int} (k : (((c 48 4) = 0 → (((-2147483648 ≤ x3 - x2 ∧ x3 - x2 < 2147483648) ∧ (-2147483648 ≤ (c 48 6) - (c 48 5) ∧ (c 48 6) - (c 48 5) < 2147483648)) ∧ (((x3 - x2) = ((c 48 6) - (c 48 5)) → Q (cev 61 5 27 [vR 49, vR (-109), vI x2, vI x3, vI 0] [] (SH T, c))) ∧ (¬ (x3 - x2) = ((c 48 6) - (c 48 5)) → Q (some (some (vI 0), (SH T, c))))))) ∧ (¬ (c 48 4) = 0 → Q (some (some (vI 0), (SH T, c)))))) : Q (ccal 61 [vR 49, vR (-109), vI x2, vI x3] (SH T, c)) := by
  refine of_cev (Q := Q) ?_
  refine wq_ite (Q := Q) (p := (c 48 4) = 0) (fun h => ?_) (fun h => ?_)
  · replace k := k.1 h
    refine wq_pos (Q := Q) k.1.1 ?_
    refine wq_pos (Q := Q) k.1.2 ?_
    replace k := k.2
    refine wq_ite (Q := Q) (p := (x3 - x2) = ((c 48 6) - (c 48 5))) (fun h => ?_) (fun h => ?_)
    · replace k := k.1 h
      show Q (cev 61 5 24 [vR 49, vR (-109), vI x2, vI x3, vU] [] (SH T, c))
      refine of_cev (Q := Q) ?_
      exact k
    · replace k := k.2 h
      show Q (cev 61 5 22 [vU, vU, vU, vU, vU] [] (SH T, c))
      refine of_cev (Q := Q) ?_
      exact k
  · replace k := k.2 h
    show Q (cev 61 5 22 [vU, vU, vU, vU, vU] [] (SH T, c))
    refine of_cev (Q := Q) ?_
    exact k
set_option maxRecDepth 20000 in
theorem W_X6_isSame_s9_27 {T : List Shp} {c : Nat → Int → Int} {Q : Res → Prop} {x2 x3 x4 : Int} (k : ((-2147483648 ≤ x3 - x2 ∧ x3 - x2 < 2147483648) ∧ ((x4 < (x3 - x2) → (((-2147483648 ≤ x2 + x4 ∧ x2 + x4 < 2147483648) ∧ (0 ≤ (x2 + x4) ∧ (x2 + x4) < 3) ∧ (-2147483648 ≤ (c 48 5) + x4 ∧ (c 48 5) + x4 < 2147483648) ∧ (0 ≤ ((c 48 5) + x4) ∧ ((c 48 5) + x4) < 400)) ∧ ((((strb 9).getD (x2 + x4).toNat 0) = (c 10 ((c 48 5) + x4)) → ((-2147483648 ≤ x4 + 1 ∧ x4 + 1 < 2147483648) ∧ Q (cev 61 5 27 [vR 49, vR (-109), vI x2, vI x3, vI (x4 + 1)] [] (SH T, c)))) ∧ (¬ ((strb 9).getD (x2 + x4).toNat 0) = (c 10 ((c 48 5) + x4)) → Q (some (some (vI 0), (SH T, c))))))) ∧ (¬ x4 < (x3 - x2) → Q (some (some (vI 1), (SH T, c))))))) : Q (cev 61 5 27 [vR 49, vR (-109), vI x2, vI x3, vI x4] [] (SH T, c)) := by
  refine of_cev (Q := Q) ?_
  refine wq_pos (Q := Q) k.1 ?_
  replace k := k.2
  refine wq_ite (Q := Q) (p := x4 < (x3 - x2)) (fun h => ?_) (fun h => ?_)
  · replace k := k.1 h
    refine wq_pos (Q := Q) k.1.1 ?_
    refine wq_sum (Q := Q) rfl (S_chr_9 T c (x2 + x4) k.1.2.1) ?_
    refine wq_pos (Q := Q) k.1.2.2.1 ?_
    refine wq_pos (Q := Q) k.1.2.2.2 ?_
    replace k := k.2
    refine wq_ite (Q := Q) (p := ((strb 9).getD (x2 + x4).toNat 0) = (c 10 ((c 48 5) + x4))) (fun h => ?_) (fun h => ?_)
    · replace k := k.1 h
      show Q (cev 61 5 60 [vR 49, vR (-109), vI x2, vI x3, vI x4] [] (SH T, c))
      refine of_cev (Q := Q) ?_
      refine wq_pos (Q := Q) k.1 ?_
      replace k := k.2
      exact k
    · replace k := k.2 h
      exact k
  · replace k := k.2 h
    show Q (cev 61 5 66 [vU, vU, vU, vU, vU] [] (SH T, c))
    refine of_cev (Q := Q) ?_
    exact k
set_option maxRecDepth 20000 in
theorem W_X6_isSame_s10 {T : List Shp} {c : Nat → Int → Int} {Q : Res → Prop} {x2 x3 : Int} (k : (((c 48 4) = 0 → (((-2147483648 ≤ x3 - x2 ∧ x3 - x2 < 2147483648) ∧ (-2147483648 ≤ (c 48 6) - (c 48 5) ∧ (c 48 6) - (c 48 5) < 2147483648)) ∧ (((x3 - x2) = ((c 48 6) - (c 48 5)) → Q (cev 61 5 27 [vR 49, vR (-110), vI x2, vI x3, vI 0] [] (SH T, c))) ∧ (¬ (x3 - x2) = ((c 48 6) - (c 48 5)) → Q (some (some (vI 0), (SH T, c))))))) ∧ (¬ (c 48 4) = 0 → Q (some (some (vI 0), (SH T, c)))))) : Q (ccal 61 [vR 49, vR (-110), vI x2, vI x3] (SH T, c)) := by
  refine of_cev (Q := Q) ?_
  refine wq_ite (Q := Q) (p := (c 48 4) = 0) (fun h => ?_) (fun h => ?_)
  · replace k := k.1 h
    refine wq_pos (Q := Q) k.1.1 ?_
    refine wq_pos (Q := Q) k.1.2 ?_
    replace k := k.2
    refine wq_ite (Q := Q) (p := (x3 - x2) = ((c 48 6) - (c 48 5))) (fun h => ?_) (fun h => ?_)
    · replace k := k.1 h
      show Q (cev 61 5 24 [vR 49, vR (-110), vI x2, vI x3, vU] [] (SH T, c))
      refine of_cev (Q := Q) ?_
      exact k
    · replace k := k.2 h
      show Q (cev 61 5 22 [vU, vU, vU, vU, vU] [] (SH T, c))
      refine of_cev (Q := Q) ?_
      exact k
  · replace k := k.2 h
    show Q (cev 61 5 22 [vU, vU, vU, vU, vU] [] (SH T, c))
    refine of_cev (Q := Q) ?_
    exact k
set_option maxRecDepth 20000 in
theorem W_X6_isSame_s10_27 {T : List Shp} {c : Nat → Int → Int} {Q : Res → Prop} {x2 x3 x4 : Int} (k : ((-2147483648 ≤ x3 - x2 ∧ x3 - x2 < 2147483648) ∧ ((x4 < (x3 - x2) → (((-2147483648 ≤ x2 + x4 ∧ x2 + x4 < 2147483648) ∧ (0 ≤ (x2 + x4) ∧ (x2 + x4) < 39) ∧ (-2147483648 ≤ (c 48 5) + x4 ∧ (c 48 5) + x4 < 2147483648) ∧ (0 ≤ ((c 48 5) + x4) ∧ ((c 48 5) + x4) < 400)) ∧ ((((strb 10).getD (x2 + x4).toNat 0) = (c 10 ((c 48 5) + x4)) → ((-2147483648 ≤ x4 + 1 ∧ x4 + 1 < 2147483648) ∧ Q (cev 61 5 27 [vR 49, vR (-110), vI x2, vI x3, vI (x4 + 1)] [] (SH T, c)))) ∧ (¬ ((strb 10).getD (x2 + x4).toNat 0) = (c 10 ((c 48 5) + x4)) → Q (some (some (vI 0), (SH T, c))))))) ∧ (¬ x4 < (x3 - x2) → Q (some (some (vI 1), (SH T, c))))))) : Q (cev 61 5 27 [vR 49, vR (-110), vI x2, vI x3, vI x4] [] (SH T, c)) := by
  refine of_cev (Q := Q) ?_
  refine wq_pos (Q := Q) k.1 ?_
  replace k := k.2
  refine wq_ite (Q := Q) (p := x4 < (x3 - x2)) (fun h => ?_) (fun h => ?_)
  · replace k := k.1 h
    refine wq_pos (Q := Q) k.1.1 ?_
    refine wq_sum (Q := Q) rfl (S_chr_10 T c (x2 + x4) k.1.2.1) ?_
    refine wq_pos (Q := Q) k.1.2.2.1 ?_
    refine wq_pos (Q := Q) k.1.2.2.2 ?_
    replace k := k.2
    refine wq_ite (Q := Q) (p := ((strb 10).getD (x2 + x4).toNat 0) = (c 10 ((c 48 5) + x4))) (fun h => ?_) (fun h => ?_)
    · replace k := k.1 h
      show Q (cev 61 5 60 [vR 49, vR (-110), vI x2, vI x3, vI x4] [] (SH T, c))
      refine of_cev (Q := Q) ?_
      refine wq_pos (Q := Q) k.1 ?_
      replace k := k.2
      exact k
    · replace k := k.2 h
      exact k
  · replace k := k.2 h
    show Q (cev 61 5 66 [vU, vU, vU, vU, vU] [] (SH T, c))
    refine of_cev (Q := Q) ?_
    exact k
set_option maxRecDepth 20000 in
theorem W_X6_isSame_s11 {T : List Shp} {c : Nat → Int → Int} {Q : Res → Prop} {x2 x3 : Int} (k : (((c 48 4) = 0 → (((-2147483648 ≤ x3 - x2 ∧ x3 - x2 < 2147483648) ∧ (-2147483648 ≤ (c 48 6) - (c 48 5) ∧ (c 48 6) - (c 48 5) < 2147483648)) ∧ (((x3 - x2) = ((c 48 6) - (c 48 5)) → Q (cev 61 5 27 [vR 49, vR (-111), vI x2, vI x3, vI 0] [] (SH T, c))) ∧ (¬ (x3 - x2) = ((c 48 6) - (c 48 5)) → Q (some (some (vI 0), (SH T, c))))))) ∧ (¬ (c 48 4) = 0 → Q (some (some (vI 0), (SH T, c)))))) : Q (ccal 61 [vR 49, vR (-111), vI x2, vI x3] (SH T, c)) := by
  refine of_cev (Q := Q) ?_
  refine wq_ite (Q := Q) (p := (c 48 4) = 0) (fun h => ?_) (fun h => ?_)
  · replace k := k.1 h
    refine wq_pos (Q := Q) k.1.1 ?_
    refine wq_pos (Q := Q) k.1.2 ?_
    replace k := k.2
    refine wq_ite (Q := Q) (p := (x3 - x2) = ((c 48 6) - (c 48 5))) (fun h => ?_) (fun h => ?_)
    · replace k := k.1 h
      show Q (cev 61 5 24 [vR 49, vR (-111), vI x2, vI x3, vU] [] (SH T, c))
      refine of_cev (Q := Q) ?_
      exact k
    · replace k := k.2 h
      show Q (cev 61 5 22 [vU, vU, vU, vU, vU] [] (SH T, c))
      refine of_cev (Q := Q) ?_
      exact k
  · replace k := k.2 h
    show Q (cev 61 5 22 [vU, vU, vU, vU, vU] [] (SH T, c))
    refine of_cev (Q := Q) ?_
    exact k
set_option maxRecDepth 20000 in
theorem W_X6_isSame_s11_27 {T : List Shp} {c : Nat → Int → Int} {Q : Res → Prop} {x2 x3 x4 : Int} (k : ((-2147483648 ≤ x3 - x2 ∧ x3 - x2 < 2147483648) ∧ ((x4 < (x3 - x2) → (((-2147483648 ≤ x2 + x4 ∧ x2 + x4 < 2147483648) ∧ (0 ≤ (x2 + x4) ∧ (x2 + x4) < 60) ∧ (-2147483648 ≤ (c 48 5) + x4 ∧ (c 48 5) + x4 < 2147483648) ∧ (0 ≤ ((c 48 5) + x4) ∧ ((c 48 5) + x4) < 400)) ∧ ((((strb 11).getD (x2 + x4).toNat 0) = (c 10 ((c 48 5) + x4)) → ((-2147483648 ≤ x4 + 1 ∧ x4 + 1 < 2147483648) ∧ Q (cev 61 5 27 [vR 49, vR (-111), vI x2, vI x3, vI (x4 + 1)] [] (SH T, c)))) ∧ (¬ ((strb 11).getD (x2 + x4).toNat 0) = (c 10 ((c 48 5) + x4)) → Q (some (some (vI 0), (SH T, c))))))) ∧ (¬ x4 < (x3 - x2) → Q (some (some (vI 1), (SH T, c))))))) : Q (cev 61 5 27 [vR 49, vR (-111), vI x2, vI x3, vI x4] [] (SH T, c)) := by
  refine of_cev (Q := Q) ?_
  refine wq_pos (Q := Q) k.1 ?_
  replace k := k.2
  refine wq_ite (Q := Q) (p := x4 < (x3 - x2)) (fun h => ?_) (fun h => ?_)
  · replace k := k.1 h
    refine wq_pos (Q := Q) k.1.1 ?_
    refine wq_sum (Q := Q) rfl (S_chr_11 T c (x2 + x4) k.1.2.1) ?_
    refine wq_pos (Q := Q) k.1.2.2.1 ?_
    refine wq_pos (Q := Q) k.1.2.2.2 ?_
    replace k := k.2
    refine wq_ite (Q := Q) (p := ((strb 11).getD (x2 + x4).toNat 0) = (c 10 ((c 48 5) + x4))) (fun h => ?_) (fun h => ?_)
    · replace k := k.1 h
      show Q (cev 61 5 60 [vR 49, vR (-111), vI x2, vI x3, vI x4] [] (SH T, c))
      refine of_cev (Q := Q) ?_
      refine wq_pos (Q := Q) k.1 ?_
      replace k := k.2
      exact k
    · replace k := k.2 h
      exact k
  · replace k := k.2 h
    show Q (cev 61 5 66 [vU, vU, vU, vU, vU] [] (SH T, c))
    refine of_cev (Q := Q) ?_
    exact k
set_option maxRecDepth 20000 in
theorem W_X6_next {T : List Shp} {c : Nat → Int → Int} {Q : Res → Prop} (k : Q (cev 62 2 8 [vR 49] [] (SH T, (up c 48 5 (c 48 6))))) : Q (ccal 62 [vR 49] (SH T, c)) := by
  refine of_cev (Q := Q) ?_
  exact k
set_option maxRecDepth 20000 in
theorem W_X6_next_8 {T : List Shp} {c : Nat → Int → Int} {Q : Res → Prop} (k : (((c 48 5) < (c 48 1) → ((0 ≤ (c 48 5) ∧ (c 48 5) < 400) ∧ (((c 10 (c 48 5)) = 32 → ((-2147483648 ≤ (c 48 5) + 1 ∧ (c 48 5) + 1 < 2147483648) ∧ Q (cev 62 2 8 [vR 49] [] (SH T, (up c 48 5 ((c 48 5) + 1)))))) ∧ (¬ (c 10 (c 48 5)) = 32 → Q (cev 62 2 46 [vR 49] [] (SH T, c)))))) ∧ (¬ (c 48 5) < (c 48 1) → Q (cev 62 2 46 [vR 49] [] (SH T, c))))) : Q (cev 62 2 8 [vR 49] [] (SH T, c)) := by
  refine of_cev (Q := Q) ?_
  refine wq_ite (Q := Q) (p := (c 48 5) < (c 48 1)) (fun h => ?_) (fun h => ?_)
  · replace k := k.1 h
    refine wq_pos (Q := Q) k.1 ?_
    replace k := k.2
    refine wq_ite (Q := Q) (p := (c 10 (c 48 5)) = 32) (fun h => ?_) (fun h => ?_)
    · replace k := k.1 h
      refine wq_pos (Q := Q) k.1 ?_
      replace k := k.2
      exact k
    · replace k := k.2 h
      exact k
  · replace k := k.2 h
    exact k
set_option maxRecDepth 20000 in
theorem W_X6_next_46 {T : List Shp} {c : Nat → Int → Int} {Q : Res → Prop} (k : (((c 48 5) < (c 48 1) → ((0 ≤ (c 48 5) ∧ (c 48 5) < 400) ∧ (QI T (fun r1 c2 => ((r1 = 2 → ((-2147483648 ≤ (c2 48 6) + 1 ∧ (c2 48 6) + 1 < 2147483648) ∧ Q (some (none, (SH T, (up (up c2 48 4 r1) 48 6 ((c2 48 6) + 1))))))) ∧ (¬ r1 = 2 → Q (cev 62 2 111 [vR 49] [] (SH T, (up c2 48 4 r1)))))) (ccal 63 [vI (c 10 (c 48 5))] (SH T, (up (up c 48 6 (c 48 5)) 48 7 0)))))) ∧ (¬ (c 48 5) < (c 48 1) → Q (some (none, (SH T, (up (up (up c 48 6 (c 48 5)) 48 7 0) 48 4 3))))))) : Q (cev 62 2 46 [vR 49] [] (SH T, c)) := by
  refine of_cev (Q := Q) ?_
  refine wq_ite (Q := Q) (p := (c 48 5) < (c 48 1)) (fun h => ?_) (fun h => ?_)
  · replace k := k.1 h
    show Q (cev 62 2 76 [vR 49] [] (SH T, (up (up c 48 6 (c 48 5)) 48 7 0)))
    refine of_cev (Q := Q) ?_
    refine wq_pos (Q := Q) k.1 ?_
    replace k := k.2
    refine wq_callI (Q := Q) rfl k ?_
    intro r1 c2 k
    refine wq_ite (Q := Q) (p := r1 = 2) (fun h => ?_) (fun h => ?_)
    · replace k := k.1 h
      refine wq_pos (Q := Q) k.1 ?_
      replace k := k.2
      exact k
    · replace k := k.2 h
      exact k
  · replace k := k.2 h
    exact k
set_option maxRecDepth 20000 in
theorem W_X6_next_111 {T : List Shp} {c : Nat → Int → Int} {Q : Res → Prop} (k : (((c 48 6) < (c 48 1) → ((0 ≤ (c 48 6) ∧ (c 48 6) < 400) ∧ (QI T (fun r1 c2 => ((r1 = (c2 48 4) → (((c2 48 4) = 1 → (((-2147483648 ≤ (c2 48 7) * 10 ∧ (c2 48 7) * 10 < 2147483648) ∧ (0 ≤ (c2 48 6) ∧ (c2 48 6) < 400) ∧ (-2147483648 ≤ ((c2 48 7) * 10) + (c2 10 (c2 48 6)) ∧ ((c2 48 7) * 10) + (c2 10 (c2 48 6)) < 2147483648) ∧ (-2147483648 ≤ (((c2 48 7) * 10) + (c2 10 (c2 48 6))) - 48 ∧ (((c2 48 7) * 10) + (c2 10 (c2 48 6))) - 48 < 2147483648) ∧ (-2147483648 ≤ (c2 48 6) + 1 ∧ (c2 48 6) + 1 < 2147483648)) ∧ Q (cev 62 2 111 [vR 49] [] (SH T, (up (up c2 48 7 (if ((((c2 48 7) * 10) + (c2 10 (c2 48 6))) - 48) < 10000 then ((((c2 48 7) * 10) + (c2 10 (c2 48 6))) - 48) else 10000)) 48 6 ((c2 48 6) + 1)))))) ∧ (¬ (c2 48 4) = 1 → ((-2147483648 ≤ (c2 48 6) + 1 ∧ (c2 48 6) + 1 < 2147483648) ∧ Q (cev 62 2 111 [vR 49] [] (SH T, (up c2 48 6 ((c2 48 6) + 1)))))))) ∧ (¬ r1 = (c2 48 4) → Q (some (none, (SH T, c2)))))) (ccal 63 [vI (c 10 (c 48 6))] (SH T, c))))) ∧ (¬ (c 48 6) < (c 48 1) → Q (some (none, (SH T, c)))))) : Q (cev 62 2 111 [vR 49] [] (SH T, c)) := by
  refine of_cev (Q := Q) ?_
  refine wq_ite (Q := Q) (p := (c 48 6) < (c 48 1)) (fun h => ?_) (fun h => ?_)
  · replace k := k.1 h
    refine wq_pos (Q := Q) k.1 ?_
    replace k := k.2
    refine wq_callI (Q := Q) rfl k ?_
    intro r1 c2 k
    refine wq_ite (Q := Q) (p := r1 = (c2 48 4)) (fun h => ?_) (fun h => ?_)
    · replace k := k.1 h
      refine wq_ite (Q := Q) (p := (c2 48 4) = 1) (fun h => ?_) (fun h => ?_)
      · replace k := k.1 h
        refine wq_pos (Q := Q) k.1.1 ?_
        refine wq_pos (Q := Q) k.1.2.1 ?_
        refine wq_pos (Q := Q) k.1.2.2.1 ?_
        refine wq_pos (Q := Q) k.1.2.2.2.1 ?_
        show Q (cev 62 2 179 [vR 49] [] (SH T, (up c2 48 7 (if ((((c2 48 7) * 10) + (c2 10 (c2 48 6))) - 48) < 10000 then ((((c2 48 7) * 10) + (c2 10 (c2 48 6))) - 48) else 10000))))
        refine of_cev (Q := Q) ?_
        refine wq_pos (Q := Q) k.1.2.2.2.2 ?_
        replace k := k.2
        exact k
      · replace k := k.2 h
        show Q (cev 62 2 179 [vR 49] [] (SH T, c2))
        refine of_cev (Q := Q) ?_
        refine wq_pos (Q := Q) k.1 ?_
        replace k := k.2
        exact k
    · replace k := k.2 h
      show Q (cev 62 2 192 [vU] [] (SH T, c2))
      refine of_cev (Q := Q) ?_
      exact k
  · replace k := k.2 h
    show Q (cev 62 2 192 [vU] [] (SH T, c))
    refine of_cev (Q := Q) ?_
    exact k
set_option maxRecDepth 20000 in
theorem W_X6_kindOf {T : List Shp} {c : Nat → Int → Int} {Q : Res → Prop} {x0 : Int} (k : ((x0 < 97 → Q (cev 63 1 14 [vI x0] [] (SH T, c))) ∧ (¬ x0 < 97 → ((122 < x0 → Q (cev 63 1 14 [vI x0] [] (SH T, c))) ∧ (¬ 122 < x0 → Q (some (some (vI 0), (SH T, c)))))))) : Q (ccal 63 [vI x0] (SH T, c)) := by
  refine of_cev (Q := Q) ?_
  refine wq_ite (Q := Q) (p := x0 < 97) (fun h => ?_) (fun h => ?_)
  · replace k := k.1 h
    exact k
  · replace k := k.2 h
    refine wq_ite (Q := Q) (p := 122 < x0) (fun h => ?_) (fun h => ?_)
    · replace k := k.1 h
      exact k
    · replace k := k.2 h
      exact k
set_option maxRecDepth 20000 in
theorem W_X6_kindOf_14 {T : List Shp} {c : Nat → Int → Int} {Q : Res → Prop} {x0 : Int} (k : ((x0 < 48 → Q (some (some (vI 2), (SH T, c)))) ∧ (¬ x0 < 48 → ((57 < x0 → Q (some (some (vI 2), (SH T, c)))) ∧ (¬ 57 < x0 → Q (some (some (vI 1), (SH T, c)))))))) : Q (cev 63 1 14 [vI x0] [] (SH T, c)) := by
  refine of_cev (Q := Q) ?_
  refine wq_ite (Q := Q) (p := x0 < 48) (fun h => ?_) (fun h => ?_)
  · replace k := k.1 h
    show Q (cev 63 1 30 [vU] [] (SH T, c))
    refine of_cev (Q := Q) ?_
    exact k
  · replace k := k.2 h
    refine wq_ite (Q := Q) (p := 57 < x0) (fun h => ?_) (fun h => ?_)
    · replace k := k.1 h
      show Q (cev 63 1 30 [vU] [] (SH T, c))
      refine of_cev (Q := Q) ?_
      exact k
    · replace k := k.2 h
      exact k
set_option maxRecDepth 20000 in
theorem W_X11_first {T : List Shp} {c : Nat → Int → Int} {Q : Res → Prop} {x1 x2 : Int} (k : ((0 ≤ x1 ∧ x1 < 12 → ((0 ≤ x2 ∧ x2 < 10 → ((0 ≤ x1 ∧ x1 < 204) ∧ Q (some (some (vI (c 7 x1)), (SH T, (up (up (up c 7 x1 x2) 1 8 0) 0 17 0)))))) ∧ (¬ (0 ≤ x2 ∧ x2 < 10) → ((-2147483648 ≤ (c 76 0) + 1 ∧ (c 76 0) + 1 < 2147483648) ∧ Q (some (some (vI (-1)), (SH T, (up (up c 0 17 (-1)) 76 0 ((c 76 0) + 1))))))))) ∧ (¬ (0 ≤ x1 ∧ x1 < 12) → ((-2147483648 ≤ (c 76 0) + 1 ∧ (c 76 0) + 1 < 2147483648) ∧ Q (some (some (vI (-1)), (SH T, (up (up c 0 17 (-1)) 76 0 ((c 76 0) + 1))))))))) : Q (ccal 114 [vR 1, vI x1, vI x2] (SH T, c)) := by
  refine of_cev (Q := Q) ?_
  refine wq_sum (Q := Q) rfl (S_X11_isCell T c x1) ?_
  refine wq_b01 (Q := Q) (p := 0 ≤ x1 ∧ x1 < 12) (fun h => ?_) (fun h => ?_)
  · replace k := k.2 h
    show Q (cev 114 3 14 [vR 1, vU, vU, vU] [] (SH T, c))
    refine of_cev (Q := Q) ?_
    refine wq_sum (Q := Q) rfl (S_X11_refuse_1 T c k.1) ?_
    replace k := k.2
    exact k
  · replace k := k.1 h
    refine wq_sum (Q := Q) rfl (S_X11_isTone T c x2) ?_
    refine wq_b01 (Q := Q) (p := 0 ≤ x2 ∧ x2 < 10) (fun h => ?_) (fun h => ?_)
    · replace k := k.2 h
      show Q (cev 114 3 14 [vR 1, vU, vU, vU] [] (SH T, c))
      refine of_cev (Q := Q) ?_
      refine wq_sum (Q := Q) rfl (S_X11_refuse_1 T c k.1) ?_
      replace k := k.2
      exact k
    · replace k := k.1 h
      show Q (cev 114 3 20 [vR 1, vI x1, vI x2, vU] [] (SH T, c))
      refine of_cev (Q := Q) ?_
      refine wq_pos (Q := Q) k.1 ?_
      refine wq_pos (Q := Q) k.1 ?_
      refine wq_sum (Q := Q) rfl (S_X11_answer T (up (up c 7 x1 x2) 1 8 0) (c 7 x1)) ?_
      replace k := k.2
      exact k
set_option maxRecDepth 20000 in
theorem W_X11_painter {T : List Shp} {c : Nat → Int → Int} {Q : Res → Prop} {x1 x2 : Int} (k : ((x1 < 1 → ((-2147483648 ≤ (c 76 0) + 1 ∧ (c 76 0) + 1 < 2147483648) ∧ Q (some (some (vI (-1)), (SH T, (up (up c 0 17 (-1)) 76 0 ((c 76 0) + 1))))))) ∧ (¬ x1 < 1 → ((9 < x1 → ((-2147483648 ≤ (c 76 0) + 1 ∧ (c 76 0) + 1 < 2147483648) ∧ Q (some (some (vI (-1)), (SH T, (up (up c 0 17 (-1)) 76 0 ((c 76 0) + 1))))))) ∧ (¬ 9 < x1 → ((0 ≤ x2 ∧ x2 < 100 → (((c 1 0) < 5 → (((-2147483648 ≤ (c 1 0) * 5 ∧ (c 1 0) * 5 < 2147483648) ∧ (0 ≤ ((c 1 0) * 5) ∧ ((c 1 0) * 5) < 25) ∧ (-2147483648 ≤ ((c 1 0) * 5) + 1 ∧ ((c 1 0) * 5) + 1 < 2147483648) ∧ (0 ≤ (((c 1 0) * 5) + 1) ∧ (((c 1 0) * 5) + 1) < 25)) ∧ Q (cev 115 3 79 [vR 1, vU, vU, vI ((c 1 0) * 5), vI 0] [] (SH T, (up (up c 2 ((c 1 0) * 5) x1) 2 (((c 1 0) * 5) + 1) x2))))) ∧ (¬ (c 1 0) < 5 → ((-2147483648 ≤ (c 76 3) + 1 ∧ (c 76 3) + 1 < 2147483648) ∧ Q (some (some (vI (-5)), (SH T, (up (up c 0 17 (-5)) 76 3 ((c 76 3) + 1))))))))) ∧ (¬ (0 ≤ x2 ∧ x2 < 100) → ((-2147483648 ≤ (c 76 0) + 1 ∧ (c 76 0) + 1 < 2147483648) ∧ Q (some (some (vI (-1)), (SH T, (up (up c 0 17 (-1)) 76 0 ((c 76 0) + 1))))))))))))) : Q (ccal 115 [vR 1, vI x1, vI x2] (SH T, c)) := by
  refine of_cev (Q := Q) ?_
  refine wq_ite (Q := Q) (p := x1 < 1) (fun h => ?_) (fun h => ?_)
  · replace k := k.1 h
    show Q (cev 115 3 20 [vR 1, vU, vU, vU, vU] [] (SH T, c))
    refine of_cev (Q := Q) ?_
    refine wq_sum (Q := Q) rfl (S_X11_refuse_1 T c k.1) ?_
    replace k := k.2
    exact k
  · replace k := k.2 h
    refine wq_ite (Q := Q) (p := 9 < x1) (fun h => ?_) (fun h => ?_)
    · replace k := k.1 h
      show Q (cev 115 3 20 [vR 1, vU, vU, vU, vU] [] (SH T, c))
      refine of_cev (Q := Q) ?_
      refine wq_sum (Q := Q) rfl (S_X11_refuse_1 T c k.1) ?_
      replace k := k.2
      exact k
    · replace k := k.2 h
      refine wq_sum (Q := Q) rfl (S_X11_inside T c x2 100) ?_
      refine wq_b01 (Q := Q) (p := 0 ≤ x2 ∧ x2 < 100) (fun h => ?_) (fun h => ?_)
      · replace k := k.2 h
        show Q (cev 115 3 20 [vR 1, vU, vU, vU, vU] [] (SH T, c))
        refine of_cev (Q := Q) ?_
        refine wq_sum (Q := Q) rfl (S_X11_refuse_1 T c k.1) ?_
        replace k := k.2
        exact k
      · replace k := k.1 h
        show Q (cev 115 3 26 [vR 1, vI x1, vI x2, vU, vU] [] (SH T, c))
        refine of_cev (Q := Q) ?_
        refine wq_ite (Q := Q) (p := (c 1 0) < 5) (fun h => ?_) (fun h => ?_)
        · replace k := k.1 h
          show Q (cev 115 3 44 [vR 1, vI x1, vI x2, vU, vU] [] (SH T, c))
          refine of_cev (Q := Q) ?_
          refine wq_pos (Q := Q) k.1.1 ?_
          refine wq_pos (Q := Q) k.1.2.1 ?_
          refine wq_pos (Q := Q) k.1.2.2.1 ?_
          refine wq_pos (Q := Q) k.1.2.2.2 ?_
          replace k := k.2
          exact k
        · replace k := k.2 h
          refine wq_sum (Q := Q) rfl (S_X11_refuse_5 T c k.1) ?_
          replace k := k.2
          exact k
set_option maxRecDepth 20000 in
theorem W_X11_painter_79 {T : List Shp} {c : Nat → Int → Int} {Q : Res → Prop} {x3 x4 : Int} (k : ((x4 < 3 → (((-2147483648 ≤ x3 + 2 ∧ x3 + 2 < 2147483648) ∧ (-2147483648 ≤ (x3 + 2) + x4 ∧ (x3 + 2) + x4 < 2147483648) ∧ (0 ≤ ((x3 + 2) + x4) ∧ ((x3 + 2) + x4) < 25) ∧ (-2147483648 ≤ x4 + 1 ∧ x4 + 1 < 2147483648)) ∧ Q (cev 115 3 79 [vR 1, vU, vU, vI x3, vI (x4 + 1)] [] (SH T, (up c 2 ((x3 + 2) + x4) 3))))) ∧ (¬ x4 < 3 → (((-2147483648 ≤ (c 1 0) + 1 ∧ (c 1 0) + 1 < 2147483648) ∧ (-2147483648 ≤ ((c 1 0) + 1) - 1 ∧ ((c 1 0) + 1) - 1 < 2147483648)) ∧ Q (some (some (vI (((c 1 0) + 1) - 1)), (SH T, (up (up c 1 0 ((c 1 0) + 1)) 0 17 0)))))))) : Q (cev 115 3 79 [vR 1, vU, vU, vI x3, vI x4] [] (SH T, c)) := by
  refine of_cev (Q := Q) ?_
  refine wq_ite (Q := Q) (p := x4 < 3) (fun h => ?_) (fun h => ?_)
  · replace k := k.1 h
    refine wq_pos (Q := Q) k.1.1 ?_
    refine wq_pos (Q := Q) k.1.2.1 ?_
    refine wq_pos (Q := Q) k.1.2.2.1 ?_
    refine wq_pos (Q := Q) k.1.2.2.2 ?_
    replace k := k.2
    exact k
  · replace k := k.2 h
    show Q (cev 115 3 106 [vR 1, vU, vU, vU, vU] [] (SH T, c))
    refine of_cev (Q := Q) ?_
    refine wq_pos (Q := Q) k.1.1 ?_
    refine wq_pos (Q := Q) k.1.2 ?_
    refine wq_sum (Q := Q) rfl (S_X11_answer T (up c 1 0 ((c 1 0) + 1)) (((c 1 0) + 1) - 1)) ?_
    replace k := k.2
    exact k
set_option maxRecDepth 20000 in
theorem W_X11_err {T : List Shp} {c : Nat → Int → Int} {Q : Res → Prop} {x1 x2 x3 : Int} (k : ((0 ≤ x2 ∧ x2 < 3 → ((0 ≤ x3 ∧ x3 < 7 → ((0 ≤ x1 ∧ x1 < (c 1 0) → (((-2147483648 ≤ x1 * 5 ∧ x1 * 5 < 2147483648) ∧ (-2147483648 ≤ (x1 * 5) + 2 ∧ (x1 * 5) + 2 < 2147483648) ∧ (-2147483648 ≤ ((x1 * 5) + 2) + x2 ∧ ((x1 * 5) + 2) + x2 < 2147483648) ∧ (0 ≤ (((x1 * 5) + 2) + x2) ∧ (((x1 * 5) + 2) + x2) < 25)) ∧ Q (some (some (vI (c 2 (((x1 * 5) + 2) + x2))), (SH T, (up (up c 2 (((x1 * 5) + 2) + x2) x3) 0 17 0)))))) ∧ (¬ (0 ≤ x1 ∧ x1 < (c 1 0)) → ((-2147483648 ≤ (c 76 1) + 1 ∧ (c 76 1) + 1 < 2147483648) ∧ Q (some (some (vI (-2)), (SH T, (up (up c 0 17 (-2)) 76 1 ((c 76 1) + 1))))))))) ∧ (¬ (0 ≤ x3 ∧ x3 < 7) → ((-2147483648 ≤ (c 76 0) + 1 ∧ (c 76 0) + 1 < 2147483648) ∧ Q (some (some (vI (-1)), (SH T, (up (up c 0 17 (-1)) 76 0 ((c 76 0) + 1))))))))) ∧ (¬ (0 ≤ x2 ∧ x2 < 3) → ((-2147483648 ≤ (c 76 0) + 1 ∧ (c 76 0) + 1 < 2147483648) ∧ Q (some (some (vI (-1)), (SH T, (up (up c 0 17 (-1)) 76 0 ((c 76 0) + 1))))))))) : Q (ccal 116 [vR 1, vI x1, vI x2, vI x3] (SH T, c)) := by
  refine of_cev (Q := Q) ?_
  refine wq_sum (Q := Q) rfl (S_X11_inside T c x2 3) ?_
  refine wq_b01 (Q := Q) (p := 0 ≤ x2 ∧ x2 < 3) (fun h => ?_) (fun h => ?_)
  · replace k := k.2 h
    show Q (cev 116 3 17 [vR 1, vU, vU, vU, vU, vU] [] (SH T, c))
    refine of_cev (Q := Q) ?_
    refine wq_sum (Q := Q) rfl (S_X11_refuse_1 T c k.1) ?_
    replace k := k.2
    exact k
  · replace k := k.1 h
    refine wq_sum (Q := Q) rfl (S_X11_inside T c x3 7) ?_
    refine wq_b01 (Q := Q) (p := 0 ≤ x3 ∧ x3 < 7) (fun h => ?_) (fun h => ?_)
    · replace k := k.2 h
      show Q (cev 116 3 17 [vR 1, vU, vU, vU, vU, vU] [] (SH T, c))
      refine of_cev (Q := Q) ?_
      refine wq_sum (Q := Q) rfl (S_X11_refuse_1 T c k.1) ?_
      replace k := k.2
      exact k
    · replace k := k.1 h
      show Q (cev 116 3 23 [vR 1, vI x1, vI x2, vI x3, vU, vU] [] (SH T, c))
      refine of_cev (Q := Q) ?_
      refine wq_sum (Q := Q) rfl (S_X7_hasPainter T c x1) ?_
      refine wq_b01 (Q := Q) (p := 0 ≤ x1 ∧ x1 < (c 1 0)) (fun h => ?_) (fun h => ?_)
      · replace k := k.2 h
        refine wq_sum (Q := Q) rfl (S_X11_refuse_2 T c k.1) ?_
        replace k := k.2
        exact k
      · replace k := k.1 h
        show Q (cev 116 3 41 [vR 1, vI x1, vI x2, vI x3, vU, vU] [] (SH T, c))
        refine of_cev (Q := Q) ?_
        refine wq_pos (Q := Q) k.1.1 ?_
        refine wq_pos (Q := Q) k.1.2.1 ?_
        refine wq_pos (Q := Q) k.1.2.2.1 ?_
        refine wq_pos (Q := Q) k.1.2.2.2 ?_
        refine wq_pos (Q := Q) k.1.2.2.2 ?_
        refine wq_sum (Q := Q) rfl (S_X11_answer T (up c 2 (((x1 * 5) + 2) + x2) x3) (c 2 (((x1 * 5) + 2) + x2))) ?_
        replace k := k.2
        exact k
set_option maxRecDepth 20000 in
theorem W_X11_of {T : List Shp} {c : Nat → Int → Int} {Q : Res → Prop} {x1 x2 : Int} (k : ((0 ≤ x1 ∧ x1 < (c 1 0) → ((0 ≤ x2 ∧ x2 < 5 → (((-2147483648 ≤ x1 * 5 ∧ x1 * 5 < 2147483648) ∧ (-2147483648 ≤ (x1 * 5) + x2 ∧ (x1 * 5) + x2 < 2147483648) ∧ (0 ≤ ((x1 * 5) + x2) ∧ ((x1 * 5) + x2) < 25)) ∧ Q (some (some (vI (c 2 ((x1 * 5) + x2))), (SH T, c))))) ∧ (¬ (0 ≤ x2 ∧ x2 < 5) → Q (some (some (vI (-1)), (SH T, c)))))) ∧ (¬ (0 ≤ x1 ∧ x1 < (c 1 0)) → Q (some (some (vI (-1)), (SH T, c)))))) : Q (ccal 117 [vR 1, vI x1, vI x2] (SH T, c)) := by
  refine of_cev (Q := Q) ?_
  refine wq_sum (Q := Q) rfl (S_X7_hasPainter T c x1) ?_
  refine wq_b01 (Q := Q) (p := 0 ≤ x1 ∧ x1 < (c 1 0)) (fun h => ?_) (fun h => ?_)
  · replace k := k.2 h
    show Q (cev 117 3 19 [vU, vU, vU] [] (SH T, c))
    refine of_cev (Q := Q) ?_
    exact k
  · replace k := k.1 h
    refine wq_sum (Q := Q) rfl (S_X11_inside T c x2 5) ?_
    refine wq_b01 (Q := Q) (p := 0 ≤ x2 ∧ x2 < 5) (fun h => ?_) (fun h => ?_)
    · replace k := k.2 h
      show Q (cev 117 3 19 [vU, vU, vU] [] (SH T, c))
      refine of_cev (Q := Q) ?_
      exact k
    · replace k := k.1 h
      show Q (cev 117 3 21 [vR 1, vI x1, vI x2] [] (SH T, c))
      refine of_cev (Q := Q) ?_
      refine wq_pos (Q := Q) k.1.1 ?_
      refine wq_pos (Q := Q) k.1.2.1 ?_
      refine wq_pos (Q := Q) k.1.2.2 ?_
      replace k := k.2
      exact k
set_option maxRecDepth 20000 in
theorem W_X11_terms {T : List Shp} {c : Nat → Int → Int} {Q : Res → Prop} {x1 x2 : Int} (k : ((0 ≤ x1 ∧ x1 < 5 → ((x2 < 0 → ((-2147483648 ≤ (c 76 0) + 1 ∧ (c 76 0) + 1 < 2147483648) ∧ Q (some (some (vI (-1)), (SH T, (up (up c 0 17 (-1)) 76 0 ((c 76 0) + 1))))))) ∧ (¬ x2 < 0 → (QI T (fun r1 c2 => ((r1 < x2 → ((-2147483648 ≤ (c2 76 0) + 1 ∧ (c2 76 0) + 1 < 2147483648) ∧ Q (some (some (vI (-1)), (SH T, (up (up c2 0 17 (-1)) 76 0 ((c2 76 0) + 1))))))) ∧ (¬ r1 < x2 → ((0 ≤ x1 ∧ x1 < 5) ∧ Q (some (some (vI (c2 4 x1)), (SH T, (up (up c2 4 x1 x2) 0 17 0)))))))) (ccal 176 [vI x1] (SH T, c)))))) ∧ (¬ (0 ≤ x1 ∧ x1 < 5) → ((-2147483648 ≤ (c 76 0) + 1 ∧ (c 76 0) + 1 < 2147483648) ∧ Q (some (some (vI (-1)), (SH T, (up (up c 0 17 (-1)) 76 0 ((c 76 0) + 1))))))))) : Q (ccal 118 [vR 1, vI x1, vI x2] (SH T, c)) := by
  refine of_cev (Q := Q) ?_
  refine wq_sum (Q := Q) rfl (S_X11_inside T c x1 5) ?_
  refine wq_b01 (Q := Q) (p := 0 ≤ x1 ∧ x1 < 5) (fun h => ?_) (fun h => ?_)
  · replace k := k.2 h
    show Q (cev 118 3 20 [vR 1, vU, vU, vU] [] (SH T, c))
    refine of_cev (Q := Q) ?_
    refine wq_sum (Q := Q) rfl (S_X11_refuse_1 T c k.1) ?_
    replace k := k.2
    exact k
  · replace k := k.1 h
    refine wq_ite (Q := Q) (p := x2 < 0) (fun h => ?_) (fun h => ?_)
    · replace k := k.1 h
      show Q (cev 118 3 20 [vR 1, vU, vU, vU] [] (SH T, c))
      refine of_cev (Q := Q) ?_
      refine wq_sum (Q := Q) rfl (S_X11_refuse_1 T c k.1) ?_
      replace k := k.2
      exact k
    · replace k := k.2 h
      refine wq_callI (Q := Q) rfl k ?_
      intro r1 c2 k
      refine wq_ite (Q := Q) (p := r1 < x2) (fun h => ?_) (fun h => ?_)
      · replace k := k.1 h
        show Q (cev 118 3 20 [vR 1, vU, vU, vU] [] (SH T, c2))
        refine of_cev (Q := Q) ?_
        refine wq_sum (Q := Q) rfl (S_X11_refuse_1 T c2 k.1) ?_
        replace k := k.2
        exact k
      · replace k := k.2 h
        show Q (cev 118 3 26 [vR 1, vI x1, vI x2, vU] [] (SH T, c2))
        refine of_cev (Q := Q) ?_
        refine wq_pos (Q := Q) k.1 ?_
        refine wq_pos (Q := Q) k.1 ?_
        refine wq_sum (Q := Q) rfl (S_X11_answer T (up c2 4 x1 x2) (c2 4 x1)) ?_
        replace k := k.2
        exact k
set_option maxRecDepth 20000 in
theorem W_X11_scar {T : List Shp} {c : Nat → Int → Int} {Q : Res → Prop} {x1 x2 x3 : Int} (k : ((0 ≤ x1 ∧ x1 < 12 → ((0 ≤ x2 ∧ x2 < 100 → ((0 ≤ x3 ∧ x3 < 10 → (((c 1 2) < 6 → (((-2147483648 ≤ (c 1 2) * 3 ∧ (c 1 2) * 3 < 2147483648) ∧ (0 ≤ ((c 1 2) * 3) ∧ ((c 1 2) * 3) < 18) ∧ (-2147483648 ≤ ((c 1 2) * 3) + 1 ∧ ((c 1 2) * 3) + 1 < 2147483648) ∧ (0 ≤ (((c 1 2) * 3) + 1) ∧ (((c 1 2) * 3) + 1) < 18) ∧ (-2147483648 ≤ ((c 1 2) * 3) + 2 ∧ ((c 1 2) * 3) + 2 < 2147483648) ∧ (0 ≤ (((c 1 2) * 3) + 2) ∧ (((c 1 2) * 3) + 2) < 18) ∧ (-2147483648 ≤ (c 1 2) + 1 ∧ (c 1 2) + 1 < 2147483648) ∧ (-2147483648 ≤ ((c 1 2) + 1) - 1 ∧ ((c 1 2) + 1) - 1 < 2147483648)) ∧ Q (some (some (vI (((c 1 2) + 1) - 1)), (SH T, (up (up (up (up (up c 3 ((c 1 2) * 3) x1) 3 (((c 1 2) * 3) + 1) x2) 3 (((c 1 2) * 3) + 2) x3) 1 2 ((c 1 2) + 1)) 0 17 0)))))) ∧ (¬ (c 1 2) < 6 → ((-2147483648 ≤ (c 76 3) + 1 ∧ (c 76 3) + 1 < 2147483648) ∧ Q (some (some (vI (-5)), (SH T, (up (up c 0 17 (-5)) 76 3 ((c 76 3) + 1))))))))) ∧ (¬ (0 ≤ x3 ∧ x3 < 10) → ((-2147483648 ≤ (c 76 0) + 1 ∧ (c 76 0) + 1 < 2147483648) ∧ Q (some (some (vI (-1)), (SH T, (up (up c 0 17 (-1)) 76 0 ((c 76 0) + 1))))))))) ∧ (¬ (0 ≤ x2 ∧ x2 < 100) → ((-2147483648 ≤ (c 76 0) + 1 ∧ (c 76 0) + 1 < 2147483648) ∧ Q (some (some (vI (-1)), (SH T, (up (up c 0 17 (-1)) 76 0 ((c 76 0) + 1))))))))) ∧ (¬ (0 ≤ x1 ∧ x1 < 12) → ((-2147483648 ≤ (c 76 0) + 1 ∧ (c 76 0) + 1 < 2147483648) ∧ Q (some (some (vI (-1)), (SH T, (up (up c 0 17 (-1)) 76 0 ((c 76 0) + 1))))))))) : Q (ccal 119 [vR 1, vI x1, vI x2, vI x3] (SH T, c)) := by
  refine of_cev (Q := Q) ?_
  refine wq_sum (Q := Q) rfl (S_X11_isCell T c x1) ?_
  refine wq_b01 (Q := Q) (p := 0 ≤ x1 ∧ x1 < 12) (fun h => ?_) (fun h => ?_)
  · replace k := k.2 h
    show Q (cev 119 3 23 [vR 1, vU, vU, vU, vU] [] (SH T, c))
    refine of_cev (Q := Q) ?_
    refine wq_sum (Q := Q) rfl (S_X11_refuse_1 T c k.1) ?_
    replace k := k.2
    exact k
  · replace k := k.1 h
    refine wq_sum (Q := Q) rfl (S_X11_inside T c x2 100) ?_
    refine wq_b01 (Q := Q) (p := 0 ≤ x2 ∧ x2 < 100) (fun h => ?_) (fun h => ?_)
    · replace k := k.2 h
      show Q (cev 119 3 23 [vR 1, vU, vU, vU, vU] [] (SH T, c))
      refine of_cev (Q := Q) ?_
      refine wq_sum (Q := Q) rfl (S_X11_refuse_1 T c k.1) ?_
      replace k := k.2
      exact k
    · replace k := k.1 h
      refine wq_sum (Q := Q) rfl (S_X11_isTone T c x3) ?_
      refine wq_b01 (Q := Q) (p := 0 ≤ x3 ∧ x3 < 10) (fun h => ?_) (fun h => ?_)
      · replace k := k.2 h
        show Q (cev 119 3 23 [vR 1, vU, vU, vU, vU] [] (SH T, c))
        refine of_cev (Q := Q) ?_
        refine wq_sum (Q := Q) rfl (S_X11_refuse_1 T c k.1) ?_
        replace k := k.2
        exact k
      · replace k := k.1 h
        show Q (cev 119 3 29 [vR 1, vI x1, vI x2, vI x3, vU] [] (SH T, c))
        refine of_cev (Q := Q) ?_
        refine wq_ite (Q := Q) (p := (c 1 2) < 6) (fun h => ?_) (fun h => ?_)
        · replace k := k.1 h
          show Q (cev 119 3 48 [vR 1, vI x1, vI x2, vI x3, vU] [] (SH T, c))
          refine of_cev (Q := Q) ?_
          refine wq_pos (Q := Q) k.1.1 ?_
          refine wq_pos (Q := Q) k.1.2.1 ?_
          refine wq_pos (Q := Q) k.1.2.2.1 ?_
          refine wq_pos (Q := Q) k.1.2.2.2.1 ?_
          refine wq_pos (Q := Q) k.1.2.2.2.2.1 ?_
          refine wq_pos (Q := Q) k.1.2.2.2.2.2.1 ?_
          refine wq_pos (Q := Q) k.1.2.2.2.2.2.2.1 ?_
          refine wq_pos (Q := Q) k.1.2.2.2.2.2.2.2 ?_
          refine wq_sum (Q := Q) rfl (S_X11_answer T (up (up (up (up c 3 ((c 1 2) * 3) x1) 3 (((c 1 2) * 3) + 1) x2) 3 (((c 1 2) * 3) + 2) x3) 1 2 ((c 1 2) + 1)) (((c 1 2) + 1) - 1)) ?_
          replace k := k.2
          exact k
        · replace k := k.2 h
          refine wq_sum (Q := Q) rfl (S_X11_refuse_5 T c k.1) ?_
          replace k := k.2
          exact k
set_option maxRecDepth 20000 in
theorem W_X11_heal {T : List Shp} {c : Nat → Int → Int} {Q : Res → Prop} {x1 : Int} (k : ((0 ≤ x1 ∧ x1 < (c 1 2) → (((-2147483648 ≤ x1 + 1 ∧ x1 + 1 < 2147483648) ∧ (-2147483648 ≤ (x1 + 1) * 3 ∧ (x1 + 1) * 3 < 2147483648)) ∧ Q (cev 120 3 27 [vR 1, vU, vI ((x1 + 1) * 3)] [] (SH T, c)))) ∧ (¬ (0 ≤ x1 ∧ x1 < (c 1 2)) → ((-2147483648 ≤ (c 76 1) + 1 ∧ (c 76 1) + 1 < 2147483648) ∧ Q (some (some (vI (-2)), (SH T, (up (up c 0 17 (-2)) 76 1 ((c 76 1) + 1))))))))) : Q (ccal 120 [vR 1, vI x1] (SH T, c)) := by
  refine of_cev (Q := Q) ?_
  refine wq_sum (Q := Q) rfl (S_X11_inside T c x1 (c 1 2)) ?_
  refine wq_b01 (Q := Q) (p := 0 ≤ x1 ∧ x1 < (c 1 2)) (fun h => ?_) (fun h => ?_)
  · replace k := k.2 h
    refine wq_sum (Q := Q) rfl (S_X11_refuse_2 T c k.1) ?_
    replace k := k.2
    exact k
  · replace k := k.1 h
    show Q (cev 120 3 21 [vR 1, vI x1, vU] [] (SH T, c))
    refine of_cev (Q := Q) ?_
    refine wq_pos (Q := Q) k.1.1 ?_
    refine wq_pos (Q := Q) k.1.2 ?_
    replace k := k.2
    exact k
set_option maxRecDepth 20000 in
theorem W_X11_heal_27 {T : List Shp} {c : Nat → Int → Int} {Q : Res → Prop} {x2 : Int} (k : ((-2147483648 ≤ (c 1 2) * 3 ∧ (c 1 2) * 3 < 2147483648) ∧ ((x2 < ((c 1 2) * 3) → (((-2147483648 ≤ x2 - 3 ∧ x2 - 3 < 2147483648) ∧ (0 ≤ x2 ∧ x2 < 18) ∧ (0 ≤ (x2 - 3) ∧ (x2 - 3) < 18) ∧ (-2147483648 ≤ x2 + 1 ∧ x2 + 1 < 2147483648)) ∧ Q (cev 120 3 27 [vR 1, vU, vI (x2 + 1)] [] (SH T, (up c 3 (x2 - 3) (c 3 x2)))))) ∧ (¬ x2 < ((c 1 2) * 3) → ((-2147483648 ≤ (c 1 2) - 1 ∧ (c 1 2) - 1 < 2147483648) ∧ Q (some (some (vI ((c 1 2) - 1)), (SH T, (up (up c 1 2 ((c 1 2) - 1)) 0 17 0))))))))) : Q (cev 120 3 27 [vR 1, vU, vI x2] [] (SH T, c)) := by
  refine of_cev (Q := Q) ?_
  refine wq_pos (Q := Q) k.1 ?_
  replace k := k.2
  refine wq_ite (Q := Q) (p := x2 < ((c 1 2) * 3)) (fun h => ?_) (fun h => ?_)
  · replace k := k.1 h
    refine wq_pos (Q := Q) k.1.1 ?_
    refine wq_pos (Q := Q) k.1.2.1 ?_
    refine wq_pos (Q := Q) k.1.2.2.1 ?_
    refine wq_pos (Q := Q) k.1.2.2.2 ?_
    replace k := k.2
    exact k
  · replace k := k.2 h
    show Q (cev 120 3 66 [vR 1, vU, vU] [] (SH T, c))
    refine of_cev (Q := Q) ?_
    refine wq_pos (Q := Q) k.1 ?_
    refine wq_sum (Q := Q) rfl (S_X11_answer T (up c 1 2 ((c 1 2) - 1)) ((c 1 2) - 1)) ?_
    replace k := k.2
    exact k
set_option maxRecDepth 20000 in
theorem W_X11_feed {T : List Shp} {c : Nat → Int → Int} {Q : Res → Prop} {x1 x2 x3 x4 x5 : Int} (k : ((-2147483648 ≤ (c 0 4) + 20 ∧ (c 0 4) + 20 < 2147483648) ∧ ((400 < ((c 0 4) + 20) → Q (some (some (vI (-1)), (SH T, c)))) ∧ (¬ 400 < ((c 0 4) + 20) → (QV T (fun c1 => (QV T (fun c2 => (QV T (fun c3 => (QV T (fun c4 => (QV T (fun c5 => Q (some (some (vI (c5 0 4)), (SH T, c5)))) (ccal 173 [vR 1, vI x5] (SH T, c4)))) (ccal 173 [vR 1, vI x4] (SH T, c3)))) (ccal 173 [vR 1, vI x3] (SH T, c2)))) (ccal 173 [vR 1, vI x2] (SH T, c1)))) (ccal 173 [vR 1, vI x1] (SH T, c))))))) : Q (ccal 121 [vR 1, vI x1, vI x2, vI x3, vI x4, vI x5] (SH T, c)) := by
  refine of_cev (Q := Q) ?_
  refine wq_pos (Q := Q) k.1 ?_
  replace k := k.2
  refine wq_ite (Q := Q) (p := 400 < ((c 0 4) + 20)) (fun h => ?_) (fun h => ?_)
  · replace k := k.1 h
    exact k
  · replace k := k.2 h
    show Q (cev 121 2 15 [vR 1, vI x1, vI x2, vI x3, vI x4, vI x5] [] (SH T, c))
    refine of_cev (Q := Q) ?_
    refine wq_callV (Q := Q) rfl k ?_
    intro c1 k
    refine wq_callV (Q := Q) rfl k ?_
    intro c2 k
    refine wq_callV (Q := Q) rfl k ?_
    intro c3 k
    refine wq_callV (Q := Q) rfl k ?_
    intro c4 k
    refine wq_callV (Q := Q) rfl k ?_
    intro c5 k
    exact k
set_option maxRecDepth 20000 in
theorem W_X11_end {T : List Shp} {c : Nat → Int → Int} {Q : Res → Prop} {x1 : Int} (k : ((x1 < 0 → Q (some (some (vI (-1)), (SH T, c)))) ∧ (¬ x1 < 0 → (((c 0 4) < x1 → Q (some (some (vI (-1)), (SH T, c)))) ∧ (¬ (c 0 4) < x1 → Q (some (some (vI x1), (SH T, (up c 0 4 x1))))))))) : Q (ccal 122 [vR 1, vI x1] (SH T, c)) := by
  refine of_cev (Q := Q) ?_
  refine wq_ite (Q := Q) (p := x1 < 0) (fun h => ?_) (fun h => ?_)
  · replace k := k.1 h
    show Q (cev 122 1 12 [vU, vU] [] (SH T, c))
    refine of_cev (Q := Q) ?_
    exact k
  · replace k := k.2 h
    refine wq_ite (Q := Q) (p := (c 0 4) < x1) (fun h => ?_) (fun h => ?_)
    · replace k := k.1 h
      show Q (cev 122 1 12 [vU, vU] [] (SH T, c))
      refine of_cev (Q := Q) ?_
      exact k
    · replace k := k.2 h
      show Q (cev 122 1 14 [vR 1, vI x1] [] (SH T, c))
      refine of_cev (Q := Q) ?_
      exact k
set_option maxRecDepth 20000 in
theorem W_X11_row {T : List Shp} {c : Nat → Int → Int} {Q : Res → Prop} (k : (((c 0 4) = 0 → ((-2147483648 ≤ (c 76 4) + 1 ∧ (c 76 4) + 1 < 2147483648) ∧ Q (some (some (vI (-6)), (SH T, (up (up c 0 17 (-6)) 76 4 ((c 76 4) + 1))))))) ∧ (¬ (c 0 4) = 0 → Q (cev 123 3 18 [vR 1, vI 0, vI 0] [] (SH T, c))))) : Q (ccal 123 [vR 1] (SH T, c)) := by
  refine of_cev (Q := Q) ?_
  refine wq_ite (Q := Q) (p := (c 0 4) = 0) (fun h => ?_) (fun h => ?_)
  · replace k := k.1 h
    refine wq_sum (Q := Q) rfl (S_X11_refuse_6 T c k.1) ?_
    replace k := k.2
    exact k
  · replace k := k.2 h
    show Q (cev 123 3 14 [vR 1, vU, vU] [] (SH T, c))
    refine of_cev (Q := Q) ?_
    exact k
set_option maxRecDepth 20000 in
theorem W_X11_row_18 {T : List Shp} {c : Nat → Int → Int} {Q : Res → Prop} {x1 x2 : Int} (k : ((x2 < (c 0 4) → ((x2 < 12 → ((0 ≤ x2 ∧ x2 < 400) ∧ (((c 10 x2) < 10 → (((0 ≤ x2 ∧ x2 < 400) ∧ (0 ≤ x2 ∧ x2 < 204) ∧ (-2147483648 ≤ x1 + 1 ∧ x1 + 1 < 2147483648) ∧ (-2147483648 ≤ x2 + 1 ∧ x2 + 1 < 2147483648)) ∧ Q (cev 123 3 18 [vR 1, vI (x1 + 1), vI (x2 + 1)] [] (SH T, (up c 7 x2 (c 10 x2)))))) ∧ (¬ (c 10 x2) < 10 → ((-2147483648 ≤ x2 + 1 ∧ x2 + 1 < 2147483648) ∧ Q (cev 123 3 18 [vR 1, vI x1, vI (x2 + 1)] [] (SH T, c))))))) ∧ (¬ x2 < 12 → Q (cev 123 3 67 [vR 1, vI x1, vU] [] (SH T, c))))) ∧ (¬ x2 < (c 0 4) → Q (cev 123 3 67 [vR 1, vI x1, vU] [] (SH T, c))))) : Q (cev 123 3 18 [vR 1, vI x1, vI x2] [] (SH T, c)) := by
  refine of_cev (Q := Q) ?_
  refine wq_ite (Q := Q) (p := x2 < (c 0 4)) (fun h => ?_) (fun h => ?_)
  · replace k := k.1 h
    refine wq_ite (Q := Q) (p := x2 < 12) (fun h => ?_) (fun h => ?_)
    · replace k := k.1 h
      refine wq_pos (Q := Q) k.1 ?_
      replace k := k.2
      refine wq_ite (Q := Q) (p := (c 10 x2) < 10) (fun h => ?_) (fun h => ?_)
      · replace k := k.1 h
        refine wq_pos (Q := Q) k.1.1 ?_
        refine wq_pos (Q := Q) k.1.2.1 ?_
        refine wq_pos (Q := Q) k.1.2.2.1 ?_
        show Q (cev 123 3 61 [vR 1, vI (x1 + 1), vI x2] [] (SH T, (up c 7 x2 (c 10 x2))))
        refine of_cev (Q := Q) ?_
        refine wq_pos (Q := Q) k.1.2.2.2 ?_
        replace k := k.2
        exact k
      · replace k := k.2 h
        show Q (cev 123 3 61 [vR 1, vI x1, vI x2] [] (SH T, c))
        refine of_cev (Q := Q) ?_
        refine wq_pos (Q := Q) k.1 ?_
        replace k := k.2
        exact k
    · replace k := k.2 h
      exact k
  · replace k := k.2 h
    exact k
set_option maxRecDepth 20000 in
theorem W_X11_row_67 {T : List Shp} {c : Nat → Int → Int} {Q : Res → Prop} {x1 : Int} (k : ((-2147483648 ≤ (c 0 4) - x1 ∧ (c 0 4) - x1 < 2147483648) ∧ Q (some (some (vI x1), (SH T, (up (up (up (up c 0 15 ((c 0 4) - x1)) 1 8 0) 0 4 0) 0 17 0)))))) : Q (cev 123 3 67 [vR 1, vI x1, vU] [] (SH T, c)) := by
  refine of_cev (Q := Q) ?_
  refine wq_pos (Q := Q) k.1 ?_
  refine wq_sum (Q := Q) rfl (S_X11_answer T (up (up (up c 0 15 ((c 0 4) - x1)) 1 8 0) 0 4 0) x1) ?_
  replace k := k.2
  exact k
set_option maxRecDepth 20000 in
theorem W_X11_flakes {T : List Shp} {c : Nat → Int → Int} {Q : Res → Prop} (k : Q (some (some (vI (c 0 15)), (SH T, c)))) : Q (ccal 124 [vR 1] (SH T, c)) := by
  refine of_cev (Q := Q) ?_
  exact k
set_option maxRecDepth 20000 in
theorem W_X11_orders {T : List Shp} {c : Nat → Int → Int} {Q : Res → Prop} (k : (QI T (fun r1 c2 => ((r1 = (-1) → (QI T (fun r3 c4 => ((r3 = 0 → Q (some (some (vI (c4 59 9)), (SH T, (up c4 0 17 0))))) ∧ (¬ r3 = 0 → (QI T (fun r5 c6 => Q (some (some (vI r5), (SH T, c6)))) (ccal 172 [vR 1, vI r3] (SH T, (up c4 0 16 (c4 59 8)))))))) (ccal 6 [vR 60, vR 12] (SH T, (up c2 0 14 r1))))) ∧ (¬ r1 = (-1) → ((-2147483648 ≤ (c2 76 4) + 1 ∧ (c2 76 4) + 1 < 2147483648) ∧ Q (some (some (vI (-6)), (SH T, (up (up (up c2 0 14 r1) 0 17 (-6)) 76 4 ((c2 76 4) + 1))))))))) (ccal 43 [vR 49, vI (c 0 4), vI 1] (SH T, (up (up c 0 4 0) 0 16 (-1)))))) : Q (ccal 126 [vR 1] (SH T, c)) := by
  refine of_cev (Q := Q) ?_
  refine wq_callI (Q := Q) rfl k ?_
  intro r1 c2 k
  refine wq_ite (Q := Q) (p := r1 = (-1)) (fun h => ?_) (fun h => ?_)
  · replace k := k.1 h
    show Q (cev 126 105 43 [vR 1, vU, vU] [] (SH T, (up c2 0 14 r1)))
    refine of_cev (Q := Q) ?_
    refine wq_callI (Q := Q) rfl k ?_
    intro r3 c4 k
    refine wq_ite (Q := Q) (p := r3 = 0) (fun h => ?_) (fun h => ?_)
    · replace k := k.1 h
      show Q (cev 126 105 76 [vR 1, vU, vU] [] (SH T, c4))
      refine of_cev (Q := Q) ?_
      refine wq_sum (Q := Q) rfl (S_X11_answer T c4 (c4 59 9)) ?_
      exact k
    · replace k := k.2 h
      refine wq_callI (Q := Q) rfl k ?_
      intro r5 c6 k
      exact k
  · replace k := k.2 h
    refine wq_sum (Q := Q) rfl (S_X11_refuse_6 T (up c2 0 14 r1) k.1) ?_
    replace k := k.2
    exact k
set_option maxRecDepth 20000 in
theorem W_X11_fault {T : List Shp} {c : Nat → Int → Int} {Q : Res → Prop} (k : Q (some (some (vI (c 0 14)), (SH T, c)))) : Q (ccal 127 [vR 1] (SH T, c)) := by
  refine of_cev (Q := Q) ?_
  exact k
set_option maxRecDepth 20000 in
theorem W_X11_stopped {T : List Shp} {c : Nat → Int → Int} {Q : Res → Prop} (k : Q (some (some (vI (c 0 16)), (SH T, c)))) : Q (ccal 128 [vR 1] (SH T, c)) := by
  refine of_cev (Q := Q) ?_
  exact k
set_option maxRecDepth 20000 in
theorem W_X11_force {T : List Shp} {c : Nat → Int → Int} {Q : Res → Prop} {x1 : Int} (k : ((x1 = (-1) → Q (cev 129 3 26 [vR 1, vI x1, vU] [] (SH T, c))) ∧ (¬ x1 = (-1) → ((0 ≤ x1 ∧ x1 < (c 1 5) → Q (cev 129 3 26 [vR 1, vI x1, vU] [] (SH T, c))) ∧ (¬ (0 ≤ x1 ∧ x1 < (c 1 5)) → ((-2147483648 ≤ (c 76 1) + 1 ∧ (c 76 1) + 1 < 2147483648) ∧ Q (some (some (vI (-2)), (SH T, (up (up c 0 17 (-2)) 76 1 ((c 76 1) + 1))))))))))) : Q (ccal 129 [vR 1, vI x1] (SH T, c)) := by
  refine of_cev (Q := Q) ?_
  refine wq_ite (Q := Q) (p := x1 = (-1)) (fun h => ?_) (fun h => ?_)
  · replace k := k.1 h
    exact k
  · replace k := k.2 h
    refine wq_sum (Q := Q) rfl (S_X11_inside T c x1 (c 1 5)) ?_
    refine wq_b01 (Q := Q) (p := 0 ≤ x1 ∧ x1 < (c 1 5)) (fun h => ?_) (fun h => ?_)
    · replace k := k.2 h
      refine wq_sum (Q := Q) rfl (S_X11_refuse_2 T c k.1) ?_
      replace k := k.2
      exact k
    · replace k := k.1 h
      exact k
set_option maxRecDepth 20000 in
theorem W_X11_force_26 {T : List Shp} {c : Nat → Int → Int} {Q : Res → Prop} {x1 : Int} (k : Q (some (some (vI (c 1 7)), (SH T, (up (up c 1 7 x1) 0 17 0))))) : Q (cev 129 3 26 [vR 1, vI x1, vU] [] (SH T, c)) := by
  refine of_cev (Q := Q) ?_
  refine wq_sum (Q := Q) rfl (S_X11_answer T (up c 1 7 x1) (c 1 7)) ?_
  exact k
set_option maxRecDepth 20000 in
theorem W_X11_looks {T : List Shp} {c : Nat → Int → Int} {Q : Res → Prop} {x1 x2 x3 : Int} (k : ((0 ≤ x2 ∧ x2 < 100 → ((x1 = (-1) → (QI T (fun r1 c2 => Q (some (some (vI r1), (SH T, c2)))) (ccal 69 [vR 2, vI x2] (SH T, c)))) ∧ (¬ x1 = (-1) → ((0 ≤ x1 ∧ x1 < 12 → ((0 ≤ x3 ∧ x3 < 2 → ((x3 = 0 → (QI T (fun r3 c4 => Q (some (some (vI r3), (SH T, c4)))) (ccal 23 [vR 15, vI x1, vI x2] (SH T, c)))) ∧ (¬ x3 = 0 → (QI T (fun r5 c6 => Q (some (some (vI r5), (SH T, c6)))) (ccal 24 [vR 15, vI x1, vI x2] (SH T, c)))))) ∧ (¬ (0 ≤ x3 ∧ x3 < 2) → Q (some (some (vI (-1)), (SH T, c)))))) ∧ (¬ (0 ≤ x1 ∧ x1 < 12) → Q (some (some (vI (-1)), (SH T, c)))))))) ∧ (¬ (0 ≤ x2 ∧ x2 < 100) → Q (some (some (vI (-1)), (SH T, c)))))) : Q (ccal 130 [vR 1, vI x1, vI x2, vI x3] (SH T, c)) := by
  refine of_cev (Q := Q) ?_
  refine wq_sum (Q := Q) rfl (S_X11_inside T c x2 100) ?_
  refine wq_b01 (Q := Q) (p := 0 ≤ x2 ∧ x2 < 100) (fun h => ?_) (fun h => ?_)
  · replace k := k.2 h
    exact k
  · replace k := k.1 h
    show Q (cev 130 5 11 [vR 1, vI x1, vI x2, vI x3] [] (SH T, c))
    refine of_cev (Q := Q) ?_
    refine wq_ite (Q := Q) (p := x1 = (-1)) (fun h => ?_) (fun h => ?_)
    · replace k := k.1 h
      refine wq_callI (Q := Q) rfl k ?_
      intro r1 c2 k
      exact k
    · replace k := k.2 h
      show Q (cev 130 5 25 [vR 1, vI x1, vI x2, vI x3] [] (SH T, c))
      refine of_cev (Q := Q) ?_
      refine wq_sum (Q := Q) rfl (S_X11_isCell T c x1) ?_
      refine wq_b01 (Q := Q) (p := 0 ≤ x1 ∧ x1 < 12) (fun h => ?_) (fun h => ?_)
      · replace k := k.2 h
        show Q (cev 130 5 40 [vU, vU, vU, vU] [] (SH T, c))
        refine of_cev (Q := Q) ?_
        exact k
      · replace k := k.1 h
        refine wq_sum (Q := Q) rfl (S_X11_inside T c x3 2) ?_
        refine wq_b01 (Q := Q) (p := 0 ≤ x3 ∧ x3 < 2) (fun h => ?_) (fun h => ?_)
        · replace k := k.2 h
          show Q (cev 130 5 40 [vU, vU, vU, vU] [] (SH T, c))
          refine of_cev (Q := Q) ?_
          exact k
        · replace k := k.1 h
          show Q (cev 130 5 42 [vR 1, vI x1, vI x2, vI x3] [] (SH T, c))
          refine of_cev (Q := Q) ?_
          refine wq_ite (Q := Q) (p := x3 = 0) (fun h => ?_) (fun h => ?_)
          · replace k := k.1 h
            refine wq_callI (Q := Q) rfl k ?_
            intro r3 c4 k
            exact k
          · replace k := k.2 h
            show Q (cev 130 5 58 [vR 1, vI x1, vI x2, vU] [] (SH T, c))
            refine of_cev (Q := Q) ?_
            refine wq_callI (Q := Q) rfl k ?_
            intro r5 c6 k
            exact k
set_option maxRecDepth 20000 in
theorem W_X11_asks {T : List Shp} {c : Nat → Int → Int} {Q : Res → Prop} {x1 x2 x3 : Int} (k : ((0 ≤ x1 ∧ x1 < (c 1 0) → ((0 ≤ x2 ∧ x2 < 100 → ((0 ≤ x3 ∧ x3 < 2 → ((x3 = 0 → (QI T (fun r1 c2 => Q (some (some (vI r1), (SH T, c2)))) (ccal 25 [vR 15, vI x1, vI x2] (SH T, c)))) ∧ (¬ x3 = 0 → (QI T (fun r3 c4 => (QI T (fun r5 c6 => Q (some (some (vI r5), (SH T, c6)))) (ccal 181 [vI r3] (SH T, c4)))) (ccal 26 [vR 15, vI x1, vI x2] (SH T, c)))))) ∧ (¬ (0 ≤ x3 ∧ x3 < 2) → Q (some (some (vI (-1)), (SH T, c)))))) ∧ (¬ (0 ≤ x2 ∧ x2 < 100) → Q (some (some (vI (-1)), (SH T, c)))))) ∧ (¬ (0 ≤ x1 ∧ x1 < (c 1 0)) → Q (some (some (vI (-1)), (SH T, c)))))) : Q (ccal 131 [vR 1, vI x1, vI x2, vI x3] (SH T, c)) := by
  refine of_cev (Q := Q) ?_
  refine wq_sum (Q := Q) rfl (S_X7_hasPainter T c x1) ?_
  refine wq_b01 (Q := Q) (p := 0 ≤ x1 ∧ x1 < (c 1 0)) (fun h => ?_) (fun h => ?_)
  · replace k := k.2 h
    show Q (cev 131 5 28 [vU, vU, vU, vU] [] (SH T, c))
    refine of_cev (Q := Q) ?_
    exact k
  · replace k := k.1 h
    refine wq_sum (Q := Q) rfl (S_X11_inside T c x2 100) ?_
    refine wq_b01 (Q := Q) (p := 0 ≤ x2 ∧ x2 < 100) (fun h => ?_) (fun h => ?_)
    · replace k := k.2 h
      show Q (cev 131 5 28 [vU, vU, vU, vU] [] (SH T, c))
      refine of_cev (Q := Q) ?_
      exact k
    · replace k := k.1 h
      refine wq_sum (Q := Q) rfl (S_X11_inside T c x3 2) ?_
      refine wq_b01 (Q := Q) (p := 0 ≤ x3 ∧ x3 < 2) (fun h => ?_) (fun h => ?_)
      · replace k := k.2 h
        show Q (cev 131 5 28 [vU, vU, vU, vU] [] (SH T, c))
        refine of_cev (Q := Q) ?_
        exact k
      · replace k := k.1 h
        show Q (cev 131 5 30 [vR 1, vI x1, vI x2, vI x3] [] (SH T, c))
        refine of_cev (Q := Q) ?_
        refine wq_ite (Q := Q) (p := x3 = 0) (fun h => ?_) (fun h => ?_)
        · replace k := k.1 h
          refine wq_callI (Q := Q) rfl k ?_
          intro r1 c2 k
          exact k
        · replace k := k.2 h
          show Q (cev 131 5 46 [vR 1, vI x1, vI x2, vU] [] (SH T, c))
          refine of_cev (Q := Q) ?_
          refine wq_callI (Q := Q) rfl k ?_
          intro r3 c4 k
          refine wq_callI (Q := Q) rfl k ?_
          intro r5 c6 k
          exact k
set_option maxRecDepth 20000 in
theorem W_X11_paint {T : List Shp} {c : Nat → Int → Int} {Q : Res → Prop} {x1 : Int} (k : ((0 ≤ x1 ∧ x1 < (c 1 0) → ((-2147483648 ≤ (c 1 8) + 1 ∧ (c 1 8) + 1 < 2147483648) ∧ (QI T (fun r1 c2 => ((r1 = 0 → (QI T (fun r3 c4 => ((r3 = 0 → (((c4 1 8) < 16 → (QV T (fun c5 => (QI T (fun r6 c7 => Q (some (some (vI r6), (SH T, (up c7 0 17 0))))) (ccal 96 [vR 19, vI (c5 1 8)] (SH T, c5)))) (ccal 95 [vR 19, vI x1] (SH T, c4)))) ∧ (¬ (c4 1 8) < 16 → ((-2147483648 ≤ (c4 76 3) + 1 ∧ (c4 76 3) + 1 < 2147483648) ∧ Q (some (some (vI (-5)), (SH T, (up (up c4 0 17 (-5)) 76 3 ((c4 76 3) + 1))))))))) ∧ (¬ r3 = 0 → ((-2147483648 ≤ (c4 76 2) + 1 ∧ (c4 76 2) + 1 < 2147483648) ∧ Q (some (some (vI (-3)), (SH T, (up (up c4 0 17 (-3)) 76 2 ((c4 76 2) + 1))))))))) (ccal 70 [vR 2, vI x1, vI ((c 1 8) + 1)] (SH T, c2)))) ∧ (¬ r1 = 0 → ((-2147483648 ≤ (c2 76 2) + 1 ∧ (c2 76 2) + 1 < 2147483648) ∧ Q (some (some (vI (-3)), (SH T, (up (up c2 0 17 (-3)) 76 2 ((c2 76 2) + 1))))))))) (ccal 26 [vR 15, vI x1, vI ((c 1 8) + 1)] (SH T, c))))) ∧ (¬ (0 ≤ x1 ∧ x1 < (c 1 0)) → ((-2147483648 ≤ (c 76 1) + 1 ∧ (c 76 1) + 1 < 2147483648) ∧ Q (some (some (vI (-2)), (SH T, (up (up c 0 17 (-2)) 76 1 ((c 76 1) + 1))))))))) : Q (ccal 132 [vR 1, vI x1] (SH T, c)) := by
  refine of_cev (Q := Q) ?_
  refine wq_sum (Q := Q) rfl (S_X7_hasPainter T c x1) ?_
  refine wq_b01 (Q := Q) (p := 0 ≤ x1 ∧ x1 < (c 1 0)) (fun h => ?_) (fun h => ?_)
  · replace k := k.2 h
    refine wq_sum (Q := Q) rfl (S_X11_refuse_2 T c k.1) ?_
    replace k := k.2
    exact k
  · replace k := k.1 h
    show Q (cev 132 6 18 [vR 1, vI x1, vU] [] (SH T, c))
    refine of_cev (Q := Q) ?_
    refine wq_pos (Q := Q) k.1 ?_
    replace k := k.2
    refine wq_callI (Q := Q) rfl k ?_
    intro r1 c2 k
    refine wq_ite (Q := Q) (p := r1 = 0) (fun h => ?_) (fun h => ?_)
    · replace k := k.1 h
      refine wq_callI (Q := Q) rfl k ?_
      intro r3 c4 k
      refine wq_ite (Q := Q) (p := r3 = 0) (fun h => ?_) (fun h => ?_)
      · replace k := k.1 h
        show Q (cev 132 6 59 [vR 1, vI x1, vU] [] (SH T, c4))
        refine of_cev (Q := Q) ?_
        refine wq_ite (Q := Q) (p := (c4 1 8) < 16) (fun h => ?_) (fun h => ?_)
        · replace k := k.1 h
          show Q (cev 132 6 78 [vR 1, vI x1, vU] [] (SH T, c4))
          refine of_cev (Q := Q) ?_
          refine wq_callV (Q := Q) rfl k ?_
          intro c5 k
          refine wq_callI (Q := Q) rfl k ?_
          intro r6 c7 k
          refine wq_sum (Q := Q) rfl (S_X11_answer T c7 r6) ?_
          exact k
        · replace k := k.2 h
          refine wq_sum (Q := Q) rfl (S_X11_refuse_5 T c4 k.1) ?_
          replace k := k.2
          exact k
      · replace k := k.2 h
        show Q (cev 132 6 52 [vR 1, vU, vU] [] (SH T, c4))
        refine of_cev (Q := Q) ?_
        refine wq_sum (Q := Q) rfl (S_X11_refuse_3 T c4 k.1) ?_
        replace k := k.2
        exact k
    · replace k := k.2 h
      show Q (cev 132 6 52 [vR 1, vU, vU] [] (SH T, c2))
      refine of_cev (Q := Q) ?_
      refine wq_sum (Q := Q) rfl (S_X11_refuse_3 T c2 k.1) ?_
      replace k := k.2
      exact k
set_option maxRecDepth 20000 in
theorem W_X11_scrape {T : List Shp} {c : Nat → Int → Int} {Q : Res → Prop} (k : (((c 1 8) = 0 → ((-2147483648 ≤ (c 76 2) + 1 ∧ (c 76 2) + 1 < 2147483648) ∧ Q (some (some (vI (-3)), (SH T, (up (up c 0 17 (-3)) 76 2 ((c 76 2) + 1))))))) ∧ (¬ (c 1 8) = 0 → (((-2147483648 ≤ (c 1 8) - 1 ∧ (c 1 8) - 1 < 2147483648) ∧ (-2147483648 ≤ ((c 1 8) - 1) + 1 ∧ ((c 1 8) - 1) + 1 < 2147483648) ∧ (0 ≤ (((c 1 8) - 1) + 1) ∧ (((c 1 8) - 1) + 1) < 17)) ∧ Q (some (some (vI (c 6 (((c 1 8) - 1) + 1))), (SH T, (up (up c 1 8 ((c 1 8) - 1)) 0 17 0)))))))) : Q (ccal 133 [vR 1] (SH T, c)) := by
  refine of_cev (Q := Q) ?_
  refine wq_ite (Q := Q) (p := (c 1 8) = 0) (fun h => ?_) (fun h => ?_)
  · replace k := k.1 h
    refine wq_sum (Q := Q) rfl (S_X11_refuse_3 T c k.1) ?_
    replace k := k.2
    exact k
  · replace k := k.2 h
    show Q (cev 133 3 17 [vR 1] [] (SH T, c))
    refine of_cev (Q := Q) ?_
    refine wq_pos (Q := Q) k.1.1 ?_
    refine wq_pos (Q := Q) k.1.2.1 ?_
    refine wq_pos (Q := Q) k.1.2.2 ?_
    refine wq_sum (Q := Q) rfl (S_X11_answer T (up c 1 8 ((c 1 8) - 1)) (c 6 (((c 1 8) - 1) + 1))) ?_
    replace k := k.2
    exact k
set_option maxRecDepth 20000 in
theorem W_X11_tone {T : List Shp} {c : Nat → Int → Int} {Q : Res → Prop} {x1 x2 : Int} (k : ((-2147483648 ≤ (c 1 8) + 1 ∧ (c 1 8) + 1 < 2147483648) ∧ ((0 ≤ x1 ∧ x1 < (c 1 8) + 1 → ((0 ≤ x2 ∧ x2 < 12 → (((-2147483648 ≤ x1 * 12 ∧ x1 * 12 < 2147483648) ∧ (-2147483648 ≤ (x1 * 12) + x2 ∧ (x1 * 12) + x2 < 2147483648) ∧ (0 ≤ ((x1 * 12) + x2) ∧ ((x1 * 12) + x2) < 204)) ∧ Q (some (some (vI (c 7 ((x1 * 12) + x2))), (SH T, c))))) ∧ (¬ (0 ≤ x2 ∧ x2 < 12) → Q (some (some (vI (-1)), (SH T, c)))))) ∧ (¬ (0 ≤ x1 ∧ x1 < (c 1 8) + 1) → Q (some (some (vI (-1)), (SH T, c))))))) : Q (ccal 134 [vR 1, vI x1, vI x2] (SH T, c)) := by
  refine of_cev (Q := Q) ?_
  refine wq_sum (Q := Q) rfl (S_X7_hasLayer T c x1 k.1) ?_
  replace k := k.2
  refine wq_b01 (Q := Q) (p := 0 ≤ x1 ∧ x1 < (c 1 8) + 1) (fun h => ?_) (fun h => ?_)
  · replace k := k.2 h
    show Q (cev 134 3 18 [vU, vU, vU] [] (SH T, c))
    refine of_cev (Q := Q) ?_
    exact k
  · replace k := k.1 h
    refine wq_sum (Q := Q) rfl (S_X11_isCell T c x2) ?_
    refine wq_b01 (Q := Q) (p := 0 ≤ x2 ∧ x2 < 12) (fun h => ?_) (fun h => ?_)
    · replace k := k.2 h
      show Q (cev 134 3 18 [vU, vU, vU] [] (SH T, c))
      refine of_cev (Q := Q) ?_
      exact k
    · replace k := k.1 h
      show Q (cev 134 3 20 [vR 1, vI x1, vI x2] [] (SH T, c))
      refine of_cev (Q := Q) ?_
      refine wq_pos (Q := Q) k.1.1 ?_
      refine wq_pos (Q := Q) k.1.2.1 ?_
      refine wq_pos (Q := Q) k.1.2.2 ?_
      replace k := k.2
      exact k
set_option maxRecDepth 20000 in
theorem W_X11_layer {T : List Shp} {c : Nat → Int → Int} {Q : Res → Prop} {x1 x2 : Int} (k : ((-2147483648 ≤ (c 1 8) + 1 ∧ (c 1 8) + 1 < 2147483648) ∧ ((0 ≤ x1 ∧ x1 < (c 1 8) + 1 → ((x2 = 0 → (QI T (fun r1 c2 => Q (some (some (vI r1), (SH T, c2)))) (ccal 96 [vR 19, vI x1] (SH T, c)))) ∧ ((x2 = 1 → ((x1 = 0 → Q (some (some (vI (-1)), (SH T, c)))) ∧ (¬ x1 = 0 → ((0 ≤ x1 ∧ x1 < 17) ∧ Q (some (some (vI (c 6 x1)), (SH T, c))))))) ∧ ((x2 = 2 → ((x1 = 0 → Q (some (some (vI 0), (SH T, c)))) ∧ (¬ x1 = 0 → ((0 ≤ x1 ∧ x1 < 17) ∧ (QI T (fun r3 c4 => Q (some (some (vI r3), (SH T, c4)))) (ccal 25 [vR 15, vI (c 6 x1), vI x1] (SH T, c))))))) ∧ ((x2 = 3 → (QI T (fun r5 c6 => Q (some (some (vI r5), (SH T, c6)))) (ccal 97 [vR 19, vI x1] (SH T, c)))) ∧ (¬ (x2 = 0 ∨ x2 = 1 ∨ x2 = 2 ∨ x2 = 3) → Q (some (some (vI (-1)), (SH T, c))))))))) ∧ (¬ (0 ≤ x1 ∧ x1 < (c 1 8) + 1) → Q (some (some (vI (-1)), (SH T, c))))))) : Q (ccal 135 [vR 1, vI x1, vI x2] (SH T, c)) := by
  refine of_cev (Q := Q) ?_
  refine wq_sum (Q := Q) rfl (S_X7_hasLayer T c x1 k.1) ?_
  replace k := k.2
  refine wq_b01 (Q := Q) (p := 0 ≤ x1 ∧ x1 < (c 1 8) + 1) (fun h => ?_) (fun h => ?_)
  · replace k := k.2 h
    exact k
  · replace k := k.1 h
    show Q (cev 135 6 13 [vR 1, vI x1, vI x2] [] (SH T, c))
    refine of_cev (Q := Q) ?_
    refine wq_ite (Q := Q) (p := x2 = 0) (fun h0 => ?_) (fun h0 => ?_)
    · replace k := k.1 h0
      show Q (cev 135 6 44 [vR 1, vI x1, vU] [] (SH T, c))
      refine of_cev (Q := Q) ?_
      refine wq_callI (Q := Q) rfl k ?_
      intro r1 c2 k
      exact k
    replace k := k.2
    refine wq_ite (Q := Q) (p := x2 = 1) (fun h1 => ?_) (fun h1 => ?_)
    · replace k := k.1 h1
      show Q (cev 135 6 53 [vR 1, vI x1, vU] [] (SH T, c))
      refine of_cev (Q := Q) ?_
      refine wq_ite (Q := Q) (p := x1 = 0) (fun h => ?_) (fun h => ?_)
      · replace k := k.1 h
        exact k
      · replace k := k.2 h
        show Q (cev 135 6 61 [vR 1, vI x1, vU] [] (SH T, c))
        refine of_cev (Q := Q) ?_
        refine wq_pos (Q := Q) k.1 ?_
        replace k := k.2
        exact k
    replace k := k.2
    refine wq_ite (Q := Q) (p := x2 = 2) (fun h2 => ?_) (fun h2 => ?_)
    · replace k := k.1 h2
      show Q (cev 135 6 71 [vR 1, vI x1, vU] [] (SH T, c))
      refine of_cev (Q := Q) ?_
      refine wq_ite (Q := Q) (p := x1 = 0) (fun h => ?_) (fun h => ?_)
      · replace k := k.1 h
        exact k
      · replace k := k.2 h
        show Q (cev 135 6 79 [vR 1, vI x1, vU] [] (SH T, c))
        refine of_cev (Q := Q) ?_
        refine wq_pos (Q := Q) k.1 ?_
        replace k := k.2
        refine wq_callI (Q := Q) rfl k ?_
        intro r3 c4 k
        exact k
    replace k := k.2
    refine wq_ite (Q := Q) (p := x2 = 3) (fun h3 => ?_) (fun h3 => ?_)
    · replace k := k.1 h3
      show Q (cev 135 6 97 [vR 1, vI x1, vU] [] (SH T, c))
      refine of_cev (Q := Q) ?_
      refine wq_callI (Q := Q) rfl k ?_
      intro r5 c6 k
      exact k
    replace k := k.2
    replace k := k (fun h => by rcases h with h | h | h | h <;> first | exact h0 h | exact h1 h | exact h2 h | exact h3 h)
    show Q (cev 135 6 106 [vU, vU, vU] [] (SH T, c))
    refine of_cev (Q := Q) ?_
    exact k
set_option maxRecDepth 20000 in
theorem W_X11_unlawful {T : List Shp} {c : Nat → Int → Int} {Q : Res → Prop} (k : Q (cev 136 6 2 [vR 1, vI 0] [] (SH T, c))) : Q (ccal 136 [vR 1] (SH T, c)) := by
  refine of_cev (Q := Q) ?_
  exact k
set_option maxRecDepth 20000 in
theorem W_X11_unlawful_2 {T : List Shp} {c : Nat → Int → Int} {Q : Res → Prop} {x1 : Int} (k : (((c 1 8) < x1 → Q (some (some (vI (-1)), (SH T, c)))) ∧ (¬ (c 1 8) < x1 → (QI T (fun r1 c2 => ((r1 = (-1) → ((-2147483648 ≤ x1 + 1 ∧ x1 + 1 < 2147483648) ∧ Q (cev 136 6 2 [vR 1, vI (x1 + 1)] [] (SH T, c2)))) ∧ (¬ r1 = (-1) → Q (some (some (vI x1), (SH T, c2)))))) (ccal 97 [vR 19, vI x1] (SH T, c)))))) : Q (cev 136 6 2 [vR 1, vI x1] [] (SH T, c)) := by
  refine of_cev (Q := Q) ?_
  refine wq_ite (Q := Q) (p := (c 1 8) < x1) (fun h => ?_) (fun h => ?_)
  · replace k := k.1 h
    show Q (cev 136 6 33 [vU, vU] [] (SH T, c))
    refine of_cev (Q := Q) ?_
    exact k
  · replace k := k.2 h
    refine wq_callI (Q := Q) rfl k ?_
    intro r1 c2 k
    refine wq_ite (Q := Q) (p := r1 = (-1)) (fun h => ?_) (fun h => ?_)
    · replace k := k.1 h
      show Q (cev 136 6 27 [vR 1, vI x1] [] (SH T, c2))
      refine of_cev (Q := Q) ?_
      refine wq_pos (Q := Q) k.1 ?_
      replace k := k.2
      exact k
    · replace k := k.2 h
      exact k
set_option maxRecDepth 20000 in
theorem W_X11_money {T : List Shp} {c : Nat → Int → Int} {Q : Res → Prop} {x1 : Int} (k : ((-2147483648 ≤ (c 1 8) + 1 ∧ (c 1 8) + 1 < 2147483648) ∧ ((0 ≤ x1 ∧ x1 < (c 1 8) + 1 → (QI T (fun r1 c2 => Q (some (some (vI r1), (SH T, c2)))) (ccal 98 [vR 19, vI x1] (SH T, c)))) ∧ (¬ (0 ≤ x1 ∧ x1 < (c 1 8) + 1) → Q (some (some (vI (-1000000)), (SH T, c))))))) : Q (ccal 137 [vR 1, vI x1] (SH T, c)) := by
  refine of_cev (Q := Q) ?_
  refine wq_sum (Q := Q) rfl (S_X7_hasLayer T c x1 k.1) ?_
  replace k := k.2
  refine wq_b01 (Q := Q) (p := 0 ≤ x1 ∧ x1 < (c 1 8) + 1) (fun h => ?_) (fun h => ?_)
  · replace k := k.2 h
    show Q (cev 137 6 22 [vU, vU] [] (SH T, c))
    refine of_cev (Q := Q) ?_
    exact k
  · replace k := k.1 h
    refine wq_callI (Q := Q) rfl k ?_
    intro r1 c2 k
    exact k
set_option maxRecDepth 20000 in
theorem W_X11_broke {T : List Shp} {c : Nat → Int → Int} {Q : Res → Prop} (k : Q (cev 138 6 2 [vR 1, vI 0] [] (SH T, c))) : Q (ccal 138 [vR 1] (SH T, c)) := by
  refine of_cev (Q := Q) ?_
  exact k
set_option maxRecDepth 20000 in
theorem W_X11_broke_2 {T : List Shp} {c : Nat → Int → Int} {Q : Res → Prop} {x1 : Int} (k : (((c 1 8) < x1 → Q (some (some (vI (-1)), (SH T, c)))) ∧ (¬ (c 1 8) < x1 → (QI T (fun r1 c2 => ((r1 < 0 → Q (some (some (vI x1), (SH T, c2)))) ∧ (¬ r1 < 0 → ((-2147483648 ≤ x1 + 1 ∧ x1 + 1 < 2147483648) ∧ Q (cev 138 6 2 [vR 1, vI (x1 + 1)] [] (SH T, c2)))))) (ccal 98 [vR 19, vI x1] (SH T, c)))))) : Q (cev 138 6 2 [vR 1, vI x1] [] (SH T, c)) := by
  refine of_cev (Q := Q) ?_
  refine wq_ite (Q := Q) (p := (c 1 8) < x1) (fun h => ?_) (fun h => ?_)
  · replace k := k.1 h
    show Q (cev 138 6 32 [vU, vU] [] (SH T, c))
    refine of_cev (Q := Q) ?_
    exact k
  · replace k := k.2 h
    refine wq_callI (Q := Q) rfl k ?_
    intro r1 c2 k
    refine wq_ite (Q := Q) (p := r1 < 0) (fun h => ?_) (fun h => ?_)
    · replace k := k.1 h
      exact k
    · replace k := k.2 h
      show Q (cev 138 6 26 [vR 1, vI x1] [] (SH T, c2))
      refine of_cev (Q := Q) ?_
      refine wq_pos (Q := Q) k.1 ?_
      replace k := k.2
      exact k
set_option maxRecDepth 20000 in
theorem W_X11_plan {T : List Shp} {c : Nat → Int → Int} {Q : Res → Prop} {x1 x2 x3 : Int} (k : ((x1 < 0 → Q (some (some (vI (-1)), (SH T, c)))) ∧ (¬ x1 < 0 → ((2 < x1 → Q (some (some (vI (-1)), (SH T, c)))) ∧ (¬ 2 < x1 → ((0 ≤ x2 ∧ x2 < 6 → ((x3 < 0 → Q (some (some (vI (-1)), (SH T, c)))) ∧ (¬ x3 < 0 → ((-2147483648 ≤ 3 + x2 ∧ 3 + x2 < 2147483648) ∧ ((x3 < (3 + x2) → (QV T (fun c1 => ((x3 = 2 → Q (some (some (vI (c1 21 14)), (SH T, c1)))) ∧ (¬ x3 = 2 → (((c1 21 14) = 0 → Q (some (some (vI (-1)), (SH T, c1)))) ∧ (¬ (c1 21 14) = 0 → ((x3 = 0 → Q (some (some (vI (c1 21 12)), (SH T, c1)))) ∧ (¬ x3 = 0 → ((x3 = 1 → Q (some (some (vI (c1 21 13)), (SH T, c1)))) ∧ (¬ x3 = 1 → (((-2147483648 ≤ x3 - 3 ∧ x3 - 3 < 2147483648) ∧ (0 ≤ (x3 - 3) ∧ (x3 - 3) < 5)) ∧ Q (some (some (vI (c1 28 (x3 - 3))), (SH T, c1))))))))))))) (ccal 35 [vR 22, vI x1, vI x2] (SH T, c)))) ∧ (¬ x3 < (3 + x2) → Q (some (some (vI (-1)), (SH T, c))))))))) ∧ (¬ (0 ≤ x2 ∧ x2 < 6) → Q (some (some (vI (-1)), (SH T, c)))))))))) : Q (ccal 139 [vR 1, vI x1, vI x2, vI x3] (SH T, c)) := by
  refine of_cev (Q := Q) ?_
  refine wq_ite (Q := Q) (p := x1 < 0) (fun h => ?_) (fun h => ?_)
  · replace k := k.1 h
    show Q (cev 139 18 18 [vU, vU, vU, vU] [] (SH T, c))
    refine of_cev (Q := Q) ?_
    exact k
  · replace k := k.2 h
    refine wq_ite (Q := Q) (p := 2 < x1) (fun h => ?_) (fun h => ?_)
    · replace k := k.1 h
      show Q (cev 139 18 18 [vU, vU, vU, vU] [] (SH T, c))
      refine of_cev (Q := Q) ?_
      exact k
    · replace k := k.2 h
      refine wq_sum (Q := Q) rfl (S_X11_inside T c x2 6) ?_
      refine wq_b01 (Q := Q) (p := 0 ≤ x2 ∧ x2 < 6) (fun h => ?_) (fun h => ?_)
      · replace k := k.2 h
        show Q (cev 139 18 18 [vU, vU, vU, vU] [] (SH T, c))
        refine of_cev (Q := Q) ?_
        exact k
      · replace k := k.1 h
        show Q (cev 139 18 20 [vR 1, vI x1, vI x2, vI x3] [] (SH T, c))
        refine of_cev (Q := Q) ?_
        refine wq_ite (Q := Q) (p := x3 < 0) (fun h => ?_) (fun h => ?_)
        · replace k := k.1 h
          show Q (cev 139 18 31 [vU, vU, vU, vU] [] (SH T, c))
          refine of_cev (Q := Q) ?_
          exact k
        · replace k := k.2 h
          refine wq_pos (Q := Q) k.1 ?_
          replace k := k.2
          refine wq_ite (Q := Q) (p := x3 < (3 + x2)) (fun h => ?_) (fun h => ?_)
          · replace k := k.1 h
            show Q (cev 139 18 33 [vR 1, vI x1, vI x2, vI x3] [] (SH T, c))
            refine of_cev (Q := Q) ?_
            refine wq_callV (Q := Q) rfl k ?_
            intro c1 k
            refine wq_ite (Q := Q) (p := x3 = 2) (fun h => ?_) (fun h => ?_)
            · replace k := k.1 h
              exact k
            · replace k := k.2 h
              show Q (cev 139 18 55 [vR 1, vU, vU, vI x3] [] (SH T, c1))
              refine of_cev (Q := Q) ?_
              refine wq_ite (Q := Q) (p := (c1 21 14) = 0) (fun h => ?_) (fun h => ?_)
              · replace k := k.1 h
                exact k
              · replace k := k.2 h
                show Q (cev 139 18 67 [vR 1, vU, vU, vI x3] [] (SH T, c1))
                refine of_cev (Q := Q) ?_
                refine wq_ite (Q := Q) (p := x3 = 0) (fun h => ?_) (fun h => ?_)
                · replace k := k.1 h
                  exact k
                · replace k := k.2 h
                  show Q (cev 139 18 79 [vR 1, vU, vU, vI x3] [] (SH T, c1))
                  refine of_cev (Q := Q) ?_
                  refine wq_ite (Q := Q) (p := x3 = 1) (fun h => ?_) (fun h => ?_)
                  · replace k := k.1 h
                    exact k
                  · replace k := k.2 h
                    show Q (cev 139 18 94 [vR 1, vU, vU, vI x3] [] (SH T, c1))
                    refine of_cev (Q := Q) ?_
                    refine wq_pos (Q := Q) k.1.1 ?_
                    refine wq_pos (Q := Q) k.1.2 ?_
                    replace k := k.2
                    exact k
          · replace k := k.2 h
            show Q (cev 139 18 31 [vU, vU, vU, vU] [] (SH T, c))
            refine of_cev (Q := Q) ?_
            exact k
set_option maxRecDepth 20000 in
theorem W_X11_drift {T : List Shp} {c : Nat → Int → Int} {Q : Res → Prop} {x1 x2 x3 : Int} (k : ((0 ≤ x1 ∧ x1 < 12 → ((0 ≤ x2 ∧ x2 < 11 → ((0 ≤ x3 ∧ x3 < 3 → (QI T (fun r1 c2 => ((x3 = 2 → Q (some (some (vI r1), (SH T, c2)))) ∧ (¬ x3 = 2 → ((r1 = 0 → Q (some (some (vI (-1)), (SH T, c2)))) ∧ (¬ r1 = 0 → ((x3 = 0 → (QI T (fun r3 c4 => Q (some (some (vI r3), (SH T, c4)))) (ccal 182 [vI r1] (SH T, c2)))) ∧ (¬ x3 = 0 → (QI T (fun r5 c6 => Q (some (some (vI r5), (SH T, c6)))) (ccal 183 [vI r1] (SH T, c2)))))))))) (ccal 101 [vR 19, vI x1, vI x2] (SH T, c)))) ∧ (¬ (0 ≤ x3 ∧ x3 < 3) → Q (some (some (vI (-1)), (SH T, c)))))) ∧ (¬ (0 ≤ x2 ∧ x2 < 11) → Q (some (some (vI (-1)), (SH T, c)))))) ∧ (¬ (0 ≤ x1 ∧ x1 < 12) → Q (some (some (vI (-1)), (SH T, c)))))) : Q (ccal 140 [vR 1, vI x1, vI x2, vI x3] (SH T, c)) := by
  refine of_cev (Q := Q) ?_
  refine wq_sum (Q := Q) rfl (S_X11_isCell T c x1) ?_
  refine wq_b01 (Q := Q) (p := 0 ≤ x1 ∧ x1 < 12) (fun h => ?_) (fun h => ?_)
  · replace k := k.2 h
    show Q (cev 140 6 24 [vU, vU, vU, vU, vU] [] (SH T, c))
    refine of_cev (Q := Q) ?_
    exact k
  · replace k := k.1 h
    refine wq_sum (Q := Q) rfl (S_X11_inside T c x2 11) ?_
    refine wq_b01 (Q := Q) (p := 0 ≤ x2 ∧ x2 < 11) (fun h => ?_) (fun h => ?_)
    · replace k := k.2 h
      show Q (cev 140 6 24 [vU, vU, vU, vU, vU] [] (SH T, c))
      refine of_cev (Q := Q) ?_
      exact k
    · replace k := k.1 h
      refine wq_sum (Q := Q) rfl (S_X11_inside T c x3 3) ?_
      refine wq_b01 (Q := Q) (p := 0 ≤ x3 ∧ x3 < 3) (fun h => ?_) (fun h => ?_)
      · replace k := k.2 h
        show Q (cev 140 6 24 [vU, vU, vU, vU, vU] [] (SH T, c))
        refine of_cev (Q := Q) ?_
        exact k
      · replace k := k.1 h
        show Q (cev 140 6 26 [vR 1, vI x1, vI x2, vI x3, vU] [] (SH T, c))
        refine of_cev (Q := Q) ?_
        refine wq_callI (Q := Q) rfl k ?_
        intro r1 c2 k
        refine wq_ite (Q := Q) (p := x3 = 2) (fun h => ?_) (fun h => ?_)
        · replace k := k.1 h
          exact k
        · replace k := k.2 h
          show Q (cev 140 6 45 [vU, vU, vU, vI x3, vI r1] [] (SH T, c2))
          refine of_cev (Q := Q) ?_
          refine wq_ite (Q := Q) (p := r1 = 0) (fun h => ?_) (fun h => ?_)
          · replace k := k.1 h
            exact k
          · replace k := k.2 h
            show Q (cev 140 6 52 [vU, vU, vU, vI x3, vI r1] [] (SH T, c2))
            refine of_cev (Q := Q) ?_
            refine wq_ite (Q := Q) (p := x3 = 0) (fun h => ?_) (fun h => ?_)
            · replace k := k.1 h
              refine wq_callI (Q := Q) rfl k ?_
              intro r3 c4 k
              exact k
            · replace k := k.2 h
              show Q (cev 140 6 64 [vU, vU, vU, vU, vI r1] [] (SH T, c2))
              refine of_cev (Q := Q) ?_
              refine wq_callI (Q := Q) rfl k ?_
              intro r5 c6 k
              exact k
set_option maxRecDepth 20000 in
theorem W_X11_undoing {T : List Shp} {c : Nat → Int → Int} {Q : Res → Prop} {x1 : Int} (k : ((x1 < (-1) → Q (some (some (vI (-1)), (SH T, c)))) ∧ (¬ x1 < (-1) → (QI T (fun r1 c2 => Q (some (some (vI r1), (SH T, c2)))) (ccal 102 [vR 19, vI x1] (SH T, c)))))) : Q (ccal 141 [vR 1, vI x1] (SH T, c)) := by
  refine of_cev (Q := Q) ?_
  refine wq_ite (Q := Q) (p := x1 < (-1)) (fun h => ?_) (fun h => ?_)
  · replace k := k.1 h
    exact k
  · replace k := k.2 h
    show Q (cev 141 7 7 [vR 1, vI x1] [] (SH T, c))
    refine of_cev (Q := Q) ?_
    refine wq_callI (Q := Q) rfl k ?_
    intro r1 c2 k
    exact k
set_option maxRecDepth 20000 in
theorem W_X11_copy {T : List Shp} {c : Nat → Int → Int} {Q : Res → Prop} (k : (((c 1 11) < 6 → (QV T (fun c1 => ((-2147483648 ≤ (c1 1 11) - 1 ∧ (c1 1 11) - 1 < 2147483648) ∧ Q (some (some (vI ((c1 1 11) - 1)), (SH T, (up c1 0 17 0)))))) (ccal 72 [vR 2] (SH T, c)))) ∧ (¬ (c 1 11) < 6 → ((-2147483648 ≤ (c 76 3) + 1 ∧ (c 76 3) + 1 < 2147483648) ∧ Q (some (some (vI (-5)), (SH T, (up (up c 0 17 (-5)) 76 3 ((c 76 3) + 1))))))))) : Q (ccal 142 [vR 1] (SH T, c)) := by
  refine of_cev (Q := Q) ?_
  refine wq_ite (Q := Q) (p := (c 1 11) < 6) (fun h => ?_) (fun h => ?_)
  · replace k := k.1 h
    show Q (cev 142 3 19 [vR 1] [] (SH T, c))
    refine of_cev (Q := Q) ?_
    refine wq_callV (Q := Q) rfl k ?_
    intro c1 k
    refine wq_pos (Q := Q) k.1 ?_
    refine wq_sum (Q := Q) rfl (S_X11_answer T c1 ((c1 1 11) - 1)) ?_
    replace k := k.2
    exact k
  · replace k := k.2 h
    refine wq_sum (Q := Q) rfl (S_X11_refuse_5 T c k.1) ?_
    replace k := k.2
    exact k
set_option maxRecDepth 20000 in
theorem W_X11_touch {T : List Shp} {c : Nat → Int → Int} {Q : Res → Prop} {x1 x2 x3 : Int} (k : ((0 ≤ x2 ∧ x2 < 12 → ((0 ≤ x3 ∧ x3 < 10 → ((0 ≤ x1 ∧ x1 < (c 1 11) → (((-2147483648 ≤ x1 * 12 ∧ x1 * 12 < 2147483648) ∧ (-2147483648 ≤ (x1 * 12) + x2 ∧ (x1 * 12) + x2 < 2147483648) ∧ (0 ≤ ((x1 * 12) + x2) ∧ ((x1 * 12) + x2) < 72)) ∧ Q (some (some (vI (c 8 ((x1 * 12) + x2))), (SH T, (up (up c 8 ((x1 * 12) + x2) x3) 0 17 0)))))) ∧ (¬ (0 ≤ x1 ∧ x1 < (c 1 11)) → ((-2147483648 ≤ (c 76 1) + 1 ∧ (c 76 1) + 1 < 2147483648) ∧ Q (some (some (vI (-2)), (SH T, (up (up c 0 17 (-2)) 76 1 ((c 76 1) + 1))))))))) ∧ (¬ (0 ≤ x3 ∧ x3 < 10) → ((-2147483648 ≤ (c 76 0) + 1 ∧ (c 76 0) + 1 < 2147483648) ∧ Q (some (some (vI (-1)), (SH T, (up (up c 0 17 (-1)) 76 0 ((c 76 0) + 1))))))))) ∧ (¬ (0 ≤ x2 ∧ x2 < 12) → ((-2147483648 ≤ (c 76 0) + 1 ∧ (c 76 0) + 1 < 2147483648) ∧ Q (some (some (vI (-1)), (SH T, (up (up c 0 17 (-1)) 76 0 ((c 76 0) + 1))))))))) : Q (ccal 143 [vR 1, vI x1, vI x2, vI x3] (SH T, c)) := by
  refine of_cev (Q := Q) ?_
  refine wq_sum (Q := Q) rfl (S_X11_isCell T c x2) ?_
  refine wq_b01 (Q := Q) (p := 0 ≤ x2 ∧ x2 < 12) (fun h => ?_) (fun h => ?_)
  · replace k := k.2 h
    show Q (cev 143 3 14 [vR 1, vU, vU, vU, vU] [] (SH T, c))
    refine of_cev (Q := Q) ?_
    refine wq_sum (Q := Q) rfl (S_X11_refuse_1 T c k.1) ?_
    replace k := k.2
    exact k
  · replace k := k.1 h
    refine wq_sum (Q := Q) rfl (S_X11_isTone T c x3) ?_
    refine wq_b01 (Q := Q) (p := 0 ≤ x3 ∧ x3 < 10) (fun h => ?_) (fun h => ?_)
    · replace k := k.2 h
      show Q (cev 143 3 14 [vR 1, vU, vU, vU, vU] [] (SH T, c))
      refine of_cev (Q := Q) ?_
      refine wq_sum (Q := Q) rfl (S_X11_refuse_1 T c k.1) ?_
      replace k := k.2
      exact k
    · replace k := k.1 h
      show Q (cev 143 3 20 [vR 1, vI x1, vI x2, vI x3, vU] [] (SH T, c))
      refine of_cev (Q := Q) ?_
      refine wq_sum (Q := Q) rfl (S_X11_inside T c x1 (c 1 11)) ?_
      refine wq_b01 (Q := Q) (p := 0 ≤ x1 ∧ x1 < (c 1 11)) (fun h => ?_) (fun h => ?_)
      · replace k := k.2 h
        refine wq_sum (Q := Q) rfl (S_X11_refuse_2 T c k.1) ?_
        replace k := k.2
        exact k
      · replace k := k.1 h
        show Q (cev 143 3 41 [vR 1, vI x1, vI x2, vI x3, vU] [] (SH T, c))
        refine of_cev (Q := Q) ?_
        refine wq_pos (Q := Q) k.1.1 ?_
        refine wq_pos (Q := Q) k.1.2.1 ?_
        refine wq_pos (Q := Q) k.1.2.2 ?_
        refine wq_pos (Q := Q) k.1.1 ?_
        refine wq_pos (Q := Q) k.1.2.1 ?_
        refine wq_pos (Q := Q) k.1.2.2 ?_
        refine wq_sum (Q := Q) rfl (S_X11_answer T (up c 8 ((x1 * 12) + x2) x3) (c 8 ((x1 * 12) + x2))) ?_
        replace k := k.2
        exact k
set_option maxRecDepth 20000 in
theorem W_X11_burn {T : List Shp} {c : Nat → Int → Int} {Q : Res → Prop} (k : Q (some (some (vI (c 1 11)), (SH T, (up c 1 11 0))))) : Q (ccal 144 [vR 1] (SH T, c)) := by
  refine of_cev (Q := Q) ?_
  exact k
set_option maxRecDepth 20000 in
theorem W_X11_near {T : List Shp} {c : Nat → Int → Int} {Q : Res → Prop} {x1 : Int} (k : ((x1 = (-1) → (QI T (fun r1 c2 => Q (some (some (vI r1), (SH T, c2)))) (ccal 174 [vR 1] (SH T, c)))) ∧ (¬ x1 = (-1) → ((0 ≤ x1 ∧ x1 < (c 1 11) → (QI T (fun r3 c4 => Q (some (some (vI r3), (SH T, c4)))) (ccal 73 [vR 2, vI x1] (SH T, c)))) ∧ (¬ (0 ≤ x1 ∧ x1 < (c 1 11)) → Q (some (some (vI (-1)), (SH T, c)))))))) : Q (ccal 145 [vR 1, vI x1] (SH T, c)) := by
  refine of_cev (Q := Q) ?_
  refine wq_ite (Q := Q) (p := x1 = (-1)) (fun h => ?_) (fun h => ?_)
  · replace k := k.1 h
    refine wq_callI (Q := Q) rfl k ?_
    intro r1 c2 k
    exact k
  · replace k := k.2 h
    show Q (cev 145 3 10 [vR 1, vI x1] [] (SH T, c))
    refine of_cev (Q := Q) ?_
    refine wq_sum (Q := Q) rfl (S_X11_inside T c x1 (c 1 11)) ?_
    refine wq_b01 (Q := Q) (p := 0 ≤ x1 ∧ x1 < (c 1 11)) (fun h => ?_) (fun h => ?_)
    · replace k := k.2 h
      show Q (cev 145 3 35 [vU, vU] [] (SH T, c))
      refine of_cev (Q := Q) ?_
      exact k
    · replace k := k.1 h
      refine wq_callI (Q := Q) rfl k ?_
      intro r3 c4 k
      exact k
set_option maxRecDepth 20000 in
theorem W_X11_like {T : List Shp} {c : Nat → Int → Int} {Q : Res → Prop} {x1 x2 : Int} (k : ((x1 = -1 ∨ 0 ≤ x1 ∧ x1 < c 1 11 → ((x2 = -1 ∨ 0 ≤ x2 ∧ x2 < c 1 11 → (((-2147483648 ≤ x1 + 1 ∧ x1 + 1 < 2147483648) ∧ (-2147483648 ≤ x2 + 1 ∧ x2 + 1 < 2147483648)) ∧ (QI T (fun r1 c2 => Q (some (some (vI r1), (SH T, c2)))) (ccal 78 [vR 50, vI (x1 + 1), vI (x2 + 1)] (SH T, c))))) ∧ (¬ (x2 = -1 ∨ 0 ≤ x2 ∧ x2 < c 1 11) → Q (some (some (vI (-1)), (SH T, c)))))) ∧ (¬ (x1 = -1 ∨ 0 ≤ x1 ∧ x1 < c 1 11) → Q (some (some (vI (-1)), (SH T, c)))))) : Q (ccal 146 [vR 1, vI x1, vI x2] (SH T, c)) := by
  refine of_cev (Q := Q) ?_
  refine wq_sum (Q := Q) rfl (S_X11_isRootOrCopy T c x1) ?_
  refine wq_b01 (Q := Q) (p := x1 = -1 ∨ 0 ≤ x1 ∧ x1 < c 1 11) (fun h => ?_) (fun h => ?_)
  · replace k := k.2 h
    show Q (cev 146 3 16 [vU, vU, vU] [] (SH T, c))
    refine of_cev (Q := Q) ?_
    exact k
  · replace k := k.1 h
    refine wq_sum (Q := Q) rfl (S_X11_isRootOrCopy T c x2) ?_
    refine wq_b01 (Q := Q) (p := x2 = -1 ∨ 0 ≤ x2 ∧ x2 < c 1 11) (fun h => ?_) (fun h => ?_)
    · replace k := k.2 h
      show Q (cev 146 3 16 [vU, vU, vU] [] (SH T, c))
      refine of_cev (Q := Q) ?_
      exact k
    · replace k := k.1 h
      show Q (cev 146 3 18 [vR 1, vI x1, vI x2] [] (SH T, c))
      refine of_cev (Q := Q) ?_
      refine wq_pos (Q := Q) k.1.1 ?_
      refine wq_pos (Q := Q) k.1.2 ?_
      replace k := k.2
      refine wq_callI (Q := Q) rfl k ?_
      intro r1 c2 k
      exact k
set_option maxRecDepth 20000 in
theorem W_X11_tree {T : List Shp} {c : Nat → Int → Int} {Q : Res → Prop} {x1 : Int} (k : ((x1 < 0 → Q (some (some (vI (-1)), (SH T, c)))) ∧ (¬ x1 < 0 → (((c 1 11) < x1 → Q (some (some (vI (-1)), (SH T, c)))) ∧ (¬ (c 1 11) < x1 → (QV T (fun c1 => ((x1 = 0 → (QI T (fun r2 c3 => Q (some (some (vI r2), (SH T, c3)))) (ccal 80 [vR 50] (SH T, c1)))) ∧ (¬ x1 = 0 → (QI T (fun r4 c5 => ((r4 = 0 → Q (some (some (vI 100), (SH T, c5)))) ∧ (¬ r4 = 0 → ((-2147483648 ≤ r4 - 1 ∧ r4 - 1 < 2147483648) ∧ Q (some (some (vI (r4 - 1)), (SH T, c5))))))) (ccal 82 [vR 50, vI x1] (SH T, c1)))))) (ccal 79 [vR 50] (SH T, c)))))))) : Q (ccal 147 [vR 1, vI x1] (SH T, c)) := by
  refine of_cev (Q := Q) ?_
  refine wq_ite (Q := Q) (p := x1 < 0) (fun h => ?_) (fun h => ?_)
  · replace k := k.1 h
    show Q (cev 147 20 15 [vU, vU, vU] [] (SH T, c))
    refine of_cev (Q := Q) ?_
    exact k
  · replace k := k.2 h
    refine wq_ite (Q := Q) (p := (c 1 11) < x1) (fun h => ?_) (fun h => ?_)
    · replace k := k.1 h
      show Q (cev 147 20 15 [vU, vU, vU] [] (SH T, c))
      refine of_cev (Q := Q) ?_
      exact k
    · replace k := k.2 h
      show Q (cev 147 20 17 [vR 1, vI x1, vU] [] (SH T, c))
      refine of_cev (Q := Q) ?_
      refine wq_callV (Q := Q) rfl k ?_
      intro c1 k
      refine wq_ite (Q := Q) (p := x1 = 0) (fun h => ?_) (fun h => ?_)
      · replace k := k.1 h
        refine wq_callI (Q := Q) rfl k ?_
        intro r2 c3 k
        exact k
      · replace k := k.2 h
        show Q (cev 147 20 36 [vR 1, vI x1, vU] [] (SH T, c1))
        refine of_cev (Q := Q) ?_
        refine wq_callI (Q := Q) rfl k ?_
        intro r4 c5 k
        refine wq_ite (Q := Q) (p := r4 = 0) (fun h => ?_) (fun h => ?_)
        · replace k := k.1 h
          exact k
        · replace k := k.2 h
          show Q (cev 147 20 54 [vU, vU, vI r4] [] (SH T, c5))
          refine of_cev (Q := Q) ?_
          refine wq_pos (Q := Q) k.1 ?_
          replace k := k.2
          exact k
set_option maxRecDepth 20000 in
theorem W_X11_trees {T : List Shp} {c : Nat → Int → Int} {Q : Res → Prop} (k : (QV T (fun c1 => (QI T (fun r2 c3 => Q (some (some (vI r2), (SH T, c3)))) (ccal 81 [vR 50] (SH T, c1)))) (ccal 79 [vR 50] (SH T, c)))) : Q (ccal 148 [vR 1] (SH T, c)) := by
  refine of_cev (Q := Q) ?_
  refine wq_callV (Q := Q) rfl k ?_
  intro c1 k
  refine wq_callI (Q := Q) rfl k ?_
  intro r2 c3 k
  exact k
set_option maxRecDepth 20000 in
theorem W_X11_dated {T : List Shp} {c : Nat → Int → Int} {Q : Res → Prop} {x1 x2 : Int} (k : ((0 ≤ x1 ∧ x1 < (c 1 11) → ((0 ≤ x2 ∧ x2 < 4 → (QI T (fun r1 c2 => Q (some (some (vI r1), (SH T, c2)))) (ccal 83 [vR 50, vI x1, vI x2] (SH T, c)))) ∧ (¬ (0 ≤ x2 ∧ x2 < 4) → Q (some (some (vI (-1)), (SH T, c)))))) ∧ (¬ (0 ≤ x1 ∧ x1 < (c 1 11)) → Q (some (some (vI (-1)), (SH T, c)))))) : Q (ccal 149 [vR 1, vI x1, vI x2] (SH T, c)) := by
  refine of_cev (Q := Q) ?_
  refine wq_sum (Q := Q) rfl (S_X11_inside T c x1 (c 1 11)) ?_
  refine wq_b01 (Q := Q) (p := 0 ≤ x1 ∧ x1 < (c 1 11)) (fun h => ?_) (fun h => ?_)
  · replace k := k.2 h
    show Q (cev 149 3 22 [vU, vU, vU] [] (SH T, c))
    refine of_cev (Q := Q) ?_
    exact k
  · replace k := k.1 h
    refine wq_sum (Q := Q) rfl (S_X11_inside T c x2 4) ?_
    refine wq_b01 (Q := Q) (p := 0 ≤ x2 ∧ x2 < 4) (fun h => ?_) (fun h => ?_)
    · replace k := k.2 h
      show Q (cev 149 3 22 [vU, vU, vU] [] (SH T, c))
      refine of_cev (Q := Q) ?_
      exact k
    · replace k := k.1 h
      show Q (cev 149 3 24 [vR 1, vI x1, vI x2] [] (SH T, c))
      refine of_cev (Q := Q) ?_
      refine wq_callI (Q := Q) rfl k ?_
      intro r1 c2 k
      exact k
set_option maxRecDepth 20000 in
theorem W_X11_know {T : List Shp} {c : Nat → Int → Int} {Q : Res → Prop} {x1 : Int} (k : ((0 ≤ x1 ∧ x1 < 2 → (((c 1 11) = 0 → Q (some (some (vI (-1)), (SH T, c)))) ∧ (¬ (c 1 11) = 0 → (QV T (fun c1 => ((x1 = 0 → Q (some (some (vI (c1 49 7)), (SH T, c1)))) ∧ (¬ x1 = 0 → Q (some (some (vI (c1 49 8)), (SH T, c1)))))) (ccal 84 [vR 50] (SH T, c)))))) ∧ (¬ (0 ≤ x1 ∧ x1 < 2) → Q (some (some (vI (-1)), (SH T, c)))))) : Q (ccal 150 [vR 1, vI x1] (SH T, c)) := by
  refine of_cev (Q := Q) ?_
  refine wq_sum (Q := Q) rfl (S_X11_inside T c x1 2) ?_
  refine wq_b01 (Q := Q) (p := 0 ≤ x1 ∧ x1 < 2) (fun h => ?_) (fun h => ?_)
  · replace k := k.2 h
    show Q (cev 150 4 18 [vU, vU] [] (SH T, c))
    refine of_cev (Q := Q) ?_
    exact k
  · replace k := k.1 h
    refine wq_ite (Q := Q) (p := (c 1 11) = 0) (fun h => ?_) (fun h => ?_)
    · replace k := k.1 h
      show Q (cev 150 4 18 [vU, vU] [] (SH T, c))
      refine of_cev (Q := Q) ?_
      exact k
    · replace k := k.2 h
      show Q (cev 150 4 20 [vR 1, vI x1] [] (SH T, c))
      refine of_cev (Q := Q) ?_
      refine wq_callV (Q := Q) rfl k ?_
      intro c1 k
      refine wq_ite (Q := Q) (p := x1 = 0) (fun h => ?_) (fun h => ?_)
      · replace k := k.1 h
        exact k
      · replace k := k.2 h
        show Q (cev 150 4 41 [vR 1, vU] [] (SH T, c1))
        refine of_cev (Q := Q) ?_
        exact k
set_option maxRecDepth 20000 in
theorem W_X11_who {T : List Shp} {c : Nat → Int → Int} {Q : Res → Prop} {x1 : Int} (k : ((0 < x1 → ((-2147483648 ≤ (c 1 8) + 1 ∧ (c 1 8) + 1 < 2147483648) ∧ ((0 ≤ x1 ∧ x1 < (c 1 8) + 1 → (QI T (fun r1 c2 => Q (some (some (vI r1), (SH T, c2)))) (ccal 99 [vR 19, vI x1] (SH T, c)))) ∧ (¬ (0 ≤ x1 ∧ x1 < (c 1 8) + 1) → Q (some (some (vI (-1)), (SH T, c))))))) ∧ (¬ 0 < x1 → Q (some (some (vI (-1)), (SH T, c)))))) : Q (ccal 151 [vR 1, vI x1] (SH T, c)) := by
  refine of_cev (Q := Q) ?_
  refine wq_ite (Q := Q) (p := 0 < x1) (fun h => ?_) (fun h => ?_)
  · replace k := k.1 h
    refine wq_sum (Q := Q) rfl (S_X7_hasLayer T c x1 k.1) ?_
    replace k := k.2
    refine wq_b01 (Q := Q) (p := 0 ≤ x1 ∧ x1 < (c 1 8) + 1) (fun h => ?_) (fun h => ?_)
    · replace k := k.2 h
      show Q (cev 151 7 26 [vU, vU] [] (SH T, c))
      refine of_cev (Q := Q) ?_
      exact k
    · replace k := k.1 h
      refine wq_callI (Q := Q) rfl k ?_
      intro r1 c2 k
      exact k
  · replace k := k.2 h
    show Q (cev 151 7 26 [vU, vU] [] (SH T, c))
    refine of_cev (Q := Q) ?_
    exact k
set_option maxRecDepth 20000 in
theorem W_X11_forge {T : List Shp} {c : Nat → Int → Int} {Q : Res → Prop} {x1 x2 x3 : Int} (k : ((0 ≤ x2 ∧ x2 < 12 → ((0 ≤ x3 ∧ x3 < 10 → ((x1 < 1 → ((-2147483648 ≤ (c 76 1) + 1 ∧ (c 76 1) + 1 < 2147483648) ∧ Q (some (some (vI (-2)), (SH T, (up (up c 0 17 (-2)) 76 1 ((c 76 1) + 1))))))) ∧ (¬ x1 < 1 → ((-2147483648 ≤ (c 1 8) + 1 ∧ (c 1 8) + 1 < 2147483648) ∧ ((0 ≤ x1 ∧ x1 < (c 1 8) + 1 → (((-2147483648 ≤ x1 * 12 ∧ x1 * 12 < 2147483648) ∧ (-2147483648 ≤ (x1 * 12) + x2 ∧ (x1 * 12) + x2 < 2147483648) ∧ (0 ≤ ((x1 * 12) + x2) ∧ ((x1 * 12) + x2) < 204)) ∧ Q (some (some (vI (c 7 ((x1 * 12) + x2))), (SH T, (up (up c 7 ((x1 * 12) + x2) x3) 0 17 0)))))) ∧ (¬ (0 ≤ x1 ∧ x1 < (c 1 8) + 1) → ((-2147483648 ≤ (c 76 1) + 1 ∧ (c 76 1) + 1 < 2147483648) ∧ Q (some (some (vI (-2)), (SH T, (up (up c 0 17 (-2)) 76 1 ((c 76 1) + 1)))))))))))) ∧ (¬ (0 ≤ x3 ∧ x3 < 10) → ((-2147483648 ≤ (c 76 0) + 1 ∧ (c 76 0) + 1 < 2147483648) ∧ Q (some (some (vI (-1)), (SH T, (up (up c 0 17 (-1)) 76 0 ((c 76 0) + 1))))))))) ∧ (¬ (0 ≤ x2 ∧ x2 < 12) → ((-2147483648 ≤ (c 76 0) + 1 ∧ (c 76 0) + 1 < 2147483648) ∧ Q (some (some (vI (-1)), (SH T, (up (up c 0 17 (-1)) 76 0 ((c 76 0) + 1))))))))) : Q (ccal 152 [vR 1, vI x1, vI x2, vI x3] (SH T, c)) := by
  refine of_cev (Q := Q) ?_
  refine wq_sum (Q := Q) rfl (S_X11_isCell T c x2) ?_
  refine wq_b01 (Q := Q) (p := 0 ≤ x2 ∧ x2 < 12) (fun h => ?_) (fun h => ?_)
  · replace k := k.2 h
    show Q (cev 152 3 14 [vR 1, vU, vU, vU, vU] [] (SH T, c))
    refine of_cev (Q := Q) ?_
    refine wq_sum (Q := Q) rfl (S_X11_refuse_1 T c k.1) ?_
    replace k := k.2
    exact k
  · replace k := k.1 h
    refine wq_sum (Q := Q) rfl (S_X11_isTone T c x3) ?_
    refine wq_b01 (Q := Q) (p := 0 ≤ x3 ∧ x3 < 10) (fun h => ?_) (fun h => ?_)
    · replace k := k.2 h
      show Q (cev 152 3 14 [vR 1, vU, vU, vU, vU] [] (SH T, c))
      refine of_cev (Q := Q) ?_
      refine wq_sum (Q := Q) rfl (S_X11_refuse_1 T c k.1) ?_
      replace k := k.2
      exact k
    · replace k := k.1 h
      show Q (cev 152 3 20 [vR 1, vI x1, vI x2, vI x3, vU] [] (SH T, c))
      refine of_cev (Q := Q) ?_
      refine wq_ite (Q := Q) (p := x1 < 1) (fun h => ?_) (fun h => ?_)
      · replace k := k.1 h
        show Q (cev 152 3 36 [vR 1, vU, vU, vU, vU] [] (SH T, c))
        refine of_cev (Q := Q) ?_
        refine wq_sum (Q := Q) rfl (S_X11_refuse_2 T c k.1) ?_
        replace k := k.2
        exact k
      · replace k := k.2 h
        refine wq_sum (Q := Q) rfl (S_X7_hasLayer T c x1 k.1) ?_
        replace k := k.2
        refine wq_b01 (Q := Q) (p := 0 ≤ x1 ∧ x1 < (c 1 8) + 1) (fun h => ?_) (fun h => ?_)
        · replace k := k.2 h
          show Q (cev 152 3 36 [vR 1, vU, vU, vU, vU] [] (SH T, c))
          refine of_cev (Q := Q) ?_
          refine wq_sum (Q := Q) rfl (S_X11_refuse_2 T c k.1) ?_
          replace k := k.2
          exact k
        · replace k := k.1 h
          show Q (cev 152 3 43 [vR 1, vI x1, vI x2, vI x3, vU] [] (SH T, c))
          refine of_cev (Q := Q) ?_
          refine wq_pos (Q := Q) k.1.1 ?_
          refine wq_pos (Q := Q) k.1.2.1 ?_
          refine wq_pos (Q := Q) k.1.2.2 ?_
          refine wq_pos (Q := Q) k.1.1 ?_
          refine wq_pos (Q := Q) k.1.2.1 ?_
          refine wq_pos (Q := Q) k.1.2.2 ?_
          refine wq_sum (Q := Q) rfl (S_X11_answer T (up c 7 ((x1 * 12) + x2) x3) (c 7 ((x1 * 12) + x2))) ?_
          replace k := k.2
          exact k
set_option maxRecDepth 20000 in
theorem W_X11_skipped {T : List Shp} {c : Nat → Int → Int} {Q : Res → Prop} (k : Q (cev 153 7 2 [vR 1, vI 1] [] (SH T, c))) : Q (ccal 153 [vR 1] (SH T, c)) := by
  refine of_cev (Q := Q) ?_
  exact k
set_option maxRecDepth 20000 in
theorem W_X11_skipped_2 {T : List Shp} {c : Nat → Int → Int} {Q : Res → Prop} {x1 : Int} (k : (((c 1 8) < x1 → Q (some (some (vI (-1)), (SH T, c)))) ∧ (¬ (c 1 8) < x1 → (QI T (fun r1 c2 => ((r1 = 0 → Q (some (some (vI x1), (SH T, c2)))) ∧ (¬ r1 = 0 → ((-2147483648 ≤ x1 + 1 ∧ x1 + 1 < 2147483648) ∧ Q (cev 153 7 2 [vR 1, vI (x1 + 1)] [] (SH T, c2)))))) (ccal 99 [vR 19, vI x1] (SH T, c)))))) : Q (cev 153 7 2 [vR 1, vI x1] [] (SH T, c)) := by
  refine of_cev (Q := Q) ?_
  refine wq_ite (Q := Q) (p := (c 1 8) < x1) (fun h => ?_) (fun h => ?_)
  · replace k := k.1 h
    show Q (cev 153 7 32 [vU, vU] [] (SH T, c))
    refine of_cev (Q := Q) ?_
    exact k
  · replace k := k.2 h
    refine wq_callI (Q := Q) rfl k ?_
    intro r1 c2 k
    refine wq_ite (Q := Q) (p := r1 = 0) (fun h => ?_) (fun h => ?_)
    · replace k := k.1 h
      exact k
    · replace k := k.2 h
      show Q (cev 153 7 26 [vR 1, vI x1] [] (SH T, c2))
      refine of_cev (Q := Q) ?_
      refine wq_pos (Q := Q) k.1 ?_
      replace k := k.2
      exact k
set_option maxRecDepth 20000 in
theorem W_X11_missing {T : List Shp} {c : Nat → Int → Int} {Q : Res → Prop} {x1 x2 : Int} (k : ((x1 < 1 → Q (some (some (vI (-1)), (SH T, c)))) ∧ (¬ x1 < 1 → ((-2147483648 ≤ (c 1 8) + 1 ∧ (c 1 8) + 1 < 2147483648) ∧ ((0 ≤ x1 ∧ x1 < (c 1 8) + 1 → ((x2 < 1 → Q (some (some (vI (-1)), (SH T, c)))) ∧ (¬ x2 < 1 → ((2 < x2 → Q (some (some (vI (-1)), (SH T, c)))) ∧ (¬ 2 < x2 → ((-2147483648 ≤ x2 + 1 ∧ x2 + 1 < 2147483648) ∧ (QI T (fun r1 c2 => Q (some (some (vI r1), (SH T, c2)))) (ccal 100 [vR 19, vI x1, vI (x2 + 1)] (SH T, c))))))))) ∧ (¬ (0 ≤ x1 ∧ x1 < (c 1 8) + 1) → Q (some (some (vI (-1)), (SH T, c))))))))) : Q (ccal 154 [vR 1, vI x1, vI x2] (SH T, c)) := by
  refine of_cev (Q := Q) ?_
  refine wq_ite (Q := Q) (p := x1 < 1) (fun h => ?_) (fun h => ?_)
  · replace k := k.1 h
    show Q (cev 154 7 26 [vU, vU, vU] [] (SH T, c))
    refine of_cev (Q := Q) ?_
    exact k
  · replace k := k.2 h
    refine wq_sum (Q := Q) rfl (S_X7_hasLayer T c x1 k.1) ?_
    replace k := k.2
    refine wq_b01 (Q := Q) (p := 0 ≤ x1 ∧ x1 < (c 1 8) + 1) (fun h => ?_) (fun h => ?_)
    · replace k := k.2 h
      show Q (cev 154 7 26 [vU, vU, vU] [] (SH T, c))
      refine of_cev (Q := Q) ?_
      exact k
    · replace k := k.1 h
      refine wq_ite (Q := Q) (p := x2 < 1) (fun h => ?_) (fun h => ?_)
      · replace k := k.1 h
        show Q (cev 154 7 26 [vU, vU, vU] [] (SH T, c))
        refine of_cev (Q := Q) ?_
        exact k
      · replace k := k.2 h
        refine wq_ite (Q := Q) (p := 2 < x2) (fun h => ?_) (fun h => ?_)
        · replace k := k.1 h
          show Q (cev 154 7 26 [vU, vU, vU] [] (SH T, c))
          refine of_cev (Q := Q) ?_
          exact k
        · replace k := k.2 h
          show Q (cev 154 7 28 [vR 1, vI x1, vI x2] [] (SH T, c))
          refine of_cev (Q := Q) ?_
          refine wq_pos (Q := Q) k.1 ?_
          replace k := k.2
          refine wq_callI (Q := Q) rfl k ?_
          intro r1 c2 k
          exact k
set_option maxRecDepth 20000 in
theorem W_X11_was {T : List Shp} {c : Nat → Int → Int} {Q : Res → Prop} {x1 : Int} (k : ((0 ≤ x1 ∧ x1 < 12 → (QI T (fun r1 c2 => Q (some (some (vI r1), (SH T, c2)))) (ccal 103 [vR 19, vI x1] (SH T, c)))) ∧ (¬ (0 ≤ x1 ∧ x1 < 12) → Q (some (some (vI (-1)), (SH T, c)))))) : Q (ccal 155 [vR 1, vI x1] (SH T, c)) := by
  refine of_cev (Q := Q) ?_
  refine wq_sum (Q := Q) rfl (S_X11_isCell T c x1) ?_
  refine wq_b01 (Q := Q) (p := 0 ≤ x1 ∧ x1 < 12) (fun h => ?_) (fun h => ?_)
  · replace k := k.2 h
    show Q (cev 155 6 18 [vU, vU] [] (SH T, c))
    refine of_cev (Q := Q) ?_
    exact k
  · replace k := k.1 h
    refine wq_callI (Q := Q) rfl k ?_
    intro r1 c2 k
    exact k
set_option maxRecDepth 20000 in
theorem W_X11_ways {T : List Shp} {c : Nat → Int → Int} {Q : Res → Prop} (k : Q (cev 156 6 4 [vR 1, vL 1, vU, vI 0] [] (SH T, c))) : Q (ccal 156 [vR 1] (SH T, c)) := by
  refine of_cev (Q := Q) ?_
  exact k
set_option maxRecDepth 20000 in
theorem W_X11_ways_4 {T : List Shp} {c : Nat → Int → Int} {Q : Res → Prop} {x1 x3 : Int} (k : ((x3 < 12 → (QI T (fun r1 c2 => (QI T (fun r3 c4 => (((-9223372036854775808 ≤ x1 * r3 ∧ x1 * r3 < 9223372036854775808) ∧ (-2147483648 ≤ x3 + 1 ∧ x3 + 1 < 2147483648)) ∧ Q (cev 156 6 4 [vR 1, vL (x1 * r3), vU, vI (x3 + 1)] [] (SH T, c4)))) (ccal 341 [vI r1] (SH T, c2)))) (ccal 103 [vR 19, vI x3] (SH T, c)))) ∧ (¬ x3 < 12 → Q (some (some (vL x1), (SH T, c)))))) : Q (cev 156 6 4 [vR 1, vL x1, vU, vI x3] [] (SH T, c)) := by
  refine of_cev (Q := Q) ?_
  refine wq_ite (Q := Q) (p := x3 < 12) (fun h => ?_) (fun h => ?_)
  · replace k := k.1 h
    refine wq_callI (Q := Q) rfl k ?_
    intro r1 c2 k
    refine wq_callI (Q := Q) rfl k ?_
    intro r3 c4 k
    refine wq_pos (Q := Q) k.1.1 ?_
    refine wq_pos (Q := Q) k.1.2 ?_
    replace k := k.2
    exact k
  · replace k := k.2 h
    show Q (cev 156 6 31 [vU, vL x1, vU, vU] [] (SH T, c))
    refine of_cev (Q := Q) ?_
    exact k
set_option maxRecDepth 20000 in
theorem W_X11_claimant {T : List Shp} {c : Nat → Int → Int} {Q : Res → Prop} {x1 x2 x3 x4 : Int} (k : ((x1 < (-1) → ((-2147483648 ≤ (c 76 0) + 1 ∧ (c 76 0) + 1 < 2147483648) ∧ Q (some (some (vI (-1)), (SH T, (up (up c 0 17 (-1)) 76 0 ((c 76 0) + 1))))))) ∧ (¬ x1 < (-1) → ((0 ≤ x2 ∧ x2 < 100 → ((-1 ≤ x4 ∧ x4 < 6 → ((x2 < x3 → ((150 < x3 → ((-2147483648 ≤ (c 76 0) + 1 ∧ (c 76 0) + 1 < 2147483648) ∧ Q (some (some (vI (-1)), (SH T, (up (up c 0 17 (-1)) 76 0 ((c 76 0) + 1))))))) ∧ (¬ 150 < x3 → ((x1 < (c 1 13) → (((c 1 13) < 8 → (((-2147483648 ≤ (c 1 13) * 4 ∧ (c 1 13) * 4 < 2147483648) ∧ (0 ≤ ((c 1 13) * 4) ∧ ((c 1 13) * 4) < 32) ∧ (-2147483648 ≤ ((c 1 13) * 4) + 1 ∧ ((c 1 13) * 4) + 1 < 2147483648) ∧ (0 ≤ (((c 1 13) * 4) + 1) ∧ (((c 1 13) * 4) + 1) < 32) ∧ (-2147483648 ≤ ((c 1 13) * 4) + 2 ∧ ((c 1 13) * 4) + 2 < 2147483648) ∧ (0 ≤ (((c 1 13) * 4) + 2) ∧ (((c 1 13) * 4) + 2) < 32) ∧ (-2147483648 ≤ ((c 1 13) * 4) + 3 ∧ ((c 1 13) * 4) + 3 < 2147483648) ∧ (0 ≤ (((c 1 13) * 4) + 3) ∧ (((c 1 13) * 4) + 3) < 32) ∧ (-2147483648 ≤ (c 1 13) + 1 ∧ (c 1 13) + 1 < 2147483648) ∧ (-2147483648 ≤ ((c 1 13) + 1) - 1 ∧ ((c 1 13) + 1) - 1 < 2147483648)) ∧ Q (some (some (vI (((c 1 13) + 1) - 1)), (SH T, (up (up (up (up (up (up c 9 ((c 1 13) * 4) x1) 9 (((c 1 13) * 4) + 1) x2) 9 (((c 1 13) * 4) + 2) x3) 9 (((c 1 13) * 4) + 3) x4) 1 13 ((c 1 13) + 1)) 0 17 0)))))) ∧ (¬ (c 1 13) < 8 → ((-2147483648 ≤ (c 76 3) + 1 ∧ (c 76 3) + 1 < 2147483648) ∧ Q (some (some (vI (-5)), (SH T, (up (up c 0 17 (-5)) 76 3 ((c 76 3) + 1))))))))) ∧ (¬ x1 < (c 1 13) → ((-2147483648 ≤ (c 76 1) + 1 ∧ (c 76 1) + 1 < 2147483648) ∧ Q (some (some (vI (-2)), (SH T, (up (up c 0 17 (-2)) 76 1 ((c 76 1) + 1))))))))))) ∧ (¬ x2 < x3 → ((-2147483648 ≤ (c 76 0) + 1 ∧ (c 76 0) + 1 < 2147483648) ∧ Q (some (some (vI (-1)), (SH T, (up (up c 0 17 (-1)) 76 0 ((c 76 0) + 1))))))))) ∧ (¬ (-1 ≤ x4 ∧ x4 < 6) → ((-2147483648 ≤ (c 76 0) + 1 ∧ (c 76 0) + 1 < 2147483648) ∧ Q (some (some (vI (-1)), (SH T, (up (up c 0 17 (-1)) 76 0 ((c 76 0) + 1))))))))) ∧ (¬ (0 ≤ x2 ∧ x2 < 100) → ((-2147483648 ≤ (c 76 0) + 1 ∧ (c 76 0) + 1 < 2147483648) ∧ Q (some (some (vI (-1)), (SH T, (up (up c 0 17 (-1)) 76 0 ((c 76 0) + 1))))))))))) : Q (ccal 157 [vR 1, vI x1, vI x2, vI x3, vI x4] (SH T, c)) := by
  refine of_cev (Q := Q) ?_
  refine wq_ite (Q := Q) (p := x1 < (-1)) (fun h => ?_) (fun h => ?_)
  · replace k := k.1 h
    show Q (cev 157 3 22 [vR 1, vU, vU, vU, vU, vU] [] (SH T, c))
    refine of_cev (Q := Q) ?_
    refine wq_sum (Q := Q) rfl (S_X11_refuse_1 T c k.1) ?_
    replace k := k.2
    exact k
  · replace k := k.2 h
    refine wq_sum (Q := Q) rfl (S_X11_inside T c x2 100) ?_
    refine wq_b01 (Q := Q) (p := 0 ≤ x2 ∧ x2 < 100) (fun h => ?_) (fun h => ?_)
    · replace k := k.2 h
      show Q (cev 157 3 22 [vR 1, vU, vU, vU, vU, vU] [] (SH T, c))
      refine of_cev (Q := Q) ?_
      refine wq_sum (Q := Q) rfl (S_X11_refuse_1 T c k.1) ?_
      replace k := k.2
      exact k
    · replace k := k.1 h
      refine wq_sum (Q := Q) rfl (S_X11_canBeCopy T c x4) ?_
      refine wq_b01 (Q := Q) (p := -1 ≤ x4 ∧ x4 < 6) (fun h => ?_) (fun h => ?_)
      · replace k := k.2 h
        show Q (cev 157 3 22 [vR 1, vU, vU, vU, vU, vU] [] (SH T, c))
        refine of_cev (Q := Q) ?_
        refine wq_sum (Q := Q) rfl (S_X11_refuse_1 T c k.1) ?_
        replace k := k.2
        exact k
      · replace k := k.1 h
        show Q (cev 157 3 28 [vR 1, vI x1, vI x2, vI x3, vI x4, vU] [] (SH T, c))
        refine of_cev (Q := Q) ?_
        refine wq_ite (Q := Q) (p := x2 < x3) (fun h => ?_) (fun h => ?_)
        · replace k := k.1 h
          refine wq_ite (Q := Q) (p := 150 < x3) (fun h => ?_) (fun h => ?_)
          · replace k := k.1 h
            show Q (cev 157 3 40 [vR 1, vU, vU, vU, vU, vU] [] (SH T, c))
            refine of_cev (Q := Q) ?_
            refine wq_sum (Q := Q) rfl (S_X11_refuse_1 T c k.1) ?_
            replace k := k.2
            exact k
          · replace k := k.2 h
            show Q (cev 157 3 46 [vR 1, vI x1, vI x2, vI x3, vI x4, vU] [] (SH T, c))
            refine of_cev (Q := Q) ?_
            refine wq_ite (Q := Q) (p := x1 < (c 1 13)) (fun h => ?_) (fun h => ?_)
            · replace k := k.1 h
              show Q (cev 157 3 64 [vR 1, vI x1, vI x2, vI x3, vI x4, vU] [] (SH T, c))
              refine of_cev (Q := Q) ?_
              refine wq_ite (Q := Q) (p := (c 1 13) < 8) (fun h => ?_) (fun h => ?_)
              · replace k := k.1 h
                show Q (cev 157 3 83 [vR 1, vI x1, vI x2, vI x3, vI x4, vU] [] (SH T, c))
                refine of_cev (Q := Q) ?_
                refine wq_pos (Q := Q) k.1.1 ?_
                refine wq_pos (Q := Q) k.1.2.1 ?_
                refine wq_pos (Q := Q) k.1.2.2.1 ?_
                refine wq_pos (Q := Q) k.1.2.2.2.1 ?_
                refine wq_pos (Q := Q) k.1.2.2.2.2.1 ?_
                refine wq_pos (Q := Q) k.1.2.2.2.2.2.1 ?_
                refine wq_pos (Q := Q) k.1.2.2.2.2.2.2.1 ?_
                refine wq_pos (Q := Q) k.1.2.2.2.2.2.2.2.1 ?_
                refine wq_pos (Q := Q) k.1.2.2.2.2.2.2.2.2.1 ?_
                refine wq_pos (Q := Q) k.1.2.2.2.2.2.2.2.2.2 ?_
                refine wq_sum (Q := Q) rfl (S_X11_answer T (up (up (up (up (up c 9 ((c 1 13) * 4) x1) 9 (((c 1 13) * 4) + 1) x2) 9 (((c 1 13) * 4) + 2) x3) 9 (((c 1 13) * 4) + 3) x4) 1 13 ((c 1 13) + 1)) (((c 1 13) + 1) - 1)) ?_
                replace k := k.2
                exact k
              · replace k := k.2 h
                refine wq_sum (Q := Q) rfl (S_X11_refuse_5 T c k.1) ?_
                replace k := k.2
                exact k
            · replace k := k.2 h
              refine wq_sum (Q := Q) rfl (S_X11_refuse_2 T c k.1) ?_
              replace k := k.2
              exact k
        · replace k := k.2 h
          show Q (cev 157 3 40 [vR 1, vU, vU, vU, vU, vU] [] (SH T, c))
          refine of_cev (Q := Q) ?_
          refine wq_sum (Q := Q) rfl (S_X11_refuse_1 T c k.1) ?_
          replace k := k.2
          exact k
set_option maxRecDepth 20000 in
theorem W_X11_claim {T : List Shp} {c : Nat → Int → Int} {Q : Res → Prop} {x1 x2 x3 : Int} (k : ((0 ≤ x2 ∧ x2 < 2 → ((x2 = 0 → ((0 ≤ x3 ∧ x3 < 151 → Q (cev 158 3 44 [vR 1, vI x1, vI x2, vI x3, vU, vU] [] (SH T, c))) ∧ (¬ (0 ≤ x3 ∧ x3 < 151) → ((-2147483648 ≤ (c 76 0) + 1 ∧ (c 76 0) + 1 < 2147483648) ∧ Q (some (some (vI (-1)), (SH T, (up (up c 0 17 (-1)) 76 0 ((c 76 0) + 1))))))))) ∧ (¬ x2 = 0 → ((-1 ≤ x3 ∧ x3 < 6 → Q (cev 158 3 44 [vR 1, vI x1, vI x2, vI x3, vU, vU] [] (SH T, c))) ∧ (¬ (-1 ≤ x3 ∧ x3 < 6) → ((-2147483648 ≤ (c 76 0) + 1 ∧ (c 76 0) + 1 < 2147483648) ∧ Q (some (some (vI (-1)), (SH T, (up (up c 0 17 (-1)) 76 0 ((c 76 0) + 1))))))))))) ∧ (¬ (0 ≤ x2 ∧ x2 < 2) → ((-2147483648 ≤ (c 76 0) + 1 ∧ (c 76 0) + 1 < 2147483648) ∧ Q (some (some (vI (-1)), (SH T, (up (up c 0 17 (-1)) 76 0 ((c 76 0) + 1))))))))) : Q (ccal 158 [vR 1, vI x1, vI x2, vI x3] (SH T, c)) := by
  refine of_cev (Q := Q) ?_
  refine wq_sum (Q := Q) rfl (S_X11_inside T c x2 2) ?_
  refine wq_b01 (Q := Q) (p := 0 ≤ x2 ∧ x2 < 2) (fun h => ?_) (fun h => ?_)
  · replace k := k.2 h
    refine wq_sum (Q := Q) rfl (S_X11_refuse_1 T c k.1) ?_
    replace k := k.2
    exact k
  · replace k := k.1 h
    show Q (cev 158 3 14 [vR 1, vI x1, vI x2, vI x3, vU, vU] [] (SH T, c))
    refine of_cev (Q := Q) ?_
    refine wq_ite (Q := Q) (p := x2 = 0) (fun h => ?_) (fun h => ?_)
    · replace k := k.1 h
      refine wq_sum (Q := Q) rfl (S_X11_inside T c x3 151) ?_
      refine wq_b01 (Q := Q) (p := 0 ≤ x3 ∧ x3 < 151) (fun h => ?_) (fun h => ?_)
      · replace k := k.2 h
        refine wq_sum (Q := Q) rfl (S_X11_refuse_1 T c k.1) ?_
        replace k := k.2
        exact k
      · replace k := k.1 h
        exact k
    · replace k := k.2 h
      show Q (cev 158 3 31 [vR 1, vI x1, vI x2, vI x3, vU, vU] [] (SH T, c))
      refine of_cev (Q := Q) ?_
      refine wq_sum (Q := Q) rfl (S_X11_canBeCopy T c x3) ?_
      refine wq_b01 (Q := Q) (p := -1 ≤ x3 ∧ x3 < 6) (fun h => ?_) (fun h => ?_)
      · replace k := k.2 h
        refine wq_sum (Q := Q) rfl (S_X11_refuse_1 T c k.1) ?_
        replace k := k.2
        exact k
      · replace k := k.1 h
        exact k
set_option maxRecDepth 20000 in
theorem W_X11_claim_44 {T : List Shp} {c : Nat → Int → Int} {Q : Res → Prop} {x1 x2 x3 : Int} (k : ((0 ≤ x1 ∧ x1 < (c 1 13) → ((-2147483648 ≤ x1 * 4 ∧ x1 * 4 < 2147483648) ∧ ((x2 = 0 → (((-2147483648 ≤ (x1 * 4) + 1 ∧ (x1 * 4) + 1 < 2147483648) ∧ (0 ≤ ((x1 * 4) + 1) ∧ ((x1 * 4) + 1) < 32)) ∧ (((c 9 ((x1 * 4) + 1)) < x3 → Q (cev 158 3 93 [vR 1, vU, vI x2, vI x3, vI (x1 * 4), vU] [] (SH T, c))) ∧ (¬ (c 9 ((x1 * 4) + 1)) < x3 → ((-2147483648 ≤ (c 76 0) + 1 ∧ (c 76 0) + 1 < 2147483648) ∧ Q (some (some (vI (-1)), (SH T, (up (up c 0 17 (-1)) 76 0 ((c 76 0) + 1)))))))))) ∧ (¬ x2 = 0 → Q (cev 158 3 93 [vR 1, vU, vI x2, vI x3, vI (x1 * 4), vU] [] (SH T, c)))))) ∧ (¬ (0 ≤ x1 ∧ x1 < (c 1 13)) → ((-2147483648 ≤ (c 76 1) + 1 ∧ (c 76 1) + 1 < 2147483648) ∧ Q (some (some (vI (-2)), (SH T, (up (up c 0 17 (-2)) 76 1 ((c 76 1) + 1))))))))) : Q (cev 158 3 44 [vR 1, vI x1, vI x2, vI x3, vU, vU] [] (SH T, c)) := by
  refine of_cev (Q := Q) ?_
  refine wq_sum (Q := Q) rfl (S_X7_hasClaimant T c x1) ?_
  refine wq_b01 (Q := Q) (p := 0 ≤ x1 ∧ x1 < (c 1 13)) (fun h => ?_) (fun h => ?_)
  · replace k := k.2 h
    refine wq_sum (Q := Q) rfl (S_X11_refuse_2 T c k.1) ?_
    replace k := k.2
    exact k
  · replace k := k.1 h
    show Q (cev 158 3 62 [vR 1, vI x1, vI x2, vI x3, vU, vU] [] (SH T, c))
    refine of_cev (Q := Q) ?_
    refine wq_pos (Q := Q) k.1 ?_
    replace k := k.2
    refine wq_ite (Q := Q) (p := x2 = 0) (fun h => ?_) (fun h => ?_)
    · replace k := k.1 h
      refine wq_pos (Q := Q) k.1.1 ?_
      refine wq_pos (Q := Q) k.1.2 ?_
      replace k := k.2
      refine wq_ite (Q := Q) (p := (c 9 ((x1 * 4) + 1)) < x3) (fun h => ?_) (fun h => ?_)
      · replace k := k.1 h
        exact k
      · replace k := k.2 h
        refine wq_sum (Q := Q) rfl (S_X11_refuse_1 T c k.1) ?_
        replace k := k.2
        exact k
    · replace k := k.2 h
      exact k
set_option maxRecDepth 20000 in
theorem W_X11_claim_93 {T : List Shp} {c : Nat → Int → Int} {Q : Res → Prop} {x2 x3 x4 : Int} (k : (((-2147483648 ≤ x4 + 2 ∧ x4 + 2 < 2147483648) ∧ (-2147483648 ≤ (x4 + 2) + x2 ∧ (x4 + 2) + x2 < 2147483648) ∧ (0 ≤ ((x4 + 2) + x2) ∧ ((x4 + 2) + x2) < 32)) ∧ Q (some (some (vI (c 9 ((x4 + 2) + x2))), (SH T, (up (up c 9 ((x4 + 2) + x2) x3) 0 17 0)))))) : Q (cev 158 3 93 [vR 1, vU, vI x2, vI x3, vI x4, vU] [] (SH T, c)) := by
  refine of_cev (Q := Q) ?_
  refine wq_pos (Q := Q) k.1.1 ?_
  refine wq_pos (Q := Q) k.1.2.1 ?_
  refine wq_pos (Q := Q) k.1.2.2 ?_
  refine wq_pos (Q := Q) k.1.1 ?_
  refine wq_pos (Q := Q) k.1.2.1 ?_
  refine wq_pos (Q := Q) k.1.2.2 ?_
  refine wq_sum (Q := Q) rfl (S_X11_answer T (up c 9 ((x4 + 2) + x2) x3) (c 9 ((x4 + 2) + x2))) ?_
  replace k := k.2
  exact k
set_option maxRecDepth 20000 in
theorem W_X11_born {T : List Shp} {c : Nat → Int → Int} {Q : Res → Prop} {x1 x2 : Int} (k : ((0 ≤ x1 ∧ x1 < (c 1 13) → ((0 ≤ x2 ∧ x2 < 4 → (((-2147483648 ≤ x1 * 4 ∧ x1 * 4 < 2147483648) ∧ (-2147483648 ≤ (x1 * 4) + x2 ∧ (x1 * 4) + x2 < 2147483648) ∧ (0 ≤ ((x1 * 4) + x2) ∧ ((x1 * 4) + x2) < 32)) ∧ Q (some (some (vI (c 9 ((x1 * 4) + x2))), (SH T, c))))) ∧ (¬ (0 ≤ x2 ∧ x2 < 4) → Q (some (some (vI (-1)), (SH T, c)))))) ∧ (¬ (0 ≤ x1 ∧ x1 < (c 1 13)) → Q (some (some (vI (-1)), (SH T, c)))))) : Q (ccal 159 [vR 1, vI x1, vI x2] (SH T, c)) := by
  refine of_cev (Q := Q) ?_
  refine wq_sum (Q := Q) rfl (S_X7_hasClaimant T c x1) ?_
  refine wq_b01 (Q := Q) (p := 0 ≤ x1 ∧ x1 < (c 1 13)) (fun h => ?_) (fun h => ?_)
  · replace k := k.2 h
    show Q (cev 159 3 19 [vU, vU, vU] [] (SH T, c))
    refine of_cev (Q := Q) ?_
    exact k
  · replace k := k.1 h
    refine wq_sum (Q := Q) rfl (S_X11_inside T c x2 4) ?_
    refine wq_b01 (Q := Q) (p := 0 ≤ x2 ∧ x2 < 4) (fun h => ?_) (fun h => ?_)
    · replace k := k.2 h
      show Q (cev 159 3 19 [vU, vU, vU] [] (SH T, c))
      refine of_cev (Q := Q) ?_
      exact k
    · replace k := k.1 h
      show Q (cev 159 3 21 [vR 1, vI x1, vI x2] [] (SH T, c))
      refine of_cev (Q := Q) ?_
      refine wq_pos (Q := Q) k.1.1 ?_
      refine wq_pos (Q := Q) k.1.2.1 ?_
      refine wq_pos (Q := Q) k.1.2.2 ?_
      replace k := k.2
      exact k

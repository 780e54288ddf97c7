/-- how tightly an operator of the reference binds -/
def bnd (o : Int) : Int := if 30 ≤ o then 0 else if o = 29 then 1 else if o = 28 then 2 else if o = 27 then 3 else if 24 ≤ o then 4 else if 22 ≤ o then 6 else 5
set_option maxRecDepth 20000 in
theorem W_X11_inside {T : List Shp} {c : Nat → Int → Int} {Q : Res → Prop} {x0 x1 : Int} (k : ((x0 < 0 → Q (some (some (vI 0), (SH T, c)))) ∧ (¬ x0 < 0 → ((x0 < x1 → Q (some (some (vI 1), (SH T, c)))) ∧ (¬ x0 < x1 → Q (some (some (vI 0), (SH T, c)))))))) : Q (ccal 177 [vI x0, vI x1] (SH T, c)) := by
  refine of_cev (Q := Q) ?_
  refine wq_ite (Q := Q) (p := x0 < 0) (fun h => ?_) (fun h => ?_)
  · replace k := k.1 h
    refine of_cev (Q := Q) ?_
    exact k
  · replace k := k.2 h
    refine wq_ite (Q := Q) (p := x0 < x1) (fun h => ?_) (fun h => ?_)
    · replace k := k.1 h
      exact k
    · replace k := k.2 h
      refine of_cev (Q := Q) ?_
      exact k
theorem S_X11_inside (T : List Shp) (c : Nat → Int → Int) (n : Int) (b : Int)  : ccal 177 [vI n, vI b] (SH T, c) = some (some (vI (b01 (0 ≤ n ∧ n < b))), (SH T, c)) := by
  refine W_X11_inside (Q := fun R => R = some (some (vI (b01 (0 ≤ n ∧ n < b))), (SH T, c))) ?_
  repeat' (first | apply And.intro | intro _)
  all_goals (first | assumption | omega | rfl | (rw [b01_t (by omega)]) | (rw [b01_f (by omega)]) | (refine congrArg (fun z => some (some (vI z), (SH T, c))) (b01_congr ?_); omega) | (simp_all; done))
set_option maxRecDepth 20000 in
theorem W_X11_isCell {T : List Shp} {c : Nat → Int → Int} {Q : Res → Prop} {x0 : Int} (k : ((x0 < 0 → Q (some (some (vI 0), (SH T, c)))) ∧ (¬ x0 < 0 → ((x0 < 12 → Q (some (some (vI 1), (SH T, c)))) ∧ (¬ x0 < 12 → Q (some (some (vI 0), (SH T, c)))))))) : Q (ccal 178 [vI x0] (SH T, c)) := by
  refine of_cev (Q := Q) ?_
  refine wq_ite (Q := Q) (p := x0 < 0) (fun h => ?_) (fun h => ?_)
  · replace k := k.1 h
    refine of_cev (Q := Q) ?_
    exact k
  · replace k := k.2 h
    refine wq_ite (Q := Q) (p := x0 < 12) (fun h => ?_) (fun h => ?_)
    · replace k := k.1 h
      exact k
    · replace k := k.2 h
      refine of_cev (Q := Q) ?_
      exact k
theorem S_X11_isCell (T : List Shp) (c : Nat → Int → Int) (n : Int)  : ccal 178 [vI n] (SH T, c) = some (some (vI (b01 (0 ≤ n ∧ n < 12))), (SH T, c)) := by
  refine W_X11_isCell (Q := fun R => R = some (some (vI (b01 (0 ≤ n ∧ n < 12))), (SH T, c))) ?_
  repeat' (first | apply And.intro | intro _)
  all_goals (first | assumption | omega | rfl | (rw [b01_t (by omega)]) | (rw [b01_f (by omega)]) | (refine congrArg (fun z => some (some (vI z), (SH T, c))) (b01_congr ?_); omega) | (simp_all; done))
set_option maxRecDepth 20000 in
theorem W_X11_isTone {T : List Shp} {c : Nat → Int → Int} {Q : Res → Prop} {x0 : Int} (k : ((x0 < 0 → Q (some (some (vI 0), (SH T, c)))) ∧ (¬ x0 < 0 → ((x0 < 10 → Q (some (some (vI 1), (SH T, c)))) ∧ (¬ x0 < 10 → Q (some (some (vI 0), (SH T, c)))))))) : Q (ccal 179 [vI x0] (SH T, c)) := by
  refine of_cev (Q := Q) ?_
  refine wq_ite (Q := Q) (p := x0 < 0) (fun h => ?_) (fun h => ?_)
  · replace k := k.1 h
    refine of_cev (Q := Q) ?_
    exact k
  · replace k := k.2 h
    refine wq_ite (Q := Q) (p := x0 < 10) (fun h => ?_) (fun h => ?_)
    · replace k := k.1 h
      exact k
    · replace k := k.2 h
      refine of_cev (Q := Q) ?_
      exact k
theorem S_X11_isTone (T : List Shp) (c : Nat → Int → Int) (n : Int)  : ccal 179 [vI n] (SH T, c) = some (some (vI (b01 (0 ≤ n ∧ n < 10))), (SH T, c)) := by
  refine W_X11_isTone (Q := fun R => R = some (some (vI (b01 (0 ≤ n ∧ n < 10))), (SH T, c))) ?_
  repeat' (first | apply And.intro | intro _)
  all_goals (first | assumption | omega | rfl | (rw [b01_t (by omega)]) | (rw [b01_f (by omega)]) | (refine congrArg (fun z => some (some (vI z), (SH T, c))) (b01_congr ?_); omega) | (simp_all; done))
set_option maxRecDepth 20000 in
theorem W_X11_canBeCopy {T : List Shp} {c : Nat → Int → Int} {Q : Res → Prop} {x0 : Int} (k : ((x0 < (-1) → Q (some (some (vI 0), (SH T, c)))) ∧ (¬ x0 < (-1) → ((x0 < 6 → Q (some (some (vI 1), (SH T, c)))) ∧ (¬ x0 < 6 → Q (some (some (vI 0), (SH T, c)))))))) : Q (ccal 180 [vI x0] (SH T, c)) := by
  refine of_cev (Q := Q) ?_
  refine wq_ite (Q := Q) (p := x0 < (-1)) (fun h => ?_) (fun h => ?_)
  · replace k := k.1 h
    refine of_cev (Q := Q) ?_
    exact k
  · replace k := k.2 h
    refine wq_ite (Q := Q) (p := x0 < 6) (fun h => ?_) (fun h => ?_)
    · replace k := k.1 h
      exact k
    · replace k := k.2 h
      refine of_cev (Q := Q) ?_
      exact k
theorem S_X11_canBeCopy (T : List Shp) (c : Nat → Int → Int) (n : Int)  : ccal 180 [vI n] (SH T, c) = some (some (vI (b01 (-1 ≤ n ∧ n < 6))), (SH T, c)) := by
  refine W_X11_canBeCopy (Q := fun R => R = some (some (vI (b01 (-1 ≤ n ∧ n < 6))), (SH T, c))) ?_
  repeat' (first | apply And.intro | intro _)
  all_goals (first | assumption | omega | rfl | (rw [b01_t (by omega)]) | (rw [b01_f (by omega)]) | (refine congrArg (fun z => some (some (vI z), (SH T, c))) (b01_congr ?_); omega) | (simp_all; done))
set_option maxRecDepth 20000 in
theorem W_X11_bit {T : List Shp} {c : Nat → Int → Int} {Q : Res → Prop} {x0 : Int} (k : ((x0 = 0 → Q (some (some (vI 0), (SH T, c)))) ∧ (¬ x0 = 0 → Q (some (some (vI 1), (SH T, c)))))) : Q (ccal 181 [vI x0] (SH T, c)) := by
  refine of_cev (Q := Q) ?_
  refine wq_ite (Q := Q) (p := x0 = 0) (fun h => ?_) (fun h => ?_)
  · replace k := k.1 h
    refine of_cev (Q := Q) ?_
    exact k
  · replace k := k.2 h
    exact k
theorem S_X11_bit (T : List Shp) (c : Nat → Int → Int) (p : Prop) [Decidable p] : ccal 181 [vI (b01 p)] (SH T, c) = some (some (vI (b01 p)), (SH T, c)) := by
  refine W_X11_bit (Q := fun R => R = some (some (vI (b01 p)), (SH T, c))) ?_
  by_cases h : p
  · rw [b01_t h]
    exact ⟨fun h => absurd h (by decide), fun _ => rfl⟩
  · rw [b01_f h]
    exact ⟨fun _ => rfl, fun h => absurd rfl h⟩
set_option maxRecDepth 20000 in
theorem W_X11_nearest {T : List Shp} {c : Nat → Int → Int} {Q : Res → Prop} {x0 x1 x2 : Int} (k : ((x0 < x1 → Q (some (some (vI x1), (SH T, c)))) ∧ (¬ x0 < x1 → ((x2 < x0 → Q (some (some (vI x2), (SH T, c)))) ∧ (¬ x2 < x0 → Q (some (some (vI x0), (SH T, c)))))))) : Q (ccal 184 [vI x0, vI x1, vI x2] (SH T, c)) := by
  refine of_cev (Q := Q) ?_
  refine wq_ite (Q := Q) (p := x0 < x1) (fun h => ?_) (fun h => ?_)
  · replace k := k.1 h
    exact k
  · replace k := k.2 h
    refine of_cev (Q := Q) ?_
    refine wq_ite (Q := Q) (p := x2 < x0) (fun h => ?_) (fun h => ?_)
    · replace k := k.1 h
      exact k
    · replace k := k.2 h
      refine of_cev (Q := Q) ?_
      exact k
theorem S_X11_nearest (T : List Shp) (c : Nat → Int → Int) (v : Int) (lo : Int) (hi : Int)  : ccal 184 [vI v, vI lo, vI hi] (SH T, c) = some (some (vI (clp v lo hi)), (SH T, c)) := by
  refine W_X11_nearest (Q := fun R => R = some (some (vI (clp v lo hi)), (SH T, c))) ?_
  unfold clp
  refine ⟨fun h => by rw [if_pos h], fun h => ⟨fun h2 => by rw [if_neg h, if_pos h2], fun h2 => by rw [if_neg h, if_neg h2]⟩⟩
set_option maxRecDepth 20000 in
theorem W_X7_hasPainter {T : List Shp} {c : Nat → Int → Int} {Q : Res → Prop} {x1 : Int} (k : Q (some (some (vI (b01 (0 ≤ x1 ∧ x1 < (c 1 0)))), (SH T, c)))) : Q (ccal 66 [vR 2, vI x1] (SH T, c)) := by
  refine of_cev (Q := Q) ?_
  refine wq_sum (Q := Q) rfl (S_X11_inside T c x1 (c 1 0)) ?_
  refine wq_pos (Q := Q) (b01_or (p := 0 ≤ x1 ∧ x1 < (c 1 0))) ?_
  exact k
theorem S_X7_hasPainter (T : List Shp) (c : Nat → Int → Int) (x : Int)  : ccal 66 [vR 2, vI x] (SH T, c) = some (some (vI (b01 (0 ≤ x ∧ x < c 1 0))), (SH T, c)) := by
  refine W_X7_hasPainter (Q := fun R => R = some (some (vI (b01 (0 ≤ x ∧ x < c 1 0))), (SH T, c))) ?_
  repeat' (first | apply And.intro | intro _)
  all_goals (first | assumption | omega | rfl | (rw [b01_t (by omega)]) | (rw [b01_f (by omega)]) | (refine congrArg (fun z => some (some (vI z), (SH T, c))) (b01_congr ?_); omega) | (simp_all; done))
set_option maxRecDepth 20000 in
theorem W_X7_hasClaimant {T : List Shp} {c : Nat → Int → Int} {Q : Res → Prop} {x1 : Int} (k : Q (some (some (vI (b01 (0 ≤ x1 ∧ x1 < (c 1 13)))), (SH T, c)))) : Q (ccal 68 [vR 2, vI x1] (SH T, c)) := by
  refine of_cev (Q := Q) ?_
  refine wq_sum (Q := Q) rfl (S_X11_inside T c x1 (c 1 13)) ?_
  refine wq_pos (Q := Q) (b01_or (p := 0 ≤ x1 ∧ x1 < (c 1 13))) ?_
  exact k
theorem S_X7_hasClaimant (T : List Shp) (c : Nat → Int → Int) (x : Int)  : ccal 68 [vR 2, vI x] (SH T, c) = some (some (vI (b01 (0 ≤ x ∧ x < c 1 13))), (SH T, c)) := by
  refine W_X7_hasClaimant (Q := fun R => R = some (some (vI (b01 (0 ≤ x ∧ x < c 1 13))), (SH T, c))) ?_
  repeat' (first | apply And.intro | intro _)
  all_goals (first | assumption | omega | rfl | (rw [b01_t (by omega)]) | (rw [b01_f (by omega)]) | (refine congrArg (fun z => some (some (vI z), (SH T, c))) (b01_congr ?_); omega) | (simp_all; done))
set_option maxRecDepth 20000 in
theorem W_X7_hasLayer {T : List Shp} {c : Nat → Int → Int} {Q : Res → Prop} {x1 : Int} (k : ((-2147483648 ≤ (c 1 8) + 1 ∧ (c 1 8) + 1 < 2147483648) ∧ Q (some (some (vI (b01 (0 ≤ x1 ∧ x1 < ((c 1 8) + 1)))), (SH T, c))))) : Q (ccal 67 [vR 2, vI x1] (SH T, c)) := by
  refine of_cev (Q := Q) ?_
  refine wq_pos (Q := Q) k.1 ?_
  refine wq_sum (Q := Q) rfl (S_X11_inside T c x1 ((c 1 8) + 1)) ?_
  refine wq_pos (Q := Q) (b01_or (p := 0 ≤ x1 ∧ x1 < ((c 1 8) + 1))) ?_
  replace k := k.2
  exact k
theorem S_X7_hasLayer (T : List Shp) (c : Nat → Int → Int) (x : Int) (g0 : -2147483648 ≤ c 1 8 + 1 ∧ c 1 8 + 1 < 2147483648) : ccal 67 [vR 2, vI x] (SH T, c) = some (some (vI (b01 (0 ≤ x ∧ x < c 1 8 + 1))), (SH T, c)) := by
  refine W_X7_hasLayer (Q := fun R => R = some (some (vI (b01 (0 ≤ x ∧ x < c 1 8 + 1))), (SH T, c))) ?_
  repeat' (first | apply And.intro | intro _)
  all_goals (first | assumption | omega | rfl | (rw [b01_t (by omega)]) | (rw [b01_f (by omega)]) | (refine congrArg (fun z => some (some (vI z), (SH T, c))) (b01_congr ?_); omega) | (simp_all; done))
set_option maxRecDepth 20000 in
theorem W_X7_seenAt {T : List Shp} {c : Nat → Int → Int} {Q : Res → Prop} {x1 : Int} (k : (((-2147483648 ≤ (c 1 8) * 12 ∧ (c 1 8) * 12 < 2147483648) ∧ (-2147483648 ≤ ((c 1 8) * 12) + x1 ∧ ((c 1 8) * 12) + x1 < 2147483648) ∧ (0 ≤ (((c 1 8) * 12) + x1) ∧ (((c 1 8) * 12) + x1) < 204)) ∧ Q (some (some (vI (c 7 (((c 1 8) * 12) + x1))), (SH T, c))))) : Q (ccal 71 [vR 2, vI x1] (SH T, c)) := by
  refine of_cev (Q := Q) ?_
  refine wq_pos (Q := Q) k.1.1 ?_
  refine wq_pos (Q := Q) k.1.2.1 ?_
  refine wq_pos (Q := Q) k.1.2.2 ?_
  replace k := k.2
  exact k
theorem S_X7_seenAt (T : List Shp) (c : Nat → Int → Int) (x : Int) (g0 : -2147483648 ≤ c 1 8 * 12 ∧ c 1 8 * 12 < 2147483648) (g1 : -2147483648 ≤ c 1 8 * 12 + x ∧ c 1 8 * 12 + x < 2147483648) (g2 : 0 ≤ c 1 8 * 12 + x ∧ c 1 8 * 12 + x < 204) : ccal 71 [vR 2, vI x] (SH T, c) = some (some (vI (c 7 (c 1 8 * 12 + x))), (SH T, c)) := by
  refine W_X7_seenAt (Q := fun R => R = some (some (vI (c 7 (c 1 8 * 12 + x))), (SH T, c))) ?_
  repeat' (first | apply And.intro | intro _)
  all_goals (first | assumption | omega | rfl | (rw [b01_t (by omega)]) | (rw [b01_f (by omega)]) | (refine congrArg (fun z => some (some (vI z), (SH T, c))) (b01_congr ?_); omega) | (simp_all; done))
set_option maxRecDepth 20000 in
theorem W_X7_isAlive {T : List Shp} {c : Nat → Int → Int} {Q : Res → Prop} {x1 x2 : Int} (k : (((-2147483648 ≤ x1 * 4 ∧ x1 * 4 < 2147483648) ∧ (-2147483648 ≤ (x1 * 4) + 1 ∧ (x1 * 4) + 1 < 2147483648) ∧ (0 ≤ ((x1 * 4) + 1) ∧ ((x1 * 4) + 1) < 32)) ∧ ((x2 < (c 9 ((x1 * 4) + 1)) → Q (some (some (vI 0), (SH T, c)))) ∧ (¬ x2 < (c 9 ((x1 * 4) + 1)) → (((-2147483648 ≤ (x1 * 4) + 2 ∧ (x1 * 4) + 2 < 2147483648) ∧ (0 ≤ ((x1 * 4) + 2) ∧ ((x1 * 4) + 2) < 32)) ∧ ((x2 < (c 9 ((x1 * 4) + 2)) → Q (some (some (vI 1), (SH T, c)))) ∧ (¬ x2 < (c 9 ((x1 * 4) + 2)) → Q (some (some (vI 0), (SH T, c)))))))))) : Q (ccal 74 [vR 2, vI x1, vI x2] (SH T, c)) := by
  refine of_cev (Q := Q) ?_
  refine wq_pos (Q := Q) k.1.1 ?_
  refine wq_pos (Q := Q) k.1.2.1 ?_
  refine wq_pos (Q := Q) k.1.2.2 ?_
  replace k := k.2
  refine wq_ite (Q := Q) (p := x2 < (c 9 ((x1 * 4) + 1))) (fun h => ?_) (fun h => ?_)
  · replace k := k.1 h
    refine of_cev (Q := Q) ?_
    exact k
  · replace k := k.2 h
    refine wq_pos (Q := Q) k.1.1 ?_
    refine wq_pos (Q := Q) k.1.2 ?_
    replace k := k.2
    refine wq_ite (Q := Q) (p := x2 < (c 9 ((x1 * 4) + 2))) (fun h => ?_) (fun h => ?_)
    · replace k := k.1 h
      exact k
    · replace k := k.2 h
      refine of_cev (Q := Q) ?_
      exact k
theorem S_X7_isAlive (T : List Shp) (c : Nat → Int → Int) (x : Int) (y : Int) (g0 : -2147483648 ≤ x * 4 ∧ x * 4 < 2147483648) (g1 : 0 ≤ x * 4 ∧ x * 4 + 2 < 32) : ccal 74 [vR 2, vI x, vI y] (SH T, c) = some (some (vI (b01 (c 9 (x * 4 + 1) ≤ y ∧ y < c 9 (x * 4 + 2)))), (SH T, c)) := by
  refine W_X7_isAlive (Q := fun R => R = some (some (vI (b01 (c 9 (x * 4 + 1) ≤ y ∧ y < c 9 (x * 4 + 2)))), (SH T, c))) ?_
  repeat' (first | apply And.intro | intro _)
  all_goals (first | assumption | omega | rfl | (rw [b01_t (by omega)]) | (rw [b01_f (by omega)]) | (refine congrArg (fun z => some (some (vI z), (SH T, c))) (b01_congr ?_); omega) | (simp_all; done))
set_option maxRecDepth 20000 in
theorem W_X11_answer {T : List Shp} {c : Nat → Int → Int} {Q : Res → Prop} {x1 : Int} (k : Q (some (some (vI x1), (SH T, (up c 0 17 0))))) : Q (ccal 171 [vR 1, vI x1] (SH T, c)) := by
  refine of_cev (Q := Q) ?_
  exact k
theorem S_X11_answer (T : List Shp) (c : Nat → Int → Int) (v : Int)  : ccal 171 [vR 1, vI v] (SH T, c) = some (some (vI v), (SH T, up c 0 17 0)) := by
  refine W_X11_answer (Q := fun R => R = some (some (vI v), (SH T, up c 0 17 0))) ?_
  repeat' (first | apply And.intro | intro _)
  all_goals (first | assumption | omega | rfl | (rw [b01_t (by omega)]) | (rw [b01_f (by omega)]) | (refine congrArg (fun z => some (some (vI z), (SH T, c))) (b01_congr ?_); omega) | (simp_all; done))
set_option maxRecDepth 20000 in
theorem W_X11_refuse {T : List Shp} {c : Nat → Int → Int} {Q : Res → Prop} {x1 : Int} (k : ((x1 < (-3) → (((-2147483648 ≤ -x1 ∧ -x1 < 2147483648) ∧ (-2147483648 ≤ (-x1) - 2 ∧ (-x1) - 2 < 2147483648)) ∧ Q (cev 172 2 22 [vR 1, vI x1, vU] [vI ((-x1) - 2)] (SH T, (up c 0 17 x1))))) ∧ (¬ x1 < (-3) → (((-2147483648 ≤ -x1 ∧ -x1 < 2147483648) ∧ (-2147483648 ≤ (-x1) - 1 ∧ (-x1) - 1 < 2147483648)) ∧ Q (cev 172 2 22 [vR 1, vI x1, vU] [vI ((-x1) - 1)] (SH T, (up c 0 17 x1))))))) : Q (ccal 172 [vR 1, vI x1] (SH T, c)) := by
  refine of_cev (Q := Q) ?_
  refine wq_ite (Q := Q) (p := x1 < (-3)) (fun h => ?_) (fun h => ?_)
  · replace k := k.1 h
    refine of_cev (Q := Q) ?_
    refine wq_pos (Q := Q) k.1.1 ?_
    refine wq_pos (Q := Q) k.1.2 ?_
    replace k := k.2
    exact k
  · replace k := k.2 h
    refine wq_pos (Q := Q) k.1.1 ?_
    refine wq_pos (Q := Q) k.1.2 ?_
    replace k := k.2
    exact k
set_option maxRecDepth 20000 in
theorem W_X11_refuse_22 {T : List Shp} {c : Nat → Int → Int} {Q : Res → Prop} {x1 y0 : Int} (k : ((0 ≤ y0 ∧ y0 < 5 → (((0 ≤ y0 ∧ y0 < 5) ∧ (-2147483648 ≤ (c 76 y0) + 1 ∧ (c 76 y0) + 1 < 2147483648)) ∧ Q (some (some (vI x1), (SH T, (up c 76 y0 ((c 76 y0) + 1))))))) ∧ (¬ (0 ≤ y0 ∧ y0 < 5) → Q (some (some (vI x1), (SH T, c)))))) : Q (cev 172 2 22 [vR 1, vI x1, vU] [vI y0] (SH T, c)) := by
  refine of_cev (Q := Q) ?_
  refine wq_sum (Q := Q) rfl (S_X11_inside T c y0 5) ?_
  refine wq_b01 (Q := Q) (p := 0 ≤ y0 ∧ y0 < 5) (fun h => ?_) (fun h => ?_)
  · replace k := k.2 h
    refine of_cev (Q := Q) ?_
    exact k
  · replace k := k.1 h
    refine wq_pos (Q := Q) k.1.1 ?_
    refine wq_pos (Q := Q) k.1.2 ?_
    refine wq_pos (Q := Q) k.1.1 ?_
    refine of_cev (Q := Q) ?_
    replace k := k.2
    exact k
theorem S_X11_refuse_1 (T : List Shp) (c : Nat → Int → Int) (g0 : -2147483648 ≤ c 76 0 + 1 ∧ c 76 0 + 1 < 2147483648) : ccal 172 [vR 1, vI (-1)] (SH T, c) = some (some (vI (-1)), (SH T, up (up c 0 17 (-1)) 76 0 (c 76 0 + 1))) := by
  refine W_X11_refuse (Q := fun R => R = some (some (vI (-1)), (SH T, up (up c 0 17 (-1)) 76 0 (c 76 0 + 1)))) ?_
  repeat' (first | apply And.intro | intro _)
  all_goals (first | assumption | omega | skip)
  all_goals refine W_X11_refuse_22 (Q := fun R => R = some (some (vI (-1)), (SH T, up (up c 0 17 (-1)) 76 0 (c 76 0 + 1)))) ?_
  all_goals repeat' (first | apply And.intro | intro _)
  all_goals (first | assumption | omega | exact g0.1 | exact g0.2 | rfl)
theorem S_X11_refuse_2 (T : List Shp) (c : Nat → Int → Int) (g0 : -2147483648 ≤ c 76 1 + 1 ∧ c 76 1 + 1 < 2147483648) : ccal 172 [vR 1, vI (-2)] (SH T, c) = some (some (vI (-2)), (SH T, up (up c 0 17 (-2)) 76 1 (c 76 1 + 1))) := by
  refine W_X11_refuse (Q := fun R => R = some (some (vI (-2)), (SH T, up (up c 0 17 (-2)) 76 1 (c 76 1 + 1)))) ?_
  repeat' (first | apply And.intro | intro _)
  all_goals (first | assumption | omega | skip)
  all_goals refine W_X11_refuse_22 (Q := fun R => R = some (some (vI (-2)), (SH T, up (up c 0 17 (-2)) 76 1 (c 76 1 + 1)))) ?_
  all_goals repeat' (first | apply And.intro | intro _)
  all_goals (first | assumption | omega | exact g0.1 | exact g0.2 | rfl)
theorem S_X11_refuse_3 (T : List Shp) (c : Nat → Int → Int) (g0 : -2147483648 ≤ c 76 2 + 1 ∧ c 76 2 + 1 < 2147483648) : ccal 172 [vR 1, vI (-3)] (SH T, c) = some (some (vI (-3)), (SH T, up (up c 0 17 (-3)) 76 2 (c 76 2 + 1))) := by
  refine W_X11_refuse (Q := fun R => R = some (some (vI (-3)), (SH T, up (up c 0 17 (-3)) 76 2 (c 76 2 + 1)))) ?_
  repeat' (first | apply And.intro | intro _)
  all_goals (first | assumption | omega | skip)
  all_goals refine W_X11_refuse_22 (Q := fun R => R = some (some (vI (-3)), (SH T, up (up c 0 17 (-3)) 76 2 (c 76 2 + 1)))) ?_
  all_goals repeat' (first | apply And.intro | intro _)
  all_goals (first | assumption | omega | exact g0.1 | exact g0.2 | rfl)
theorem S_X11_refuse_5 (T : List Shp) (c : Nat → Int → Int) (g0 : -2147483648 ≤ c 76 3 + 1 ∧ c 76 3 + 1 < 2147483648) : ccal 172 [vR 1, vI (-5)] (SH T, c) = some (some (vI (-5)), (SH T, up (up c 0 17 (-5)) 76 3 (c 76 3 + 1))) := by
  refine W_X11_refuse (Q := fun R => R = some (some (vI (-5)), (SH T, up (up c 0 17 (-5)) 76 3 (c 76 3 + 1)))) ?_
  repeat' (first | apply And.intro | intro _)
  all_goals (first | assumption | omega | skip)
  all_goals refine W_X11_refuse_22 (Q := fun R => R = some (some (vI (-5)), (SH T, up (up c 0 17 (-5)) 76 3 (c 76 3 + 1)))) ?_
  all_goals repeat' (first | apply And.intro | intro _)
  all_goals (first | assumption | omega | exact g0.1 | exact g0.2 | rfl)
theorem S_X11_refuse_6 (T : List Shp) (c : Nat → Int → Int) (g0 : -2147483648 ≤ c 76 4 + 1 ∧ c 76 4 + 1 < 2147483648) : ccal 172 [vR 1, vI (-6)] (SH T, c) = some (some (vI (-6)), (SH T, up (up c 0 17 (-6)) 76 4 (c 76 4 + 1))) := by
  refine W_X11_refuse (Q := fun R => R = some (some (vI (-6)), (SH T, up (up c 0 17 (-6)) 76 4 (c 76 4 + 1)))) ?_
  repeat' (first | apply And.intro | intro _)
  all_goals (first | assumption | omega | skip)
  all_goals refine W_X11_refuse_22 (Q := fun R => R = some (some (vI (-6)), (SH T, up (up c 0 17 (-6)) 76 4 (c 76 4 + 1)))) ?_
  all_goals repeat' (first | apply And.intro | intro _)
  all_goals (first | assumption | omega | exact g0.1 | exact g0.2 | rfl)
set_option maxRecDepth 20000 in
theorem W_X11_isRootOrCopy {T : List Shp} {c : Nat → Int → Int} {Q : Res → Prop} {x1 : Int} (k : ((x1 = (-1) → Q (some (some (vI 1), (SH T, c)))) ∧ (¬ x1 = (-1) → ((0 ≤ x1 ∧ x1 < (c 1 11) → Q (some (some (vI 1), (SH T, c)))) ∧ (¬ (0 ≤ x1 ∧ x1 < (c 1 11)) → Q (some (some (vI 0), (SH T, c)))))))) : Q (ccal 175 [vR 1, vI x1] (SH T, c)) := by
  refine of_cev (Q := Q) ?_
  refine wq_ite (Q := Q) (p := x1 = (-1)) (fun h => ?_) (fun h => ?_)
  · replace k := k.1 h
    refine of_cev (Q := Q) ?_
    exact k
  · replace k := k.2 h
    refine wq_sum (Q := Q) rfl (S_X11_inside T c x1 (c 1 11)) ?_
    refine wq_b01 (Q := Q) (p := 0 ≤ x1 ∧ x1 < (c 1 11)) (fun h => ?_) (fun h => ?_)
    · replace k := k.2 h
      refine of_cev (Q := Q) ?_
      exact k
    · replace k := k.1 h
      refine of_cev (Q := Q) ?_
      exact k
theorem S_X11_isRootOrCopy (T : List Shp) (c : Nat → Int → Int) (n : Int)  : ccal 175 [vR 1, vI n] (SH T, c) = some (some (vI (b01 (n = -1 ∨ 0 ≤ n ∧ n < c 1 11))), (SH T, c)) := by
  refine W_X11_isRootOrCopy (Q := fun R => R = some (some (vI (b01 (n = -1 ∨ 0 ≤ n ∧ n < c 1 11))), (SH T, c))) ?_
  repeat' (first | apply And.intro | intro _)
  all_goals (first | assumption | omega | rfl | (rw [b01_t (by omega)]) | (rw [b01_f (by omega)]) | (refine congrArg (fun z => some (some (vI z), (SH T, c))) (b01_congr ?_); omega) | (simp_all; done))
set_option maxRecDepth 20000 in
theorem W_X12_in {T : List Shp} {c : Nat → Int → Int} {Q : Res → Prop} {x0 x2 x4 : Int} (k : ((x0 < x2 → Q (some (some (vI 0), (SH T, c)))) ∧ (¬ x0 < x2 → ((x4 < x0 → Q (some (some (vI 0), (SH T, c)))) ∧ (¬ x4 < x0 → Q (some (some (vI 1), (SH T, c)))))))) : Q (ccal 186 [vL x0, vL x2, vL x4] (SH T, c)) := by
  refine of_cev (Q := Q) ?_
  refine wq_lc2 (Q := Q) (x := x0) (y := x2) (fun h => ?_) (fun h => ?_)
  · replace k := k.1 h
    refine of_cev (Q := Q) ?_
    exact k
  · replace k := k.2 h
    refine wq_lc4 (Q := Q) (x := x0) (y := x4) (fun h => ?_) (fun h => ?_)
    · replace k := k.1 h
      refine of_cev (Q := Q) ?_
      exact k
    · replace k := k.2 h
      exact k
theorem S_X12_in (T : List Shp) (c : Nat → Int → Int) (v : Int) (l : Int) (h : Int)  : ccal 186 [vL v, vL l, vL h] (SH T, c) = some (some (vI (b01 (l ≤ v ∧ v ≤ h))), (SH T, c)) := by
  refine W_X12_in (Q := fun R => R = some (some (vI (b01 (l ≤ v ∧ v ≤ h))), (SH T, c))) ?_
  repeat' (first | apply And.intro | intro _)
  all_goals (first | assumption | omega | rfl | (rw [b01_t (by omega)]) | (rw [b01_f (by omega)]) | (refine congrArg (fun z => some (some (vI z), (SH T, c))) (b01_congr ?_); omega) | (simp_all; done))
set_option maxRecDepth 20000 in
theorem W_X12_is {T : List Shp} {c : Nat → Int → Int} {Q : Res → Prop} {x0 x1 : Int} (k : (((iand (ishr x0 x1) 1) = 1 → Q (some (some (vI 1), (SH T, c)))) ∧ (¬ (iand (ishr x0 x1) 1) = 1 → Q (some (some (vI 0), (SH T, c)))))) : Q (ccal 187 [vI x0, vI x1] (SH T, c)) := by
  refine of_cev (Q := Q) ?_
  refine wq_ite (Q := Q) (p := (iand (ishr x0 x1) 1) = 1) (fun h => ?_) (fun h => ?_)
  · replace k := k.1 h
    exact k
  · replace k := k.2 h
    refine of_cev (Q := Q) ?_
    exact k
theorem S_X12_is (T : List Shp) (c : Nat → Int → Int) (v : Int) (k : Int)  : ccal 187 [vI v, vI k] (SH T, c) = some (some (vI (b01 (iand (ishr v k) 1 = 1))), (SH T, c)) := by
  refine W_X12_is (Q := fun R => R = some (some (vI (b01 (iand (ishr v k) 1 = 1))), (SH T, c))) ?_
  repeat' (first | apply And.intro | intro _)
  all_goals (first | assumption | omega | rfl | (rw [b01_t (by omega)]) | (rw [b01_f (by omega)]) | (refine congrArg (fun z => some (some (vI z), (SH T, c))) (b01_congr ?_); omega) | (simp_all; done))
set_option maxRecDepth 20000 in
theorem W_X12_size {T : List Shp} {c : Nat → Int → Int} {Q : Res → Prop} {x0 : Int} (k : ((x0 < 0 → ((-2147483648 ≤ -x0 ∧ -x0 < 2147483648) ∧ Q (some (some (vI (-x0)), (SH T, c))))) ∧ (¬ x0 < 0 → Q (some (some (vI x0), (SH T, c)))))) : Q (ccal 188 [vI x0] (SH T, c)) := by
  refine of_cev (Q := Q) ?_
  refine wq_ite (Q := Q) (p := x0 < 0) (fun h => ?_) (fun h => ?_)
  · replace k := k.1 h
    refine wq_pos (Q := Q) k.1 ?_
    replace k := k.2
    exact k
  · replace k := k.2 h
    refine of_cev (Q := Q) ?_
    exact k
theorem S_X12_size (T : List Shp) (c : Nat → Int → Int) (v : Int) (g0 : -2147483648 ≤ -v ∧ -v < 2147483648) : ccal 188 [vI v] (SH T, c) = some (some (vI (abz v)), (SH T, c)) := by
  refine W_X12_size (Q := fun R => R = some (some (vI (abz v)), (SH T, c))) ?_
  unfold abz
  refine ⟨fun h => ⟨g0, by rw [if_neg (by omega)]⟩, fun h => by rw [if_pos (by omega)]⟩
set_option maxRecDepth 20000 in
theorem W_X12_within {T : List Shp} {c : Nat → Int → Int} {Q : Res → Prop} {x0 x2 x3 : Int} (k : ((x0 < x2 → Q (some (some (vI x2), (SH T, c)))) ∧ (¬ x0 < x2 → ((x3 < x0 → Q (some (some (vI x3), (SH T, c)))) ∧ (¬ x3 < x0 → Q (some (some (vI (w32 x0)), (SH T, c)))))))) : Q (ccal 189 [vL x0, vI x2, vI x3] (SH T, c)) := by
  refine of_cev (Q := Q) ?_
  refine wq_lc3 (Q := Q) (x := x0) (y := x2) (fun h => ?_) (fun h => ?_)
  · replace k := k.1 h
    exact k
  · replace k := k.2 h
    refine of_cev (Q := Q) ?_
    refine wq_lc5 (Q := Q) (x := x0) (y := x3) (fun h => ?_) (fun h => ?_)
    · replace k := k.1 h
      exact k
    · replace k := k.2 h
      refine of_cev (Q := Q) ?_
      exact k
theorem S_X12_within (T : List Shp) (c : Nat → Int → Int) (v : Int) (lo : Int) (hi : Int) (g0 : -2147483648 ≤ lo ∧ hi < 2147483648) : ccal 189 [vL v, vI lo, vI hi] (SH T, c) = some (some (vI (clp v lo hi)), (SH T, c)) := by
  refine W_X12_within (Q := fun R => R = some (some (vI (clp v lo hi)), (SH T, c))) ?_
  unfold clp
  refine ⟨fun h => by rw [if_pos h], fun h => ⟨fun h2 => by rw [if_neg h, if_pos h2], fun h2 => by rw [if_neg h, if_neg h2, w32_id (by omega) (by omega)]⟩⟩
set_option maxRecDepth 20000 in
theorem W_X12_tell {T : List Shp} {c : Nat → Int → Int} {Q : Res → Prop} {x1 : Int} (k : ((x1 < 0 → Q (cev 190 1 10 [vR 78, vI x1] [vI x1, vR 78] (SH T, c))) ∧ (¬ x1 < 0 → Q (cev 190 1 10 [vR 78, vI x1] [vI 0, vR 78] (SH T, c))))) : Q (ccal 190 [vR 78, vI x1] (SH T, c)) := by
  refine of_cev (Q := Q) ?_
  refine wq_ite (Q := Q) (p := x1 < 0) (fun h => ?_) (fun h => ?_)
  · replace k := k.1 h
    exact k
  · replace k := k.2 h
    refine of_cev (Q := Q) ?_
    exact k
set_option maxRecDepth 20000 in
theorem W_X12_tell_10 {T : List Shp} {c : Nat → Int → Int} {Q : Res → Prop} {x1 y0 : Int} (k : ((x1 < 0 → (((-2147483648 ≤ -x1 ∧ -x1 < 2147483648) ∧ (0 ≤ (-x1) ∧ (-x1) < 7) ∧ (-2147483648 ≤ (c 78 (-x1)) + 1 ∧ (c 78 (-x1)) + 1 < 2147483648)) ∧ Q (some (some (vI x1), (SH T, (up (up c 77 1 y0) 78 (-x1) ((c 78 (-x1)) + 1))))))) ∧ (¬ x1 < 0 → Q (some (some (vI x1), (SH T, (up c 77 1 y0))))))) : Q (cev 190 1 10 [vR 78, vI x1] [vI y0, vR 78] (SH T, c)) := by
  refine of_cev (Q := Q) ?_
  refine wq_ite (Q := Q) (p := x1 < 0) (fun h => ?_) (fun h => ?_)
  · replace k := k.1 h
    refine wq_pos (Q := Q) k.1.1 ?_
    refine wq_pos (Q := Q) k.1.2.1 ?_
    refine wq_pos (Q := Q) k.1.2.2 ?_
    refine wq_pos (Q := Q) k.1.2.1 ?_
    refine of_cev (Q := Q) ?_
    replace k := k.2
    exact k
  · replace k := k.2 h
    refine of_cev (Q := Q) ?_
    exact k
theorem S_X12_tell_1 (T : List Shp) (c : Nat → Int → Int) (g0 : -2147483648 ≤ c 78 1 + 1 ∧ c 78 1 + 1 < 2147483648) : ccal 190 [vR 78, vI (-1)] (SH T, c) = some (some (vI (-1)), (SH T, up (up c 77 1 (-1)) 78 1 (c 78 1 + 1))) := by
  refine W_X12_tell (Q := fun R => R = some (some (vI (-1)), (SH T, up (up c 77 1 (-1)) 78 1 (c 78 1 + 1)))) ?_
  refine ⟨fun _ => ?_, fun h => absurd h (by decide)⟩
  refine W_X12_tell_10 (Q := fun R => R = some (some (vI (-1)), (SH T, up (up c 77 1 (-1)) 78 1 (c 78 1 + 1)))) ?_
  repeat' (first | apply And.intro | intro _)
  all_goals (first | assumption | omega | exact g0.1 | exact g0.2 | rfl)
theorem S_X12_tell_2 (T : List Shp) (c : Nat → Int → Int) (g0 : -2147483648 ≤ c 78 2 + 1 ∧ c 78 2 + 1 < 2147483648) : ccal 190 [vR 78, vI (-2)] (SH T, c) = some (some (vI (-2)), (SH T, up (up c 77 1 (-2)) 78 2 (c 78 2 + 1))) := by
  refine W_X12_tell (Q := fun R => R = some (some (vI (-2)), (SH T, up (up c 77 1 (-2)) 78 2 (c 78 2 + 1)))) ?_
  refine ⟨fun _ => ?_, fun h => absurd h (by decide)⟩
  refine W_X12_tell_10 (Q := fun R => R = some (some (vI (-2)), (SH T, up (up c 77 1 (-2)) 78 2 (c 78 2 + 1)))) ?_
  repeat' (first | apply And.intro | intro _)
  all_goals (first | assumption | omega | exact g0.1 | exact g0.2 | rfl)
theorem S_X12_tell_3 (T : List Shp) (c : Nat → Int → Int) (g0 : -2147483648 ≤ c 78 3 + 1 ∧ c 78 3 + 1 < 2147483648) : ccal 190 [vR 78, vI (-3)] (SH T, c) = some (some (vI (-3)), (SH T, up (up c 77 1 (-3)) 78 3 (c 78 3 + 1))) := by
  refine W_X12_tell (Q := fun R => R = some (some (vI (-3)), (SH T, up (up c 77 1 (-3)) 78 3 (c 78 3 + 1)))) ?_
  refine ⟨fun _ => ?_, fun h => absurd h (by decide)⟩
  refine W_X12_tell_10 (Q := fun R => R = some (some (vI (-3)), (SH T, up (up c 77 1 (-3)) 78 3 (c 78 3 + 1)))) ?_
  repeat' (first | apply And.intro | intro _)
  all_goals (first | assumption | omega | exact g0.1 | exact g0.2 | rfl)
theorem S_X12_tell_5 (T : List Shp) (c : Nat → Int → Int) (g0 : -2147483648 ≤ c 78 5 + 1 ∧ c 78 5 + 1 < 2147483648) : ccal 190 [vR 78, vI (-5)] (SH T, c) = some (some (vI (-5)), (SH T, up (up c 77 1 (-5)) 78 5 (c 78 5 + 1))) := by
  refine W_X12_tell (Q := fun R => R = some (some (vI (-5)), (SH T, up (up c 77 1 (-5)) 78 5 (c 78 5 + 1)))) ?_
  refine ⟨fun _ => ?_, fun h => absurd h (by decide)⟩
  refine W_X12_tell_10 (Q := fun R => R = some (some (vI (-5)), (SH T, up (up c 77 1 (-5)) 78 5 (c 78 5 + 1)))) ?_
  repeat' (first | apply And.intro | intro _)
  all_goals (first | assumption | omega | exact g0.1 | exact g0.2 | rfl)
theorem S_X12_tell_6 (T : List Shp) (c : Nat → Int → Int) (g0 : -2147483648 ≤ c 78 6 + 1 ∧ c 78 6 + 1 < 2147483648) : ccal 190 [vR 78, vI (-6)] (SH T, c) = some (some (vI (-6)), (SH T, up (up c 77 1 (-6)) 78 6 (c 78 6 + 1))) := by
  refine W_X12_tell (Q := fun R => R = some (some (vI (-6)), (SH T, up (up c 77 1 (-6)) 78 6 (c 78 6 + 1)))) ?_
  refine ⟨fun _ => ?_, fun h => absurd h (by decide)⟩
  refine W_X12_tell_10 (Q := fun R => R = some (some (vI (-6)), (SH T, up (up c 77 1 (-6)) 78 6 (c 78 6 + 1)))) ?_
  repeat' (first | apply And.intro | intro _)
  all_goals (first | assumption | omega | exact g0.1 | exact g0.2 | rfl)
theorem S_X12_tell (T : List Shp) (c : Nat → Int → Int) (v : Int) (g0 : 0 ≤ v) : ccal 190 [vR 78, vI v] (SH T, c) = some (some (vI v), (SH T, up c 77 1 0)) := by
  refine W_X12_tell (Q := fun R => R = some (some (vI v), (SH T, up c 77 1 0))) ?_
  refine ⟨fun h => absurd h (by omega), fun h => ?_⟩
  refine W_X12_tell_10 (Q := fun R => R = some (some (vI v), (SH T, up c 77 1 0))) ?_
  repeat' (first | apply And.intro | intro _)
  all_goals (first | assumption | omega | rfl)
set_option maxRecDepth 20000 in
theorem W_X12_change {T : List Shp} {c : Nat → Int → Int} {Q : Res → Prop} {x1 x2 : Int} (k : ((0 ≤ x1 ∧ x1 < 5780) ∧ Q (some (some (vI (c 79 x1)), (SH T, (up (up c 79 x1 x2) 77 1 0)))))) : Q (ccal 191 [vR 78, vI x1, vI x2] (SH T, c)) := by
  refine of_cev (Q := Q) ?_
  refine wq_pos (Q := Q) k.1 ?_
  refine wq_pos (Q := Q) k.1 ?_
  replace k := k.2
  exact k
theorem S_X12_change (T : List Shp) (c : Nat → Int → Int) (a : Int) (v : Int) (g0 : 0 ≤ a ∧ a < 5780) : ccal 191 [vR 78, vI a, vI v] (SH T, c) = some (some (vI (c 79 a)), (SH T, up (up c 79 a v) 77 1 0)) := by
  refine W_X12_change (Q := fun R => R = some (some (vI (c 79 a)), (SH T, up (up c 79 a v) 77 1 0))) ?_
  repeat' (first | apply And.intro | intro _)
  all_goals (first | assumption | omega | rfl | (rw [b01_t (by omega)]) | (rw [b01_f (by omega)]) | (refine congrArg (fun z => some (some (vI z), (SH T, c))) (b01_congr ?_); omega) | (simp_all; done))
set_option maxRecDepth 20000 in
theorem W_X12_isCell {T : List Shp} {c : Nat → Int → Int} {Q : Res → Prop} {x0 : Int} (k : Q (some (some (vI (b01 (0 ≤ x0 ∧ x0 ≤ 11))), (SH T, c)))) : Q (ccal 194 [vI x0] (SH T, c)) := by
  refine of_cev (Q := Q) ?_
  refine wq_sum (Q := Q) rfl (S_X12_in T c x0 0 11) ?_
  refine wq_pos (Q := Q) (b01_or (p := 0 ≤ x0 ∧ x0 ≤ 11)) ?_
  exact k
theorem S_X12_isCell (T : List Shp) (c : Nat → Int → Int) (n : Int)  : ccal 194 [vI n] (SH T, c) = some (some (vI (b01 (0 ≤ n ∧ n < 12))), (SH T, c)) := by
  refine W_X12_isCell (Q := fun R => R = some (some (vI (b01 (0 ≤ n ∧ n < 12))), (SH T, c))) ?_
  repeat' (first | apply And.intro | intro _)
  all_goals (first | assumption | omega | rfl | (rw [b01_t (by omega)]) | (rw [b01_f (by omega)]) | (refine congrArg (fun z => some (some (vI z), (SH T, c))) (b01_congr ?_); omega) | (simp_all; done))
set_option maxRecDepth 20000 in
theorem W_X12_isTone {T : List Shp} {c : Nat → Int → Int} {Q : Res → Prop} {x0 : Int} (k : Q (some (some (vI (b01 (0 ≤ x0 ∧ x0 ≤ 9))), (SH T, c)))) : Q (ccal 195 [vI x0] (SH T, c)) := by
  refine of_cev (Q := Q) ?_
  refine wq_sum (Q := Q) rfl (S_X12_in T c x0 0 9) ?_
  refine wq_pos (Q := Q) (b01_or (p := 0 ≤ x0 ∧ x0 ≤ 9)) ?_
  exact k
theorem S_X12_isTone (T : List Shp) (c : Nat → Int → Int) (n : Int)  : ccal 195 [vI n] (SH T, c) = some (some (vI (b01 (0 ≤ n ∧ n < 10))), (SH T, c)) := by
  refine W_X12_isTone (Q := fun R => R = some (some (vI (b01 (0 ≤ n ∧ n < 10))), (SH T, c))) ?_
  repeat' (first | apply And.intro | intro _)
  all_goals (first | assumption | omega | rfl | (rw [b01_t (by omega)]) | (rw [b01_f (by omega)]) | (refine congrArg (fun z => some (some (vI z), (SH T, c))) (b01_congr ?_); omega) | (simp_all; done))
set_option maxRecDepth 20000 in
theorem W_X12_isYear {T : List Shp} {c : Nat → Int → Int} {Q : Res → Prop} {x0 : Int} (k : Q (some (some (vI (b01 (0 ≤ x0 ∧ x0 ≤ 99))), (SH T, c)))) : Q (ccal 196 [vI x0] (SH T, c)) := by
  refine of_cev (Q := Q) ?_
  refine wq_sum (Q := Q) rfl (S_X12_in T c x0 0 99) ?_
  refine wq_pos (Q := Q) (b01_or (p := 0 ≤ x0 ∧ x0 ≤ 99)) ?_
  exact k
theorem S_X12_isYear (T : List Shp) (c : Nat → Int → Int) (n : Int)  : ccal 196 [vI n] (SH T, c) = some (some (vI (b01 (0 ≤ n ∧ n < 100))), (SH T, c)) := by
  refine W_X12_isYear (Q := fun R => R = some (some (vI (b01 (0 ≤ n ∧ n < 100))), (SH T, c))) ?_
  repeat' (first | apply And.intro | intro _)
  all_goals (first | assumption | omega | rfl | (rw [b01_t (by omega)]) | (rw [b01_f (by omega)]) | (refine congrArg (fun z => some (some (vI z), (SH T, c))) (b01_congr ?_); omega) | (simp_all; done))
set_option maxRecDepth 20000 in
theorem W_X12_years {T : List Shp} {c : Nat → Int → Int} {Q : Res → Prop} (k : Q (some (some (vI (c 79 4)), (SH T, c)))) : Q (ccal 197 [vR 78] (SH T, c)) := by
  refine of_cev (Q := Q) ?_
  exact k
theorem S_X12_years (T : List Shp) (c : Nat → Int → Int)   : ccal 197 [vR 78] (SH T, c) = some (some (vI (c 79 4)), (SH T, c)) := by
  refine W_X12_years (Q := fun R => R = some (some (vI (c 79 4)), (SH T, c))) ?_
  repeat' (first | apply And.intro | intro _)
  all_goals (first | assumption | omega | rfl | (rw [b01_t (by omega)]) | (rw [b01_f (by omega)]) | (refine congrArg (fun z => some (some (vI z), (SH T, c))) (b01_congr ?_); omega) | (simp_all; done))
set_option maxRecDepth 20000 in
theorem W_X12_isLayer {T : List Shp} {c : Nat → Int → Int} {Q : Res → Prop} {x1 : Int} (k : Q (some (some (vI (b01 (0 ≤ x1 ∧ x1 ≤ (c 79 4)))), (SH T, c)))) : Q (ccal 198 [vR 78, vI x1] (SH T, c)) := by
  refine of_cev (Q := Q) ?_
  refine wq_sum (Q := Q) rfl (S_X12_years T c ) ?_
  refine wq_sum (Q := Q) rfl (S_X12_in T c x1 0 (c 79 4)) ?_
  refine wq_pos (Q := Q) (b01_or (p := 0 ≤ x1 ∧ x1 ≤ (c 79 4))) ?_
  exact k
theorem S_X12_isLayer (T : List Shp) (c : Nat → Int → Int) (x : Int)  : ccal 198 [vR 78, vI x] (SH T, c) = some (some (vI (b01 (0 ≤ x ∧ x ≤ c 79 4))), (SH T, c)) := by
  refine W_X12_isLayer (Q := fun R => R = some (some (vI (b01 (0 ≤ x ∧ x ≤ c 79 4))), (SH T, c))) ?_
  repeat' (first | apply And.intro | intro _)
  all_goals (first | assumption | omega | rfl | (rw [b01_t (by omega)]) | (rw [b01_f (by omega)]) | (refine congrArg (fun z => some (some (vI z), (SH T, c))) (b01_congr ?_); omega) | (simp_all; done))
set_option maxRecDepth 20000 in
theorem W_X12_isPainter {T : List Shp} {c : Nat → Int → Int} {Q : Res → Prop} {x1 : Int} (k : ((-9223372036854775808 ≤ (c 79 0) - 1 ∧ (c 79 0) - 1 < 9223372036854775808) ∧ Q (some (some (vI (b01 (0 ≤ x1 ∧ x1 ≤ ((c 79 0) - 1)))), (SH T, c))))) : Q (ccal 199 [vR 78, vI x1] (SH T, c)) := by
  refine of_cev (Q := Q) ?_
  refine wq_pos (Q := Q) k.1 ?_
  refine wq_sum (Q := Q) rfl (S_X12_in T c x1 0 ((c 79 0) - 1)) ?_
  refine wq_pos (Q := Q) (b01_or (p := 0 ≤ x1 ∧ x1 ≤ ((c 79 0) - 1))) ?_
  replace k := k.2
  exact k
theorem S_X12_isPainter (T : List Shp) (c : Nat → Int → Int) (x : Int) (g0 : -9223372036854775808 ≤ c 79 0 - 1 ∧ c 79 0 - 1 < 9223372036854775808) : ccal 199 [vR 78, vI x] (SH T, c) = some (some (vI (b01 (0 ≤ x ∧ x < c 79 0))), (SH T, c)) := by
  refine W_X12_isPainter (Q := fun R => R = some (some (vI (b01 (0 ≤ x ∧ x < c 79 0))), (SH T, c))) ?_
  repeat' (first | apply And.intro | intro _)
  all_goals (first | assumption | omega | rfl | (rw [b01_t (by omega)]) | (rw [b01_f (by omega)]) | (refine congrArg (fun z => some (some (vI z), (SH T, c))) (b01_congr ?_); omega) | (simp_all; done))
set_option maxRecDepth 20000 in
theorem W_X12_isCopy {T : List Shp} {c : Nat → Int → Int} {Q : Res → Prop} {x1 : Int} (k : ((-9223372036854775808 ≤ (c 79 5) - 1 ∧ (c 79 5) - 1 < 9223372036854775808) ∧ Q (some (some (vI (b01 (0 ≤ x1 ∧ x1 ≤ ((c 79 5) - 1)))), (SH T, c))))) : Q (ccal 200 [vR 78, vI x1] (SH T, c)) := by
  refine of_cev (Q := Q) ?_
  refine wq_pos (Q := Q) k.1 ?_
  refine wq_sum (Q := Q) rfl (S_X12_in T c x1 0 ((c 79 5) - 1)) ?_
  refine wq_pos (Q := Q) (b01_or (p := 0 ≤ x1 ∧ x1 ≤ ((c 79 5) - 1))) ?_
  replace k := k.2
  exact k
theorem S_X12_isCopy (T : List Shp) (c : Nat → Int → Int) (x : Int) (g0 : -9223372036854775808 ≤ c 79 5 - 1 ∧ c 79 5 - 1 < 9223372036854775808) : ccal 200 [vR 78, vI x] (SH T, c) = some (some (vI (b01 (0 ≤ x ∧ x < c 79 5))), (SH T, c)) := by
  refine W_X12_isCopy (Q := fun R => R = some (some (vI (b01 (0 ≤ x ∧ x < c 79 5))), (SH T, c))) ?_
  repeat' (first | apply And.intro | intro _)
  all_goals (first | assumption | omega | rfl | (rw [b01_t (by omega)]) | (rw [b01_f (by omega)]) | (refine congrArg (fun z => some (some (vI z), (SH T, c))) (b01_congr ?_); omega) | (simp_all; done))
set_option maxRecDepth 20000 in
theorem W_X12_isClaimant {T : List Shp} {c : Nat → Int → Int} {Q : Res → Prop} {x1 : Int} (k : ((-9223372036854775808 ≤ (c 79 6) - 1 ∧ (c 79 6) - 1 < 9223372036854775808) ∧ Q (some (some (vI (b01 (0 ≤ x1 ∧ x1 ≤ ((c 79 6) - 1)))), (SH T, c))))) : Q (ccal 201 [vR 78, vI x1] (SH T, c)) := by
  refine of_cev (Q := Q) ?_
  refine wq_pos (Q := Q) k.1 ?_
  refine wq_sum (Q := Q) rfl (S_X12_in T c x1 0 ((c 79 6) - 1)) ?_
  refine wq_pos (Q := Q) (b01_or (p := 0 ≤ x1 ∧ x1 ≤ ((c 79 6) - 1))) ?_
  replace k := k.2
  exact k
theorem S_X12_isClaimant (T : List Shp) (c : Nat → Int → Int) (x : Int) (g0 : -9223372036854775808 ≤ c 79 6 - 1 ∧ c 79 6 - 1 < 9223372036854775808) : ccal 201 [vR 78, vI x] (SH T, c) = some (some (vI (b01 (0 ≤ x ∧ x < c 79 6))), (SH T, c)) := by
  refine W_X12_isClaimant (Q := fun R => R = some (some (vI (b01 (0 ≤ x ∧ x < c 79 6))), (SH T, c))) ?_
  repeat' (first | apply And.intro | intro _)
  all_goals (first | assumption | omega | rfl | (rw [b01_t (by omega)]) | (rw [b01_f (by omega)]) | (refine congrArg (fun z => some (some (vI z), (SH T, c))) (b01_congr ?_); omega) | (simp_all; done))
set_option maxRecDepth 20000 in
theorem W_X12_toneAt {T : List Shp} {c : Nat → Int → Int} {Q : Res → Prop} {x1 x2 : Int} (k : (((-2147483648 ≤ 12 * x1 ∧ 12 * x1 < 2147483648) ∧ (-2147483648 ≤ 12 + (12 * x1) ∧ 12 + (12 * x1) < 2147483648) ∧ (-2147483648 ≤ (12 + (12 * x1)) + x2 ∧ (12 + (12 * x1)) + x2 < 2147483648) ∧ (0 ≤ ((12 + (12 * x1)) + x2) ∧ ((12 + (12 * x1)) + x2) < 5780)) ∧ Q (some (some (vI (c 79 ((12 + (12 * x1)) + x2))), (SH T, c))))) : Q (ccal 202 [vR 78, vI x1, vI x2] (SH T, c)) := by
  refine of_cev (Q := Q) ?_
  refine wq_pos (Q := Q) k.1.1 ?_
  refine wq_pos (Q := Q) k.1.2.1 ?_
  refine wq_pos (Q := Q) k.1.2.2.1 ?_
  refine wq_pos (Q := Q) k.1.2.2.2 ?_
  replace k := k.2
  exact k
theorem S_X12_toneAt (T : List Shp) (c : Nat → Int → Int) (l : Int) (x : Int) (g0 : 0 ≤ l ∧ l < 100) (g1 : 0 ≤ x ∧ x < 12) : ccal 202 [vR 78, vI l, vI x] (SH T, c) = some (some (vI (c 79 (12 + 12 * l + x))), (SH T, c)) := by
  refine W_X12_toneAt (Q := fun R => R = some (some (vI (c 79 (12 + 12 * l + x))), (SH T, c))) ?_
  repeat' (first | apply And.intro | intro _)
  all_goals (first | assumption | omega | rfl | (rw [b01_t (by omega)]) | (rw [b01_f (by omega)]) | (refine congrArg (fun z => some (some (vI z), (SH T, c))) (b01_congr ?_); omega) | (simp_all; done))
set_option maxRecDepth 20000 in
theorem W_X12_seen {T : List Shp} {c : Nat → Int → Int} {Q : Res → Prop} {x1 : Int} (k : (((0 ≤ (c 79 4) ∧ (c 79 4) < 100) ∧ (0 ≤ x1 ∧ x1 < 12)) ∧ Q (some (some (vI (c 79 (12 + 12 * (c 79 4) + x1))), (SH T, c))))) : Q (ccal 203 [vR 78, vI x1] (SH T, c)) := by
  refine of_cev (Q := Q) ?_
  refine wq_sum (Q := Q) rfl (S_X12_years T c ) ?_
  refine wq_sum (Q := Q) rfl (S_X12_toneAt T c (c 79 4) x1 k.1.1 k.1.2) ?_
  replace k := k.2
  exact k
theorem S_X12_seen (T : List Shp) (c : Nat → Int → Int) (x : Int) (g0 : 0 ≤ c 79 4 ∧ c 79 4 < 100) (g1 : 0 ≤ x ∧ x < 12) : ccal 203 [vR 78, vI x] (SH T, c) = some (some (vI (c 79 (12 + 12 * c 79 4 + x))), (SH T, c)) := by
  refine W_X12_seen (Q := fun R => R = some (some (vI (c 79 (12 + 12 * c 79 4 + x))), (SH T, c))) ?_
  repeat' (first | apply And.intro | intro _)
  all_goals (first | assumption | omega | rfl | (rw [b01_t (by omega)]) | (rw [b01_f (by omega)]) | (refine congrArg (fun z => some (some (vI z), (SH T, c))) (b01_congr ?_); omega) | (simp_all; done))
set_option maxRecDepth 20000 in
theorem W_X12_isSmall {T : List Shp} {c : Nat → Int → Int} {Q : Res → Prop} {x0 : Int} (k : ((x0 < 97 → Q (some (some (vI 0), (SH T, c)))) ∧ (¬ x0 < 97 → ((122 < x0 → Q (some (some (vI 0), (SH T, c)))) ∧ (¬ 122 < x0 → Q (some (some (vI 1), (SH T, c)))))))) : Q (ccal 217 [vI x0] (SH T, c)) := by
  refine of_cev (Q := Q) ?_
  refine wq_ite (Q := Q) (p := x0 < 97) (fun h => ?_) (fun h => ?_)
  · replace k := k.1 h
    refine of_cev (Q := Q) ?_
    exact k
  · replace k := k.2 h
    refine wq_ite (Q := Q) (p := 122 < x0) (fun h => ?_) (fun h => ?_)
    · replace k := k.1 h
      refine of_cev (Q := Q) ?_
      exact k
    · replace k := k.2 h
      exact k
theorem S_X12_isSmall (T : List Shp) (c : Nat → Int → Int) (n : Int)  : ccal 217 [vI n] (SH T, c) = some (some (vI (b01 (97 ≤ n ∧ n ≤ 122))), (SH T, c)) := by
  refine W_X12_isSmall (Q := fun R => R = some (some (vI (b01 (97 ≤ n ∧ n ≤ 122))), (SH T, c))) ?_
  repeat' (first | apply And.intro | intro _)
  all_goals (first | assumption | omega | rfl | (rw [b01_t (by omega)]) | (rw [b01_f (by omega)]) | (refine congrArg (fun z => some (some (vI z), (SH T, c))) (b01_congr ?_); omega) | (simp_all; done))
set_option maxRecDepth 20000 in
theorem W_X12_isDigit {T : List Shp} {c : Nat → Int → Int} {Q : Res → Prop} {x0 : Int} (k : ((x0 < 48 → Q (some (some (vI 0), (SH T, c)))) ∧ (¬ x0 < 48 → ((57 < x0 → Q (some (some (vI 0), (SH T, c)))) ∧ (¬ 57 < x0 → Q (some (some (vI 1), (SH T, c)))))))) : Q (ccal 218 [vI x0] (SH T, c)) := by
  refine of_cev (Q := Q) ?_
  refine wq_ite (Q := Q) (p := x0 < 48) (fun h => ?_) (fun h => ?_)
  · replace k := k.1 h
    refine of_cev (Q := Q) ?_
    exact k
  · replace k := k.2 h
    refine wq_ite (Q := Q) (p := 57 < x0) (fun h => ?_) (fun h => ?_)
    · replace k := k.1 h
      refine of_cev (Q := Q) ?_
      exact k
    · replace k := k.2 h
      exact k
theorem S_X12_isDigit (T : List Shp) (c : Nat → Int → Int) (n : Int)  : ccal 218 [vI n] (SH T, c) = some (some (vI (b01 (48 ≤ n ∧ n ≤ 57))), (SH T, c)) := by
  refine W_X12_isDigit (Q := fun R => R = some (some (vI (b01 (48 ≤ n ∧ n ≤ 57))), (SH T, c))) ?_
  repeat' (first | apply And.intro | intro _)
  all_goals (first | assumption | omega | rfl | (rw [b01_t (by omega)]) | (rw [b01_f (by omega)]) | (refine congrArg (fun z => some (some (vI z), (SH T, c))) (b01_congr ?_); omega) | (simp_all; done))
set_option maxRecDepth 20000 in
theorem W_X12_isWord {T : List Shp} {c : Nat → Int → Int} {Q : Res → Prop} {x1 : Int} (k : (((c 77 12) = 1 → (((c 77 13) = x1 → Q (some (some (vI 1), (SH T, c)))) ∧ (¬ (c 77 13) = x1 → Q (some (some (vI 0), (SH T, c)))))) ∧ (¬ (c 77 12) = 1 → Q (some (some (vI 0), (SH T, c)))))) : Q (ccal 221 [vR 78, vL x1] (SH T, c)) := by
  refine of_cev (Q := Q) ?_
  refine wq_ite (Q := Q) (p := (c 77 12) = 1) (fun h => ?_) (fun h => ?_)
  · replace k := k.1 h
    refine wq_lc1 (Q := Q) (x := (c 77 13)) (y := x1) (fun h => ?_) (fun h => ?_)
    · replace k := k.1 h
      exact k
    · replace k := k.2 h
      refine of_cev (Q := Q) ?_
      exact k
  · replace k := k.2 h
    refine of_cev (Q := Q) ?_
    exact k
theorem S_X12_isWord (T : List Shp) (c : Nat → Int → Int) (w : Int)  : ccal 221 [vR 78, vL w] (SH T, c) = some (some (vI (b01 (c 77 12 = 1 ∧ c 77 13 = w))), (SH T, c)) := by
  refine W_X12_isWord (Q := fun R => R = some (some (vI (b01 (c 77 12 = 1 ∧ c 77 13 = w))), (SH T, c))) ?_
  repeat' (first | apply And.intro | intro _)
  all_goals (first | assumption | omega | rfl | (rw [b01_t (by omega)]) | (rw [b01_f (by omega)]) | (refine congrArg (fun z => some (some (vI z), (SH T, c))) (b01_congr ?_); omega) | (simp_all; done))
set_option maxRecDepth 20000 in
theorem W_X12_isSign {T : List Shp} {c : Nat → Int → Int} {Q : Res → Prop} {x1 : Int} (k : (((c 77 12) = 3 → (((c 77 13) = x1 → Q (some (some (vI 1), (SH T, c)))) ∧ (¬ (c 77 13) = x1 → Q (some (some (vI 0), (SH T, c)))))) ∧ (¬ (c 77 12) = 3 → Q (some (some (vI 0), (SH T, c)))))) : Q (ccal 222 [vR 78, vI x1] (SH T, c)) := by
  refine of_cev (Q := Q) ?_
  refine wq_ite (Q := Q) (p := (c 77 12) = 3) (fun h => ?_) (fun h => ?_)
  · replace k := k.1 h
    refine wq_lc1 (Q := Q) (x := (c 77 13)) (y := x1) (fun h => ?_) (fun h => ?_)
    · replace k := k.1 h
      exact k
    · replace k := k.2 h
      refine of_cev (Q := Q) ?_
      exact k
  · replace k := k.2 h
    refine of_cev (Q := Q) ?_
    exact k
theorem S_X12_isSign (T : List Shp) (c : Nat → Int → Int) (w : Int)  : ccal 222 [vR 78, vI w] (SH T, c) = some (some (vI (b01 (c 77 12 = 3 ∧ c 77 13 = w))), (SH T, c)) := by
  refine W_X12_isSign (Q := fun R => R = some (some (vI (b01 (c 77 12 = 3 ∧ c 77 13 = w))), (SH T, c))) ?_
  repeat' (first | apply And.intro | intro _)
  all_goals (first | assumption | omega | rfl | (rw [b01_t (by omega)]) | (rw [b01_f (by omega)]) | (refine congrArg (fun z => some (some (vI z), (SH T, c))) (b01_congr ?_); omega) | (simp_all; done))
set_option maxRecDepth 20000 in
theorem W_X12_emit {T : List Shp} {c : Nat → Int → Int} {Q : Res → Prop} {x1 x2 : Int} (k : (((0 ≤ (c 77 19) ∧ (c 77 19) < 400) ∧ (-2147483648 ≤ (c 77 19) + 1 ∧ (c 77 19) + 1 < 2147483648)) ∧ Q (some (none, (SH T, (up (up (up c 85 (c 77 19) x1) 86 (c 77 19) x2) 77 19 ((c 77 19) + 1))))))) : Q (ccal 226 [vR 78, vI x1, vI x2] (SH T, c)) := by
  refine of_cev (Q := Q) ?_
  refine wq_pos (Q := Q) k.1.1 ?_
  refine wq_pos (Q := Q) k.1.1 ?_
  refine wq_pos (Q := Q) k.1.2 ?_
  replace k := k.2
  exact k
theorem S_X12_emit (T : List Shp) (c : Nat → Int → Int) (o : Int) (a : Int) (g0 : 0 ≤ c 77 19 ∧ c 77 19 < 400) : ccal 226 [vR 78, vI o, vI a] (SH T, c) = some (none, (SH T, up (up (up c 85 (c 77 19) o) 86 (c 77 19) a) 77 19 (c 77 19 + 1))) := by
  refine W_X12_emit (Q := fun R => R = some (none, (SH T, up (up (up c 85 (c 77 19) o) 86 (c 77 19) a) 77 19 (c 77 19 + 1)))) ?_
  repeat' (first | apply And.intro | intro _)
  all_goals (first | assumption | omega | rfl | (rw [b01_t (by omega)]) | (rw [b01_f (by omega)]) | (refine congrArg (fun z => some (some (vI z), (SH T, c))) (b01_congr ?_); omega) | (simp_all; done))
set_option maxRecDepth 20000 in
theorem W_X12_push {T : List Shp} {c : Nat → Int → Int} {Q : Res → Prop} {x1 x2 : Int} (k : (((0 ≤ (c 77 25) ∧ (c 77 25) < 400) ∧ (-2147483648 ≤ (c 77 25) + 1 ∧ (c 77 25) + 1 < 2147483648)) ∧ Q (some (none, (SH T, (up (up (up c 87 (c 77 25) x1) 88 (c 77 25) x2) 77 25 ((c 77 25) + 1))))))) : Q (ccal 227 [vR 78, vI x1, vI x2] (SH T, c)) := by
  refine of_cev (Q := Q) ?_
  refine wq_pos (Q := Q) k.1.1 ?_
  refine wq_pos (Q := Q) k.1.1 ?_
  refine wq_pos (Q := Q) k.1.2 ?_
  replace k := k.2
  exact k
theorem S_X12_push (T : List Shp) (c : Nat → Int → Int) (o : Int) (a : Int) (g0 : 0 ≤ c 77 25 ∧ c 77 25 < 400) : ccal 227 [vR 78, vI o, vI a] (SH T, c) = some (none, (SH T, up (up (up c 87 (c 77 25) o) 88 (c 77 25) a) 77 25 (c 77 25 + 1))) := by
  refine W_X12_push (Q := fun R => R = some (none, (SH T, up (up (up c 87 (c 77 25) o) 88 (c 77 25) a) 77 25 (c 77 25 + 1)))) ?_
  repeat' (first | apply And.intro | intro _)
  all_goals (first | assumption | omega | rfl | (rw [b01_t (by omega)]) | (rw [b01_f (by omega)]) | (refine congrArg (fun z => some (some (vI z), (SH T, c))) (b01_congr ?_); omega) | (simp_all; done))
set_option maxRecDepth 20000 in
theorem W_X12_binds {T : List Shp} {c : Nat → Int → Int} {Q : Res → Prop} {x0 : Int} (k : ((x0 < 30 → ((x0 = 29 → Q (some (some (vI 1), (SH T, c)))) ∧ (¬ x0 = 29 → ((x0 = 28 → Q (some (some (vI 2), (SH T, c)))) ∧ (¬ x0 = 28 → ((x0 = 27 → Q (some (some (vI 3), (SH T, c)))) ∧ (¬ x0 = 27 → ((x0 < 24 → ((x0 < 22 → Q (some (some (vI 5), (SH T, c)))) ∧ (¬ x0 < 22 → Q (some (some (vI 6), (SH T, c)))))) ∧ (¬ x0 < 24 → Q (some (some (vI 4), (SH T, c)))))))))))) ∧ (¬ x0 < 30 → Q (some (some (vI 0), (SH T, c)))))) : Q (ccal 228 [vI x0] (SH T, c)) := by
  refine of_cev (Q := Q) ?_
  refine wq_ite (Q := Q) (p := x0 < 30) (fun h => ?_) (fun h => ?_)
  · replace k := k.1 h
    refine of_cev (Q := Q) ?_
    refine wq_ite (Q := Q) (p := x0 = 29) (fun h => ?_) (fun h => ?_)
    · replace k := k.1 h
      exact k
    · replace k := k.2 h
      refine of_cev (Q := Q) ?_
      refine wq_ite (Q := Q) (p := x0 = 28) (fun h => ?_) (fun h => ?_)
      · replace k := k.1 h
        exact k
      · replace k := k.2 h
        refine of_cev (Q := Q) ?_
        refine wq_ite (Q := Q) (p := x0 = 27) (fun h => ?_) (fun h => ?_)
        · replace k := k.1 h
          exact k
        · replace k := k.2 h
          refine of_cev (Q := Q) ?_
          refine wq_ite (Q := Q) (p := x0 < 24) (fun h => ?_) (fun h => ?_)
          · replace k := k.1 h
            refine of_cev (Q := Q) ?_
            refine wq_ite (Q := Q) (p := x0 < 22) (fun h => ?_) (fun h => ?_)
            · replace k := k.1 h
              refine of_cev (Q := Q) ?_
              exact k
            · replace k := k.2 h
              exact k
          · replace k := k.2 h
            exact k
  · replace k := k.2 h
    exact k
theorem S_X12_binds (T : List Shp) (c : Nat → Int → Int) (o : Int)  : ccal 228 [vI o] (SH T, c) = some (some (vI (bnd o)), (SH T, c)) := by
  refine W_X12_binds (Q := fun R => R = some (some (vI (bnd o)), (SH T, c))) ?_
  unfold bnd
  repeat' (first | apply And.intro | intro _)
  all_goals (repeat (first | rw [if_pos (by omega)] | rw [if_neg (by omega)]))
set_option maxRecDepth 20000 in
theorem W_X12_pictureAt {T : List Shp} {c : Nat → Int → Int} {Q : Res → Prop} {x1 : Int} (k : ((x1 = (-1) → Q (some (some (vI 12), (SH T, c)))) ∧ (¬ x1 = (-1) → (((-2147483648 ≤ 12 * x1 ∧ 12 * x1 < 2147483648) ∧ (-2147483648 ≤ 276 + (12 * x1) ∧ 276 + (12 * x1) < 2147483648)) ∧ Q (some (some (vI (276 + (12 * x1))), (SH T, c))))))) : Q (ccal 292 [vR 78, vI x1] (SH T, c)) := by
  refine of_cev (Q := Q) ?_
  refine wq_ite (Q := Q) (p := x1 = (-1)) (fun h => ?_) (fun h => ?_)
  · replace k := k.1 h
    exact k
  · replace k := k.2 h
    refine of_cev (Q := Q) ?_
    refine wq_pos (Q := Q) k.1.1 ?_
    refine wq_pos (Q := Q) k.1.2 ?_
    replace k := k.2
    exact k
theorem S_X12_pictureAt (T : List Shp) (c : Nat → Int → Int) (x : Int) (g0 : -1 ≤ x ∧ x < 100) : ccal 292 [vR 78, vI x] (SH T, c) = some (some (vI (if x = -1 then 12 else 276 + 12 * x)), (SH T, c)) := by
  refine W_X12_pictureAt (Q := fun R => R = some (some (vI (if x = -1 then 12 else 276 + 12 * x)), (SH T, c))) ?_
  repeat' (first | apply And.intro | intro _)
  all_goals (first | assumption | omega | rfl | (rw [b01_t (by omega)]) | (rw [b01_f (by omega)]) | (refine congrArg (fun z => some (some (vI z), (SH T, c))) (b01_congr ?_); omega) | (simp_all; done))
set_option maxRecDepth 20000 in
theorem W_X12_ofClaimant {T : List Shp} {c : Nat → Int → Int} {Q : Res → Prop} {x1 x2 : Int} (k : (((-2147483648 ≤ 4 * x1 ∧ 4 * x1 < 2147483648) ∧ (-2147483648 ≤ 348 + (4 * x1) ∧ 348 + (4 * x1) < 2147483648) ∧ (-2147483648 ≤ (348 + (4 * x1)) + x2 ∧ (348 + (4 * x1)) + x2 < 2147483648) ∧ (0 ≤ ((348 + (4 * x1)) + x2) ∧ ((348 + (4 * x1)) + x2) < 5780)) ∧ Q (some (some (vI (c 79 ((348 + (4 * x1)) + x2))), (SH T, c))))) : Q (ccal 312 [vR 78, vI x1, vI x2] (SH T, c)) := by
  refine of_cev (Q := Q) ?_
  refine wq_pos (Q := Q) k.1.1 ?_
  refine wq_pos (Q := Q) k.1.2.1 ?_
  refine wq_pos (Q := Q) k.1.2.2.1 ?_
  refine wq_pos (Q := Q) k.1.2.2.2 ?_
  replace k := k.2
  exact k
theorem S_X12_ofClaimant (T : List Shp) (c : Nat → Int → Int) (x : Int) (w : Int) (g0 : 0 ≤ x ∧ x < 8) (g1 : 0 ≤ w ∧ w < 4) : ccal 312 [vR 78, vI x, vI w] (SH T, c) = some (some (vI (c 79 (348 + 4 * x + w))), (SH T, c)) := by
  refine W_X12_ofClaimant (Q := fun R => R = some (some (vI (c 79 (348 + 4 * x + w))), (SH T, c))) ?_
  repeat' (first | apply And.intro | intro _)
  all_goals (first | assumption | omega | rfl | (rw [b01_t (by omega)]) | (rw [b01_f (by omega)]) | (refine congrArg (fun z => some (some (vI z), (SH T, c))) (b01_congr ?_); omega) | (simp_all; done))
theorem S_X12_ofClaimant_0 (T : List Shp) (c : Nat → Int → Int) (x : Int) (g : 0 ≤ x ∧ x < 8) : ccal 312 [vR 78, vI x, vI 0] (SH T, c) = some (some (vI (c 79 (348 + 4 * x + 0))), (SH T, c)) := S_X12_ofClaimant T c x 0 g (by decide)
theorem S_X12_ofClaimant_1 (T : List Shp) (c : Nat → Int → Int) (x : Int) (g : 0 ≤ x ∧ x < 8) : ccal 312 [vR 78, vI x, vI 1] (SH T, c) = some (some (vI (c 79 (348 + 4 * x + 1))), (SH T, c)) := S_X12_ofClaimant T c x 1 g (by decide)
theorem S_X12_ofClaimant_2 (T : List Shp) (c : Nat → Int → Int) (x : Int) (g : 0 ≤ x ∧ x < 8) : ccal 312 [vR 78, vI x, vI 2] (SH T, c) = some (some (vI (c 79 (348 + 4 * x + 2))), (SH T, c)) := S_X12_ofClaimant T c x 2 g (by decide)
theorem S_X12_ofClaimant_3 (T : List Shp) (c : Nat → Int → Int) (x : Int) (g : 0 ≤ x ∧ x < 8) : ccal 312 [vR 78, vI x, vI 3] (SH T, c) = some (some (vI (c 79 (348 + 4 * x + 3))), (SH T, c)) := S_X12_ofClaimant T c x 3 g (by decide)
set_option maxRecDepth 20000 in
theorem W_X12_isAlive {T : List Shp} {c : Nat → Int → Int} {Q : Res → Prop} {x1 x2 : Int} (k : ((0 ≤ x1 ∧ x1 < 8) ∧ ((x2 < (c 79 (348 + 4 * x1 + 1)) → Q (some (some (vI 0), (SH T, c)))) ∧ (¬ x2 < (c 79 (348 + 4 * x1 + 1)) → ((0 ≤ x1 ∧ x1 < 8) ∧ ((x2 < (c 79 (348 + 4 * x1 + 2)) → Q (some (some (vI 1), (SH T, c)))) ∧ (¬ x2 < (c 79 (348 + 4 * x1 + 2)) → Q (some (some (vI 0), (SH T, c)))))))))) : Q (ccal 315 [vR 78, vI x1, vI x2] (SH T, c)) := by
  refine of_cev (Q := Q) ?_
  refine wq_sum (Q := Q) rfl (S_X12_ofClaimant_1 T c x1 k.1) ?_
  replace k := k.2
  refine wq_ite (Q := Q) (p := x2 < (c 79 (348 + 4 * x1 + 1))) (fun h => ?_) (fun h => ?_)
  · replace k := k.1 h
    refine of_cev (Q := Q) ?_
    exact k
  · replace k := k.2 h
    refine wq_sum (Q := Q) rfl (S_X12_ofClaimant_2 T c x1 k.1) ?_
    replace k := k.2
    refine wq_ite (Q := Q) (p := x2 < (c 79 (348 + 4 * x1 + 2))) (fun h => ?_) (fun h => ?_)
    · replace k := k.1 h
      exact k
    · replace k := k.2 h
      refine of_cev (Q := Q) ?_
      exact k
theorem S_X12_isAlive (T : List Shp) (c : Nat → Int → Int) (x : Int) (y : Int) (g0 : 0 ≤ x ∧ x < 8) : ccal 315 [vR 78, vI x, vI y] (SH T, c) = some (some (vI (b01 (c 79 (348 + 4 * x + 1) ≤ y ∧ y < c 79 (348 + 4 * x + 2)))), (SH T, c)) := by
  refine W_X12_isAlive (Q := fun R => R = some (some (vI (b01 (c 79 (348 + 4 * x + 1) ≤ y ∧ y < c 79 (348 + 4 * x + 2)))), (SH T, c))) ?_
  repeat' (first | apply And.intro | intro _)
  all_goals (first | assumption | omega | rfl | (rw [b01_t (by omega)]) | (rw [b01_f (by omega)]) | (refine congrArg (fun z => some (some (vI z), (SH T, c))) (b01_congr ?_); omega) | (simp_all; done))
set_option maxRecDepth 20000 in
theorem W_J3_checkIndex_8e157 {T : List Shp} {c : Nat → Int → Int} {Q : Res → Prop} {x0 x1 : Int} (k : ((x0 < 0 → False) ∧ (¬ x0 < 0 → ((x0 < x1 → Q (some (some (vI x0), (SH T, c)))) ∧ (¬ x0 < x1 → False))))) : Q (ccal 355 [vI x0, vI x1, vR (-5)] (SH T, c)) := by
  refine of_cev (Q := Q) ?_
  refine wq_ite (Q := Q) (p := x0 < 0) (fun h => ?_) (fun h => ?_)
  · replace k := k.1 h
    exact k.elim
  · replace k := k.2 h
    refine wq_ite (Q := Q) (p := x0 < x1) (fun h => ?_) (fun h => ?_)
    · replace k := k.1 h
      refine of_cev (Q := Q) ?_
      exact k
    · replace k := k.2 h
      exact k.elim
set_option maxRecDepth 20000 in
theorem W_J0_checkIndex_df160 {T : List Shp} {c : Nat → Int → Int} {Q : Res → Prop} {x0 x1 : Int} (k : (QI T (fun r1 c2 => Q (some (none, (SH T, c2)))) (ccal 355 [vI x0, vI x1, vR (-5)] (SH T, c)))) : Q (ccal 349 [vI x0, vI x1] (SH T, c)) := by
  refine of_cev (Q := Q) ?_
  refine wq_callI (Q := Q) rfl k ?_
  intro r1 c2 k
  exact k
set_option maxRecDepth 20000 in
theorem W_J0_coder_7d493_s0 {T : List Shp} {c : Nat → Int → Int} {Q : Res → Prop} (k : Q (some (some (vI 0), (SH T, c)))) : Q (ccal 347 [vR (-100)] (SH T, c)) := by
  refine of_cev (Q := Q) ?_
  exact k
set_option maxRecDepth 20000 in
theorem W_J0_coder_7d493_s1 {T : List Shp} {c : Nat → Int → Int} {Q : Res → Prop} (k : Q (some (some (vI 0), (SH T, c)))) : Q (ccal 347 [vR (-101)] (SH T, c)) := by
  refine of_cev (Q := Q) ?_
  exact k
set_option maxRecDepth 20000 in
theorem W_J0_coder_7d493_s2 {T : List Shp} {c : Nat → Int → Int} {Q : Res → Prop} (k : Q (some (some (vI 0), (SH T, c)))) : Q (ccal 347 [vR (-102)] (SH T, c)) := by
  refine of_cev (Q := Q) ?_
  exact k
set_option maxRecDepth 20000 in
theorem W_J0_coder_7d493_s3 {T : List Shp} {c : Nat → Int → Int} {Q : Res → Prop} (k : Q (some (some (vI 0), (SH T, c)))) : Q (ccal 347 [vR (-103)] (SH T, c)) := by
  refine of_cev (Q := Q) ?_
  exact k
set_option maxRecDepth 20000 in
theorem W_J0_coder_7d493_s4 {T : List Shp} {c : Nat → Int → Int} {Q : Res → Prop} (k : Q (some (some (vI 0), (SH T, c)))) : Q (ccal 347 [vR (-104)] (SH T, c)) := by
  refine of_cev (Q := Q) ?_
  exact k
set_option maxRecDepth 20000 in
theorem W_J0_coder_7d493_s5 {T : List Shp} {c : Nat → Int → Int} {Q : Res → Prop} (k : Q (some (some (vI 0), (SH T, c)))) : Q (ccal 347 [vR (-105)] (SH T, c)) := by
  refine of_cev (Q := Q) ?_
  exact k
set_option maxRecDepth 20000 in
theorem W_J0_coder_7d493_s6 {T : List Shp} {c : Nat → Int → Int} {Q : Res → Prop} (k : Q (some (some (vI 0), (SH T, c)))) : Q (ccal 347 [vR (-106)] (SH T, c)) := by
  refine of_cev (Q := Q) ?_
  exact k
set_option maxRecDepth 20000 in
theorem W_J0_coder_7d493_s7 {T : List Shp} {c : Nat → Int → Int} {Q : Res → Prop} (k : Q (some (some (vI 0), (SH T, c)))) : Q (ccal 347 [vR (-107)] (SH T, c)) := by
  refine of_cev (Q := Q) ?_
  exact k
set_option maxRecDepth 20000 in
theorem W_J0_coder_7d493_s8 {T : List Shp} {c : Nat → Int → Int} {Q : Res → Prop} (k : Q (some (some (vI 0), (SH T, c)))) : Q (ccal 347 [vR (-108)] (SH T, c)) := by
  refine of_cev (Q := Q) ?_
  exact k
set_option maxRecDepth 20000 in
theorem W_J0_coder_7d493_s9 {T : List Shp} {c : Nat → Int → Int} {Q : Res → Prop} (k : Q (some (some (vI 0), (SH T, c)))) : Q (ccal 347 [vR (-109)] (SH T, c)) := by
  refine of_cev (Q := Q) ?_
  exact k
set_option maxRecDepth 20000 in
theorem W_J0_coder_7d493_s10 {T : List Shp} {c : Nat → Int → Int} {Q : Res → Prop} (k : Q (some (some (vI 0), (SH T, c)))) : Q (ccal 347 [vR (-110)] (SH T, c)) := by
  refine of_cev (Q := Q) ?_
  exact k
set_option maxRecDepth 20000 in
theorem W_J0_coder_7d493_s11 {T : List Shp} {c : Nat → Int → Int} {Q : Res → Prop} (k : Q (some (some (vI 0), (SH T, c)))) : Q (ccal 347 [vR (-111)] (SH T, c)) := by
  refine of_cev (Q := Q) ?_
  exact k
set_option maxRecDepth 20000 in
theorem W_J0_isLatin1_aae02_s0 {T : List Shp} {c : Nat → Int → Int} {Q : Res → Prop} (k : Q (some (some (vI 1), (SH T, c)))) : Q (ccal 348 [vR (-100)] (SH T, c)) := by
  refine of_cev (Q := Q) ?_
  exact k
set_option maxRecDepth 20000 in
theorem W_J0_isLatin1_aae02_s1 {T : List Shp} {c : Nat → Int → Int} {Q : Res → Prop} (k : Q (some (some (vI 1), (SH T, c)))) : Q (ccal 348 [vR (-101)] (SH T, c)) := by
  refine of_cev (Q := Q) ?_
  exact k
set_option maxRecDepth 20000 in
theorem W_J0_isLatin1_aae02_s2 {T : List Shp} {c : Nat → Int → Int} {Q : Res → Prop} (k : Q (some (some (vI 1), (SH T, c)))) : Q (ccal 348 [vR (-102)] (SH T, c)) := by
  refine of_cev (Q := Q) ?_
  exact k
set_option maxRecDepth 20000 in
theorem W_J0_isLatin1_aae02_s3 {T : List Shp} {c : Nat → Int → Int} {Q : Res → Prop} (k : Q (some (some (vI 1), (SH T, c)))) : Q (ccal 348 [vR (-103)] (SH T, c)) := by
  refine of_cev (Q := Q) ?_
  exact k
set_option maxRecDepth 20000 in
theorem W_J0_isLatin1_aae02_s4 {T : List Shp} {c : Nat → Int → Int} {Q : Res → Prop} (k : Q (some (some (vI 1), (SH T, c)))) : Q (ccal 348 [vR (-104)] (SH T, c)) := by
  refine of_cev (Q := Q) ?_
  exact k
set_option maxRecDepth 20000 in
theorem W_J0_isLatin1_aae02_s5 {T : List Shp} {c : Nat → Int → Int} {Q : Res → Prop} (k : Q (some (some (vI 1), (SH T, c)))) : Q (ccal 348 [vR (-105)] (SH T, c)) := by
  refine of_cev (Q := Q) ?_
  exact k
set_option maxRecDepth 20000 in
theorem W_J0_isLatin1_aae02_s6 {T : List Shp} {c : Nat → Int → Int} {Q : Res → Prop} (k : Q (some (some (vI 1), (SH T, c)))) : Q (ccal 348 [vR (-106)] (SH T, c)) := by
  refine of_cev (Q := Q) ?_
  exact k
set_option maxRecDepth 20000 in
theorem W_J0_isLatin1_aae02_s7 {T : List Shp} {c : Nat → Int → Int} {Q : Res → Prop} (k : Q (some (some (vI 1), (SH T, c)))) : Q (ccal 348 [vR (-107)] (SH T, c)) := by
  refine of_cev (Q := Q) ?_
  exact k
set_option maxRecDepth 20000 in
theorem W_J0_isLatin1_aae02_s8 {T : List Shp} {c : Nat → Int → Int} {Q : Res → Prop} (k : Q (some (some (vI 1), (SH T, c)))) : Q (ccal 348 [vR (-108)] (SH T, c)) := by
  refine of_cev (Q := Q) ?_
  exact k
set_option maxRecDepth 20000 in
theorem W_J0_isLatin1_aae02_s9 {T : List Shp} {c : Nat → Int → Int} {Q : Res → Prop} (k : Q (some (some (vI 1), (SH T, c)))) : Q (ccal 348 [vR (-109)] (SH T, c)) := by
  refine of_cev (Q := Q) ?_
  exact k
set_option maxRecDepth 20000 in
theorem W_J0_isLatin1_aae02_s10 {T : List Shp} {c : Nat → Int → Int} {Q : Res → Prop} (k : Q (some (some (vI 1), (SH T, c)))) : Q (ccal 348 [vR (-110)] (SH T, c)) := by
  refine of_cev (Q := Q) ?_
  exact k
set_option maxRecDepth 20000 in
theorem W_J0_isLatin1_aae02_s11 {T : List Shp} {c : Nat → Int → Int} {Q : Res → Prop} (k : Q (some (some (vI 1), (SH T, c)))) : Q (ccal 348 [vR (-111)] (SH T, c)) := by
  refine of_cev (Q := Q) ?_
  exact k
set_option maxRecDepth 20000 in
theorem W_J1_charAt_3b067_s0 {T : List Shp} {c : Nat → Int → Int} {Q : Res → Prop} {x1 : Int} (k : (QV T (fun c1 => (((0 ≤ x1 ∧ x1 < ((strb 0).length : Int)) ∧ (0 ≤ (iand ((strb 0).getD x1.toNat 0) 255) ∧ (iand ((strb 0).getD x1.toNat 0) 255) < 65536)) ∧ Q (some (some (vI (iand ((strb 0).getD x1.toNat 0) 255)), (SH T, c1))))) (ccal 349 [vI x1, vI 26] (SH T, c)))) : Q (ccal 350 [vR (-200), vI x1] (SH T, c)) := by
  refine of_cev (Q := Q) ?_
  refine wq_callV (Q := Q) rfl k ?_
  intro c1 k
  refine wq_pos (Q := Q) k.1.1 ?_
  refine wq_pos (Q := Q) k.1.2 ?_
  refine wq_pos (Q := Q) k.1.2 ?_
  replace k := k.2
  exact k
set_option maxRecDepth 20000 in
theorem W_J1_charAt_3b067_s1 {T : List Shp} {c : Nat → Int → Int} {Q : Res → Prop} {x1 : Int} (k : (QV T (fun c1 => (((0 ≤ x1 ∧ x1 < ((strb 1).length : Int)) ∧ (0 ≤ (iand ((strb 1).getD x1.toNat 0) 255) ∧ (iand ((strb 1).getD x1.toNat 0) 255) < 65536)) ∧ Q (some (some (vI (iand ((strb 1).getD x1.toNat 0) 255)), (SH T, c1))))) (ccal 349 [vI x1, vI 23] (SH T, c)))) : Q (ccal 350 [vR (-201), vI x1] (SH T, c)) := by
  refine of_cev (Q := Q) ?_
  refine wq_callV (Q := Q) rfl k ?_
  intro c1 k
  refine wq_pos (Q := Q) k.1.1 ?_
  refine wq_pos (Q := Q) k.1.2 ?_
  refine wq_pos (Q := Q) k.1.2 ?_
  replace k := k.2
  exact k
set_option maxRecDepth 20000 in
theorem W_J1_charAt_3b067_s2 {T : List Shp} {c : Nat → Int → Int} {Q : Res → Prop} {x1 : Int} (k : (QV T (fun c1 => (((0 ≤ x1 ∧ x1 < ((strb 2).length : Int)) ∧ (0 ≤ (iand ((strb 2).getD x1.toNat 0) 255) ∧ (iand ((strb 2).getD x1.toNat 0) 255) < 65536)) ∧ Q (some (some (vI (iand ((strb 2).getD x1.toNat 0) 255)), (SH T, c1))))) (ccal 349 [vI x1, vI 18] (SH T, c)))) : Q (ccal 350 [vR (-202), vI x1] (SH T, c)) := by
  refine of_cev (Q := Q) ?_
  refine wq_callV (Q := Q) rfl k ?_
  intro c1 k
  refine wq_pos (Q := Q) k.1.1 ?_
  refine wq_pos (Q := Q) k.1.2 ?_
  refine wq_pos (Q := Q) k.1.2 ?_
  replace k := k.2
  exact k
set_option maxRecDepth 20000 in
theorem W_J1_charAt_3b067_s3 {T : List Shp} {c : Nat → Int → Int} {Q : Res → Prop} {x1 : Int} (k : (QV T (fun c1 => (((0 ≤ x1 ∧ x1 < ((strb 3).length : Int)) ∧ (0 ≤ (iand ((strb 3).getD x1.toNat 0) 255) ∧ (iand ((strb 3).getD x1.toNat 0) 255) < 65536)) ∧ Q (some (some (vI (iand ((strb 3).getD x1.toNat 0) 255)), (SH T, c1))))) (ccal 349 [vI x1, vI 2] (SH T, c)))) : Q (ccal 350 [vR (-203), vI x1] (SH T, c)) := by
  refine of_cev (Q := Q) ?_
  refine wq_callV (Q := Q) rfl k ?_
  intro c1 k
  refine wq_pos (Q := Q) k.1.1 ?_
  refine wq_pos (Q := Q) k.1.2 ?_
  refine wq_pos (Q := Q) k.1.2 ?_
  replace k := k.2
  exact k
set_option maxRecDepth 20000 in
theorem W_J1_charAt_3b067_s4 {T : List Shp} {c : Nat → Int → Int} {Q : Res → Prop} {x1 : Int} (k : (QV T (fun c1 => (((0 ≤ x1 ∧ x1 < ((strb 4).length : Int)) ∧ (0 ≤ (iand ((strb 4).getD x1.toNat 0) 255) ∧ (iand ((strb 4).getD x1.toNat 0) 255) < 65536)) ∧ Q (some (some (vI (iand ((strb 4).getD x1.toNat 0) 255)), (SH T, c1))))) (ccal 349 [vI x1, vI 4] (SH T, c)))) : Q (ccal 350 [vR (-204), vI x1] (SH T, c)) := by
  refine of_cev (Q := Q) ?_
  refine wq_callV (Q := Q) rfl k ?_
  intro c1 k
  refine wq_pos (Q := Q) k.1.1 ?_
  refine wq_pos (Q := Q) k.1.2 ?_
  refine wq_pos (Q := Q) k.1.2 ?_
  replace k := k.2
  exact k
set_option maxRecDepth 20000 in
theorem W_J1_charAt_3b067_s5 {T : List Shp} {c : Nat → Int → Int} {Q : Res → Prop} {x1 : Int} (k : (QV T (fun c1 => (((0 ≤ x1 ∧ x1 < ((strb 5).length : Int)) ∧ (0 ≤ (iand ((strb 5).getD x1.toNat 0) 255) ∧ (iand ((strb 5).getD x1.toNat 0) 255) < 65536)) ∧ Q (some (some (vI (iand ((strb 5).getD x1.toNat 0) 255)), (SH T, c1))))) (ccal 349 [vI x1, vI 5] (SH T, c)))) : Q (ccal 350 [vR (-205), vI x1] (SH T, c)) := by
  refine of_cev (Q := Q) ?_
  refine wq_callV (Q := Q) rfl k ?_
  intro c1 k
  refine wq_pos (Q := Q) k.1.1 ?_
  refine wq_pos (Q := Q) k.1.2 ?_
  refine wq_pos (Q := Q) k.1.2 ?_
  replace k := k.2
  exact k
set_option maxRecDepth 20000 in
theorem W_J1_charAt_3b067_s6 {T : List Shp} {c : Nat → Int → Int} {Q : Res → Prop} {x1 : Int} (k : (QV T (fun c1 => (((0 ≤ x1 ∧ x1 < ((strb 6).length : Int)) ∧ (0 ≤ (iand ((strb 6).getD x1.toNat 0) 255) ∧ (iand ((strb 6).getD x1.toNat 0) 255) < 65536)) ∧ Q (some (some (vI (iand ((strb 6).getD x1.toNat 0) 255)), (SH T, c1))))) (ccal 349 [vI x1, vI 2] (SH T, c)))) : Q (ccal 350 [vR (-206), vI x1] (SH T, c)) := by
  refine of_cev (Q := Q) ?_
  refine wq_callV (Q := Q) rfl k ?_
  intro c1 k
  refine wq_pos (Q := Q) k.1.1 ?_
  refine wq_pos (Q := Q) k.1.2 ?_
  refine wq_pos (Q := Q) k.1.2 ?_
  replace k := k.2
  exact k
set_option maxRecDepth 20000 in
theorem W_J1_charAt_3b067_s7 {T : List Shp} {c : Nat → Int → Int} {Q : Res → Prop} {x1 : Int} (k : (QV T (fun c1 => (((0 ≤ x1 ∧ x1 < ((strb 7).length : Int)) ∧ (0 ≤ (iand ((strb 7).getD x1.toNat 0) 255) ∧ (iand ((strb 7).getD x1.toNat 0) 255) < 65536)) ∧ Q (some (some (vI (iand ((strb 7).getD x1.toNat 0) 255)), (SH T, c1))))) (ccal 349 [vI x1, vI 2] (SH T, c)))) : Q (ccal 350 [vR (-207), vI x1] (SH T, c)) := by
  refine of_cev (Q := Q) ?_
  refine wq_callV (Q := Q) rfl k ?_
  intro c1 k
  refine wq_pos (Q := Q) k.1.1 ?_
  refine wq_pos (Q := Q) k.1.2 ?_
  refine wq_pos (Q := Q) k.1.2 ?_
  replace k := k.2
  exact k
set_option maxRecDepth 20000 in
theorem W_J1_charAt_3b067_s8 {T : List Shp} {c : Nat → Int → Int} {Q : Res → Prop} {x1 : Int} (k : (QV T (fun c1 => (((0 ≤ x1 ∧ x1 < ((strb 8).length : Int)) ∧ (0 ≤ (iand ((strb 8).getD x1.toNat 0) 255) ∧ (iand ((strb 8).getD x1.toNat 0) 255) < 65536)) ∧ Q (some (some (vI (iand ((strb 8).getD x1.toNat 0) 255)), (SH T, c1))))) (ccal 349 [vI x1, vI 3] (SH T, c)))) : Q (ccal 350 [vR (-208), vI x1] (SH T, c)) := by
  refine of_cev (Q := Q) ?_
  refine wq_callV (Q := Q) rfl k ?_
  intro c1 k
  refine wq_pos (Q := Q) k.1.1 ?_
  refine wq_pos (Q := Q) k.1.2 ?_
  refine wq_pos (Q := Q) k.1.2 ?_
  replace k := k.2
  exact k
set_option maxRecDepth 20000 in
theorem W_J1_charAt_3b067_s9 {T : List Shp} {c : Nat → Int → Int} {Q : Res → Prop} {x1 : Int} (k : (QV T (fun c1 => (((0 ≤ x1 ∧ x1 < ((strb 9).length : Int)) ∧ (0 ≤ (iand ((strb 9).getD x1.toNat 0) 255) ∧ (iand ((strb 9).getD x1.toNat 0) 255) < 65536)) ∧ Q (some (some (vI (iand ((strb 9).getD x1.toNat 0) 255)), (SH T, c1))))) (ccal 349 [vI x1, vI 3] (SH T, c)))) : Q (ccal 350 [vR (-209), vI x1] (SH T, c)) := by
  refine of_cev (Q := Q) ?_
  refine wq_callV (Q := Q) rfl k ?_
  intro c1 k
  refine wq_pos (Q := Q) k.1.1 ?_
  refine wq_pos (Q := Q) k.1.2 ?_
  refine wq_pos (Q := Q) k.1.2 ?_
  replace k := k.2
  exact k
set_option maxRecDepth 20000 in
theorem W_J1_charAt_3b067_s10 {T : List Shp} {c : Nat → Int → Int} {Q : Res → Prop} {x1 : Int} (k : (QV T (fun c1 => (((0 ≤ x1 ∧ x1 < ((strb 10).length : Int)) ∧ (0 ≤ (iand ((strb 10).getD x1.toNat 0) 255) ∧ (iand ((strb 10).getD x1.toNat 0) 255) < 65536)) ∧ Q (some (some (vI (iand ((strb 10).getD x1.toNat 0) 255)), (SH T, c1))))) (ccal 349 [vI x1, vI 39] (SH T, c)))) : Q (ccal 350 [vR (-210), vI x1] (SH T, c)) := by
  refine of_cev (Q := Q) ?_
  refine wq_callV (Q := Q) rfl k ?_
  intro c1 k
  refine wq_pos (Q := Q) k.1.1 ?_
  refine wq_pos (Q := Q) k.1.2 ?_
  refine wq_pos (Q := Q) k.1.2 ?_
  replace k := k.2
  exact k
set_option maxRecDepth 20000 in
theorem W_J1_charAt_3b067_s11 {T : List Shp} {c : Nat → Int → Int} {Q : Res → Prop} {x1 : Int} (k : (QV T (fun c1 => (((0 ≤ x1 ∧ x1 < ((strb 11).length : Int)) ∧ (0 ≤ (iand ((strb 11).getD x1.toNat 0) 255) ∧ (iand ((strb 11).getD x1.toNat 0) 255) < 65536)) ∧ Q (some (some (vI (iand ((strb 11).getD x1.toNat 0) 255)), (SH T, c1))))) (ccal 349 [vI x1, vI 60] (SH T, c)))) : Q (ccal 350 [vR (-211), vI x1] (SH T, c)) := by
  refine of_cev (Q := Q) ?_
  refine wq_callV (Q := Q) rfl k ?_
  intro c1 k
  refine wq_pos (Q := Q) k.1.1 ?_
  refine wq_pos (Q := Q) k.1.2 ?_
  refine wq_pos (Q := Q) k.1.2 ?_
  replace k := k.2
  exact k
set_option maxRecDepth 20000 in
theorem W_J0_length_8abf5_s0 {T : List Shp} {c : Nat → Int → Int} {Q : Res → Prop} (k : (QI T (fun r1 c2 => Q (some (some (vI (ishr 26 r1)), (SH T, c2)))) (ccal 347 [vR (-100)] (SH T, c)))) : Q (ccal 345 [vR (-100)] (SH T, c)) := by
  refine of_cev (Q := Q) ?_
  refine wq_callI (Q := Q) rfl k ?_
  intro r1 c2 k
  exact k
set_option maxRecDepth 20000 in
theorem W_J0_length_8abf5_s1 {T : List Shp} {c : Nat → Int → Int} {Q : Res → Prop} (k : (QI T (fun r1 c2 => Q (some (some (vI (ishr 23 r1)), (SH T, c2)))) (ccal 347 [vR (-101)] (SH T, c)))) : Q (ccal 345 [vR (-101)] (SH T, c)) := by
  refine of_cev (Q := Q) ?_
  refine wq_callI (Q := Q) rfl k ?_
  intro r1 c2 k
  exact k
set_option maxRecDepth 20000 in
theorem W_J0_length_8abf5_s2 {T : List Shp} {c : Nat → Int → Int} {Q : Res → Prop} (k : (QI T (fun r1 c2 => Q (some (some (vI (ishr 18 r1)), (SH T, c2)))) (ccal 347 [vR (-102)] (SH T, c)))) : Q (ccal 345 [vR (-102)] (SH T, c)) := by
  refine of_cev (Q := Q) ?_
  refine wq_callI (Q := Q) rfl k ?_
  intro r1 c2 k
  exact k
set_option maxRecDepth 20000 in
theorem W_J0_length_8abf5_s3 {T : List Shp} {c : Nat → Int → Int} {Q : Res → Prop} (k : (QI T (fun r1 c2 => Q (some (some (vI (ishr 2 r1)), (SH T, c2)))) (ccal 347 [vR (-103)] (SH T, c)))) : Q (ccal 345 [vR (-103)] (SH T, c)) := by
  refine of_cev (Q := Q) ?_
  refine wq_callI (Q := Q) rfl k ?_
  intro r1 c2 k
  exact k
set_option maxRecDepth 20000 in
theorem W_J0_length_8abf5_s4 {T : List Shp} {c : Nat → Int → Int} {Q : Res → Prop} (k : (QI T (fun r1 c2 => Q (some (some (vI (ishr 4 r1)), (SH T, c2)))) (ccal 347 [vR (-104)] (SH T, c)))) : Q (ccal 345 [vR (-104)] (SH T, c)) := by
  refine of_cev (Q := Q) ?_
  refine wq_callI (Q := Q) rfl k ?_
  intro r1 c2 k
  exact k
set_option maxRecDepth 20000 in
theorem W_J0_length_8abf5_s5 {T : List Shp} {c : Nat → Int → Int} {Q : Res → Prop} (k : (QI T (fun r1 c2 => Q (some (some (vI (ishr 5 r1)), (SH T, c2)))) (ccal 347 [vR (-105)] (SH T, c)))) : Q (ccal 345 [vR (-105)] (SH T, c)) := by
  refine of_cev (Q := Q) ?_
  refine wq_callI (Q := Q) rfl k ?_
  intro r1 c2 k
  exact k
set_option maxRecDepth 20000 in
theorem W_J0_length_8abf5_s6 {T : List Shp} {c : Nat → Int → Int} {Q : Res → Prop} (k : (QI T (fun r1 c2 => Q (some (some (vI (ishr 2 r1)), (SH T, c2)))) (ccal 347 [vR (-106)] (SH T, c)))) : Q (ccal 345 [vR (-106)] (SH T, c)) := by
  refine of_cev (Q := Q) ?_
  refine wq_callI (Q := Q) rfl k ?_
  intro r1 c2 k
  exact k
set_option maxRecDepth 20000 in
theorem W_J0_length_8abf5_s7 {T : List Shp} {c : Nat → Int → Int} {Q : Res → Prop} (k : (QI T (fun r1 c2 => Q (some (some (vI (ishr 2 r1)), (SH T, c2)))) (ccal 347 [vR (-107)] (SH T, c)))) : Q (ccal 345 [vR (-107)] (SH T, c)) := by
  refine of_cev (Q := Q) ?_
  refine wq_callI (Q := Q) rfl k ?_
  intro r1 c2 k
  exact k
set_option maxRecDepth 20000 in
theorem W_J0_length_8abf5_s8 {T : List Shp} {c : Nat → Int → Int} {Q : Res → Prop} (k : (QI T (fun r1 c2 => Q (some (some (vI (ishr 3 r1)), (SH T, c2)))) (ccal 347 [vR (-108)] (SH T, c)))) : Q (ccal 345 [vR (-108)] (SH T, c)) := by
  refine of_cev (Q := Q) ?_
  refine wq_callI (Q := Q) rfl k ?_
  intro r1 c2 k
  exact k
set_option maxRecDepth 20000 in
theorem W_J0_length_8abf5_s9 {T : List Shp} {c : Nat → Int → Int} {Q : Res → Prop} (k : (QI T (fun r1 c2 => Q (some (some (vI (ishr 3 r1)), (SH T, c2)))) (ccal 347 [vR (-109)] (SH T, c)))) : Q (ccal 345 [vR (-109)] (SH T, c)) := by
  refine of_cev (Q := Q) ?_
  refine wq_callI (Q := Q) rfl k ?_
  intro r1 c2 k
  exact k
set_option maxRecDepth 20000 in
theorem W_J0_length_8abf5_s10 {T : List Shp} {c : Nat → Int → Int} {Q : Res → Prop} (k : (QI T (fun r1 c2 => Q (some (some (vI (ishr 39 r1)), (SH T, c2)))) (ccal 347 [vR (-110)] (SH T, c)))) : Q (ccal 345 [vR (-110)] (SH T, c)) := by
  refine of_cev (Q := Q) ?_
  refine wq_callI (Q := Q) rfl k ?_
  intro r1 c2 k
  exact k
set_option maxRecDepth 20000 in
theorem W_J0_length_8abf5_s11 {T : List Shp} {c : Nat → Int → Int} {Q : Res → Prop} (k : (QI T (fun r1 c2 => Q (some (some (vI (ishr 60 r1)), (SH T, c2)))) (ccal 347 [vR (-111)] (SH T, c)))) : Q (ccal 345 [vR (-111)] (SH T, c)) := by
  refine of_cev (Q := Q) ?_
  refine wq_callI (Q := Q) rfl k ?_
  intro r1 c2 k
  exact k
set_option maxRecDepth 20000 in
theorem W_J0_charAt_5068e_s0 {T : List Shp} {c : Nat → Int → Int} {Q : Res → Prop} {x1 : Int} (k : (QI T (fun r1 c2 => ((r1 = 0 → False) ∧ (¬ r1 = 0 → (QI T (fun r3 c4 => ((0 ≤ r3 ∧ r3 < 65536) ∧ Q (some (some (vI r3), (SH T, c4))))) (ccal 350 [vR (-200), vI x1] (SH T, c2)))))) (ccal 348 [vR (-100)] (SH T, c)))) : Q (ccal 346 [vR (-100), vI x1] (SH T, c)) := by
  refine of_cev (Q := Q) ?_
  refine wq_callI (Q := Q) rfl k ?_
  intro r1 c2 k
  refine wq_ite (Q := Q) (p := r1 = 0) (fun h => ?_) (fun h => ?_)
  · replace k := k.1 h
    exact k.elim
  · replace k := k.2 h
    refine wq_callI (Q := Q) rfl k ?_
    intro r3 c4 k
    refine wq_pos (Q := Q) k.1 ?_
    replace k := k.2
    exact k
set_option maxRecDepth 20000 in
theorem W_J0_charAt_5068e_s1 {T : List Shp} {c : Nat → Int → Int} {Q : Res → Prop} {x1 : Int} (k : (QI T (fun r1 c2 => ((r1 = 0 → False) ∧ (¬ r1 = 0 → (QI T (fun r3 c4 => ((0 ≤ r3 ∧ r3 < 65536) ∧ Q (some (some (vI r3), (SH T, c4))))) (ccal 350 [vR (-201), vI x1] (SH T, c2)))))) (ccal 348 [vR (-101)] (SH T, c)))) : Q (ccal 346 [vR (-101), vI x1] (SH T, c)) := by
  refine of_cev (Q := Q) ?_
  refine wq_callI (Q := Q) rfl k ?_
  intro r1 c2 k
  refine wq_ite (Q := Q) (p := r1 = 0) (fun h => ?_) (fun h => ?_)
  · replace k := k.1 h
    exact k.elim
  · replace k := k.2 h
    refine wq_callI (Q := Q) rfl k ?_
    intro r3 c4 k
    refine wq_pos (Q := Q) k.1 ?_
    replace k := k.2
    exact k
set_option maxRecDepth 20000 in
theorem W_J0_charAt_5068e_s2 {T : List Shp} {c : Nat → Int → Int} {Q : Res → Prop} {x1 : Int} (k : (QI T (fun r1 c2 => ((r1 = 0 → False) ∧ (¬ r1 = 0 → (QI T (fun r3 c4 => ((0 ≤ r3 ∧ r3 < 65536) ∧ Q (some (some (vI r3), (SH T, c4))))) (ccal 350 [vR (-202), vI x1] (SH T, c2)))))) (ccal 348 [vR (-102)] (SH T, c)))) : Q (ccal 346 [vR (-102), vI x1] (SH T, c)) := by
  refine of_cev (Q := Q) ?_
  refine wq_callI (Q := Q) rfl k ?_
  intro r1 c2 k
  refine wq_ite (Q := Q) (p := r1 = 0) (fun h => ?_) (fun h => ?_)
  · replace k := k.1 h
    exact k.elim
  · replace k := k.2 h
    refine wq_callI (Q := Q) rfl k ?_
    intro r3 c4 k
    refine wq_pos (Q := Q) k.1 ?_
    replace k := k.2
    exact k
set_option maxRecDepth 20000 in
theorem W_J0_charAt_5068e_s3 {T : List Shp} {c : Nat → Int → Int} {Q : Res → Prop} {x1 : Int} (k : (QI T (fun r1 c2 => ((r1 = 0 → False) ∧ (¬ r1 = 0 → (QI T (fun r3 c4 => ((0 ≤ r3 ∧ r3 < 65536) ∧ Q (some (some (vI r3), (SH T, c4))))) (ccal 350 [vR (-203), vI x1] (SH T, c2)))))) (ccal 348 [vR (-103)] (SH T, c)))) : Q (ccal 346 [vR (-103), vI x1] (SH T, c)) := by
  refine of_cev (Q := Q) ?_
  refine wq_callI (Q := Q) rfl k ?_
  intro r1 c2 k
  refine wq_ite (Q := Q) (p := r1 = 0) (fun h => ?_) (fun h => ?_)
  · replace k := k.1 h
    exact k.elim
  · replace k := k.2 h
    refine wq_callI (Q := Q) rfl k ?_
    intro r3 c4 k
    refine wq_pos (Q := Q) k.1 ?_
    replace k := k.2
    exact k
set_option maxRecDepth 20000 in
theorem W_J0_charAt_5068e_s4 {T : List Shp} {c : Nat → Int → Int} {Q : Res → Prop} {x1 : Int} (k : (QI T (fun r1 c2 => ((r1 = 0 → False) ∧ (¬ r1 = 0 → (QI T (fun r3 c4 => ((0 ≤ r3 ∧ r3 < 65536) ∧ Q (some (some (vI r3), (SH T, c4))))) (ccal 350 [vR (-204), vI x1] (SH T, c2)))))) (ccal 348 [vR (-104)] (SH T, c)))) : Q (ccal 346 [vR (-104), vI x1] (SH T, c)) := by
  refine of_cev (Q := Q) ?_
  refine wq_callI (Q := Q) rfl k ?_
  intro r1 c2 k
  refine wq_ite (Q := Q) (p := r1 = 0) (fun h => ?_) (fun h => ?_)
  · replace k := k.1 h
    exact k.elim
  · replace k := k.2 h
    refine wq_callI (Q := Q) rfl k ?_
    intro r3 c4 k
    refine wq_pos (Q := Q) k.1 ?_
    replace k := k.2
    exact k
set_option maxRecDepth 20000 in
theorem W_J0_charAt_5068e_s5 {T : List Shp} {c : Nat → Int → Int} {Q : Res → Prop} {x1 : Int} (k : (QI T (fun r1 c2 => ((r1 = 0 → False) ∧ (¬ r1 = 0 → (QI T (fun r3 c4 => ((0 ≤ r3 ∧ r3 < 65536) ∧ Q (some (some (vI r3), (SH T, c4))))) (ccal 350 [vR (-205), vI x1] (SH T, c2)))))) (ccal 348 [vR (-105)] (SH T, c)))) : Q (ccal 346 [vR (-105), vI x1] (SH T, c)) := by
  refine of_cev (Q := Q) ?_
  refine wq_callI (Q := Q) rfl k ?_
  intro r1 c2 k
  refine wq_ite (Q := Q) (p := r1 = 0) (fun h => ?_) (fun h => ?_)
  · replace k := k.1 h
    exact k.elim
  · replace k := k.2 h
    refine wq_callI (Q := Q) rfl k ?_
    intro r3 c4 k
    refine wq_pos (Q := Q) k.1 ?_
    replace k := k.2
    exact k
set_option maxRecDepth 20000 in
theorem W_J0_charAt_5068e_s6 {T : List Shp} {c : Nat → Int → Int} {Q : Res → Prop} {x1 : Int} (k : (QI T (fun r1 c2 => ((r1 = 0 → False) ∧ (¬ r1 = 0 → (QI T (fun r3 c4 => ((0 ≤ r3 ∧ r3 < 65536) ∧ Q (some (some (vI r3), (SH T, c4))))) (ccal 350 [vR (-206), vI x1] (SH T, c2)))))) (ccal 348 [vR (-106)] (SH T, c)))) : Q (ccal 346 [vR (-106), vI x1] (SH T, c)) := by
  refine of_cev (Q := Q) ?_
  refine wq_callI (Q := Q) rfl k ?_
  intro r1 c2 k
  refine wq_ite (Q := Q) (p := r1 = 0) (fun h => ?_) (fun h => ?_)
  · replace k := k.1 h
    exact k.elim
  · replace k := k.2 h
    refine wq_callI (Q := Q) rfl k ?_
    intro r3 c4 k
    refine wq_pos (Q := Q) k.1 ?_
    replace k := k.2
    exact k
set_option maxRecDepth 20000 in
theorem W_J0_charAt_5068e_s7 {T : List Shp} {c : Nat → Int → Int} {Q : Res → Prop} {x1 : Int} (k : (QI T (fun r1 c2 => ((r1 = 0 → False) ∧ (¬ r1 = 0 → (QI T (fun r3 c4 => ((0 ≤ r3 ∧ r3 < 65536) ∧ Q (some (some (vI r3), (SH T, c4))))) (ccal 350 [vR (-207), vI x1] (SH T, c2)))))) (ccal 348 [vR (-107)] (SH T, c)))) : Q (ccal 346 [vR (-107), vI x1] (SH T, c)) := by
  refine of_cev (Q := Q) ?_
  refine wq_callI (Q := Q) rfl k ?_
  intro r1 c2 k
  refine wq_ite (Q := Q) (p := r1 = 0) (fun h => ?_) (fun h => ?_)
  · replace k := k.1 h
    exact k.elim
  · replace k := k.2 h
    refine wq_callI (Q := Q) rfl k ?_
    intro r3 c4 k
    refine wq_pos (Q := Q) k.1 ?_
    replace k := k.2
    exact k
set_option maxRecDepth 20000 in
theorem W_J0_charAt_5068e_s8 {T : List Shp} {c : Nat → Int → Int} {Q : Res → Prop} {x1 : Int} (k : (QI T (fun r1 c2 => ((r1 = 0 → False) ∧ (¬ r1 = 0 → (QI T (fun r3 c4 => ((0 ≤ r3 ∧ r3 < 65536) ∧ Q (some (some (vI r3), (SH T, c4))))) (ccal 350 [vR (-208), vI x1] (SH T, c2)))))) (ccal 348 [vR (-108)] (SH T, c)))) : Q (ccal 346 [vR (-108), vI x1] (SH T, c)) := by
  refine of_cev (Q := Q) ?_
  refine wq_callI (Q := Q) rfl k ?_
  intro r1 c2 k
  refine wq_ite (Q := Q) (p := r1 = 0) (fun h => ?_) (fun h => ?_)
  · replace k := k.1 h
    exact k.elim
  · replace k := k.2 h
    refine wq_callI (Q := Q) rfl k ?_
    intro r3 c4 k
    refine wq_pos (Q := Q) k.1 ?_
    replace k := k.2
    exact k
set_option maxRecDepth 20000 in
theorem W_J0_charAt_5068e_s9 {T : List Shp} {c : Nat → Int → Int} {Q : Res → Prop} {x1 : Int} (k : (QI T (fun r1 c2 => ((r1 = 0 → False) ∧ (¬ r1 = 0 → (QI T (fun r3 c4 => ((0 ≤ r3 ∧ r3 < 65536) ∧ Q (some (some (vI r3), (SH T, c4))))) (ccal 350 [vR (-209), vI x1] (SH T, c2)))))) (ccal 348 [vR (-109)] (SH T, c)))) : Q (ccal 346 [vR (-109), vI x1] (SH T, c)) := by
  refine of_cev (Q := Q) ?_
  refine wq_callI (Q := Q) rfl k ?_
  intro r1 c2 k
  refine wq_ite (Q := Q) (p := r1 = 0) (fun h => ?_) (fun h => ?_)
  · replace k := k.1 h
    exact k.elim
  · replace k := k.2 h
    refine wq_callI (Q := Q) rfl k ?_
    intro r3 c4 k
    refine wq_pos (Q := Q) k.1 ?_
    replace k := k.2
    exact k
set_option maxRecDepth 20000 in
theorem W_J0_charAt_5068e_s10 {T : List Shp} {c : Nat → Int → Int} {Q : Res → Prop} {x1 : Int} (k : (QI T (fun r1 c2 => ((r1 = 0 → False) ∧ (¬ r1 = 0 → (QI T (fun r3 c4 => ((0 ≤ r3 ∧ r3 < 65536) ∧ Q (some (some (vI r3), (SH T, c4))))) (ccal 350 [vR (-210), vI x1] (SH T, c2)))))) (ccal 348 [vR (-110)] (SH T, c)))) : Q (ccal 346 [vR (-110), vI x1] (SH T, c)) := by
  refine of_cev (Q := Q) ?_
  refine wq_callI (Q := Q) rfl k ?_
  intro r1 c2 k
  refine wq_ite (Q := Q) (p := r1 = 0) (fun h => ?_) (fun h => ?_)
  · replace k := k.1 h
    exact k.elim
  · replace k := k.2 h
    refine wq_callI (Q := Q) rfl k ?_
    intro r3 c4 k
    refine wq_pos (Q := Q) k.1 ?_
    replace k := k.2
    exact k
set_option maxRecDepth 20000 in
theorem W_J0_charAt_5068e_s11 {T : List Shp} {c : Nat → Int → Int} {Q : Res → Prop} {x1 : Int} (k : (QI T (fun r1 c2 => ((r1 = 0 → False) ∧ (¬ r1 = 0 → (QI T (fun r3 c4 => ((0 ≤ r3 ∧ r3 < 65536) ∧ Q (some (some (vI r3), (SH T, c4))))) (ccal 350 [vR (-211), vI x1] (SH T, c2)))))) (ccal 348 [vR (-111)] (SH T, c)))) : Q (ccal 346 [vR (-111), vI x1] (SH T, c)) := by
  refine of_cev (Q := Q) ?_
  refine wq_callI (Q := Q) rfl k ?_
  intro r1 c2 k
  refine wq_ite (Q := Q) (p := r1 = 0) (fun h => ?_) (fun h => ?_)
  · replace k := k.1 h
    exact k.elim
  · replace k := k.2 h
    refine wq_callI (Q := Q) rfl k ?_
    intro r3 c4 k
    refine wq_pos (Q := Q) k.1 ?_
    replace k := k.2
    exact k
theorem S_chk (T : List Shp) (c : Nat → Int → Int) (x n : Int) (g : 0 ≤ x ∧ x < n) : ccal 349 [vI x, vI n] (SH T, c) = some (none, (SH T, c)) :=
  W_J0_checkIndex_df160 (Q := fun R => R = some (none, (SH T, c))) ⟨x, c, W_J3_checkIndex_8e157 (Q := fun R => R = some (some (vI x), (SH T, c))) ⟨fun h => absurd h (by omega), fun _ => ⟨fun _ => rfl, fun h => absurd g.2 h⟩⟩, rfl⟩
theorem strb_and (j : Nat) (x : Int) : iand ((strb j).getD x.toNat 0) 255 = (strb j).getD x.toNat 0 ∧ 0 ≤ (strb j).getD x.toNat 0 ∧ (strb j).getD x.toNat 0 < 65536 := by
  have h : ∀ l : List Int, (∀ v ∈ l, iand v 255 = v ∧ 0 ≤ v ∧ v < 65536) → ∀ n : Nat, iand (l.getD n 0) 255 = l.getD n 0 ∧ 0 ≤ l.getD n 0 ∧ l.getD n 0 < 65536 := by
    intro l h n
    by_cases hn : n < l.length
    · rw [List.getD_eq_getElem?_getD, List.getElem?_eq_getElem hn]
      exact h _ (List.getElem_mem hn)
    · rw [List.getD_eq_getElem?_getD, List.getElem?_eq_none (by omega)]
      exact ⟨by decide, by decide, by decide⟩
  refine h _ ?_ _
  unfold strb
  split <;> decide
theorem S_len_0 (T : List Shp) (c : Nat → Int → Int) : ccal 345 [vR (-100)] (SH T, c) = some (some (vI 26), (SH T, c)) :=
  W_J0_length_8abf5_s0 (Q := fun R => R = some (some (vI 26), (SH T, c))) ⟨0, c, W_J0_coder_7d493_s0 (Q := fun R => R = some (some (vI 0), (SH T, c))) rfl, congrArg (fun z => some (some (vI z), (SH T, c))) (show ishr 26 0 = 26 from by decide)⟩
theorem S_chr_0 (T : List Shp) (c : Nat → Int → Int) (x : Int) (g : 0 ≤ x ∧ x < 26) : ccal 346 [vR (-100), vI x] (SH T, c) = some (some (vI ((strb 0).getD x.toNat 0)), (SH T, c)) :=
  W_J0_charAt_5068e_s0 (Q := fun R => R = some (some (vI ((strb 0).getD x.toNat 0)), (SH T, c))) ⟨1, c, W_J0_isLatin1_aae02_s0 (Q := fun R => R = some (some (vI 1), (SH T, c))) rfl, fun h => absurd h (by decide), fun _ => ⟨(strb 0).getD x.toNat 0, c, W_J1_charAt_3b067_s0 (Q := fun R => R = some (some (vI ((strb 0).getD x.toNat 0)), (SH T, c))) ⟨c, S_chk T c x 26 g, ⟨⟨g, by rw [(strb_and 0 x).1]; exact (strb_and 0 x).2⟩, by rw [(strb_and 0 x).1]⟩⟩, (strb_and 0 x).2, rfl⟩⟩
theorem S_len_1 (T : List Shp) (c : Nat → Int → Int) : ccal 345 [vR (-101)] (SH T, c) = some (some (vI 23), (SH T, c)) :=
  W_J0_length_8abf5_s1 (Q := fun R => R = some (some (vI 23), (SH T, c))) ⟨0, c, W_J0_coder_7d493_s1 (Q := fun R => R = some (some (vI 0), (SH T, c))) rfl, congrArg (fun z => some (some (vI z), (SH T, c))) (show ishr 23 0 = 23 from by decide)⟩
theorem S_chr_1 (T : List Shp) (c : Nat → Int → Int) (x : Int) (g : 0 ≤ x ∧ x < 23) : ccal 346 [vR (-101), vI x] (SH T, c) = some (some (vI ((strb 1).getD x.toNat 0)), (SH T, c)) :=
  W_J0_charAt_5068e_s1 (Q := fun R => R = some (some (vI ((strb 1).getD x.toNat 0)), (SH T, c))) ⟨1, c, W_J0_isLatin1_aae02_s1 (Q := fun R => R = some (some (vI 1), (SH T, c))) rfl, fun h => absurd h (by decide), fun _ => ⟨(strb 1).getD x.toNat 0, c, W_J1_charAt_3b067_s1 (Q := fun R => R = some (some (vI ((strb 1).getD x.toNat 0)), (SH T, c))) ⟨c, S_chk T c x 23 g, ⟨⟨g, by rw [(strb_and 1 x).1]; exact (strb_and 1 x).2⟩, by rw [(strb_and 1 x).1]⟩⟩, (strb_and 1 x).2, rfl⟩⟩
theorem S_len_2 (T : List Shp) (c : Nat → Int → Int) : ccal 345 [vR (-102)] (SH T, c) = some (some (vI 18), (SH T, c)) :=
  W_J0_length_8abf5_s2 (Q := fun R => R = some (some (vI 18), (SH T, c))) ⟨0, c, W_J0_coder_7d493_s2 (Q := fun R => R = some (some (vI 0), (SH T, c))) rfl, congrArg (fun z => some (some (vI z), (SH T, c))) (show ishr 18 0 = 18 from by decide)⟩
theorem S_chr_2 (T : List Shp) (c : Nat → Int → Int) (x : Int) (g : 0 ≤ x ∧ x < 18) : ccal 346 [vR (-102), vI x] (SH T, c) = some (some (vI ((strb 2).getD x.toNat 0)), (SH T, c)) :=
  W_J0_charAt_5068e_s2 (Q := fun R => R = some (some (vI ((strb 2).getD x.toNat 0)), (SH T, c))) ⟨1, c, W_J0_isLatin1_aae02_s2 (Q := fun R => R = some (some (vI 1), (SH T, c))) rfl, fun h => absurd h (by decide), fun _ => ⟨(strb 2).getD x.toNat 0, c, W_J1_charAt_3b067_s2 (Q := fun R => R = some (some (vI ((strb 2).getD x.toNat 0)), (SH T, c))) ⟨c, S_chk T c x 18 g, ⟨⟨g, by rw [(strb_and 2 x).1]; exact (strb_and 2 x).2⟩, by rw [(strb_and 2 x).1]⟩⟩, (strb_and 2 x).2, rfl⟩⟩
theorem S_len_3 (T : List Shp) (c : Nat → Int → Int) : ccal 345 [vR (-103)] (SH T, c) = some (some (vI 2), (SH T, c)) :=
  W_J0_length_8abf5_s3 (Q := fun R => R = some (some (vI 2), (SH T, c))) ⟨0, c, W_J0_coder_7d493_s3 (Q := fun R => R = some (some (vI 0), (SH T, c))) rfl, congrArg (fun z => some (some (vI z), (SH T, c))) (show ishr 2 0 = 2 from by decide)⟩
theorem S_chr_3 (T : List Shp) (c : Nat → Int → Int) (x : Int) (g : 0 ≤ x ∧ x < 2) : ccal 346 [vR (-103), vI x] (SH T, c) = some (some (vI ((strb 3).getD x.toNat 0)), (SH T, c)) :=
  W_J0_charAt_5068e_s3 (Q := fun R => R = some (some (vI ((strb 3).getD x.toNat 0)), (SH T, c))) ⟨1, c, W_J0_isLatin1_aae02_s3 (Q := fun R => R = some (some (vI 1), (SH T, c))) rfl, fun h => absurd h (by decide), fun _ => ⟨(strb 3).getD x.toNat 0, c, W_J1_charAt_3b067_s3 (Q := fun R => R = some (some (vI ((strb 3).getD x.toNat 0)), (SH T, c))) ⟨c, S_chk T c x 2 g, ⟨⟨g, by rw [(strb_and 3 x).1]; exact (strb_and 3 x).2⟩, by rw [(strb_and 3 x).1]⟩⟩, (strb_and 3 x).2, rfl⟩⟩
theorem S_len_4 (T : List Shp) (c : Nat → Int → Int) : ccal 345 [vR (-104)] (SH T, c) = some (some (vI 4), (SH T, c)) :=
  W_J0_length_8abf5_s4 (Q := fun R => R = some (some (vI 4), (SH T, c))) ⟨0, c, W_J0_coder_7d493_s4 (Q := fun R => R = some (some (vI 0), (SH T, c))) rfl, congrArg (fun z => some (some (vI z), (SH T, c))) (show ishr 4 0 = 4 from by decide)⟩
theorem S_chr_4 (T : List Shp) (c : Nat → Int → Int) (x : Int) (g : 0 ≤ x ∧ x < 4) : ccal 346 [vR (-104), vI x] (SH T, c) = some (some (vI ((strb 4).getD x.toNat 0)), (SH T, c)) :=
  W_J0_charAt_5068e_s4 (Q := fun R => R = some (some (vI ((strb 4).getD x.toNat 0)), (SH T, c))) ⟨1, c, W_J0_isLatin1_aae02_s4 (Q := fun R => R = some (some (vI 1), (SH T, c))) rfl, fun h => absurd h (by decide), fun _ => ⟨(strb 4).getD x.toNat 0, c, W_J1_charAt_3b067_s4 (Q := fun R => R = some (some (vI ((strb 4).getD x.toNat 0)), (SH T, c))) ⟨c, S_chk T c x 4 g, ⟨⟨g, by rw [(strb_and 4 x).1]; exact (strb_and 4 x).2⟩, by rw [(strb_and 4 x).1]⟩⟩, (strb_and 4 x).2, rfl⟩⟩
theorem S_len_5 (T : List Shp) (c : Nat → Int → Int) : ccal 345 [vR (-105)] (SH T, c) = some (some (vI 5), (SH T, c)) :=
  W_J0_length_8abf5_s5 (Q := fun R => R = some (some (vI 5), (SH T, c))) ⟨0, c, W_J0_coder_7d493_s5 (Q := fun R => R = some (some (vI 0), (SH T, c))) rfl, congrArg (fun z => some (some (vI z), (SH T, c))) (show ishr 5 0 = 5 from by decide)⟩
theorem S_chr_5 (T : List Shp) (c : Nat → Int → Int) (x : Int) (g : 0 ≤ x ∧ x < 5) : ccal 346 [vR (-105), vI x] (SH T, c) = some (some (vI ((strb 5).getD x.toNat 0)), (SH T, c)) :=
  W_J0_charAt_5068e_s5 (Q := fun R => R = some (some (vI ((strb 5).getD x.toNat 0)), (SH T, c))) ⟨1, c, W_J0_isLatin1_aae02_s5 (Q := fun R => R = some (some (vI 1), (SH T, c))) rfl, fun h => absurd h (by decide), fun _ => ⟨(strb 5).getD x.toNat 0, c, W_J1_charAt_3b067_s5 (Q := fun R => R = some (some (vI ((strb 5).getD x.toNat 0)), (SH T, c))) ⟨c, S_chk T c x 5 g, ⟨⟨g, by rw [(strb_and 5 x).1]; exact (strb_and 5 x).2⟩, by rw [(strb_and 5 x).1]⟩⟩, (strb_and 5 x).2, rfl⟩⟩
theorem S_len_6 (T : List Shp) (c : Nat → Int → Int) : ccal 345 [vR (-106)] (SH T, c) = some (some (vI 2), (SH T, c)) :=
  W_J0_length_8abf5_s6 (Q := fun R => R = some (some (vI 2), (SH T, c))) ⟨0, c, W_J0_coder_7d493_s6 (Q := fun R => R = some (some (vI 0), (SH T, c))) rfl, congrArg (fun z => some (some (vI z), (SH T, c))) (show ishr 2 0 = 2 from by decide)⟩
theorem S_chr_6 (T : List Shp) (c : Nat → Int → Int) (x : Int) (g : 0 ≤ x ∧ x < 2) : ccal 346 [vR (-106), vI x] (SH T, c) = some (some (vI ((strb 6).getD x.toNat 0)), (SH T, c)) :=
  W_J0_charAt_5068e_s6 (Q := fun R => R = some (some (vI ((strb 6).getD x.toNat 0)), (SH T, c))) ⟨1, c, W_J0_isLatin1_aae02_s6 (Q := fun R => R = some (some (vI 1), (SH T, c))) rfl, fun h => absurd h (by decide), fun _ => ⟨(strb 6).getD x.toNat 0, c, W_J1_charAt_3b067_s6 (Q := fun R => R = some (some (vI ((strb 6).getD x.toNat 0)), (SH T, c))) ⟨c, S_chk T c x 2 g, ⟨⟨g, by rw [(strb_and 6 x).1]; exact (strb_and 6 x).2⟩, by rw [(strb_and 6 x).1]⟩⟩, (strb_and 6 x).2, rfl⟩⟩
theorem S_len_7 (T : List Shp) (c : Nat → Int → Int) : ccal 345 [vR (-107)] (SH T, c) = some (some (vI 2), (SH T, c)) :=
  W_J0_length_8abf5_s7 (Q := fun R => R = some (some (vI 2), (SH T, c))) ⟨0, c, W_J0_coder_7d493_s7 (Q := fun R => R = some (some (vI 0), (SH T, c))) rfl, congrArg (fun z => some (some (vI z), (SH T, c))) (show ishr 2 0 = 2 from by decide)⟩
theorem S_chr_7 (T : List Shp) (c : Nat → Int → Int) (x : Int) (g : 0 ≤ x ∧ x < 2) : ccal 346 [vR (-107), vI x] (SH T, c) = some (some (vI ((strb 7).getD x.toNat 0)), (SH T, c)) :=
  W_J0_charAt_5068e_s7 (Q := fun R => R = some (some (vI ((strb 7).getD x.toNat 0)), (SH T, c))) ⟨1, c, W_J0_isLatin1_aae02_s7 (Q := fun R => R = some (some (vI 1), (SH T, c))) rfl, fun h => absurd h (by decide), fun _ => ⟨(strb 7).getD x.toNat 0, c, W_J1_charAt_3b067_s7 (Q := fun R => R = some (some (vI ((strb 7).getD x.toNat 0)), (SH T, c))) ⟨c, S_chk T c x 2 g, ⟨⟨g, by rw [(strb_and 7 x).1]; exact (strb_and 7 x).2⟩, by rw [(strb_and 7 x).1]⟩⟩, (strb_and 7 x).2, rfl⟩⟩
theorem S_len_8 (T : List Shp) (c : Nat → Int → Int) : ccal 345 [vR (-108)] (SH T, c) = some (some (vI 3), (SH T, c)) :=
  W_J0_length_8abf5_s8 (Q := fun R => R = some (some (vI 3), (SH T, c))) ⟨0, c, W_J0_coder_7d493_s8 (Q := fun R => R = some (some (vI 0), (SH T, c))) rfl, congrArg (fun z => some (some (vI z), (SH T, c))) (show ishr 3 0 = 3 from by decide)⟩
theorem S_chr_8 (T : List Shp) (c : Nat → Int → Int) (x : Int) (g : 0 ≤ x ∧ x < 3) : ccal 346 [vR (-108), vI x] (SH T, c) = some (some (vI ((strb 8).getD x.toNat 0)), (SH T, c)) :=
  W_J0_charAt_5068e_s8 (Q := fun R => R = some (some (vI ((strb 8).getD x.toNat 0)), (SH T, c))) ⟨1, c, W_J0_isLatin1_aae02_s8 (Q := fun R => R = some (some (vI 1), (SH T, c))) rfl, fun h => absurd h (by decide), fun _ => ⟨(strb 8).getD x.toNat 0, c, W_J1_charAt_3b067_s8 (Q := fun R => R = some (some (vI ((strb 8).getD x.toNat 0)), (SH T, c))) ⟨c, S_chk T c x 3 g, ⟨⟨g, by rw [(strb_and 8 x).1]; exact (strb_and 8 x).2⟩, by rw [(strb_and 8 x).1]⟩⟩, (strb_and 8 x).2, rfl⟩⟩
theorem S_len_9 (T : List Shp) (c : Nat → Int → Int) : ccal 345 [vR (-109)] (SH T, c) = some (some (vI 3), (SH T, c)) :=
  W_J0_length_8abf5_s9 (Q := fun R => R = some (some (vI 3), (SH T, c))) ⟨0, c, W_J0_coder_7d493_s9 (Q := fun R => R = some (some (vI 0), (SH T, c))) rfl, congrArg (fun z => some (some (vI z), (SH T, c))) (show ishr 3 0 = 3 from by decide)⟩
theorem S_chr_9 (T : List Shp) (c : Nat → Int → Int) (x : Int) (g : 0 ≤ x ∧ x < 3) : ccal 346 [vR (-109), vI x] (SH T, c) = some (some (vI ((strb 9).getD x.toNat 0)), (SH T, c)) :=
  W_J0_charAt_5068e_s9 (Q := fun R => R = some (some (vI ((strb 9).getD x.toNat 0)), (SH T, c))) ⟨1, c, W_J0_isLatin1_aae02_s9 (Q := fun R => R = some (some (vI 1), (SH T, c))) rfl, fun h => absurd h (by decide), fun _ => ⟨(strb 9).getD x.toNat 0, c, W_J1_charAt_3b067_s9 (Q := fun R => R = some (some (vI ((strb 9).getD x.toNat 0)), (SH T, c))) ⟨c, S_chk T c x 3 g, ⟨⟨g, by rw [(strb_and 9 x).1]; exact (strb_and 9 x).2⟩, by rw [(strb_and 9 x).1]⟩⟩, (strb_and 9 x).2, rfl⟩⟩
theorem S_len_10 (T : List Shp) (c : Nat → Int → Int) : ccal 345 [vR (-110)] (SH T, c) = some (some (vI 39), (SH T, c)) :=
  W_J0_length_8abf5_s10 (Q := fun R => R = some (some (vI 39), (SH T, c))) ⟨0, c, W_J0_coder_7d493_s10 (Q := fun R => R = some (some (vI 0), (SH T, c))) rfl, congrArg (fun z => some (some (vI z), (SH T, c))) (show ishr 39 0 = 39 from by decide)⟩
theorem S_chr_10 (T : List Shp) (c : Nat → Int → Int) (x : Int) (g : 0 ≤ x ∧ x < 39) : ccal 346 [vR (-110), vI x] (SH T, c) = some (some (vI ((strb 10).getD x.toNat 0)), (SH T, c)) :=
  W_J0_charAt_5068e_s10 (Q := fun R => R = some (some (vI ((strb 10).getD x.toNat 0)), (SH T, c))) ⟨1, c, W_J0_isLatin1_aae02_s10 (Q := fun R => R = some (some (vI 1), (SH T, c))) rfl, fun h => absurd h (by decide), fun _ => ⟨(strb 10).getD x.toNat 0, c, W_J1_charAt_3b067_s10 (Q := fun R => R = some (some (vI ((strb 10).getD x.toNat 0)), (SH T, c))) ⟨c, S_chk T c x 39 g, ⟨⟨g, by rw [(strb_and 10 x).1]; exact (strb_and 10 x).2⟩, by rw [(strb_and 10 x).1]⟩⟩, (strb_and 10 x).2, rfl⟩⟩
theorem S_len_11 (T : List Shp) (c : Nat → Int → Int) : ccal 345 [vR (-111)] (SH T, c) = some (some (vI 60), (SH T, c)) :=
  W_J0_length_8abf5_s11 (Q := fun R => R = some (some (vI 60), (SH T, c))) ⟨0, c, W_J0_coder_7d493_s11 (Q := fun R => R = some (some (vI 0), (SH T, c))) rfl, congrArg (fun z => some (some (vI z), (SH T, c))) (show ishr 60 0 = 60 from by decide)⟩
theorem S_chr_11 (T : List Shp) (c : Nat → Int → Int) (x : Int) (g : 0 ≤ x ∧ x < 60) : ccal 346 [vR (-111), vI x] (SH T, c) = some (some (vI ((strb 11).getD x.toNat 0)), (SH T, c)) :=
  W_J0_charAt_5068e_s11 (Q := fun R => R = some (some (vI ((strb 11).getD x.toNat 0)), (SH T, c))) ⟨1, c, W_J0_isLatin1_aae02_s11 (Q := fun R => R = some (some (vI 1), (SH T, c))) rfl, fun h => absurd h (by decide), fun _ => ⟨(strb 11).getD x.toNat 0, c, W_J1_charAt_3b067_s11 (Q := fun R => R = some (some (vI ((strb 11).getD x.toNat 0)), (SH T, c))) ⟨c, S_chk T c x 60 g, ⟨⟨g, by rw [(strb_and 11 x).1]; exact (strb_and 11 x).2⟩, by rw [(strb_and 11 x).1]⟩⟩, (strb_and 11 x).2, rfl⟩⟩

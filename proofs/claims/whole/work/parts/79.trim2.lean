/-! A TEXT is made smaller -/
theorem uz_ne {c : Cm} {k q : Nat} (h : q ≠ k) : uz c k q = c q := by
  funext j
  exact if_neg h
def tm2 (c : Cm) (n : Nat) : Cm := uz (uz (uz c n) (n + 1)) (n + 2)
def tm4 (c : Cm) (n : Nat) : Cm := cpy (cpy (tm2 c n) 12 0 (n + 1) 0 (c 11 2 * 6)) 13 0 (n + 2) 0 (c 11 3)
def tm7 (c : Cm) (n : Nat) : Cm := up (up (up (tm4 c n) n 2 (c 11 2)) n 3 (c 11 3)) n 4 (c 11 4)
theorem drf_at2 {l r : List Shp} {a b : Shp} : drf (l ++ a :: b :: r) ((l.length : Int) + 2) = some (l.length + 1, b) := by
  show ((l ++ a :: b :: r)[l.length + 1]?).elim none (fun s => some (l.length + 1, s)) = some (l.length + 1, b)
  rw [List.getElem?_append_right (by omega), show l.length + 1 - l.length = 1 from by omega]
  rfl
theorem drf_at3 {l r : List Shp} {a b d : Shp} : drf (l ++ a :: b :: d :: r) ((l.length : Int) + 3) = some (l.length + 2, d) := by
  show ((l ++ a :: b :: d :: r)[l.length + 2]?).elim none (fun s => some (l.length + 2, s)) = some (l.length + 2, d)
  rw [List.getElem?_append_right (by omega), show l.length + 2 - l.length = 2 from by omega]
  rfl
theorem beq_no {a n : Nat} (h : a < n) : (!Nat.beq a n) = true := by
  cases e : Nat.beq a n with
  | false => rfl
  | true => exact absurd (Nat.eq_of_beq_eq_true e) (by omega)
theorem tm2_old {c : Cm} {n q : Nat} (h : q < n) : tm2 c n q = c q := by
  unfold tm2
  rw [uz_ne (by omega), uz_ne (by omega), uz_ne (by omega)]
theorem cpy_old {c : Cm} {s d q : Nat} {sp dp n : Int} (h : q < d) : cpy c s sp d dp n q = c q := cpy_cell (by omega)
theorem W_trim {T : List Shp} {c : Cm} {Q : Res → Prop} (ha : 0 ≤ c 11 2 ∧ c 11 2 ≤ 12) (hb : 0 ≤ c 11 3 ∧ c 11 3 ≤ 450) (k : Q (some (some (vR (((SH T).length : Int) + 1)), (SH T ++ [((20, 5, [((SH T).length : Int) + 2, ((SH T).length : Int) + 3, 0, 0, 0]) : Shp), (0, c 11 2 * 6, []), (0, c 11 3, [])], tm7 c (SH T).length)))) : Q (ccal 112 [vR 12] (SH T, c)) := by
  have hn : 109 ≤ (SH T).length := by rw [sh_len]; omega
  have u1 : ∀ q : Nat, q < 109 → uz c (SH T).length q = c q := fun q h => uz_ne (by omega)
  refine of_cev (Q := Q) ?_
  refine wq_el (Q := Q) (drf_at (l := SH T) (r := []) (a := (20, 5, [0, 0, 0, 0, 0]))) ?_
  refine wq_sum (Q := Q) rfl (t_init (l := SH T) (c := uz c (SH T).length) (a := uz c (SH T).length 11 2) (b := uz c (SH T).length 11 3) (by rw [u1 11 (by decide)]; exact ha) (by rw [u1 11 (by decide)]; exact hb)) ?_
  rw [u1 11 (by decide)]
  refine wq_el (Q := Q) (drf_at (l := SH T)) ?_
  have k2 : tm2 c (SH T).length 11 = c 11 := tm2_old (by omega)
  refine wq_pos (Q := Q) (show -2147483648 ≤ tm2 c (SH T).length 11 2 * 6 ∧ tm2 c (SH T).length 11 2 * 6 < 2147483648 by rw [k2]; omega) ?_
  refine wq_el (Q := Q) (drf_at2 (l := SH T)) ?_
  refine wq_bif (Q := Q) (show (true && true && (!Nat.beq 12 ((SH T).length + 1)) && true) = true by rw [beq_no (by omega)]; rfl) ?_
  refine wq_pos (Q := Q) (show ((0 : Int) ≤ 0 ∧ (0 : Int) ≤ 0 ∧ 0 ≤ tm2 c (SH T).length 11 2 * 6) ∧ 0 + tm2 c (SH T).length 11 2 * 6 ≤ 72 ∧ 0 + tm2 c (SH T).length 11 2 * 6 ≤ c 11 2 * 6 by rw [k2]; omega) ?_
  refine wq_el (Q := Q) (drf_at (l := SH T)) ?_
  refine wq_el (Q := Q) (drf_at3 (l := SH T)) ?_
  refine wq_bif (Q := Q) (show (true && true && (!Nat.beq 13 ((SH T).length + 2)) && true) = true by rw [beq_no (by omega)]; rfl) ?_
  have k3 : (cpy (tm2 c (SH T).length) 12 0 ((SH T).length + 1) 0 (tm2 c (SH T).length 11 2 * 6)) 11 = c 11 := (cpy_old (by omega)).trans k2
  refine wq_pos (Q := Q) (show ((0 : Int) ≤ 0 ∧ (0 : Int) ≤ 0 ∧ 0 ≤ (cpy (tm2 c (SH T).length) 12 0 ((SH T).length + 1) 0 (tm2 c (SH T).length 11 2 * 6)) 11 3) ∧ 0 + (cpy (tm2 c (SH T).length) 12 0 ((SH T).length + 1) 0 (tm2 c (SH T).length 11 2 * 6)) 11 3 ≤ 450 ∧ 0 + (cpy (tm2 c (SH T).length) 12 0 ((SH T).length + 1) 0 (tm2 c (SH T).length 11 2 * 6)) 11 3 ≤ c 11 3 by rw [k3]; omega) ?_
  refine wq_el (Q := Q) (drf_at (l := SH T)) ?_
  refine wq_el (Q := Q) (drf_at (l := SH T)) ?_
  refine wq_el (Q := Q) (drf_at (l := SH T)) ?_
  have k4 : (cpy (cpy (tm2 c (SH T).length) 12 0 ((SH T).length + 1) 0 (tm2 c (SH T).length 11 2 * 6)) 13 0 ((SH T).length + 2) 0 ((cpy (tm2 c (SH T).length) 12 0 ((SH T).length + 1) 0 (tm2 c (SH T).length 11 2 * 6)) 11 3)) 11 = c 11 := (cpy_old (by omega)).trans k3
  have k5 : (up (cpy (cpy (tm2 c (SH T).length) 12 0 ((SH T).length + 1) 0 (tm2 c (SH T).length 11 2 * 6)) 13 0 ((SH T).length + 2) 0 ((cpy (tm2 c (SH T).length) 12 0 ((SH T).length + 1) 0 (tm2 c (SH T).length 11 2 * 6)) 11 3)) (SH T).length 2 ((cpy (cpy (tm2 c (SH T).length) 12 0 ((SH T).length + 1) 0 (tm2 c (SH T).length 11 2 * 6)) 13 0 ((SH T).length + 2) 0 ((cpy (tm2 c (SH T).length) 12 0 ((SH T).length + 1) 0 (tm2 c (SH T).length 11 2 * 6)) 11 3)) 11 2)) 11 = c 11 := (up_cell (by omega)).trans k4
  have k6 : (up (up (cpy (cpy (tm2 c (SH T).length) 12 0 ((SH T).length + 1) 0 (tm2 c (SH T).length 11 2 * 6)) 13 0 ((SH T).length + 2) 0 ((cpy (tm2 c (SH T).length) 12 0 ((SH T).length + 1) 0 (tm2 c (SH T).length 11 2 * 6)) 11 3)) (SH T).length 2 ((cpy (cpy (tm2 c (SH T).length) 12 0 ((SH T).length + 1) 0 (tm2 c (SH T).length 11 2 * 6)) 13 0 ((SH T).length + 2) 0 ((cpy (tm2 c (SH T).length) 12 0 ((SH T).length + 1) 0 (tm2 c (SH T).length 11 2 * 6)) 11 3)) 11 2)) (SH T).length 3 ((up (cpy (cpy (tm2 c (SH T).length) 12 0 ((SH T).length + 1) 0 (tm2 c (SH T).length 11 2 * 6)) 13 0 ((SH T).length + 2) 0 ((cpy (tm2 c (SH T).length) 12 0 ((SH T).length + 1) 0 (tm2 c (SH T).length 11 2 * 6)) 11 3)) (SH T).length 2 ((cpy (cpy (tm2 c (SH T).length) 12 0 ((SH T).length + 1) 0 (tm2 c (SH T).length 11 2 * 6)) 13 0 ((SH T).length + 2) 0 ((cpy (tm2 c (SH T).length) 12 0 ((SH T).length + 1) 0 (tm2 c (SH T).length 11 2 * 6)) 11 3)) 11 2)) 11 3)) 11 = c 11 := (up_cell (by omega)).trans k5
  have e : tm7 c (SH T).length = (up (up (up (cpy (cpy (tm2 c (SH T).length) 12 0 ((SH T).length + 1) 0 (tm2 c (SH T).length 11 2 * 6)) 13 0 ((SH T).length + 2) 0 ((cpy (tm2 c (SH T).length) 12 0 ((SH T).length + 1) 0 (tm2 c (SH T).length 11 2 * 6)) 11 3)) (SH T).length 2 ((cpy (cpy (tm2 c (SH T).length) 12 0 ((SH T).length + 1) 0 (tm2 c (SH T).length 11 2 * 6)) 13 0 ((SH T).length + 2) 0 ((cpy (tm2 c (SH T).length) 12 0 ((SH T).length + 1) 0 (tm2 c (SH T).length 11 2 * 6)) 11 3)) 11 2)) (SH T).length 3 ((up (cpy (cpy (tm2 c (SH T).length) 12 0 ((SH T).length + 1) 0 (tm2 c (SH T).length 11 2 * 6)) 13 0 ((SH T).length + 2) 0 ((cpy (tm2 c (SH T).length) 12 0 ((SH T).length + 1) 0 (tm2 c (SH T).length 11 2 * 6)) 11 3)) (SH T).length 2 ((cpy (cpy (tm2 c (SH T).length) 12 0 ((SH T).length + 1) 0 (tm2 c (SH T).length 11 2 * 6)) 13 0 ((SH T).length + 2) 0 ((cpy (tm2 c (SH T).length) 12 0 ((SH T).length + 1) 0 (tm2 c (SH T).length 11 2 * 6)) 11 3)) 11 2)) 11 3)) (SH T).length 4 ((up (up (cpy (cpy (tm2 c (SH T).length) 12 0 ((SH T).length + 1) 0 (tm2 c (SH T).length 11 2 * 6)) 13 0 ((SH T).length + 2) 0 ((cpy (tm2 c (SH T).length) 12 0 ((SH T).length + 1) 0 (tm2 c (SH T).length 11 2 * 6)) 11 3)) (SH T).length 2 ((cpy (cpy (tm2 c (SH T).length) 12 0 ((SH T).length + 1) 0 (tm2 c (SH T).length 11 2 * 6)) 13 0 ((SH T).length + 2) 0 ((cpy (tm2 c (SH T).length) 12 0 ((SH T).length + 1) 0 (tm2 c (SH T).length 11 2 * 6)) 11 3)) 11 2)) (SH T).length 3 ((up (cpy (cpy (tm2 c (SH T).length) 12 0 ((SH T).length + 1) 0 (tm2 c (SH T).length 11 2 * 6)) 13 0 ((SH T).length + 2) 0 ((cpy (tm2 c (SH T).length) 12 0 ((SH T).length + 1) 0 (tm2 c (SH T).length 11 2 * 6)) 11 3)) (SH T).length 2 ((cpy (cpy (tm2 c (SH T).length) 12 0 ((SH T).length + 1) 0 (tm2 c (SH T).length 11 2 * 6)) 13 0 ((SH T).length + 2) 0 ((cpy (tm2 c (SH T).length) 12 0 ((SH T).length + 1) 0 (tm2 c (SH T).length 11 2 * 6)) 11 3)) 11 2)) 11 3)) 11 4)) := by
    rw [k6, k5, k4, k3, k2]
    rfl
  rw [e] at k
  exact k

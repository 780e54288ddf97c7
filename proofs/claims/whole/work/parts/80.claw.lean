/-! THE CLASS's law() -/
/-- the cells behind all that stand -/
def nT (T : List Shp) : Nat := 109 + T.length
def T3 (T : List Shp) (k n : Int) : List Shp := T ++ [((20, 5, [((nT T : Nat) : Int) + 2, ((nT T : Nat) : Int) + 3, 0, 0, 0]) : Shp), (0, k * 6, []), (0, n, [])]
theorem sh3 {T : List Shp} {k n : Int} : SH (T3 T k n) = SH T ++ ((20, 5, [((SH T).length : Int) + 2, ((SH T).length : Int) + 3, 0, 0, 0]) : Shp) :: [(0, k * 6, []), (0, n, [])] := by
  unfold T3 nT
  rw [sh_len]
  exact (List.append_assoc _ _ _).symm
theorem d3a {T : List Shp} {k n : Int} : drf (SH (T3 T k n)) (((nT T : Nat) : Int) + 1) = some (nT T, (20, 5, [((nT T : Nat) : Int) + 2, ((nT T : Nat) : Int) + 3, 0, 0, 0])) := by
  have h := drf_at (l := SH T) (r := [(0, k * 6, []), (0, n, [])]) (a := ((20, 5, [((SH T).length : Int) + 2, ((SH T).length : Int) + 3, 0, 0, 0]) : Shp))
  rw [← sh3 (T := T) (k := k) (n := n), sh_len] at h
  exact h
theorem d3b {T : List Shp} {k n : Int} : drf (SH (T3 T k n)) (((nT T : Nat) : Int) + 2) = some (nT T + 1, (0, k * 6, [])) := by
  have h := drf_at2 (l := SH T) (r := [(0, n, [])]) (a := ((20, 5, [((SH T).length : Int) + 2, ((SH T).length : Int) + 3, 0, 0, 0]) : Shp)) (b := (0, k * 6, []))
  rw [← sh3 (T := T) (k := k) (n := n), sh_len] at h
  exact h
theorem d3c {T : List Shp} {k n : Int} : drf (SH (T3 T k n)) (((nT T : Nat) : Int) + 3) = some (nT T + 2, (0, n, [])) := by
  have h := drf_at3 (l := SH T) (r := []) (a := ((20, 5, [((SH T).length : Int) + 2, ((SH T).length : Int) + 3, 0, 0, 0]) : Shp)) (b := (0, k * 6, [])) (d := (0, n, []))
  rw [← sh3 (T := T) (k := k) (n := n), sh_len] at h
  exact h
theorem e_trim {T : List Shp} {c : Cm} (ha : 0 ≤ c 11 2 ∧ c 11 2 ≤ 12) (hb : 0 ≤ c 11 3 ∧ c 11 3 ≤ 450) : ccal 112 [vR 12] (SH T, c) = some (some (vR (((nT T : Nat) : Int) + 1)), (SH (T3 T (c 11 2) (c 11 3)), tm7 c (nT T))) := by
  refine W_trim (Q := fun Z => Z = some (some (vR (((nT T : Nat) : Int) + 1)), (SH (T3 T (c 11 2) (c 11 3)), tm7 c (nT T)))) ha hb ?_
  rw [sh3, sh_len]
  rfl
/-- what stood before stands in the longer memory -/
theorem drf_more {T : List Shp} {k n r : Int} {q : Nat × Shp} (h : drf (SH T) r = some q) : drf (SH (T3 T k n)) r = some q := by
  rw [sh3]
  unfold drf at h ⊢
  split at h
  · rename_i m
    cases e : (SH T)[m]? with
    | none => rw [e] at h; exact absurd h (by simp)
    | some s =>
      rw [e] at h
      have lt : m < (SH T).length := by
        by_cases w : m < (SH T).length
        · exact w
        · rw [List.getElem?_eq_none (by omega)] at e; exact absurd e (by simp)
      rw [List.getElem?_append_left lt, e]
      exact h
  · exact absurd h (by simp)
theorem W_law2 {T : List Shp} {c : Cm} {Q : Res → Prop} (k : (c 1 5 < 6 → QI T (fun r1 c2 => (r1 = -1 → ((0 ≤ c2 11 2 ∧ c2 11 2 ≤ 12) ∧ (0 ≤ c2 11 3 ∧ c2 11 3 ≤ 450) ∧ (0 ≤ c2 1 5 ∧ c2 1 5 < 6)) ∧ Q (some (some (vI (c2 1 5)), (SH (T3 T (c2 11 2) (c2 11 3)), up (up (up (tm7 (up c2 0 14 r1) (nT T)) 5 (c2 1 5) (((nT T : Nat) : Int) + 1)) 1 5 (c2 1 5 + 1)) 0 17 0)))) ∧ (¬ r1 = -1 → (-2147483648 ≤ c2 76 4 + 1 ∧ c2 76 4 + 1 < 2147483648) ∧ Q (some (some (vI (-6)), (SH T, up (up (up c2 0 14 r1) 0 17 (-6)) 76 4 (c2 76 4 + 1)))))) (ccal 43 [vR 49, vI (c 0 4), vI 0] (SH T, up c 0 4 0))) ∧ (¬ c 1 5 < 6 → (-2147483648 ≤ c 76 3 + 1 ∧ c 76 3 + 1 < 2147483648) ∧ Q (some (some (vI (-5)), (SH T, up (up (up c 0 4 0) 0 17 (-5)) 76 3 (c 76 3 + 1)))))) : Q (ccal 125 [vR 1] (SH T, c)) := by
  refine of_cev (Q := Q) ?_
  refine wq_ite (Q := Q) (p := (c 1 5) < 6) (fun h => ?_) (fun h => ?_)
  · replace k := k.1 h
    show Q (cev 125 105 29 [vR 1, vI (c 0 4)] [] (SH T, (up c 0 4 0)))
    refine of_cev (Q := Q) ?_
    refine wq_callI (Q := Q) rfl k ?_
    intro r1 c2 k
    refine wq_ite (Q := Q) (p := r1 = (-1)) (fun h => ?_) (fun h => ?_)
    · replace k := k.1 h
      obtain ⟨⟨k1, k2, k3⟩, k⟩ := k
      show Q (cev 125 105 57 [vR 1, vU] [] (SH T, (up c2 0 14 r1)))
      have g11 : up c2 0 14 r1 11 = c2 11 := up_cell (by decide)
      have g1 : up c2 0 14 r1 1 = c2 1 := up_cell (by decide)
      have e := e_trim (T := T) (c := up c2 0 14 r1) (by rw [g11]; exact k1) (by rw [g11]; exact k2)
      rw [g11] at e
      have n109 : 109 ≤ nT T := by unfold nT; omega
      have t1 : tm7 (up c2 0 14 r1) (nT T) 1 = c2 1 := by
        unfold tm7 tm4
        rw [up_cell (by omega), up_cell (by omega), up_cell (by omega), cpy_old (by omega), cpy_old (by omega), tm2_old (by omega), g1]
      refine of_cev (Q := Q) ?_
      refine wq_sum (Q := Q) rfl e ?_
      refine wq_pos (Q := Q) k3 ?_
      refine wq_bif (Q := Q) (trf_of d3a) ?_
      have u1 : up (tm7 (up c2 0 14 r1) (nT T)) 5 (c2 1 5) (((nT T : Nat) : Int) + 1) 1 = c2 1 := by rw [up_cell (by decide), t1]
      have u2 : tm7 (up c2 0 14 r1) (nT T) 1 5 = c2 1 5 := congrFun t1 5
      refine wq_pos (Q := Q) (show -2147483648 ≤ tm7 (up c2 0 14 r1) (nT T) 1 5 + 1 ∧ tm7 (up c2 0 14 r1) (nT T) 1 5 + 1 < 2147483648 by rw [u2]; omega) ?_
      refine wq_pos (Q := Q) (show -2147483648 ≤ (tm7 (up c2 0 14 r1) (nT T) 1 5 + 1) - 1 ∧ (tm7 (up c2 0 14 r1) (nT T) 1 5 + 1) - 1 < 2147483648 by rw [u2]; omega) ?_
      refine wq_sum (Q := Q) rfl (S_X11_answer (T3 T (c2 11 2) (c2 11 3)) (up (up (tm7 (up c2 0 14 r1) (nT T)) 5 (c2 1 5) (((nT T : Nat) : Int) + 1)) 1 5 (tm7 (up c2 0 14 r1) (nT T) 1 5 + 1)) ((tm7 (up c2 0 14 r1) (nT T) 1 5 + 1) - 1)) ?_
      rw [u2, show c2 1 5 + 1 - 1 = c2 1 5 from by omega]
      exact k
    · replace k := k.2 h
      refine wq_sum (Q := Q) rfl (S_X11_refuse_6 T (up c2 0 14 r1) k.1) ?_
      replace k := k.2
      exact k
  · replace k := k.2 h
    refine wq_sum (Q := Q) rfl (S_X11_refuse_5 T (up c 0 4 0) k.1) ?_
    replace k := k.2
    exact k

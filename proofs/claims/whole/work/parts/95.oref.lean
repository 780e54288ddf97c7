/-! ORDERS: the reference acts -/
theorem pln_one {F : List Clz} {R : Int → Int} {k : Int} (h0 : 0 ≤ R 0 ∧ R 0 ≤ 5) : 0 ≤ (pln F R k 1).1 ∧ ((pln F R k 1).1 ≠ 0 → 0 ≤ (pln F R k 1).2.2.2 0 ∧ (pln F R k 1).2.2.2 0 < R 0) := by
  refine ⟨(dfs_bd h0 _ _ _ _ _ _ (by show (0 : Int) ≤ 0; omega)).1, ?_⟩
  unfold pln
  rw [show (1 : Int).toNat = 0 + 1 from rfl]
  simp only [dfs]
  refine foldI_ind (fun (i : Int) (B : Bst) => B.1 ≠ 0 → 0 ≤ B.2.2.2 0 ∧ B.2.2.2 0 < R 0) (fun z => absurd rfl z) (fun i B a b ih => ?_) h0.1
  have eu : udD (fun _ => 0) 0 i 0 = i := by unfold udD; rw [if_pos rfl]
  split
  · split
    · unfold wgh
      split
      · rename_i hh
        exact fun _ => ih (by omega)
      · split
        · intro _
          show 0 ≤ udD (fun _ => 0) 0 i 0 ∧ udD (fun _ => 0) 0 i 0 < R 0
          rw [eu]
          exact ⟨a, b⟩
        · exact ih
    · exact ih
  · exact ih
/-- the reference's answer beside the code: at or above 0, or the code -/
def ANS (r x : Int) : Prop := (x = 0 ∧ 0 ≤ r) ∨ (x < 0 ∧ r = x)
theorem r_pw {T : List Shp} {c : Cm} {F : List Clz} {p : Int} (h : RWd c F) (hp : 0 ≤ p ∧ p < c 79 0) : QI T (fun r c' => ANS r (pwk F (c 79) p).1 ∧ c' 79 = (pwk F (c 79) p).2 ∧ Off [79, 92, 94, 95, 96] [30, 34, 35, 36] c c') (ccal 266 [vR 78, vI p] (SH T, c)) := by
  have r := h.1.1
  refine (r_paintNow h hp).mono fun v c' g => ?_
  obtain ⟨g1, g2, g3⟩ := g
  refine ⟨?_, ?_, g3⟩
  · rw [g1]
    unfold pwk pnA
    rw [if_pos hp]
    by_cases e : brp F (c 79) p (c 79 4 + 1) = true ∨ rst (c 79) p (c 79 4 + 1) = true
    · rw [if_pos e, if_pos e]
      exact .inr ⟨by show (-3 : Int) < 0; omega, rfl⟩
    · rw [if_neg e, if_neg e]
      by_cases e4 : c 79 4 < 16
      · rw [if_pos e4, if_neg (by omega)]
        exact .inl ⟨rfl, (unl_bd (F := F) (pRw_rng h.1 (by omega) hp) (by omega)).1⟩
      · rw [if_neg e4, if_pos (by omega)]
        exact .inr ⟨by show (-5 : Int) < 0; omega, rfl⟩
  · rw [g2]
    unfold pwk pnR
    rw [if_pos hp]
    by_cases e : brp F (c 79) p (c 79 4 + 1) = true ∨ rst (c 79) p (c 79 4 + 1) = true
    · rw [if_pos e, if_pos e]
    · rw [if_neg e, if_neg e]
      by_cases e4 : c 79 4 < 16
      · rw [if_pos e4, if_neg (by omega)]
      · rw [if_neg e4, if_pos (by omega)]
theorem pwk_out {F : List Clz} {R : Int → Int} {p : Int} (h : ¬ (0 ≤ p ∧ p < R 0)) : pwk F R p = (-3, R) := if_neg h

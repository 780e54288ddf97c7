/-! THE LAW'S LOOP: a call a round, a lemma a case -/
/-- what the loop knows of the script -/
def SL (c : Cm) (x3 : Int) : Prop := (0 ≤ x3 ∧ x3 + 6 ≤ c 1000001 0 ∧ c 1000001 0 ≤ 3072) ∧ ∀ j, -2147483648 ≤ c 1000000 j ∧ c 1000000 j < 2147483648
section LAW
variable {T : List Shp} {c : Cm} {n : Nat} {x3 : Int} {Q : Res → Prop}
theorem lw_next (hl : SL c x3) (k : Q (cev 356 106 18 [vR (-1), vR 1, vR 78, vI (x3 + 6)] [] (SH T, c))) : Q (cev 356 106 1828 [vR (-1), vR 1, vR 78, vI x3] [] (SH T, c)) := by
  obtain ⟨⟨l0, l1, l2⟩, -⟩ := hl
  refine of_cev (Q := Q) ?_
  refine wq_pos (Q := Q) (show -2147483648 ≤ x3 + 6 ∧ x3 + 6 < 2147483648 by omega) ?_
  exact k
theorem SL.sc {c2 : Cm} (hl : SL c x3) (s : SC c c2) : SL c2 x3 := by
  unfold SL
  rw [s.1, s.2]
  exact hl
theorem lw_0 (hl : SL c x3) (h : REL T c n) (hn : n < 512) (kn : ∀ T' c4, SC c c4 → REL T' c4 (n + 1) → Q (cev 356 106 18 [vR (-1), vR 1, vR 78, vI (x3 + 6)] [] (SH T', c4))) : Q (cev 356 106 276 [vR (-1), vR 1, vR 78, vI x3] [] (SH T, c)) := by
  have j := j_first (x := c 1000000 (x3 + 1)) (t := c 1000000 (x3 + 2)) h hn
  obtain ⟨⟨l0, l1, l2⟩, -⟩ := id hl
  refine of_cev (Q := Q) ?_
  refine wq_pos (Q := Q) (show -2147483648 ≤ x3 + 1 ∧ x3 + 1 < 2147483648 by omega) ?_
  refine wq_pos (Q := Q) (show 0 ≤ x3 + 1 ∧ x3 + 1 < c 1000001 0 by omega) ?_
  refine wq_pos (Q := Q) (show -2147483648 ≤ x3 + 2 ∧ x3 + 2 < 2147483648 by omega) ?_
  refine wq_pos (Q := Q) (show 0 ≤ x3 + 2 ∧ x3 + 2 < c 1000001 0 by omega) ?_
  refine wq_callI (Q := Q) rfl j ?_
  intro r1 c2 k
  obtain ⟨s1, k⟩ := k
  rw [← s1.1] at k
  have e1 : c2 1000001 0 = c 1000001 0 := by rw [s1.2]
  refine wq_pos (Q := Q) (show -2147483648 ≤ x3 + 1 ∧ x3 + 1 < 2147483648 by omega) ?_
  refine wq_pos (Q := Q) (show 0 ≤ x3 + 1 ∧ x3 + 1 < c2 1000001 0 by omega) ?_
  refine wq_pos (Q := Q) (show -2147483648 ≤ x3 + 2 ∧ x3 + 2 < 2147483648 by omega) ?_
  refine wq_pos (Q := Q) (show 0 ≤ x3 + 2 ∧ x3 + 2 < c2 1000001 0 by omega) ?_
  refine wq_callI (Q := Q) rfl k ?_
  intro r3 c4 q
  obtain ⟨e2, s2, hr⟩ := q
  refine wq_ite (Q := Q) (p := r1 = r3) (fun _ => ?_) (fun z => absurd e2.symm z)
  show Q (cev 356 106 1828 [vR (-1), vR 1, vR 78, vI x3] [] (SH T, c4))
  exact lw_next (hl.sc s2) (kn T c4 s2 hr)
theorem lw_1 (hl : SL c x3) (h : REL T c n) (hn : n < 512) (kn : ∀ T' c4, SC c c4 → REL T' c4 (n + 1) → Q (cev 356 106 18 [vR (-1), vR 1, vR 78, vI (x3 + 6)] [] (SH T', c4))) : Q (cev 356 106 309 [vR (-1), vR 1, vR 78, vI x3] [] (SH T, c)) := by
  have j := j_painter (x := c 1000000 (x3 + 1)) (y := c 1000000 (x3 + 2)) h hn
  obtain ⟨⟨l0, l1, l2⟩, -⟩ := id hl
  refine of_cev (Q := Q) ?_
  refine wq_pos (Q := Q) (show -2147483648 ≤ x3 + 1 ∧ x3 + 1 < 2147483648 by omega) ?_
  refine wq_pos (Q := Q) (show 0 ≤ x3 + 1 ∧ x3 + 1 < c 1000001 0 by omega) ?_
  refine wq_pos (Q := Q) (show -2147483648 ≤ x3 + 2 ∧ x3 + 2 < 2147483648 by omega) ?_
  refine wq_pos (Q := Q) (show 0 ≤ x3 + 2 ∧ x3 + 2 < c 1000001 0 by omega) ?_
  refine wq_callI (Q := Q) rfl j ?_
  intro r1 c2 k
  obtain ⟨s1, k⟩ := k
  rw [← s1.1] at k
  have e1 : c2 1000001 0 = c 1000001 0 := by rw [s1.2]
  refine wq_pos (Q := Q) (show -2147483648 ≤ x3 + 1 ∧ x3 + 1 < 2147483648 by omega) ?_
  refine wq_pos (Q := Q) (show 0 ≤ x3 + 1 ∧ x3 + 1 < c2 1000001 0 by omega) ?_
  refine wq_pos (Q := Q) (show -2147483648 ≤ x3 + 2 ∧ x3 + 2 < 2147483648 by omega) ?_
  refine wq_pos (Q := Q) (show 0 ≤ x3 + 2 ∧ x3 + 2 < c2 1000001 0 by omega) ?_
  refine wq_callI (Q := Q) rfl k ?_
  intro r3 c4 q
  obtain ⟨e2, s2, hr⟩ := q
  refine wq_ite (Q := Q) (p := r1 = r3) (fun _ => ?_) (fun z => absurd e2.symm z)
  show Q (cev 356 106 1828 [vR (-1), vR 1, vR 78, vI x3] [] (SH T, c4))
  exact lw_next (hl.sc s2) (kn T c4 s2 hr)
theorem lw_2 (hl : SL c x3) (h : REL T c n) (hn : n < 512) (kn : ∀ T' c4, SC c c4 → REL T' c4 (n + 1) → Q (cev 356 106 18 [vR (-1), vR 1, vR 78, vI (x3 + 6)] [] (SH T', c4))) : Q (cev 356 106 342 [vR (-1), vR 1, vR 78, vI x3] [] (SH T, c)) := by
  have j := j_err (x := c 1000000 (x3 + 1)) (k := c 1000000 (x3 + 2)) (v := c 1000000 (x3 + 3)) h hn
  obtain ⟨⟨l0, l1, l2⟩, -⟩ := id hl
  refine of_cev (Q := Q) ?_
  refine wq_pos (Q := Q) (show -2147483648 ≤ x3 + 1 ∧ x3 + 1 < 2147483648 by omega) ?_
  refine wq_pos (Q := Q) (show 0 ≤ x3 + 1 ∧ x3 + 1 < c 1000001 0 by omega) ?_
  refine wq_pos (Q := Q) (show -2147483648 ≤ x3 + 2 ∧ x3 + 2 < 2147483648 by omega) ?_
  refine wq_pos (Q := Q) (show 0 ≤ x3 + 2 ∧ x3 + 2 < c 1000001 0 by omega) ?_
  refine wq_pos (Q := Q) (show -2147483648 ≤ x3 + 3 ∧ x3 + 3 < 2147483648 by omega) ?_
  refine wq_pos (Q := Q) (show 0 ≤ x3 + 3 ∧ x3 + 3 < c 1000001 0 by omega) ?_
  refine wq_callI (Q := Q) rfl j ?_
  intro r1 c2 k
  obtain ⟨s1, k⟩ := k
  rw [← s1.1] at k
  have e1 : c2 1000001 0 = c 1000001 0 := by rw [s1.2]
  refine wq_pos (Q := Q) (show -2147483648 ≤ x3 + 1 ∧ x3 + 1 < 2147483648 by omega) ?_
  refine wq_pos (Q := Q) (show 0 ≤ x3 + 1 ∧ x3 + 1 < c2 1000001 0 by omega) ?_
  refine wq_pos (Q := Q) (show -2147483648 ≤ x3 + 2 ∧ x3 + 2 < 2147483648 by omega) ?_
  refine wq_pos (Q := Q) (show 0 ≤ x3 + 2 ∧ x3 + 2 < c2 1000001 0 by omega) ?_
  refine wq_pos (Q := Q) (show -2147483648 ≤ x3 + 3 ∧ x3 + 3 < 2147483648 by omega) ?_
  refine wq_pos (Q := Q) (show 0 ≤ x3 + 3 ∧ x3 + 3 < c2 1000001 0 by omega) ?_
  refine wq_callI (Q := Q) rfl k ?_
  intro r3 c4 q
  obtain ⟨e2, s2, hr⟩ := q
  refine wq_ite (Q := Q) (p := r1 = r3) (fun _ => ?_) (fun z => absurd e2.symm z)
  show Q (cev 356 106 1828 [vR (-1), vR 1, vR 78, vI x3] [] (SH T, c4))
  exact lw_next (hl.sc s2) (kn T c4 s2 hr)
theorem lw_3 (hl : SL c x3) (h : REL T c n) (hn : n < 512) (kn : ∀ T' c4, SC c c4 → REL T' c4 (n + 1) → Q (cev 356 106 18 [vR (-1), vR 1, vR 78, vI (x3 + 6)] [] (SH T', c4))) : Q (cev 356 106 385 [vR (-1), vR 1, vR 78, vI x3] [] (SH T, c)) := by
  have j := j_of (x := c 1000000 (x3 + 1)) (w := c 1000000 (x3 + 2)) h
  obtain ⟨⟨l0, l1, l2⟩, -⟩ := id hl
  refine of_cev (Q := Q) ?_
  refine wq_pos (Q := Q) (show -2147483648 ≤ x3 + 1 ∧ x3 + 1 < 2147483648 by omega) ?_
  refine wq_pos (Q := Q) (show 0 ≤ x3 + 1 ∧ x3 + 1 < c 1000001 0 by omega) ?_
  refine wq_pos (Q := Q) (show -2147483648 ≤ x3 + 2 ∧ x3 + 2 < 2147483648 by omega) ?_
  refine wq_pos (Q := Q) (show 0 ≤ x3 + 2 ∧ x3 + 2 < c 1000001 0 by omega) ?_
  refine wq_callI (Q := Q) rfl j ?_
  intro r1 c2 k
  obtain ⟨s1, k⟩ := k
  rw [← s1.1] at k
  have e1 : c2 1000001 0 = c 1000001 0 := by rw [s1.2]
  refine wq_pos (Q := Q) (show -2147483648 ≤ x3 + 1 ∧ x3 + 1 < 2147483648 by omega) ?_
  refine wq_pos (Q := Q) (show 0 ≤ x3 + 1 ∧ x3 + 1 < c2 1000001 0 by omega) ?_
  refine wq_pos (Q := Q) (show -2147483648 ≤ x3 + 2 ∧ x3 + 2 < 2147483648 by omega) ?_
  refine wq_pos (Q := Q) (show 0 ≤ x3 + 2 ∧ x3 + 2 < c2 1000001 0 by omega) ?_
  refine wq_callI (Q := Q) rfl k ?_
  intro r3 c4 q
  obtain ⟨e2, s2, hr⟩ := q
  refine wq_ite (Q := Q) (p := r1 = r3) (fun _ => ?_) (fun z => absurd e2.symm z)
  show Q (cev 356 106 1828 [vR (-1), vR 1, vR 78, vI x3] [] (SH T, c4))
  exact lw_next (hl.sc s2) (kn T c4 s2 hr)
theorem lw_4 (hl : SL c x3) (h : REL T c n) (hn : n < 512) (kn : ∀ T' c4, SC c c4 → REL T' c4 (n + 1) → Q (cev 356 106 18 [vR (-1), vR 1, vR 78, vI (x3 + 6)] [] (SH T', c4))) : Q (cev 356 106 418 [vR (-1), vR 1, vR 78, vI x3] [] (SH T, c)) := by
  have j := j_terms (x := c 1000000 (x3 + 1)) (v := c 1000000 (x3 + 2)) h hn
  obtain ⟨⟨l0, l1, l2⟩, -⟩ := id hl
  refine of_cev (Q := Q) ?_
  refine wq_pos (Q := Q) (show -2147483648 ≤ x3 + 1 ∧ x3 + 1 < 2147483648 by omega) ?_
  refine wq_pos (Q := Q) (show 0 ≤ x3 + 1 ∧ x3 + 1 < c 1000001 0 by omega) ?_
  refine wq_pos (Q := Q) (show -2147483648 ≤ x3 + 2 ∧ x3 + 2 < 2147483648 by omega) ?_
  refine wq_pos (Q := Q) (show 0 ≤ x3 + 2 ∧ x3 + 2 < c 1000001 0 by omega) ?_
  refine wq_callI (Q := Q) rfl j ?_
  intro r1 c2 k
  obtain ⟨s1, k⟩ := k
  rw [← s1.1] at k
  have e1 : c2 1000001 0 = c 1000001 0 := by rw [s1.2]
  refine wq_pos (Q := Q) (show -2147483648 ≤ x3 + 1 ∧ x3 + 1 < 2147483648 by omega) ?_
  refine wq_pos (Q := Q) (show 0 ≤ x3 + 1 ∧ x3 + 1 < c2 1000001 0 by omega) ?_
  refine wq_pos (Q := Q) (show -2147483648 ≤ x3 + 2 ∧ x3 + 2 < 2147483648 by omega) ?_
  refine wq_pos (Q := Q) (show 0 ≤ x3 + 2 ∧ x3 + 2 < c2 1000001 0 by omega) ?_
  refine wq_callI (Q := Q) rfl k ?_
  intro r3 c4 q
  obtain ⟨e2, s2, hr⟩ := q
  refine wq_ite (Q := Q) (p := r1 = r3) (fun _ => ?_) (fun z => absurd e2.symm z)
  show Q (cev 356 106 1828 [vR (-1), vR 1, vR 78, vI x3] [] (SH T, c4))
  exact lw_next (hl.sc s2) (kn T c4 s2 hr)
theorem lw_5 (hl : SL c x3) (h : REL T c n) (hn : n < 512) (kn : ∀ T' c4, SC c c4 → REL T' c4 (n + 1) → Q (cev 356 106 18 [vR (-1), vR 1, vR 78, vI (x3 + 6)] [] (SH T', c4))) : Q (cev 356 106 451 [vR (-1), vR 1, vR 78, vI x3] [] (SH T, c)) := by
  have j := j_scar (x := c 1000000 (x3 + 1)) (y := c 1000000 (x3 + 2)) (t := c 1000000 (x3 + 3)) h hn
  obtain ⟨⟨l0, l1, l2⟩, -⟩ := id hl
  refine of_cev (Q := Q) ?_
  refine wq_pos (Q := Q) (show -2147483648 ≤ x3 + 1 ∧ x3 + 1 < 2147483648 by omega) ?_
  refine wq_pos (Q := Q) (show 0 ≤ x3 + 1 ∧ x3 + 1 < c 1000001 0 by omega) ?_
  refine wq_pos (Q := Q) (show -2147483648 ≤ x3 + 2 ∧ x3 + 2 < 2147483648 by omega) ?_
  refine wq_pos (Q := Q) (show 0 ≤ x3 + 2 ∧ x3 + 2 < c 1000001 0 by omega) ?_
  refine wq_pos (Q := Q) (show -2147483648 ≤ x3 + 3 ∧ x3 + 3 < 2147483648 by omega) ?_
  refine wq_pos (Q := Q) (show 0 ≤ x3 + 3 ∧ x3 + 3 < c 1000001 0 by omega) ?_
  refine wq_callI (Q := Q) rfl j ?_
  intro r1 c2 k
  obtain ⟨s1, k⟩ := k
  rw [← s1.1] at k
  have e1 : c2 1000001 0 = c 1000001 0 := by rw [s1.2]
  refine wq_pos (Q := Q) (show -2147483648 ≤ x3 + 1 ∧ x3 + 1 < 2147483648 by omega) ?_
  refine wq_pos (Q := Q) (show 0 ≤ x3 + 1 ∧ x3 + 1 < c2 1000001 0 by omega) ?_
  refine wq_pos (Q := Q) (show -2147483648 ≤ x3 + 2 ∧ x3 + 2 < 2147483648 by omega) ?_
  refine wq_pos (Q := Q) (show 0 ≤ x3 + 2 ∧ x3 + 2 < c2 1000001 0 by omega) ?_
  refine wq_pos (Q := Q) (show -2147483648 ≤ x3 + 3 ∧ x3 + 3 < 2147483648 by omega) ?_
  refine wq_pos (Q := Q) (show 0 ≤ x3 + 3 ∧ x3 + 3 < c2 1000001 0 by omega) ?_
  refine wq_callI (Q := Q) rfl k ?_
  intro r3 c4 q
  obtain ⟨e2, s2, hr⟩ := q
  refine wq_ite (Q := Q) (p := r1 = r3) (fun _ => ?_) (fun z => absurd e2.symm z)
  show Q (cev 356 106 1828 [vR (-1), vR 1, vR 78, vI x3] [] (SH T, c4))
  exact lw_next (hl.sc s2) (kn T c4 s2 hr)
theorem lw_6 (hl : SL c x3) (h : REL T c n) (hn : n < 512) (kn : ∀ T' c4, SC c c4 → REL T' c4 (n + 1) → Q (cev 356 106 18 [vR (-1), vR 1, vR 78, vI (x3 + 6)] [] (SH T', c4))) : Q (cev 356 106 494 [vR (-1), vR 1, vR 78, vI x3] [] (SH T, c)) := by
  have j := j_heal (x := c 1000000 (x3 + 1)) h hn
  obtain ⟨⟨l0, l1, l2⟩, -⟩ := id hl
  refine of_cev (Q := Q) ?_
  refine wq_pos (Q := Q) (show -2147483648 ≤ x3 + 1 ∧ x3 + 1 < 2147483648 by omega) ?_
  refine wq_pos (Q := Q) (show 0 ≤ x3 + 1 ∧ x3 + 1 < c 1000001 0 by omega) ?_
  refine wq_callI (Q := Q) rfl j ?_
  intro r1 c2 k
  obtain ⟨s1, k⟩ := k
  rw [← s1.1] at k
  have e1 : c2 1000001 0 = c 1000001 0 := by rw [s1.2]
  refine wq_pos (Q := Q) (show -2147483648 ≤ x3 + 1 ∧ x3 + 1 < 2147483648 by omega) ?_
  refine wq_pos (Q := Q) (show 0 ≤ x3 + 1 ∧ x3 + 1 < c2 1000001 0 by omega) ?_
  refine wq_callI (Q := Q) rfl k ?_
  intro r3 c4 q
  obtain ⟨e2, s2, hr⟩ := q
  refine wq_ite (Q := Q) (p := r1 = r3) (fun _ => ?_) (fun z => absurd e2.symm z)
  show Q (cev 356 106 1828 [vR (-1), vR 1, vR 78, vI x3] [] (SH T, c4))
  exact lw_next (hl.sc s2) (kn T c4 s2 hr)
theorem lw_7 (hl : SL c x3) (h : REL T c n) (hn : n < 512) (kn : ∀ T' c4, SC c c4 → REL T' c4 (n + 1) → Q (cev 356 106 18 [vR (-1), vR 1, vR 78, vI (x3 + 6)] [] (SH T', c4))) : Q (cev 356 106 517 [vR (-1), vR 1, vR 78, vI x3] [] (SH T, c)) := by
  have j := j_feed (v1 := c 1000000 (x3 + 1)) (v2 := c 1000000 (x3 + 2)) (v3 := c 1000000 (x3 + 3)) (v4 := c 1000000 (x3 + 4)) (v5 := c 1000000 (x3 + 5)) h
  obtain ⟨⟨l0, l1, l2⟩, -⟩ := id hl
  refine of_cev (Q := Q) ?_
  refine wq_pos (Q := Q) (show -2147483648 ≤ x3 + 1 ∧ x3 + 1 < 2147483648 by omega) ?_
  refine wq_pos (Q := Q) (show 0 ≤ x3 + 1 ∧ x3 + 1 < c 1000001 0 by omega) ?_
  refine wq_pos (Q := Q) (show -2147483648 ≤ x3 + 2 ∧ x3 + 2 < 2147483648 by omega) ?_
  refine wq_pos (Q := Q) (show 0 ≤ x3 + 2 ∧ x3 + 2 < c 1000001 0 by omega) ?_
  refine wq_pos (Q := Q) (show -2147483648 ≤ x3 + 3 ∧ x3 + 3 < 2147483648 by omega) ?_
  refine wq_pos (Q := Q) (show 0 ≤ x3 + 3 ∧ x3 + 3 < c 1000001 0 by omega) ?_
  refine wq_pos (Q := Q) (show -2147483648 ≤ x3 + 4 ∧ x3 + 4 < 2147483648 by omega) ?_
  refine wq_pos (Q := Q) (show 0 ≤ x3 + 4 ∧ x3 + 4 < c 1000001 0 by omega) ?_
  refine wq_pos (Q := Q) (show -2147483648 ≤ x3 + 5 ∧ x3 + 5 < 2147483648 by omega) ?_
  refine wq_pos (Q := Q) (show 0 ≤ x3 + 5 ∧ x3 + 5 < c 1000001 0 by omega) ?_
  refine wq_callI (Q := Q) rfl j ?_
  intro r1 c2 k
  obtain ⟨s1, k⟩ := k
  rw [← s1.1] at k
  have e1 : c2 1000001 0 = c 1000001 0 := by rw [s1.2]
  refine wq_pos (Q := Q) (show -2147483648 ≤ x3 + 1 ∧ x3 + 1 < 2147483648 by omega) ?_
  refine wq_pos (Q := Q) (show 0 ≤ x3 + 1 ∧ x3 + 1 < c2 1000001 0 by omega) ?_
  refine wq_pos (Q := Q) (show -2147483648 ≤ x3 + 2 ∧ x3 + 2 < 2147483648 by omega) ?_
  refine wq_pos (Q := Q) (show 0 ≤ x3 + 2 ∧ x3 + 2 < c2 1000001 0 by omega) ?_
  refine wq_pos (Q := Q) (show -2147483648 ≤ x3 + 3 ∧ x3 + 3 < 2147483648 by omega) ?_
  refine wq_pos (Q := Q) (show 0 ≤ x3 + 3 ∧ x3 + 3 < c2 1000001 0 by omega) ?_
  refine wq_pos (Q := Q) (show -2147483648 ≤ x3 + 4 ∧ x3 + 4 < 2147483648 by omega) ?_
  refine wq_pos (Q := Q) (show 0 ≤ x3 + 4 ∧ x3 + 4 < c2 1000001 0 by omega) ?_
  refine wq_pos (Q := Q) (show -2147483648 ≤ x3 + 5 ∧ x3 + 5 < 2147483648 by omega) ?_
  refine wq_pos (Q := Q) (show 0 ≤ x3 + 5 ∧ x3 + 5 < c2 1000001 0 by omega) ?_
  refine wq_callI (Q := Q) rfl k ?_
  intro r3 c4 q
  obtain ⟨e2, s2, hr⟩ := q
  refine wq_ite (Q := Q) (p := r1 = r3) (fun _ => ?_) (fun z => absurd e2.symm z)
  show Q (cev 356 106 1828 [vR (-1), vR 1, vR 78, vI x3] [] (SH T, c4))
  exact lw_next (hl.sc s2) (kn T c4 s2 hr)
theorem lw_8 (hl : SL c x3) (h : REL T c n) (hn : n < 512) (kn : ∀ T' c4, SC c c4 → REL T' c4 (n + 1) → Q (cev 356 106 18 [vR (-1), vR 1, vR 78, vI (x3 + 6)] [] (SH T', c4))) : Q (cev 356 106 580 [vR (-1), vR 1, vR 78, vI x3] [] (SH T, c)) := by
  have j := j_end (m := c 1000000 (x3 + 1)) h
  obtain ⟨⟨l0, l1, l2⟩, -⟩ := id hl
  refine of_cev (Q := Q) ?_
  refine wq_pos (Q := Q) (show -2147483648 ≤ x3 + 1 ∧ x3 + 1 < 2147483648 by omega) ?_
  refine wq_pos (Q := Q) (show 0 ≤ x3 + 1 ∧ x3 + 1 < c 1000001 0 by omega) ?_
  refine wq_callI (Q := Q) rfl j ?_
  intro r1 c2 k
  obtain ⟨s1, k⟩ := k
  rw [← s1.1] at k
  have e1 : c2 1000001 0 = c 1000001 0 := by rw [s1.2]
  refine wq_pos (Q := Q) (show -2147483648 ≤ x3 + 1 ∧ x3 + 1 < 2147483648 by omega) ?_
  refine wq_pos (Q := Q) (show 0 ≤ x3 + 1 ∧ x3 + 1 < c2 1000001 0 by omega) ?_
  refine wq_callI (Q := Q) rfl k ?_
  intro r3 c4 q
  obtain ⟨e2, s2, hr⟩ := q
  refine wq_ite (Q := Q) (p := r1 = r3) (fun _ => ?_) (fun z => absurd e2.symm z)
  show Q (cev 356 106 1828 [vR (-1), vR 1, vR 78, vI x3] [] (SH T, c4))
  exact lw_next (hl.sc s2) (kn T c4 s2 hr)
theorem lw_9 (hl : SL c x3) (h : REL T c n) (hn : n < 512) (kn : ∀ T' c4, SC c c4 → REL T' c4 (n + 1) → Q (cev 356 106 18 [vR (-1), vR 1, vR 78, vI (x3 + 6)] [] (SH T', c4))) : Q (cev 356 106 603 [vR (-1), vR 1, vR 78, vI x3] [] (SH T, c)) := by
  have j := j_row  h hn
  refine of_cev (Q := Q) ?_
  refine wq_callI (Q := Q) rfl j ?_
  intro r1 c2 k
  obtain ⟨s1, k⟩ := k
  refine wq_callI (Q := Q) rfl k ?_
  intro r3 c4 q
  obtain ⟨e2, s2, hr⟩ := q
  refine wq_ite (Q := Q) (p := r1 = r3) (fun _ => ?_) (fun z => absurd e2.symm z)
  show Q (cev 356 106 1828 [vR (-1), vR 1, vR 78, vI x3] [] (SH T, c4))
  exact lw_next (hl.sc s2) (kn T c4 s2 hr)
theorem lw_10 (hl : SL c x3) (h : REL T c n) (hn : n < 512) (kn : ∀ T' c4, SC c c4 → REL T' c4 (n + 1) → Q (cev 356 106 18 [vR (-1), vR 1, vR 78, vI (x3 + 6)] [] (SH T', c4))) : Q (cev 356 106 616 [vR (-1), vR 1, vR 78, vI x3] [] (SH T, c)) := by
  have j := j_flakes  h
  refine of_cev (Q := Q) ?_
  refine wq_callI (Q := Q) rfl j ?_
  intro r1 c2 k
  obtain ⟨s1, k⟩ := k
  refine wq_callI (Q := Q) rfl k ?_
  intro r3 c4 q
  obtain ⟨e2, s2, hr⟩ := q
  refine wq_ite (Q := Q) (p := r1 = r3) (fun _ => ?_) (fun z => absurd e2.symm z)
  show Q (cev 356 106 1828 [vR (-1), vR 1, vR 78, vI x3] [] (SH T, c4))
  exact lw_next (hl.sc s2) (kn T c4 s2 hr)
theorem lw_11 (hl : SL c x3) (h : REL T c n) (hn : n < 512) (kn : ∀ T' c4, SC c c4 → REL T' c4 (n + 1) → Q (cev 356 106 18 [vR (-1), vR 1, vR 78, vI (x3 + 6)] [] (SH T', c4))) : Q (cev 356 106 629 [vR (-1), vR 1, vR 78, vI x3] [] (SH T, c)) := by
  obtain ⟨T', r1, c2, e, s1, k⟩ := j_law h hn
  refine of_cev (Q := Q) ?_
  refine wq_sum (Q := Q) rfl e ?_
  refine wq_callI (Q := Q) rfl k ?_
  intro r3 c4 q
  obtain ⟨e2, s2, hr⟩ := q
  refine wq_ite (Q := Q) (p := r1 = r3) (fun _ => ?_) (fun z => absurd e2.symm z)
  show Q (cev 356 106 1828 [vR (-1), vR 1, vR 78, vI x3] [] (SH T', c4))
  exact lw_next (hl.sc s2) (kn T' c4 s2 hr)
theorem lw_12 (hl : SL c x3) (h : REL T c n) (hn : n < 512) (kn : ∀ T' c4, SC c c4 → REL T' c4 (n + 1) → Q (cev 356 106 18 [vR (-1), vR 1, vR 78, vI (x3 + 6)] [] (SH T', c4))) : Q (cev 356 106 642 [vR (-1), vR 1, vR 78, vI x3] [] (SH T, c)) := by
  have j := j_orders  h hn
  refine of_cev (Q := Q) ?_
  refine wq_callI (Q := Q) rfl j ?_
  intro r1 c2 k
  obtain ⟨s1, k⟩ := k
  refine wq_callI (Q := Q) rfl k ?_
  intro r3 c4 q
  obtain ⟨e2, s2, hr⟩ := q
  refine wq_ite (Q := Q) (p := r1 = r3) (fun _ => ?_) (fun z => absurd e2.symm z)
  show Q (cev 356 106 1828 [vR (-1), vR 1, vR 78, vI x3] [] (SH T, c4))
  exact lw_next (hl.sc s2) (kn T c4 s2 hr)
theorem lw_13 (hl : SL c x3) (h : REL T c n) (hn : n < 512) (kn : ∀ T' c4, SC c c4 → REL T' c4 (n + 1) → Q (cev 356 106 18 [vR (-1), vR 1, vR 78, vI (x3 + 6)] [] (SH T', c4))) : Q (cev 356 106 655 [vR (-1), vR 1, vR 78, vI x3] [] (SH T, c)) := by
  have j := j_fault  h
  refine of_cev (Q := Q) ?_
  refine wq_callI (Q := Q) rfl j ?_
  intro r1 c2 k
  obtain ⟨s1, k⟩ := k
  refine wq_callI (Q := Q) rfl k ?_
  intro r3 c4 q
  obtain ⟨e2, s2, hr⟩ := q
  refine wq_ite (Q := Q) (p := r1 = r3) (fun _ => ?_) (fun z => absurd e2.symm z)
  show Q (cev 356 106 1828 [vR (-1), vR 1, vR 78, vI x3] [] (SH T, c4))
  exact lw_next (hl.sc s2) (kn T c4 s2 hr)
theorem lw_14 (hl : SL c x3) (h : REL T c n) (hn : n < 512) (kn : ∀ T' c4, SC c c4 → REL T' c4 (n + 1) → Q (cev 356 106 18 [vR (-1), vR 1, vR 78, vI (x3 + 6)] [] (SH T', c4))) : Q (cev 356 106 668 [vR (-1), vR 1, vR 78, vI x3] [] (SH T, c)) := by
  have j := j_stopped  h
  refine of_cev (Q := Q) ?_
  refine wq_callI (Q := Q) rfl j ?_
  intro r1 c2 k
  obtain ⟨s1, k⟩ := k
  refine wq_callI (Q := Q) rfl k ?_
  intro r3 c4 q
  obtain ⟨e2, s2, hr⟩ := q
  refine wq_ite (Q := Q) (p := r1 = r3) (fun _ => ?_) (fun z => absurd e2.symm z)
  show Q (cev 356 106 1828 [vR (-1), vR 1, vR 78, vI x3] [] (SH T, c4))
  exact lw_next (hl.sc s2) (kn T c4 s2 hr)
theorem lw_15 (hl : SL c x3) (h : REL T c n) (hn : n < 512) (kn : ∀ T' c4, SC c c4 → REL T' c4 (n + 1) → Q (cev 356 106 18 [vR (-1), vR 1, vR 78, vI (x3 + 6)] [] (SH T', c4))) : Q (cev 356 106 681 [vR (-1), vR 1, vR 78, vI x3] [] (SH T, c)) := by
  have j := j_force (x := c 1000000 (x3 + 1)) h hn
  obtain ⟨⟨l0, l1, l2⟩, -⟩ := id hl
  refine of_cev (Q := Q) ?_
  refine wq_pos (Q := Q) (show -2147483648 ≤ x3 + 1 ∧ x3 + 1 < 2147483648 by omega) ?_
  refine wq_pos (Q := Q) (show 0 ≤ x3 + 1 ∧ x3 + 1 < c 1000001 0 by omega) ?_
  refine wq_callI (Q := Q) rfl j ?_
  intro r1 c2 k
  obtain ⟨s1, k⟩ := k
  rw [← s1.1] at k
  have e1 : c2 1000001 0 = c 1000001 0 := by rw [s1.2]
  refine wq_pos (Q := Q) (show -2147483648 ≤ x3 + 1 ∧ x3 + 1 < 2147483648 by omega) ?_
  refine wq_pos (Q := Q) (show 0 ≤ x3 + 1 ∧ x3 + 1 < c2 1000001 0 by omega) ?_
  refine wq_callI (Q := Q) rfl k ?_
  intro r3 c4 q
  obtain ⟨e2, s2, hr⟩ := q
  refine wq_ite (Q := Q) (p := r1 = r3) (fun _ => ?_) (fun z => absurd e2.symm z)
  show Q (cev 356 106 1828 [vR (-1), vR 1, vR 78, vI x3] [] (SH T, c4))
  exact lw_next (hl.sc s2) (kn T c4 s2 hr)
theorem lw_16 (hl : SL c x3) (h : REL T c n) (hn : n < 512) (kn : ∀ T' c4, SC c c4 → REL T' c4 (n + 1) → Q (cev 356 106 18 [vR (-1), vR 1, vR 78, vI (x3 + 6)] [] (SH T', c4))) : Q (cev 356 106 704 [vR (-1), vR 1, vR 78, vI x3] [] (SH T, c)) := by
  have j := j_looks (x := c 1000000 (x3 + 1)) (y := c 1000000 (x3 + 2)) (w := c 1000000 (x3 + 3)) h
  obtain ⟨⟨l0, l1, l2⟩, -⟩ := id hl
  refine of_cev (Q := Q) ?_
  refine wq_pos (Q := Q) (show -2147483648 ≤ x3 + 1 ∧ x3 + 1 < 2147483648 by omega) ?_
  refine wq_pos (Q := Q) (show 0 ≤ x3 + 1 ∧ x3 + 1 < c 1000001 0 by omega) ?_
  refine wq_pos (Q := Q) (show -2147483648 ≤ x3 + 2 ∧ x3 + 2 < 2147483648 by omega) ?_
  refine wq_pos (Q := Q) (show 0 ≤ x3 + 2 ∧ x3 + 2 < c 1000001 0 by omega) ?_
  refine wq_pos (Q := Q) (show -2147483648 ≤ x3 + 3 ∧ x3 + 3 < 2147483648 by omega) ?_
  refine wq_pos (Q := Q) (show 0 ≤ x3 + 3 ∧ x3 + 3 < c 1000001 0 by omega) ?_
  refine wq_callI (Q := Q) rfl j ?_
  intro r1 c2 k
  obtain ⟨s1, k⟩ := k
  rw [← s1.1] at k
  have e1 : c2 1000001 0 = c 1000001 0 := by rw [s1.2]
  refine wq_pos (Q := Q) (show -2147483648 ≤ x3 + 1 ∧ x3 + 1 < 2147483648 by omega) ?_
  refine wq_pos (Q := Q) (show 0 ≤ x3 + 1 ∧ x3 + 1 < c2 1000001 0 by omega) ?_
  refine wq_pos (Q := Q) (show -2147483648 ≤ x3 + 2 ∧ x3 + 2 < 2147483648 by omega) ?_
  refine wq_pos (Q := Q) (show 0 ≤ x3 + 2 ∧ x3 + 2 < c2 1000001 0 by omega) ?_
  refine wq_pos (Q := Q) (show -2147483648 ≤ x3 + 3 ∧ x3 + 3 < 2147483648 by omega) ?_
  refine wq_pos (Q := Q) (show 0 ≤ x3 + 3 ∧ x3 + 3 < c2 1000001 0 by omega) ?_
  refine wq_callI (Q := Q) rfl k ?_
  intro r3 c4 q
  obtain ⟨e2, s2, hr⟩ := q
  refine wq_ite (Q := Q) (p := r1 = r3) (fun _ => ?_) (fun z => absurd e2.symm z)
  show Q (cev 356 106 1828 [vR (-1), vR 1, vR 78, vI x3] [] (SH T, c4))
  exact lw_next (hl.sc s2) (kn T c4 s2 hr)
theorem lw_17 (hl : SL c x3) (h : REL T c n) (hn : n < 512) (kn : ∀ T' c4, SC c c4 → REL T' c4 (n + 1) → Q (cev 356 106 18 [vR (-1), vR 1, vR 78, vI (x3 + 6)] [] (SH T', c4))) : Q (cev 356 106 747 [vR (-1), vR 1, vR 78, vI x3] [] (SH T, c)) := by
  have j := j_asks (p := c 1000000 (x3 + 1)) (y := c 1000000 (x3 + 2)) (w := c 1000000 (x3 + 3)) h
  obtain ⟨⟨l0, l1, l2⟩, -⟩ := id hl
  refine of_cev (Q := Q) ?_
  refine wq_pos (Q := Q) (show -2147483648 ≤ x3 + 1 ∧ x3 + 1 < 2147483648 by omega) ?_
  refine wq_pos (Q := Q) (show 0 ≤ x3 + 1 ∧ x3 + 1 < c 1000001 0 by omega) ?_
  refine wq_pos (Q := Q) (show -2147483648 ≤ x3 + 2 ∧ x3 + 2 < 2147483648 by omega) ?_
  refine wq_pos (Q := Q) (show 0 ≤ x3 + 2 ∧ x3 + 2 < c 1000001 0 by omega) ?_
  refine wq_pos (Q := Q) (show -2147483648 ≤ x3 + 3 ∧ x3 + 3 < 2147483648 by omega) ?_
  refine wq_pos (Q := Q) (show 0 ≤ x3 + 3 ∧ x3 + 3 < c 1000001 0 by omega) ?_
  refine wq_callI (Q := Q) rfl j ?_
  intro r1 c2 k
  obtain ⟨s1, k⟩ := k
  rw [← s1.1] at k
  have e1 : c2 1000001 0 = c 1000001 0 := by rw [s1.2]
  refine wq_pos (Q := Q) (show -2147483648 ≤ x3 + 1 ∧ x3 + 1 < 2147483648 by omega) ?_
  refine wq_pos (Q := Q) (show 0 ≤ x3 + 1 ∧ x3 + 1 < c2 1000001 0 by omega) ?_
  refine wq_pos (Q := Q) (show -2147483648 ≤ x3 + 2 ∧ x3 + 2 < 2147483648 by omega) ?_
  refine wq_pos (Q := Q) (show 0 ≤ x3 + 2 ∧ x3 + 2 < c2 1000001 0 by omega) ?_
  refine wq_pos (Q := Q) (show -2147483648 ≤ x3 + 3 ∧ x3 + 3 < 2147483648 by omega) ?_
  refine wq_pos (Q := Q) (show 0 ≤ x3 + 3 ∧ x3 + 3 < c2 1000001 0 by omega) ?_
  refine wq_callI (Q := Q) rfl k ?_
  intro r3 c4 q
  obtain ⟨e2, s2, hr⟩ := q
  refine wq_ite (Q := Q) (p := r1 = r3) (fun _ => ?_) (fun z => absurd e2.symm z)
  show Q (cev 356 106 1828 [vR (-1), vR 1, vR 78, vI x3] [] (SH T, c4))
  exact lw_next (hl.sc s2) (kn T c4 s2 hr)
theorem lw_18 (hl : SL c x3) (h : REL T c n) (hn : n < 512) (kn : ∀ T' c4, SC c c4 → REL T' c4 (n + 1) → Q (cev 356 106 18 [vR (-1), vR 1, vR 78, vI (x3 + 6)] [] (SH T', c4))) : Q (cev 356 106 790 [vR (-1), vR 1, vR 78, vI x3] [] (SH T, c)) := by
  have j := j_paint (x := c 1000000 (x3 + 1)) h hn
  obtain ⟨⟨l0, l1, l2⟩, -⟩ := id hl
  refine of_cev (Q := Q) ?_
  refine wq_pos (Q := Q) (show -2147483648 ≤ x3 + 1 ∧ x3 + 1 < 2147483648 by omega) ?_
  refine wq_pos (Q := Q) (show 0 ≤ x3 + 1 ∧ x3 + 1 < c 1000001 0 by omega) ?_
  refine wq_callI (Q := Q) rfl j ?_
  intro r1 c2 k
  obtain ⟨s1, k⟩ := k
  rw [← s1.1] at k
  have e1 : c2 1000001 0 = c 1000001 0 := by rw [s1.2]
  refine wq_pos (Q := Q) (show -2147483648 ≤ x3 + 1 ∧ x3 + 1 < 2147483648 by omega) ?_
  refine wq_pos (Q := Q) (show 0 ≤ x3 + 1 ∧ x3 + 1 < c2 1000001 0 by omega) ?_
  refine wq_callI (Q := Q) rfl k ?_
  intro r3 c4 q
  obtain ⟨e2, s2, hr⟩ := q
  refine wq_ite (Q := Q) (p := r1 = r3) (fun _ => ?_) (fun z => absurd e2.symm z)
  show Q (cev 356 106 1828 [vR (-1), vR 1, vR 78, vI x3] [] (SH T, c4))
  exact lw_next (hl.sc s2) (kn T c4 s2 hr)
theorem lw_19 (hl : SL c x3) (h : REL T c n) (hn : n < 512) (kn : ∀ T' c4, SC c c4 → REL T' c4 (n + 1) → Q (cev 356 106 18 [vR (-1), vR 1, vR 78, vI (x3 + 6)] [] (SH T', c4))) : Q (cev 356 106 813 [vR (-1), vR 1, vR 78, vI x3] [] (SH T, c)) := by
  have j := j_scrape  h hn
  refine of_cev (Q := Q) ?_
  refine wq_callI (Q := Q) rfl j ?_
  intro r1 c2 k
  obtain ⟨s1, k⟩ := k
  refine wq_callI (Q := Q) rfl k ?_
  intro r3 c4 q
  obtain ⟨e2, s2, hr⟩ := q
  refine wq_ite (Q := Q) (p := r1 = r3) (fun _ => ?_) (fun z => absurd e2.symm z)
  show Q (cev 356 106 1828 [vR (-1), vR 1, vR 78, vI x3] [] (SH T, c4))
  exact lw_next (hl.sc s2) (kn T c4 s2 hr)
theorem lw_20 (hl : SL c x3) (h : REL T c n) (hn : n < 512) (kn : ∀ T' c4, SC c c4 → REL T' c4 (n + 1) → Q (cev 356 106 18 [vR (-1), vR 1, vR 78, vI (x3 + 6)] [] (SH T', c4))) : Q (cev 356 106 826 [vR (-1), vR 1, vR 78, vI x3] [] (SH T, c)) := by
  have j := j_tone (l := c 1000000 (x3 + 1)) (x := c 1000000 (x3 + 2)) h
  obtain ⟨⟨l0, l1, l2⟩, -⟩ := id hl
  refine of_cev (Q := Q) ?_
  refine wq_pos (Q := Q) (show -2147483648 ≤ x3 + 1 ∧ x3 + 1 < 2147483648 by omega) ?_
  refine wq_pos (Q := Q) (show 0 ≤ x3 + 1 ∧ x3 + 1 < c 1000001 0 by omega) ?_
  refine wq_pos (Q := Q) (show -2147483648 ≤ x3 + 2 ∧ x3 + 2 < 2147483648 by omega) ?_
  refine wq_pos (Q := Q) (show 0 ≤ x3 + 2 ∧ x3 + 2 < c 1000001 0 by omega) ?_
  refine wq_callI (Q := Q) rfl j ?_
  intro r1 c2 k
  obtain ⟨s1, k⟩ := k
  rw [← s1.1] at k
  have e1 : c2 1000001 0 = c 1000001 0 := by rw [s1.2]
  refine wq_pos (Q := Q) (show -2147483648 ≤ x3 + 1 ∧ x3 + 1 < 2147483648 by omega) ?_
  refine wq_pos (Q := Q) (show 0 ≤ x3 + 1 ∧ x3 + 1 < c2 1000001 0 by omega) ?_
  refine wq_pos (Q := Q) (show -2147483648 ≤ x3 + 2 ∧ x3 + 2 < 2147483648 by omega) ?_
  refine wq_pos (Q := Q) (show 0 ≤ x3 + 2 ∧ x3 + 2 < c2 1000001 0 by omega) ?_
  refine wq_callI (Q := Q) rfl k ?_
  intro r3 c4 q
  obtain ⟨e2, s2, hr⟩ := q
  refine wq_ite (Q := Q) (p := r1 = r3) (fun _ => ?_) (fun z => absurd e2.symm z)
  show Q (cev 356 106 1828 [vR (-1), vR 1, vR 78, vI x3] [] (SH T, c4))
  exact lw_next (hl.sc s2) (kn T c4 s2 hr)
theorem lw_21 (hl : SL c x3) (h : REL T c n) (hn : n < 512) (kn : ∀ T' c4, SC c c4 → REL T' c4 (n + 1) → Q (cev 356 106 18 [vR (-1), vR 1, vR 78, vI (x3 + 6)] [] (SH T', c4))) : Q (cev 356 106 859 [vR (-1), vR 1, vR 78, vI x3] [] (SH T, c)) := by
  have j := j_layer (l := c 1000000 (x3 + 1)) (w := c 1000000 (x3 + 2)) h
  obtain ⟨⟨l0, l1, l2⟩, -⟩ := id hl
  refine of_cev (Q := Q) ?_
  refine wq_pos (Q := Q) (show -2147483648 ≤ x3 + 1 ∧ x3 + 1 < 2147483648 by omega) ?_
  refine wq_pos (Q := Q) (show 0 ≤ x3 + 1 ∧ x3 + 1 < c 1000001 0 by omega) ?_
  refine wq_pos (Q := Q) (show -2147483648 ≤ x3 + 2 ∧ x3 + 2 < 2147483648 by omega) ?_
  refine wq_pos (Q := Q) (show 0 ≤ x3 + 2 ∧ x3 + 2 < c 1000001 0 by omega) ?_
  refine wq_callI (Q := Q) rfl j ?_
  intro r1 c2 k
  obtain ⟨s1, k⟩ := k
  rw [← s1.1] at k
  have e1 : c2 1000001 0 = c 1000001 0 := by rw [s1.2]
  refine wq_pos (Q := Q) (show -2147483648 ≤ x3 + 1 ∧ x3 + 1 < 2147483648 by omega) ?_
  refine wq_pos (Q := Q) (show 0 ≤ x3 + 1 ∧ x3 + 1 < c2 1000001 0 by omega) ?_
  refine wq_pos (Q := Q) (show -2147483648 ≤ x3 + 2 ∧ x3 + 2 < 2147483648 by omega) ?_
  refine wq_pos (Q := Q) (show 0 ≤ x3 + 2 ∧ x3 + 2 < c2 1000001 0 by omega) ?_
  refine wq_callI (Q := Q) rfl k ?_
  intro r3 c4 q
  obtain ⟨e2, s2, hr⟩ := q
  refine wq_ite (Q := Q) (p := r1 = r3) (fun _ => ?_) (fun z => absurd e2.symm z)
  show Q (cev 356 106 1828 [vR (-1), vR 1, vR 78, vI x3] [] (SH T, c4))
  exact lw_next (hl.sc s2) (kn T c4 s2 hr)
theorem lw_22 (hl : SL c x3) (h : REL T c n) (hn : n < 512) (kn : ∀ T' c4, SC c c4 → REL T' c4 (n + 1) → Q (cev 356 106 18 [vR (-1), vR 1, vR 78, vI (x3 + 6)] [] (SH T', c4))) : Q (cev 356 106 892 [vR (-1), vR 1, vR 78, vI x3] [] (SH T, c)) := by
  have j := j_unlawful  h
  refine of_cev (Q := Q) ?_
  refine wq_callI (Q := Q) rfl j ?_
  intro r1 c2 k
  obtain ⟨s1, k⟩ := k
  refine wq_callI (Q := Q) rfl k ?_
  intro r3 c4 q
  obtain ⟨e2, s2, hr⟩ := q
  refine wq_ite (Q := Q) (p := r1 = r3) (fun _ => ?_) (fun z => absurd e2.symm z)
  show Q (cev 356 106 1828 [vR (-1), vR 1, vR 78, vI x3] [] (SH T, c4))
  exact lw_next (hl.sc s2) (kn T c4 s2 hr)
theorem lw_23 (hl : SL c x3) (h : REL T c n) (hn : n < 512) (kn : ∀ T' c4, SC c c4 → REL T' c4 (n + 1) → Q (cev 356 106 18 [vR (-1), vR 1, vR 78, vI (x3 + 6)] [] (SH T', c4))) : Q (cev 356 106 905 [vR (-1), vR 1, vR 78, vI x3] [] (SH T, c)) := by
  have j := j_money (l := c 1000000 (x3 + 1)) h
  obtain ⟨⟨l0, l1, l2⟩, -⟩ := id hl
  refine of_cev (Q := Q) ?_
  refine wq_pos (Q := Q) (show -2147483648 ≤ x3 + 1 ∧ x3 + 1 < 2147483648 by omega) ?_
  refine wq_pos (Q := Q) (show 0 ≤ x3 + 1 ∧ x3 + 1 < c 1000001 0 by omega) ?_
  refine wq_callI (Q := Q) rfl j ?_
  intro r1 c2 k
  obtain ⟨s1, k⟩ := k
  rw [← s1.1] at k
  have e1 : c2 1000001 0 = c 1000001 0 := by rw [s1.2]
  refine wq_pos (Q := Q) (show -2147483648 ≤ x3 + 1 ∧ x3 + 1 < 2147483648 by omega) ?_
  refine wq_pos (Q := Q) (show 0 ≤ x3 + 1 ∧ x3 + 1 < c2 1000001 0 by omega) ?_
  refine wq_callI (Q := Q) rfl k ?_
  intro r3 c4 q
  obtain ⟨e2, s2, hr⟩ := q
  refine wq_ite (Q := Q) (p := r1 = r3) (fun _ => ?_) (fun z => absurd e2.symm z)
  show Q (cev 356 106 1828 [vR (-1), vR 1, vR 78, vI x3] [] (SH T, c4))
  exact lw_next (hl.sc s2) (kn T c4 s2 hr)
theorem lw_24 (hl : SL c x3) (h : REL T c n) (hn : n < 512) (kn : ∀ T' c4, SC c c4 → REL T' c4 (n + 1) → Q (cev 356 106 18 [vR (-1), vR 1, vR 78, vI (x3 + 6)] [] (SH T', c4))) : Q (cev 356 106 928 [vR (-1), vR 1, vR 78, vI x3] [] (SH T, c)) := by
  have j := j_broke  h
  refine of_cev (Q := Q) ?_
  refine wq_callI (Q := Q) rfl j ?_
  intro r1 c2 k
  obtain ⟨s1, k⟩ := k
  refine wq_callI (Q := Q) rfl k ?_
  intro r3 c4 q
  obtain ⟨e2, s2, hr⟩ := q
  refine wq_ite (Q := Q) (p := r1 = r3) (fun _ => ?_) (fun z => absurd e2.symm z)
  show Q (cev 356 106 1828 [vR (-1), vR 1, vR 78, vI x3] [] (SH T, c4))
  exact lw_next (hl.sc s2) (kn T c4 s2 hr)
theorem lw_25 (hl : SL c x3) (h : REL T c n) (hn : n < 512) (kn : ∀ T' c4, SC c c4 → REL T' c4 (n + 1) → Q (cev 356 106 18 [vR (-1), vR 1, vR 78, vI (x3 + 6)] [] (SH T', c4))) : Q (cev 356 106 941 [vR (-1), vR 1, vR 78, vI x3] [] (SH T, c)) := by
  have j := j_plan (b := c 1000000 (x3 + 1)) (m := c 1000000 (x3 + 2)) (w := c 1000000 (x3 + 3)) h
  obtain ⟨⟨l0, l1, l2⟩, -⟩ := id hl
  refine of_cev (Q := Q) ?_
  refine wq_pos (Q := Q) (show -2147483648 ≤ x3 + 1 ∧ x3 + 1 < 2147483648 by omega) ?_
  refine wq_pos (Q := Q) (show 0 ≤ x3 + 1 ∧ x3 + 1 < c 1000001 0 by omega) ?_
  refine wq_pos (Q := Q) (show -2147483648 ≤ x3 + 2 ∧ x3 + 2 < 2147483648 by omega) ?_
  refine wq_pos (Q := Q) (show 0 ≤ x3 + 2 ∧ x3 + 2 < c 1000001 0 by omega) ?_
  refine wq_pos (Q := Q) (show -2147483648 ≤ x3 + 3 ∧ x3 + 3 < 2147483648 by omega) ?_
  refine wq_pos (Q := Q) (show 0 ≤ x3 + 3 ∧ x3 + 3 < c 1000001 0 by omega) ?_
  refine wq_callI (Q := Q) rfl j ?_
  intro r1 c2 k
  obtain ⟨s1, k⟩ := k
  rw [← s1.1] at k
  have e1 : c2 1000001 0 = c 1000001 0 := by rw [s1.2]
  refine wq_pos (Q := Q) (show -2147483648 ≤ x3 + 1 ∧ x3 + 1 < 2147483648 by omega) ?_
  refine wq_pos (Q := Q) (show 0 ≤ x3 + 1 ∧ x3 + 1 < c2 1000001 0 by omega) ?_
  refine wq_pos (Q := Q) (show -2147483648 ≤ x3 + 2 ∧ x3 + 2 < 2147483648 by omega) ?_
  refine wq_pos (Q := Q) (show 0 ≤ x3 + 2 ∧ x3 + 2 < c2 1000001 0 by omega) ?_
  refine wq_pos (Q := Q) (show -2147483648 ≤ x3 + 3 ∧ x3 + 3 < 2147483648 by omega) ?_
  refine wq_pos (Q := Q) (show 0 ≤ x3 + 3 ∧ x3 + 3 < c2 1000001 0 by omega) ?_
  refine wq_callI (Q := Q) rfl k ?_
  intro r3 c4 q
  obtain ⟨e2, s2, hr⟩ := q
  refine wq_ite (Q := Q) (p := r1 = r3) (fun _ => ?_) (fun z => absurd e2.symm z)
  show Q (cev 356 106 1828 [vR (-1), vR 1, vR 78, vI x3] [] (SH T, c4))
  exact lw_next (hl.sc s2) (kn T c4 s2 hr)
theorem lw_26 (hl : SL c x3) (h : REL T c n) (hn : n < 512) (kn : ∀ T' c4, SC c c4 → REL T' c4 (n + 1) → Q (cev 356 106 18 [vR (-1), vR 1, vR 78, vI (x3 + 6)] [] (SH T', c4))) : Q (cev 356 106 984 [vR (-1), vR 1, vR 78, vI x3] [] (SH T, c)) := by
  have j := j_drift (x := c 1000000 (x3 + 1)) (m := c 1000000 (x3 + 2)) (w := c 1000000 (x3 + 3)) h
  obtain ⟨⟨l0, l1, l2⟩, -⟩ := id hl
  refine of_cev (Q := Q) ?_
  refine wq_pos (Q := Q) (show -2147483648 ≤ x3 + 1 ∧ x3 + 1 < 2147483648 by omega) ?_
  refine wq_pos (Q := Q) (show 0 ≤ x3 + 1 ∧ x3 + 1 < c 1000001 0 by omega) ?_
  refine wq_pos (Q := Q) (show -2147483648 ≤ x3 + 2 ∧ x3 + 2 < 2147483648 by omega) ?_
  refine wq_pos (Q := Q) (show 0 ≤ x3 + 2 ∧ x3 + 2 < c 1000001 0 by omega) ?_
  refine wq_pos (Q := Q) (show -2147483648 ≤ x3 + 3 ∧ x3 + 3 < 2147483648 by omega) ?_
  refine wq_pos (Q := Q) (show 0 ≤ x3 + 3 ∧ x3 + 3 < c 1000001 0 by omega) ?_
  refine wq_callI (Q := Q) rfl j ?_
  intro r1 c2 k
  obtain ⟨s1, k⟩ := k
  rw [← s1.1] at k
  have e1 : c2 1000001 0 = c 1000001 0 := by rw [s1.2]
  refine wq_pos (Q := Q) (show -2147483648 ≤ x3 + 1 ∧ x3 + 1 < 2147483648 by omega) ?_
  refine wq_pos (Q := Q) (show 0 ≤ x3 + 1 ∧ x3 + 1 < c2 1000001 0 by omega) ?_
  refine wq_pos (Q := Q) (show -2147483648 ≤ x3 + 2 ∧ x3 + 2 < 2147483648 by omega) ?_
  refine wq_pos (Q := Q) (show 0 ≤ x3 + 2 ∧ x3 + 2 < c2 1000001 0 by omega) ?_
  refine wq_pos (Q := Q) (show -2147483648 ≤ x3 + 3 ∧ x3 + 3 < 2147483648 by omega) ?_
  refine wq_pos (Q := Q) (show 0 ≤ x3 + 3 ∧ x3 + 3 < c2 1000001 0 by omega) ?_
  refine wq_callI (Q := Q) rfl k ?_
  intro r3 c4 q
  obtain ⟨e2, s2, hr⟩ := q
  refine wq_ite (Q := Q) (p := r1 = r3) (fun _ => ?_) (fun z => absurd e2.symm z)
  show Q (cev 356 106 1828 [vR (-1), vR 1, vR 78, vI x3] [] (SH T, c4))
  exact lw_next (hl.sc s2) (kn T c4 s2 hr)
theorem lw_27 (hl : SL c x3) (h : REL T c n) (hn : n < 512) (kn : ∀ T' c4, SC c c4 → REL T' c4 (n + 1) → Q (cev 356 106 18 [vR (-1), vR 1, vR 78, vI (x3 + 6)] [] (SH T', c4))) : Q (cev 356 106 1027 [vR (-1), vR 1, vR 78, vI x3] [] (SH T, c)) := by
  have j := j_undoing (i := c 1000000 (x3 + 1)) h
  obtain ⟨⟨l0, l1, l2⟩, -⟩ := id hl
  refine of_cev (Q := Q) ?_
  refine wq_pos (Q := Q) (show -2147483648 ≤ x3 + 1 ∧ x3 + 1 < 2147483648 by omega) ?_
  refine wq_pos (Q := Q) (show 0 ≤ x3 + 1 ∧ x3 + 1 < c 1000001 0 by omega) ?_
  refine wq_callI (Q := Q) rfl j ?_
  intro r1 c2 k
  obtain ⟨s1, k⟩ := k
  rw [← s1.1] at k
  have e1 : c2 1000001 0 = c 1000001 0 := by rw [s1.2]
  refine wq_pos (Q := Q) (show -2147483648 ≤ x3 + 1 ∧ x3 + 1 < 2147483648 by omega) ?_
  refine wq_pos (Q := Q) (show 0 ≤ x3 + 1 ∧ x3 + 1 < c2 1000001 0 by omega) ?_
  refine wq_callI (Q := Q) rfl k ?_
  intro r3 c4 q
  obtain ⟨e2, s2, hr⟩ := q
  refine wq_ite (Q := Q) (p := r1 = r3) (fun _ => ?_) (fun z => absurd e2.symm z)
  show Q (cev 356 106 1828 [vR (-1), vR 1, vR 78, vI x3] [] (SH T, c4))
  exact lw_next (hl.sc s2) (kn T c4 s2 hr)
theorem lw_28 (hl : SL c x3) (h : REL T c n) (hn : n < 512) (kn : ∀ T' c4, SC c c4 → REL T' c4 (n + 1) → Q (cev 356 106 18 [vR (-1), vR 1, vR 78, vI (x3 + 6)] [] (SH T', c4))) : Q (cev 356 106 1050 [vR (-1), vR 1, vR 78, vI x3] [] (SH T, c)) := by
  have j := j_copy  h hn
  refine of_cev (Q := Q) ?_
  refine wq_callI (Q := Q) rfl j ?_
  intro r1 c2 k
  obtain ⟨s1, k⟩ := k
  refine wq_callI (Q := Q) rfl k ?_
  intro r3 c4 q
  obtain ⟨e2, s2, hr⟩ := q
  refine wq_ite (Q := Q) (p := r1 = r3) (fun _ => ?_) (fun z => absurd e2.symm z)
  show Q (cev 356 106 1828 [vR (-1), vR 1, vR 78, vI x3] [] (SH T, c4))
  exact lw_next (hl.sc s2) (kn T c4 s2 hr)
theorem lw_29 (hl : SL c x3) (h : REL T c n) (hn : n < 512) (kn : ∀ T' c4, SC c c4 → REL T' c4 (n + 1) → Q (cev 356 106 18 [vR (-1), vR 1, vR 78, vI (x3 + 6)] [] (SH T', c4))) : Q (cev 356 106 1063 [vR (-1), vR 1, vR 78, vI x3] [] (SH T, c)) := by
  have j := j_touch (x := c 1000000 (x3 + 1)) (y := c 1000000 (x3 + 2)) (v := c 1000000 (x3 + 3)) h hn
  obtain ⟨⟨l0, l1, l2⟩, -⟩ := id hl
  refine of_cev (Q := Q) ?_
  refine wq_pos (Q := Q) (show -2147483648 ≤ x3 + 1 ∧ x3 + 1 < 2147483648 by omega) ?_
  refine wq_pos (Q := Q) (show 0 ≤ x3 + 1 ∧ x3 + 1 < c 1000001 0 by omega) ?_
  refine wq_pos (Q := Q) (show -2147483648 ≤ x3 + 2 ∧ x3 + 2 < 2147483648 by omega) ?_
  refine wq_pos (Q := Q) (show 0 ≤ x3 + 2 ∧ x3 + 2 < c 1000001 0 by omega) ?_
  refine wq_pos (Q := Q) (show -2147483648 ≤ x3 + 3 ∧ x3 + 3 < 2147483648 by omega) ?_
  refine wq_pos (Q := Q) (show 0 ≤ x3 + 3 ∧ x3 + 3 < c 1000001 0 by omega) ?_
  refine wq_callI (Q := Q) rfl j ?_
  intro r1 c2 k
  obtain ⟨s1, k⟩ := k
  rw [← s1.1] at k
  have e1 : c2 1000001 0 = c 1000001 0 := by rw [s1.2]
  refine wq_pos (Q := Q) (show -2147483648 ≤ x3 + 1 ∧ x3 + 1 < 2147483648 by omega) ?_
  refine wq_pos (Q := Q) (show 0 ≤ x3 + 1 ∧ x3 + 1 < c2 1000001 0 by omega) ?_
  refine wq_pos (Q := Q) (show -2147483648 ≤ x3 + 2 ∧ x3 + 2 < 2147483648 by omega) ?_
  refine wq_pos (Q := Q) (show 0 ≤ x3 + 2 ∧ x3 + 2 < c2 1000001 0 by omega) ?_
  refine wq_pos (Q := Q) (show -2147483648 ≤ x3 + 3 ∧ x3 + 3 < 2147483648 by omega) ?_
  refine wq_pos (Q := Q) (show 0 ≤ x3 + 3 ∧ x3 + 3 < c2 1000001 0 by omega) ?_
  refine wq_callI (Q := Q) rfl k ?_
  intro r3 c4 q
  obtain ⟨e2, s2, hr⟩ := q
  refine wq_ite (Q := Q) (p := r1 = r3) (fun _ => ?_) (fun z => absurd e2.symm z)
  show Q (cev 356 106 1828 [vR (-1), vR 1, vR 78, vI x3] [] (SH T, c4))
  exact lw_next (hl.sc s2) (kn T c4 s2 hr)
theorem lw_30 (hl : SL c x3) (h : REL T c n) (hn : n < 512) (kn : ∀ T' c4, SC c c4 → REL T' c4 (n + 1) → Q (cev 356 106 18 [vR (-1), vR 1, vR 78, vI (x3 + 6)] [] (SH T', c4))) : Q (cev 356 106 1106 [vR (-1), vR 1, vR 78, vI x3] [] (SH T, c)) := by
  have j := j_burn  h
  refine of_cev (Q := Q) ?_
  refine wq_callI (Q := Q) rfl j ?_
  intro r1 c2 k
  obtain ⟨s1, k⟩ := k
  refine wq_callI (Q := Q) rfl k ?_
  intro r3 c4 q
  obtain ⟨e2, s2, hr⟩ := q
  refine wq_ite (Q := Q) (p := r1 = r3) (fun _ => ?_) (fun z => absurd e2.symm z)
  show Q (cev 356 106 1828 [vR (-1), vR 1, vR 78, vI x3] [] (SH T, c4))
  exact lw_next (hl.sc s2) (kn T c4 s2 hr)
theorem lw_31 (hl : SL c x3) (h : REL T c n) (hn : n < 512) (kn : ∀ T' c4, SC c c4 → REL T' c4 (n + 1) → Q (cev 356 106 18 [vR (-1), vR 1, vR 78, vI (x3 + 6)] [] (SH T', c4))) : Q (cev 356 106 1119 [vR (-1), vR 1, vR 78, vI x3] [] (SH T, c)) := by
  have j := j_near (q := c 1000000 (x3 + 1)) h
  obtain ⟨⟨l0, l1, l2⟩, -⟩ := id hl
  refine of_cev (Q := Q) ?_
  refine wq_pos (Q := Q) (show -2147483648 ≤ x3 + 1 ∧ x3 + 1 < 2147483648 by omega) ?_
  refine wq_pos (Q := Q) (show 0 ≤ x3 + 1 ∧ x3 + 1 < c 1000001 0 by omega) ?_
  refine wq_callI (Q := Q) rfl j ?_
  intro r1 c2 k
  obtain ⟨s1, k⟩ := k
  rw [← s1.1] at k
  have e1 : c2 1000001 0 = c 1000001 0 := by rw [s1.2]
  refine wq_pos (Q := Q) (show -2147483648 ≤ x3 + 1 ∧ x3 + 1 < 2147483648 by omega) ?_
  refine wq_pos (Q := Q) (show 0 ≤ x3 + 1 ∧ x3 + 1 < c2 1000001 0 by omega) ?_
  refine wq_callI (Q := Q) rfl k ?_
  intro r3 c4 q
  obtain ⟨e2, s2, hr⟩ := q
  refine wq_ite (Q := Q) (p := r1 = r3) (fun _ => ?_) (fun z => absurd e2.symm z)
  show Q (cev 356 106 1828 [vR (-1), vR 1, vR 78, vI x3] [] (SH T, c4))
  exact lw_next (hl.sc s2) (kn T c4 s2 hr)
theorem lw_32 (hl : SL c x3) (h : REL T c n) (hn : n < 512) (kn : ∀ T' c4, SC c c4 → REL T' c4 (n + 1) → Q (cev 356 106 18 [vR (-1), vR 1, vR 78, vI (x3 + 6)] [] (SH T', c4))) : Q (cev 356 106 1142 [vR (-1), vR 1, vR 78, vI x3] [] (SH T, c)) := by
  have j := j_like (a := c 1000000 (x3 + 1)) (b := c 1000000 (x3 + 2)) h
  obtain ⟨⟨l0, l1, l2⟩, -⟩ := id hl
  refine of_cev (Q := Q) ?_
  refine wq_pos (Q := Q) (show -2147483648 ≤ x3 + 1 ∧ x3 + 1 < 2147483648 by omega) ?_
  refine wq_pos (Q := Q) (show 0 ≤ x3 + 1 ∧ x3 + 1 < c 1000001 0 by omega) ?_
  refine wq_pos (Q := Q) (show -2147483648 ≤ x3 + 2 ∧ x3 + 2 < 2147483648 by omega) ?_
  refine wq_pos (Q := Q) (show 0 ≤ x3 + 2 ∧ x3 + 2 < c 1000001 0 by omega) ?_
  refine wq_callI (Q := Q) rfl j ?_
  intro r1 c2 k
  obtain ⟨s1, k⟩ := k
  rw [← s1.1] at k
  have e1 : c2 1000001 0 = c 1000001 0 := by rw [s1.2]
  refine wq_pos (Q := Q) (show -2147483648 ≤ x3 + 1 ∧ x3 + 1 < 2147483648 by omega) ?_
  refine wq_pos (Q := Q) (show 0 ≤ x3 + 1 ∧ x3 + 1 < c2 1000001 0 by omega) ?_
  refine wq_pos (Q := Q) (show -2147483648 ≤ x3 + 2 ∧ x3 + 2 < 2147483648 by omega) ?_
  refine wq_pos (Q := Q) (show 0 ≤ x3 + 2 ∧ x3 + 2 < c2 1000001 0 by omega) ?_
  refine wq_callI (Q := Q) rfl k ?_
  intro r3 c4 q
  obtain ⟨e2, s2, hr⟩ := q
  refine wq_ite (Q := Q) (p := r1 = r3) (fun _ => ?_) (fun z => absurd e2.symm z)
  show Q (cev 356 106 1828 [vR (-1), vR 1, vR 78, vI x3] [] (SH T, c4))
  exact lw_next (hl.sc s2) (kn T c4 s2 hr)
theorem lw_33 (hl : SL c x3) (h : REL T c n) (hn : n < 512) (kn : ∀ T' c4, SC c c4 → REL T' c4 (n + 1) → Q (cev 356 106 18 [vR (-1), vR 1, vR 78, vI (x3 + 6)] [] (SH T', c4))) : Q (cev 356 106 1175 [vR (-1), vR 1, vR 78, vI x3] [] (SH T, c)) := by
  have j := j_tree (w := c 1000000 (x3 + 1)) h
  obtain ⟨⟨l0, l1, l2⟩, -⟩ := id hl
  refine of_cev (Q := Q) ?_
  refine wq_pos (Q := Q) (show -2147483648 ≤ x3 + 1 ∧ x3 + 1 < 2147483648 by omega) ?_
  refine wq_pos (Q := Q) (show 0 ≤ x3 + 1 ∧ x3 + 1 < c 1000001 0 by omega) ?_
  refine wq_callI (Q := Q) rfl j ?_
  intro r1 c2 k
  obtain ⟨s1, k⟩ := k
  rw [← s1.1] at k
  have e1 : c2 1000001 0 = c 1000001 0 := by rw [s1.2]
  refine wq_pos (Q := Q) (show -2147483648 ≤ x3 + 1 ∧ x3 + 1 < 2147483648 by omega) ?_
  refine wq_pos (Q := Q) (show 0 ≤ x3 + 1 ∧ x3 + 1 < c2 1000001 0 by omega) ?_
  refine wq_callI (Q := Q) rfl k ?_
  intro r3 c4 q
  obtain ⟨e2, s2, hr⟩ := q
  refine wq_ite (Q := Q) (p := r1 = r3) (fun _ => ?_) (fun z => absurd e2.symm z)
  show Q (cev 356 106 1828 [vR (-1), vR 1, vR 78, vI x3] [] (SH T, c4))
  exact lw_next (hl.sc s2) (kn T c4 s2 hr)
theorem lw_34 (hl : SL c x3) (h : REL T c n) (hn : n < 512) (kn : ∀ T' c4, SC c c4 → REL T' c4 (n + 1) → Q (cev 356 106 18 [vR (-1), vR 1, vR 78, vI (x3 + 6)] [] (SH T', c4))) : Q (cev 356 106 1198 [vR (-1), vR 1, vR 78, vI x3] [] (SH T, c)) := by
  have j := j_trees  h
  refine of_cev (Q := Q) ?_
  refine wq_callI (Q := Q) rfl j ?_
  intro r1 c2 k
  obtain ⟨s1, k⟩ := k
  refine wq_callI (Q := Q) rfl k ?_
  intro r3 c4 q
  obtain ⟨e2, s2, hr⟩ := q
  refine wq_ite (Q := Q) (p := r1 = r3) (fun _ => ?_) (fun z => absurd e2.symm z)
  show Q (cev 356 106 1828 [vR (-1), vR 1, vR 78, vI x3] [] (SH T, c4))
  exact lw_next (hl.sc s2) (kn T c4 s2 hr)
theorem lw_35 (hl : SL c x3) (h : REL T c n) (hn : n < 512) (kn : ∀ T' c4, SC c c4 → REL T' c4 (n + 1) → Q (cev 356 106 18 [vR (-1), vR 1, vR 78, vI (x3 + 6)] [] (SH T', c4))) : Q (cev 356 106 1211 [vR (-1), vR 1, vR 78, vI x3] [] (SH T, c)) := by
  have j := j_dated (q := c 1000000 (x3 + 1)) (w := c 1000000 (x3 + 2)) h
  obtain ⟨⟨l0, l1, l2⟩, -⟩ := id hl
  refine of_cev (Q := Q) ?_
  refine wq_pos (Q := Q) (show -2147483648 ≤ x3 + 1 ∧ x3 + 1 < 2147483648 by omega) ?_
  refine wq_pos (Q := Q) (show 0 ≤ x3 + 1 ∧ x3 + 1 < c 1000001 0 by omega) ?_
  refine wq_pos (Q := Q) (show -2147483648 ≤ x3 + 2 ∧ x3 + 2 < 2147483648 by omega) ?_
  refine wq_pos (Q := Q) (show 0 ≤ x3 + 2 ∧ x3 + 2 < c 1000001 0 by omega) ?_
  refine wq_callI (Q := Q) rfl j ?_
  intro r1 c2 k
  obtain ⟨s1, k⟩ := k
  rw [← s1.1] at k
  have e1 : c2 1000001 0 = c 1000001 0 := by rw [s1.2]
  refine wq_pos (Q := Q) (show -2147483648 ≤ x3 + 1 ∧ x3 + 1 < 2147483648 by omega) ?_
  refine wq_pos (Q := Q) (show 0 ≤ x3 + 1 ∧ x3 + 1 < c2 1000001 0 by omega) ?_
  refine wq_pos (Q := Q) (show -2147483648 ≤ x3 + 2 ∧ x3 + 2 < 2147483648 by omega) ?_
  refine wq_pos (Q := Q) (show 0 ≤ x3 + 2 ∧ x3 + 2 < c2 1000001 0 by omega) ?_
  refine wq_callI (Q := Q) rfl k ?_
  intro r3 c4 q
  obtain ⟨e2, s2, hr⟩ := q
  refine wq_ite (Q := Q) (p := r1 = r3) (fun _ => ?_) (fun z => absurd e2.symm z)
  show Q (cev 356 106 1828 [vR (-1), vR 1, vR 78, vI x3] [] (SH T, c4))
  exact lw_next (hl.sc s2) (kn T c4 s2 hr)
theorem lw_36 (hl : SL c x3) (h : REL T c n) (hn : n < 512) (kn : ∀ T' c4, SC c c4 → REL T' c4 (n + 1) → Q (cev 356 106 18 [vR (-1), vR 1, vR 78, vI (x3 + 6)] [] (SH T', c4))) : Q (cev 356 106 1244 [vR (-1), vR 1, vR 78, vI x3] [] (SH T, c)) := by
  have j := j_know (w := c 1000000 (x3 + 1)) h
  obtain ⟨⟨l0, l1, l2⟩, -⟩ := id hl
  refine of_cev (Q := Q) ?_
  refine wq_pos (Q := Q) (show -2147483648 ≤ x3 + 1 ∧ x3 + 1 < 2147483648 by omega) ?_
  refine wq_pos (Q := Q) (show 0 ≤ x3 + 1 ∧ x3 + 1 < c 1000001 0 by omega) ?_
  refine wq_callI (Q := Q) rfl j ?_
  intro r1 c2 k
  obtain ⟨s1, k⟩ := k
  rw [← s1.1] at k
  have e1 : c2 1000001 0 = c 1000001 0 := by rw [s1.2]
  refine wq_pos (Q := Q) (show -2147483648 ≤ x3 + 1 ∧ x3 + 1 < 2147483648 by omega) ?_
  refine wq_pos (Q := Q) (show 0 ≤ x3 + 1 ∧ x3 + 1 < c2 1000001 0 by omega) ?_
  refine wq_callI (Q := Q) rfl k ?_
  intro r3 c4 q
  obtain ⟨e2, s2, hr⟩ := q
  refine wq_ite (Q := Q) (p := r1 = r3) (fun _ => ?_) (fun z => absurd e2.symm z)
  show Q (cev 356 106 1828 [vR (-1), vR 1, vR 78, vI x3] [] (SH T, c4))
  exact lw_next (hl.sc s2) (kn T c4 s2 hr)
theorem lw_37 (hl : SL c x3) (h : REL T c n) (hn : n < 512) (kn : ∀ T' c4, SC c c4 → REL T' c4 (n + 1) → Q (cev 356 106 18 [vR (-1), vR 1, vR 78, vI (x3 + 6)] [] (SH T', c4))) : Q (cev 356 106 1267 [vR (-1), vR 1, vR 78, vI x3] [] (SH T, c)) := by
  have j := j_who (l := c 1000000 (x3 + 1)) h
  obtain ⟨⟨l0, l1, l2⟩, -⟩ := id hl
  refine of_cev (Q := Q) ?_
  refine wq_pos (Q := Q) (show -2147483648 ≤ x3 + 1 ∧ x3 + 1 < 2147483648 by omega) ?_
  refine wq_pos (Q := Q) (show 0 ≤ x3 + 1 ∧ x3 + 1 < c 1000001 0 by omega) ?_
  refine wq_callI (Q := Q) rfl j ?_
  intro r1 c2 k
  obtain ⟨s1, k⟩ := k
  rw [← s1.1] at k
  have e1 : c2 1000001 0 = c 1000001 0 := by rw [s1.2]
  refine wq_pos (Q := Q) (show -2147483648 ≤ x3 + 1 ∧ x3 + 1 < 2147483648 by omega) ?_
  refine wq_pos (Q := Q) (show 0 ≤ x3 + 1 ∧ x3 + 1 < c2 1000001 0 by omega) ?_
  refine wq_callI (Q := Q) rfl k ?_
  intro r3 c4 q
  obtain ⟨e2, s2, hr⟩ := q
  refine wq_ite (Q := Q) (p := r1 = r3) (fun _ => ?_) (fun z => absurd e2.symm z)
  show Q (cev 356 106 1828 [vR (-1), vR 1, vR 78, vI x3] [] (SH T, c4))
  exact lw_next (hl.sc s2) (kn T c4 s2 hr)
theorem lw_38 (hl : SL c x3) (h : REL T c n) (hn : n < 512) (kn : ∀ T' c4, SC c c4 → REL T' c4 (n + 1) → Q (cev 356 106 18 [vR (-1), vR 1, vR 78, vI (x3 + 6)] [] (SH T', c4))) : Q (cev 356 106 1290 [vR (-1), vR 1, vR 78, vI x3] [] (SH T, c)) := by
  have j := j_forge (x := c 1000000 (x3 + 1)) (y := c 1000000 (x3 + 2)) (v := c 1000000 (x3 + 3)) h hn
  obtain ⟨⟨l0, l1, l2⟩, -⟩ := id hl
  refine of_cev (Q := Q) ?_
  refine wq_pos (Q := Q) (show -2147483648 ≤ x3 + 1 ∧ x3 + 1 < 2147483648 by omega) ?_
  refine wq_pos (Q := Q) (show 0 ≤ x3 + 1 ∧ x3 + 1 < c 1000001 0 by omega) ?_
  refine wq_pos (Q := Q) (show -2147483648 ≤ x3 + 2 ∧ x3 + 2 < 2147483648 by omega) ?_
  refine wq_pos (Q := Q) (show 0 ≤ x3 + 2 ∧ x3 + 2 < c 1000001 0 by omega) ?_
  refine wq_pos (Q := Q) (show -2147483648 ≤ x3 + 3 ∧ x3 + 3 < 2147483648 by omega) ?_
  refine wq_pos (Q := Q) (show 0 ≤ x3 + 3 ∧ x3 + 3 < c 1000001 0 by omega) ?_
  refine wq_callI (Q := Q) rfl j ?_
  intro r1 c2 k
  obtain ⟨s1, k⟩ := k
  rw [← s1.1] at k
  have e1 : c2 1000001 0 = c 1000001 0 := by rw [s1.2]
  refine wq_pos (Q := Q) (show -2147483648 ≤ x3 + 1 ∧ x3 + 1 < 2147483648 by omega) ?_
  refine wq_pos (Q := Q) (show 0 ≤ x3 + 1 ∧ x3 + 1 < c2 1000001 0 by omega) ?_
  refine wq_pos (Q := Q) (show -2147483648 ≤ x3 + 2 ∧ x3 + 2 < 2147483648 by omega) ?_
  refine wq_pos (Q := Q) (show 0 ≤ x3 + 2 ∧ x3 + 2 < c2 1000001 0 by omega) ?_
  refine wq_pos (Q := Q) (show -2147483648 ≤ x3 + 3 ∧ x3 + 3 < 2147483648 by omega) ?_
  refine wq_pos (Q := Q) (show 0 ≤ x3 + 3 ∧ x3 + 3 < c2 1000001 0 by omega) ?_
  refine wq_callI (Q := Q) rfl k ?_
  intro r3 c4 q
  obtain ⟨e2, s2, hr⟩ := q
  refine wq_ite (Q := Q) (p := r1 = r3) (fun _ => ?_) (fun z => absurd e2.symm z)
  show Q (cev 356 106 1828 [vR (-1), vR 1, vR 78, vI x3] [] (SH T, c4))
  exact lw_next (hl.sc s2) (kn T c4 s2 hr)
theorem lw_39 (hl : SL c x3) (h : REL T c n) (hn : n < 512) (kn : ∀ T' c4, SC c c4 → REL T' c4 (n + 1) → Q (cev 356 106 18 [vR (-1), vR 1, vR 78, vI (x3 + 6)] [] (SH T', c4))) : Q (cev 356 106 1333 [vR (-1), vR 1, vR 78, vI x3] [] (SH T, c)) := by
  have j := j_skipped  h
  refine of_cev (Q := Q) ?_
  refine wq_callI (Q := Q) rfl j ?_
  intro r1 c2 k
  obtain ⟨s1, k⟩ := k
  refine wq_callI (Q := Q) rfl k ?_
  intro r3 c4 q
  obtain ⟨e2, s2, hr⟩ := q
  refine wq_ite (Q := Q) (p := r1 = r3) (fun _ => ?_) (fun z => absurd e2.symm z)
  show Q (cev 356 106 1828 [vR (-1), vR 1, vR 78, vI x3] [] (SH T, c4))
  exact lw_next (hl.sc s2) (kn T c4 s2 hr)
theorem lw_40 (hl : SL c x3) (h : REL T c n) (hn : n < 512) (kn : ∀ T' c4, SC c c4 → REL T' c4 (n + 1) → Q (cev 356 106 18 [vR (-1), vR 1, vR 78, vI (x3 + 6)] [] (SH T', c4))) : Q (cev 356 106 1346 [vR (-1), vR 1, vR 78, vI x3] [] (SH T, c)) := by
  have j := j_missing (l := c 1000000 (x3 + 1)) (y := c 1000000 (x3 + 2)) h
  obtain ⟨⟨l0, l1, l2⟩, -⟩ := id hl
  refine of_cev (Q := Q) ?_
  refine wq_pos (Q := Q) (show -2147483648 ≤ x3 + 1 ∧ x3 + 1 < 2147483648 by omega) ?_
  refine wq_pos (Q := Q) (show 0 ≤ x3 + 1 ∧ x3 + 1 < c 1000001 0 by omega) ?_
  refine wq_pos (Q := Q) (show -2147483648 ≤ x3 + 2 ∧ x3 + 2 < 2147483648 by omega) ?_
  refine wq_pos (Q := Q) (show 0 ≤ x3 + 2 ∧ x3 + 2 < c 1000001 0 by omega) ?_
  refine wq_callI (Q := Q) rfl j ?_
  intro r1 c2 k
  obtain ⟨s1, k⟩ := k
  rw [← s1.1] at k
  have e1 : c2 1000001 0 = c 1000001 0 := by rw [s1.2]
  refine wq_pos (Q := Q) (show -2147483648 ≤ x3 + 1 ∧ x3 + 1 < 2147483648 by omega) ?_
  refine wq_pos (Q := Q) (show 0 ≤ x3 + 1 ∧ x3 + 1 < c2 1000001 0 by omega) ?_
  refine wq_pos (Q := Q) (show -2147483648 ≤ x3 + 2 ∧ x3 + 2 < 2147483648 by omega) ?_
  refine wq_pos (Q := Q) (show 0 ≤ x3 + 2 ∧ x3 + 2 < c2 1000001 0 by omega) ?_
  refine wq_callI (Q := Q) rfl k ?_
  intro r3 c4 q
  obtain ⟨e2, s2, hr⟩ := q
  refine wq_ite (Q := Q) (p := r1 = r3) (fun _ => ?_) (fun z => absurd e2.symm z)
  show Q (cev 356 106 1828 [vR (-1), vR 1, vR 78, vI x3] [] (SH T, c4))
  exact lw_next (hl.sc s2) (kn T c4 s2 hr)
theorem lw_41 (hl : SL c x3) (h : REL T c n) (hn : n < 512) (kn : ∀ T' c4, SC c c4 → REL T' c4 (n + 1) → Q (cev 356 106 18 [vR (-1), vR 1, vR 78, vI (x3 + 6)] [] (SH T', c4))) : Q (cev 356 106 1379 [vR (-1), vR 1, vR 78, vI x3] [] (SH T, c)) := by
  have j := j_was (x := c 1000000 (x3 + 1)) h
  obtain ⟨⟨l0, l1, l2⟩, -⟩ := id hl
  refine of_cev (Q := Q) ?_
  refine wq_pos (Q := Q) (show -2147483648 ≤ x3 + 1 ∧ x3 + 1 < 2147483648 by omega) ?_
  refine wq_pos (Q := Q) (show 0 ≤ x3 + 1 ∧ x3 + 1 < c 1000001 0 by omega) ?_
  refine wq_callI (Q := Q) rfl j ?_
  intro r1 c2 k
  obtain ⟨s1, k⟩ := k
  rw [← s1.1] at k
  have e1 : c2 1000001 0 = c 1000001 0 := by rw [s1.2]
  refine wq_pos (Q := Q) (show -2147483648 ≤ x3 + 1 ∧ x3 + 1 < 2147483648 by omega) ?_
  refine wq_pos (Q := Q) (show 0 ≤ x3 + 1 ∧ x3 + 1 < c2 1000001 0 by omega) ?_
  refine wq_callI (Q := Q) rfl k ?_
  intro r3 c4 q
  obtain ⟨e2, s2, hr⟩ := q
  refine wq_ite (Q := Q) (p := r1 = r3) (fun _ => ?_) (fun z => absurd e2.symm z)
  show Q (cev 356 106 1828 [vR (-1), vR 1, vR 78, vI x3] [] (SH T, c4))
  exact lw_next (hl.sc s2) (kn T c4 s2 hr)
theorem lw_42 (hl : SL c x3) (h : REL T c n) (hn : n < 512) (kn : ∀ T' c4, SC c c4 → REL T' c4 (n + 1) → Q (cev 356 106 18 [vR (-1), vR 1, vR 78, vI (x3 + 6)] [] (SH T', c4))) : Q (cev 356 106 1402 [vR (-1), vR 1, vR 78, vI x3] [] (SH T, c)) := by
  have j := j_ways  h
  refine of_cev (Q := Q) ?_
  refine wq_callL (Q := Q) rfl j ?_
  intro r1 c2 k
  obtain ⟨s1, k⟩ := k
  refine wq_callL (Q := Q) rfl k ?_
  intro r3 c4 q
  obtain ⟨e2, s2, hr⟩ := q
  refine wq_lc0 (Q := Q) (x := r1) (y := r3) (fun _ => ?_) (fun z => absurd e2.symm z)
  show Q (cev 356 106 1828 [vR (-1), vR 1, vR 78, vI x3] [] (SH T, c4))
  exact lw_next (hl.sc s2) (kn T c4 s2 hr)
theorem lw_43 (hl : SL c x3) (h : REL T c n) (hn : n < 512) (kn : ∀ T' c4, SC c c4 → REL T' c4 (n + 1) → Q (cev 356 106 18 [vR (-1), vR 1, vR 78, vI (x3 + 6)] [] (SH T', c4))) : Q (cev 356 106 1416 [vR (-1), vR 1, vR 78, vI x3] [] (SH T, c)) := by
  have j := j_claimant (p := c 1000000 (x3 + 1)) (b := c 1000000 (x3 + 2)) (d := c 1000000 (x3 + 3)) (q := c 1000000 (x3 + 4)) h hn
  obtain ⟨⟨l0, l1, l2⟩, -⟩ := id hl
  refine of_cev (Q := Q) ?_
  refine wq_pos (Q := Q) (show -2147483648 ≤ x3 + 1 ∧ x3 + 1 < 2147483648 by omega) ?_
  refine wq_pos (Q := Q) (show 0 ≤ x3 + 1 ∧ x3 + 1 < c 1000001 0 by omega) ?_
  refine wq_pos (Q := Q) (show -2147483648 ≤ x3 + 2 ∧ x3 + 2 < 2147483648 by omega) ?_
  refine wq_pos (Q := Q) (show 0 ≤ x3 + 2 ∧ x3 + 2 < c 1000001 0 by omega) ?_
  refine wq_pos (Q := Q) (show -2147483648 ≤ x3 + 3 ∧ x3 + 3 < 2147483648 by omega) ?_
  refine wq_pos (Q := Q) (show 0 ≤ x3 + 3 ∧ x3 + 3 < c 1000001 0 by omega) ?_
  refine wq_pos (Q := Q) (show -2147483648 ≤ x3 + 4 ∧ x3 + 4 < 2147483648 by omega) ?_
  refine wq_pos (Q := Q) (show 0 ≤ x3 + 4 ∧ x3 + 4 < c 1000001 0 by omega) ?_
  refine wq_callI (Q := Q) rfl j ?_
  intro r1 c2 k
  obtain ⟨s1, k⟩ := k
  rw [← s1.1] at k
  have e1 : c2 1000001 0 = c 1000001 0 := by rw [s1.2]
  refine wq_pos (Q := Q) (show -2147483648 ≤ x3 + 1 ∧ x3 + 1 < 2147483648 by omega) ?_
  refine wq_pos (Q := Q) (show 0 ≤ x3 + 1 ∧ x3 + 1 < c2 1000001 0 by omega) ?_
  refine wq_pos (Q := Q) (show -2147483648 ≤ x3 + 2 ∧ x3 + 2 < 2147483648 by omega) ?_
  refine wq_pos (Q := Q) (show 0 ≤ x3 + 2 ∧ x3 + 2 < c2 1000001 0 by omega) ?_
  refine wq_pos (Q := Q) (show -2147483648 ≤ x3 + 3 ∧ x3 + 3 < 2147483648 by omega) ?_
  refine wq_pos (Q := Q) (show 0 ≤ x3 + 3 ∧ x3 + 3 < c2 1000001 0 by omega) ?_
  refine wq_pos (Q := Q) (show -2147483648 ≤ x3 + 4 ∧ x3 + 4 < 2147483648 by omega) ?_
  refine wq_pos (Q := Q) (show 0 ≤ x3 + 4 ∧ x3 + 4 < c2 1000001 0 by omega) ?_
  refine wq_callI (Q := Q) rfl k ?_
  intro r3 c4 q
  obtain ⟨e2, s2, hr⟩ := q
  refine wq_ite (Q := Q) (p := r1 = r3) (fun _ => ?_) (fun z => absurd e2.symm z)
  show Q (cev 356 106 1828 [vR (-1), vR 1, vR 78, vI x3] [] (SH T, c4))
  exact lw_next (hl.sc s2) (kn T c4 s2 hr)
theorem lw_44 (hl : SL c x3) (h : REL T c n) (hn : n < 512) (kn : ∀ T' c4, SC c c4 → REL T' c4 (n + 1) → Q (cev 356 106 18 [vR (-1), vR 1, vR 78, vI (x3 + 6)] [] (SH T', c4))) : Q (cev 356 106 1469 [vR (-1), vR 1, vR 78, vI x3] [] (SH T, c)) := by
  have j := j_claim (x := c 1000000 (x3 + 1)) (w := c 1000000 (x3 + 2)) (v := c 1000000 (x3 + 3)) h hn
  obtain ⟨⟨l0, l1, l2⟩, -⟩ := id hl
  refine of_cev (Q := Q) ?_
  refine wq_pos (Q := Q) (show -2147483648 ≤ x3 + 1 ∧ x3 + 1 < 2147483648 by omega) ?_
  refine wq_pos (Q := Q) (show 0 ≤ x3 + 1 ∧ x3 + 1 < c 1000001 0 by omega) ?_
  refine wq_pos (Q := Q) (show -2147483648 ≤ x3 + 2 ∧ x3 + 2 < 2147483648 by omega) ?_
  refine wq_pos (Q := Q) (show 0 ≤ x3 + 2 ∧ x3 + 2 < c 1000001 0 by omega) ?_
  refine wq_pos (Q := Q) (show -2147483648 ≤ x3 + 3 ∧ x3 + 3 < 2147483648 by omega) ?_
  refine wq_pos (Q := Q) (show 0 ≤ x3 + 3 ∧ x3 + 3 < c 1000001 0 by omega) ?_
  refine wq_callI (Q := Q) rfl j ?_
  intro r1 c2 k
  obtain ⟨s1, k⟩ := k
  rw [← s1.1] at k
  have e1 : c2 1000001 0 = c 1000001 0 := by rw [s1.2]
  refine wq_pos (Q := Q) (show -2147483648 ≤ x3 + 1 ∧ x3 + 1 < 2147483648 by omega) ?_
  refine wq_pos (Q := Q) (show 0 ≤ x3 + 1 ∧ x3 + 1 < c2 1000001 0 by omega) ?_
  refine wq_pos (Q := Q) (show -2147483648 ≤ x3 + 2 ∧ x3 + 2 < 2147483648 by omega) ?_
  refine wq_pos (Q := Q) (show 0 ≤ x3 + 2 ∧ x3 + 2 < c2 1000001 0 by omega) ?_
  refine wq_pos (Q := Q) (show -2147483648 ≤ x3 + 3 ∧ x3 + 3 < 2147483648 by omega) ?_
  refine wq_pos (Q := Q) (show 0 ≤ x3 + 3 ∧ x3 + 3 < c2 1000001 0 by omega) ?_
  refine wq_callI (Q := Q) rfl k ?_
  intro r3 c4 q
  obtain ⟨e2, s2, hr⟩ := q
  refine wq_ite (Q := Q) (p := r1 = r3) (fun _ => ?_) (fun z => absurd e2.symm z)
  show Q (cev 356 106 1828 [vR (-1), vR 1, vR 78, vI x3] [] (SH T, c4))
  exact lw_next (hl.sc s2) (kn T c4 s2 hr)
theorem lw_45 (hl : SL c x3) (h : REL T c n) (hn : n < 512) (kn : ∀ T' c4, SC c c4 → REL T' c4 (n + 1) → Q (cev 356 106 18 [vR (-1), vR 1, vR 78, vI (x3 + 6)] [] (SH T', c4))) : Q (cev 356 106 1512 [vR (-1), vR 1, vR 78, vI x3] [] (SH T, c)) := by
  have j := j_born (q := c 1000000 (x3 + 1)) (w := c 1000000 (x3 + 2)) h
  obtain ⟨⟨l0, l1, l2⟩, -⟩ := id hl
  refine of_cev (Q := Q) ?_
  refine wq_pos (Q := Q) (show -2147483648 ≤ x3 + 1 ∧ x3 + 1 < 2147483648 by omega) ?_
  refine wq_pos (Q := Q) (show 0 ≤ x3 + 1 ∧ x3 + 1 < c 1000001 0 by omega) ?_
  refine wq_pos (Q := Q) (show -2147483648 ≤ x3 + 2 ∧ x3 + 2 < 2147483648 by omega) ?_
  refine wq_pos (Q := Q) (show 0 ≤ x3 + 2 ∧ x3 + 2 < c 1000001 0 by omega) ?_
  refine wq_callI (Q := Q) rfl j ?_
  intro r1 c2 k
  obtain ⟨s1, k⟩ := k
  rw [← s1.1] at k
  have e1 : c2 1000001 0 = c 1000001 0 := by rw [s1.2]
  refine wq_pos (Q := Q) (show -2147483648 ≤ x3 + 1 ∧ x3 + 1 < 2147483648 by omega) ?_
  refine wq_pos (Q := Q) (show 0 ≤ x3 + 1 ∧ x3 + 1 < c2 1000001 0 by omega) ?_
  refine wq_pos (Q := Q) (show -2147483648 ≤ x3 + 2 ∧ x3 + 2 < 2147483648 by omega) ?_
  refine wq_pos (Q := Q) (show 0 ≤ x3 + 2 ∧ x3 + 2 < c2 1000001 0 by omega) ?_
  refine wq_callI (Q := Q) rfl k ?_
  intro r3 c4 q
  obtain ⟨e2, s2, hr⟩ := q
  refine wq_ite (Q := Q) (p := r1 = r3) (fun _ => ?_) (fun z => absurd e2.symm z)
  show Q (cev 356 106 1828 [vR (-1), vR 1, vR 78, vI x3] [] (SH T, c4))
  exact lw_next (hl.sc s2) (kn T c4 s2 hr)
theorem lw_46 (hl : SL c x3) (h : REL T c n) (hn : n < 512) (kn : ∀ T' c4, SC c c4 → REL T' c4 (n + 1) → Q (cev 356 106 18 [vR (-1), vR 1, vR 78, vI (x3 + 6)] [] (SH T', c4))) : Q (cev 356 106 1545 [vR (-1), vR 1, vR 78, vI x3] [] (SH T, c)) := by
  have j := j_stands (q := c 1000000 (x3 + 1)) (y := c 1000000 (x3 + 2)) (w := c 1000000 (x3 + 3)) h
  obtain ⟨⟨l0, l1, l2⟩, -⟩ := id hl
  refine of_cev (Q := Q) ?_
  refine wq_pos (Q := Q) (show -2147483648 ≤ x3 + 1 ∧ x3 + 1 < 2147483648 by omega) ?_
  refine wq_pos (Q := Q) (show 0 ≤ x3 + 1 ∧ x3 + 1 < c 1000001 0 by omega) ?_
  refine wq_pos (Q := Q) (show -2147483648 ≤ x3 + 2 ∧ x3 + 2 < 2147483648 by omega) ?_
  refine wq_pos (Q := Q) (show 0 ≤ x3 + 2 ∧ x3 + 2 < c 1000001 0 by omega) ?_
  refine wq_pos (Q := Q) (show -2147483648 ≤ x3 + 3 ∧ x3 + 3 < 2147483648 by omega) ?_
  refine wq_pos (Q := Q) (show 0 ≤ x3 + 3 ∧ x3 + 3 < c 1000001 0 by omega) ?_
  refine wq_callI (Q := Q) rfl j ?_
  intro r1 c2 k
  obtain ⟨s1, k⟩ := k
  rw [← s1.1] at k
  have e1 : c2 1000001 0 = c 1000001 0 := by rw [s1.2]
  refine wq_pos (Q := Q) (show -2147483648 ≤ x3 + 1 ∧ x3 + 1 < 2147483648 by omega) ?_
  refine wq_pos (Q := Q) (show 0 ≤ x3 + 1 ∧ x3 + 1 < c2 1000001 0 by omega) ?_
  refine wq_pos (Q := Q) (show -2147483648 ≤ x3 + 2 ∧ x3 + 2 < 2147483648 by omega) ?_
  refine wq_pos (Q := Q) (show 0 ≤ x3 + 2 ∧ x3 + 2 < c2 1000001 0 by omega) ?_
  refine wq_pos (Q := Q) (show -2147483648 ≤ x3 + 3 ∧ x3 + 3 < 2147483648 by omega) ?_
  refine wq_pos (Q := Q) (show 0 ≤ x3 + 3 ∧ x3 + 3 < c2 1000001 0 by omega) ?_
  refine wq_callI (Q := Q) rfl k ?_
  intro r3 c4 q
  obtain ⟨e2, s2, hr⟩ := q
  refine wq_ite (Q := Q) (p := r1 = r3) (fun _ => ?_) (fun z => absurd e2.symm z)
  show Q (cev 356 106 1828 [vR (-1), vR 1, vR 78, vI x3] [] (SH T, c4))
  exact lw_next (hl.sc s2) (kn T c4 s2 hr)
theorem lw_47 (hl : SL c x3) (h : REL T c n) (hn : n < 512) (kn : ∀ T' c4, SC c c4 → REL T' c4 (n + 1) → Q (cev 356 106 18 [vR (-1), vR 1, vR 78, vI (x3 + 6)] [] (SH T', c4))) : Q (cev 356 106 1588 [vR (-1), vR 1, vR 78, vI x3] [] (SH T, c)) := by
  have j := j_ruler (y := c 1000000 (x3 + 1)) h
  obtain ⟨⟨l0, l1, l2⟩, -⟩ := id hl
  refine of_cev (Q := Q) ?_
  refine wq_pos (Q := Q) (show -2147483648 ≤ x3 + 1 ∧ x3 + 1 < 2147483648 by omega) ?_
  refine wq_pos (Q := Q) (show 0 ≤ x3 + 1 ∧ x3 + 1 < c 1000001 0 by omega) ?_
  refine wq_callI (Q := Q) rfl j ?_
  intro r1 c2 k
  obtain ⟨s1, k⟩ := k
  rw [← s1.1] at k
  have e1 : c2 1000001 0 = c 1000001 0 := by rw [s1.2]
  refine wq_pos (Q := Q) (show -2147483648 ≤ x3 + 1 ∧ x3 + 1 < 2147483648 by omega) ?_
  refine wq_pos (Q := Q) (show 0 ≤ x3 + 1 ∧ x3 + 1 < c2 1000001 0 by omega) ?_
  refine wq_callI (Q := Q) rfl k ?_
  intro r3 c4 q
  obtain ⟨e2, s2, hr⟩ := q
  refine wq_ite (Q := Q) (p := r1 = r3) (fun _ => ?_) (fun z => absurd e2.symm z)
  show Q (cev 356 106 1828 [vR (-1), vR 1, vR 78, vI x3] [] (SH T, c4))
  exact lw_next (hl.sc s2) (kn T c4 s2 hr)
theorem lw_48 (hl : SL c x3) (h : REL T c n) (hn : n < 512) (kn : ∀ T' c4, SC c c4 → REL T' c4 (n + 1) → Q (cev 356 106 18 [vR (-1), vR 1, vR 78, vI (x3 + 6)] [] (SH T', c4))) : Q (cev 356 106 1611 [vR (-1), vR 1, vR 78, vI x3] [] (SH T, c)) := by
  have j := j_reign (i := c 1000000 (x3 + 1)) (w := c 1000000 (x3 + 2)) h
  obtain ⟨⟨l0, l1, l2⟩, -⟩ := id hl
  refine of_cev (Q := Q) ?_
  refine wq_pos (Q := Q) (show -2147483648 ≤ x3 + 1 ∧ x3 + 1 < 2147483648 by omega) ?_
  refine wq_pos (Q := Q) (show 0 ≤ x3 + 1 ∧ x3 + 1 < c 1000001 0 by omega) ?_
  refine wq_pos (Q := Q) (show -2147483648 ≤ x3 + 2 ∧ x3 + 2 < 2147483648 by omega) ?_
  refine wq_pos (Q := Q) (show 0 ≤ x3 + 2 ∧ x3 + 2 < c 1000001 0 by omega) ?_
  refine wq_callI (Q := Q) rfl j ?_
  intro r1 c2 k
  obtain ⟨s1, k⟩ := k
  rw [← s1.1] at k
  have e1 : c2 1000001 0 = c 1000001 0 := by rw [s1.2]
  refine wq_pos (Q := Q) (show -2147483648 ≤ x3 + 1 ∧ x3 + 1 < 2147483648 by omega) ?_
  refine wq_pos (Q := Q) (show 0 ≤ x3 + 1 ∧ x3 + 1 < c2 1000001 0 by omega) ?_
  refine wq_pos (Q := Q) (show -2147483648 ≤ x3 + 2 ∧ x3 + 2 < 2147483648 by omega) ?_
  refine wq_pos (Q := Q) (show 0 ≤ x3 + 2 ∧ x3 + 2 < c2 1000001 0 by omega) ?_
  refine wq_callI (Q := Q) rfl k ?_
  intro r3 c4 q
  obtain ⟨e2, s2, hr⟩ := q
  refine wq_ite (Q := Q) (p := r1 = r3) (fun _ => ?_) (fun z => absurd e2.symm z)
  show Q (cev 356 106 1828 [vR (-1), vR 1, vR 78, vI x3] [] (SH T, c4))
  exact lw_next (hl.sc s2) (kn T c4 s2 hr)
theorem lw_49 (hl : SL c x3) (h : REL T c n) (hn : n < 512) (kn : ∀ T' c4, SC c c4 → REL T' c4 (n + 1) → Q (cev 356 106 18 [vR (-1), vR 1, vR 78, vI (x3 + 6)] [] (SH T', c4))) : Q (cev 356 106 1644 [vR (-1), vR 1, vR 78, vI x3] [] (SH T, c)) := by
  have j := j_vacant  h
  refine of_cev (Q := Q) ?_
  refine wq_callI (Q := Q) rfl j ?_
  intro r1 c2 k
  obtain ⟨s1, k⟩ := k
  refine wq_callI (Q := Q) rfl k ?_
  intro r3 c4 q
  obtain ⟨e2, s2, hr⟩ := q
  refine wq_ite (Q := Q) (p := r1 = r3) (fun _ => ?_) (fun z => absurd e2.symm z)
  show Q (cev 356 106 1828 [vR (-1), vR 1, vR 78, vI x3] [] (SH T, c4))
  exact lw_next (hl.sc s2) (kn T c4 s2 hr)
theorem lw_50 (hl : SL c x3) (h : REL T c n) (hn : n < 512) (kn : ∀ T' c4, SC c c4 → REL T' c4 (n + 1) → Q (cev 356 106 18 [vR (-1), vR 1, vR 78, vI (x3 + 6)] [] (SH T', c4))) : Q (cev 356 106 1657 [vR (-1), vR 1, vR 78, vI x3] [] (SH T, c)) := by
  have j := j_line (y := c 1000000 (x3 + 1)) (i := c 1000000 (x3 + 2)) h
  obtain ⟨⟨l0, l1, l2⟩, -⟩ := id hl
  refine of_cev (Q := Q) ?_
  refine wq_pos (Q := Q) (show -2147483648 ≤ x3 + 1 ∧ x3 + 1 < 2147483648 by omega) ?_
  refine wq_pos (Q := Q) (show 0 ≤ x3 + 1 ∧ x3 + 1 < c 1000001 0 by omega) ?_
  refine wq_pos (Q := Q) (show -2147483648 ≤ x3 + 2 ∧ x3 + 2 < 2147483648 by omega) ?_
  refine wq_pos (Q := Q) (show 0 ≤ x3 + 2 ∧ x3 + 2 < c 1000001 0 by omega) ?_
  refine wq_callI (Q := Q) rfl j ?_
  intro r1 c2 k
  obtain ⟨s1, k⟩ := k
  rw [← s1.1] at k
  have e1 : c2 1000001 0 = c 1000001 0 := by rw [s1.2]
  refine wq_pos (Q := Q) (show -2147483648 ≤ x3 + 1 ∧ x3 + 1 < 2147483648 by omega) ?_
  refine wq_pos (Q := Q) (show 0 ≤ x3 + 1 ∧ x3 + 1 < c2 1000001 0 by omega) ?_
  refine wq_pos (Q := Q) (show -2147483648 ≤ x3 + 2 ∧ x3 + 2 < 2147483648 by omega) ?_
  refine wq_pos (Q := Q) (show 0 ≤ x3 + 2 ∧ x3 + 2 < c2 1000001 0 by omega) ?_
  refine wq_callI (Q := Q) rfl k ?_
  intro r3 c4 q
  obtain ⟨e2, s2, hr⟩ := q
  refine wq_ite (Q := Q) (p := r1 = r3) (fun _ => ?_) (fun z => absurd e2.symm z)
  show Q (cev 356 106 1828 [vR (-1), vR 1, vR 78, vI x3] [] (SH T, c4))
  exact lw_next (hl.sc s2) (kn T c4 s2 hr)
theorem lw_51 (hl : SL c x3) (h : REL T c n) (hn : n < 512) (kn : ∀ T' c4, SC c c4 → REL T' c4 (n + 1) → Q (cev 356 106 18 [vR (-1), vR 1, vR 78, vI (x3 + 6)] [] (SH T', c4))) : Q (cev 356 106 1690 [vR (-1), vR 1, vR 78, vI x3] [] (SH T, c)) := by
  have j := j_century (s := c 1000000 (x3 + 1)) (m := c 1000000 (x3 + 2)) h hn
  obtain ⟨⟨l0, l1, l2⟩, -⟩ := id hl
  refine of_cev (Q := Q) ?_
  refine wq_pos (Q := Q) (show -2147483648 ≤ x3 + 1 ∧ x3 + 1 < 2147483648 by omega) ?_
  refine wq_pos (Q := Q) (show 0 ≤ x3 + 1 ∧ x3 + 1 < c 1000001 0 by omega) ?_
  refine wq_pos (Q := Q) (show -2147483648 ≤ x3 + 2 ∧ x3 + 2 < 2147483648 by omega) ?_
  refine wq_pos (Q := Q) (show 0 ≤ x3 + 2 ∧ x3 + 2 < c 1000001 0 by omega) ?_
  refine wq_callI (Q := Q) rfl j ?_
  intro r1 c2 k
  obtain ⟨s1, k⟩ := k
  rw [← s1.1] at k
  have e1 : c2 1000001 0 = c 1000001 0 := by rw [s1.2]
  refine wq_pos (Q := Q) (show -2147483648 ≤ x3 + 1 ∧ x3 + 1 < 2147483648 by omega) ?_
  refine wq_pos (Q := Q) (show 0 ≤ x3 + 1 ∧ x3 + 1 < c2 1000001 0 by omega) ?_
  refine wq_pos (Q := Q) (show -2147483648 ≤ x3 + 2 ∧ x3 + 2 < 2147483648 by omega) ?_
  refine wq_pos (Q := Q) (show 0 ≤ x3 + 2 ∧ x3 + 2 < c2 1000001 0 by omega) ?_
  refine wq_callI (Q := Q) rfl k ?_
  intro r3 c4 q
  obtain ⟨e2, s2, hr⟩ := q
  refine wq_ite (Q := Q) (p := r1 = r3) (fun _ => ?_) (fun z => absurd e2.symm z)
  show Q (cev 356 106 1828 [vR (-1), vR 1, vR 78, vI x3] [] (SH T, c4))
  exact lw_next (hl.sc s2) (kn T c4 s2 hr)
theorem lw_52 (hl : SL c x3) (h : REL T c n) (hn : n < 512) (kn : ∀ T' c4, SC c c4 → REL T' c4 (n + 1) → Q (cev 356 106 18 [vR (-1), vR 1, vR 78, vI (x3 + 6)] [] (SH T', c4))) : Q (cev 356 106 1723 [vR (-1), vR 1, vR 78, vI x3] [] (SH T, c)) := by
  have j := j_drawn (x := c 1000000 (x3 + 1)) h (hl.2 _)
  obtain ⟨⟨l0, l1, l2⟩, -⟩ := id hl
  refine of_cev (Q := Q) ?_
  refine wq_pos (Q := Q) (show -2147483648 ≤ x3 + 1 ∧ x3 + 1 < 2147483648 by omega) ?_
  refine wq_pos (Q := Q) (show 0 ≤ x3 + 1 ∧ x3 + 1 < c 1000001 0 by omega) ?_
  refine wq_callI (Q := Q) rfl j ?_
  intro r1 c2 k
  obtain ⟨s1, k⟩ := k
  rw [← s1.1] at k
  have e1 : c2 1000001 0 = c 1000001 0 := by rw [s1.2]
  refine wq_pos (Q := Q) (show -2147483648 ≤ x3 + 1 ∧ x3 + 1 < 2147483648 by omega) ?_
  refine wq_pos (Q := Q) (show 0 ≤ x3 + 1 ∧ x3 + 1 < c2 1000001 0 by omega) ?_
  refine wq_callI (Q := Q) rfl k ?_
  intro r3 c4 q
  obtain ⟨e2, s2, hr⟩ := q
  refine wq_ite (Q := Q) (p := r1 = r3) (fun _ => ?_) (fun z => absurd e2.symm z)
  show Q (cev 356 106 1828 [vR (-1), vR 1, vR 78, vI x3] [] (SH T, c4))
  exact lw_next (hl.sc s2) (kn T c4 s2 hr)
theorem lw_53 (hl : SL c x3) (h : REL T c n) (hn : n < 512) (kn : ∀ T' c4, SC c c4 → REL T' c4 (n + 1) → Q (cev 356 106 18 [vR (-1), vR 1, vR 78, vI (x3 + 6)] [] (SH T', c4))) : Q (cev 356 106 1746 [vR (-1), vR 1, vR 78, vI x3] [] (SH T, c)) := by
  have j := j_image (k := c 1000000 (x3 + 1)) h hn
  obtain ⟨⟨l0, l1, l2⟩, -⟩ := id hl
  refine of_cev (Q := Q) ?_
  refine wq_pos (Q := Q) (show -2147483648 ≤ x3 + 1 ∧ x3 + 1 < 2147483648 by omega) ?_
  refine wq_pos (Q := Q) (show 0 ≤ x3 + 1 ∧ x3 + 1 < c 1000001 0 by omega) ?_
  refine wq_callI (Q := Q) rfl j ?_
  intro r1 c2 k
  obtain ⟨s1, k⟩ := k
  rw [← s1.1] at k
  have e1 : c2 1000001 0 = c 1000001 0 := by rw [s1.2]
  refine wq_pos (Q := Q) (show -2147483648 ≤ x3 + 1 ∧ x3 + 1 < 2147483648 by omega) ?_
  refine wq_pos (Q := Q) (show 0 ≤ x3 + 1 ∧ x3 + 1 < c2 1000001 0 by omega) ?_
  refine wq_callI (Q := Q) rfl k ?_
  intro r3 c4 q
  obtain ⟨e2, s2, hr⟩ := q
  refine wq_ite (Q := Q) (p := r1 = r3) (fun _ => ?_) (fun z => absurd e2.symm z)
  show Q (cev 356 106 1828 [vR (-1), vR 1, vR 78, vI x3] [] (SH T, c4))
  exact lw_next (hl.sc s2) (kn T c4 s2 hr)
theorem lw_54 (hl : SL c x3) (h : REL T c n) (hn : n < 512) (kn : ∀ T' c4, SC c c4 → REL T' c4 (n + 1) → Q (cev 356 106 18 [vR (-1), vR 1, vR 78, vI (x3 + 6)] [] (SH T', c4))) : Q (cev 356 106 1769 [vR (-1), vR 1, vR 78, vI x3] [] (SH T, c)) := by
  have j := j_back (k := c 1000000 (x3 + 1)) h hn
  obtain ⟨⟨l0, l1, l2⟩, -⟩ := id hl
  refine of_cev (Q := Q) ?_
  refine wq_pos (Q := Q) (show -2147483648 ≤ x3 + 1 ∧ x3 + 1 < 2147483648 by omega) ?_
  refine wq_pos (Q := Q) (show 0 ≤ x3 + 1 ∧ x3 + 1 < c 1000001 0 by omega) ?_
  refine wq_callI (Q := Q) rfl j ?_
  intro r1 c2 k
  obtain ⟨s1, k⟩ := k
  rw [← s1.1] at k
  have e1 : c2 1000001 0 = c 1000001 0 := by rw [s1.2]
  refine wq_pos (Q := Q) (show -2147483648 ≤ x3 + 1 ∧ x3 + 1 < 2147483648 by omega) ?_
  refine wq_pos (Q := Q) (show 0 ≤ x3 + 1 ∧ x3 + 1 < c2 1000001 0 by omega) ?_
  refine wq_callI (Q := Q) rfl k ?_
  intro r3 c4 q
  obtain ⟨e2, s2, hr⟩ := q
  refine wq_ite (Q := Q) (p := r1 = r3) (fun _ => ?_) (fun z => absurd e2.symm z)
  show Q (cev 356 106 1828 [vR (-1), vR 1, vR 78, vI x3] [] (SH T, c4))
  exact lw_next (hl.sc s2) (kn T c4 s2 hr)
theorem lw_55 (hl : SL c x3) (h : REL T c n) (hn : n < 512) (kn : ∀ T' c4, SC c c4 → REL T' c4 (n + 1) → Q (cev 356 106 18 [vR (-1), vR 1, vR 78, vI (x3 + 6)] [] (SH T', c4))) : Q (cev 356 106 1792 [vR (-1), vR 1, vR 78, vI x3] [] (SH T, c)) := by
  have j := j_count (x := c 1000000 (x3 + 1)) h
  obtain ⟨⟨l0, l1, l2⟩, -⟩ := id hl
  refine of_cev (Q := Q) ?_
  refine wq_pos (Q := Q) (show -2147483648 ≤ x3 + 1 ∧ x3 + 1 < 2147483648 by omega) ?_
  refine wq_pos (Q := Q) (show 0 ≤ x3 + 1 ∧ x3 + 1 < c 1000001 0 by omega) ?_
  refine wq_callI (Q := Q) rfl j ?_
  intro r1 c2 k
  obtain ⟨s1, k⟩ := k
  rw [← s1.1] at k
  have e1 : c2 1000001 0 = c 1000001 0 := by rw [s1.2]
  refine wq_pos (Q := Q) (show -2147483648 ≤ x3 + 1 ∧ x3 + 1 < 2147483648 by omega) ?_
  refine wq_pos (Q := Q) (show 0 ≤ x3 + 1 ∧ x3 + 1 < c2 1000001 0 by omega) ?_
  refine wq_callI (Q := Q) rfl k ?_
  intro r3 c4 q
  obtain ⟨e2, s2, hr⟩ := q
  refine wq_ite (Q := Q) (p := r1 = r3) (fun _ => ?_) (fun z => absurd e2.symm z)
  show Q (cev 356 106 1828 [vR (-1), vR 1, vR 78, vI x3] [] (SH T, c4))
  exact lw_next (hl.sc s2) (kn T c4 s2 hr)
theorem lw_56 (hl : SL c x3) (h : REL T c n) (hn : n < 512) (kn : ∀ T' c4, SC c c4 → REL T' c4 (n + 1) → Q (cev 356 106 18 [vR (-1), vR 1, vR 78, vI (x3 + 6)] [] (SH T', c4))) : Q (cev 356 106 1815 [vR (-1), vR 1, vR 78, vI x3] [] (SH T, c)) := by
  have j := j_status  h
  refine of_cev (Q := Q) ?_
  refine wq_callI (Q := Q) rfl j ?_
  intro r1 c2 k
  obtain ⟨s1, k⟩ := k
  refine wq_callI (Q := Q) rfl k ?_
  intro r3 c4 q
  obtain ⟨e2, s2, hr⟩ := q
  refine wq_ite (Q := Q) (p := r1 = r3) (fun _ => ?_) (fun z => absurd e2.symm z)
  show Q (cev 356 106 1828 [vR (-1), vR 1, vR 78, vI x3] [] (SH T, c4))
  exact lw_next (hl.sc s2) (kn T c4 s2 hr)
theorem wq_swc {x : Int} {J : Nat → Res} {d : Nat} : ∀ l : List (Int × Nat), (∀ e ∈ l, x = e.1 → Q (J e.2)) → Q (J d) → Q (swc x J d l)
  | [], _, h2 => h2
  | (v, t) :: l, h1, h2 => by
    show Q (if x = v then J t else swc x J d l)
    by_cases e : x = v
    · rw [if_pos e]; exact h1 (v, t) (List.mem_cons_self) e
    · rw [if_neg e]; exact wq_swc l (fun q hq => h1 q (List.mem_cons_of_mem _ hq)) h2
theorem lw_round (hl : SL c x3) (h : REL T c n) (hn : n < 512) (kn : ∀ T' c4, SC c c4 → REL T' c4 (n + 1) → Q (cev 356 106 18 [vR (-1), vR 1, vR 78, vI (x3 + 6)] [] (SH T', c4))) : Q (cev 356 106 18 [vR (-1), vR 1, vR 78, vI x3] [] (SH T, c)) := by
  obtain ⟨⟨l0, l1, l2⟩, -⟩ := id hl
  refine of_cev (Q := Q) ?_
  refine wq_pos (Q := Q) (show -2147483648 ≤ c 1000001 0 - 6 ∧ c 1000001 0 - 6 < 2147483648 by omega) ?_
  refine wq_ite (Q := Q) (p := c 1000001 0 - 6 < x3) (fun z => by omega) (fun _ => ?_)
  refine wq_pos (Q := Q) (show 0 ≤ x3 ∧ x3 < c 1000001 0 by omega) ?_
  refine wq_swc (Q := Q) (J := fun t => cev 356 106 t (msk (blk 356 t).1 [vR (-1), vR 1, vR 78, vI x3]) [] (SH T, c)) (swt 12).1 ?_ ?_
  · show ∀ e ∈ [(0, 276), (1, 309), (2, 342), (3, 385), (4, 418), (5, 451), (6, 494), (7, 517), (8, 580), (9, 603), (10, 616), (11, 629), (12, 642), (13, 655), (14, 668), (15, 681), (16, 704), (17, 747), (18, 790), (19, 813), (20, 826), (21, 859), (22, 892), (23, 905), (24, 928), (25, 941), (26, 984), (27, 1027), (28, 1050), (29, 1063), (30, 1106), (31, 1119), (32, 1142), (33, 1175), (34, 1198), (35, 1211), (36, 1244), (37, 1267), (38, 1290), (39, 1333), (40, 1346), (41, 1379), (42, 1402), (43, 1416), (44, 1469), (45, 1512), (46, 1545), (47, 1588), (48, 1611), (49, 1644), (50, 1657), (51, 1690), (52, 1723), (53, 1746), (54, 1769), (55, 1792), (56, 1815)], _ → Q (cev 356 106 (e : Int × Nat).2 _ [] (SH T, c))
    exact List.forall_mem_cons.mpr ⟨fun _ => lw_0 hl h hn kn, List.forall_mem_cons.mpr ⟨fun _ => lw_1 hl h hn kn, List.forall_mem_cons.mpr ⟨fun _ => lw_2 hl h hn kn, List.forall_mem_cons.mpr ⟨fun _ => lw_3 hl h hn kn, List.forall_mem_cons.mpr ⟨fun _ => lw_4 hl h hn kn, List.forall_mem_cons.mpr ⟨fun _ => lw_5 hl h hn kn, List.forall_mem_cons.mpr ⟨fun _ => lw_6 hl h hn kn, List.forall_mem_cons.mpr ⟨fun _ => lw_7 hl h hn kn, List.forall_mem_cons.mpr ⟨fun _ => lw_8 hl h hn kn, List.forall_mem_cons.mpr ⟨fun _ => lw_9 hl h hn kn, List.forall_mem_cons.mpr ⟨fun _ => lw_10 hl h hn kn, List.forall_mem_cons.mpr ⟨fun _ => lw_11 hl h hn kn, List.forall_mem_cons.mpr ⟨fun _ => lw_12 hl h hn kn, List.forall_mem_cons.mpr ⟨fun _ => lw_13 hl h hn kn, List.forall_mem_cons.mpr ⟨fun _ => lw_14 hl h hn kn, List.forall_mem_cons.mpr ⟨fun _ => lw_15 hl h hn kn, List.forall_mem_cons.mpr ⟨fun _ => lw_16 hl h hn kn, List.forall_mem_cons.mpr ⟨fun _ => lw_17 hl h hn kn, List.forall_mem_cons.mpr ⟨fun _ => lw_18 hl h hn kn, List.forall_mem_cons.mpr ⟨fun _ => lw_19 hl h hn kn, List.forall_mem_cons.mpr ⟨fun _ => lw_20 hl h hn kn, List.forall_mem_cons.mpr ⟨fun _ => lw_21 hl h hn kn, List.forall_mem_cons.mpr ⟨fun _ => lw_22 hl h hn kn, List.forall_mem_cons.mpr ⟨fun _ => lw_23 hl h hn kn, List.forall_mem_cons.mpr ⟨fun _ => lw_24 hl h hn kn, List.forall_mem_cons.mpr ⟨fun _ => lw_25 hl h hn kn, List.forall_mem_cons.mpr ⟨fun _ => lw_26 hl h hn kn, List.forall_mem_cons.mpr ⟨fun _ => lw_27 hl h hn kn, List.forall_mem_cons.mpr ⟨fun _ => lw_28 hl h hn kn, List.forall_mem_cons.mpr ⟨fun _ => lw_29 hl h hn kn, List.forall_mem_cons.mpr ⟨fun _ => lw_30 hl h hn kn, List.forall_mem_cons.mpr ⟨fun _ => lw_31 hl h hn kn, List.forall_mem_cons.mpr ⟨fun _ => lw_32 hl h hn kn, List.forall_mem_cons.mpr ⟨fun _ => lw_33 hl h hn kn, List.forall_mem_cons.mpr ⟨fun _ => lw_34 hl h hn kn, List.forall_mem_cons.mpr ⟨fun _ => lw_35 hl h hn kn, List.forall_mem_cons.mpr ⟨fun _ => lw_36 hl h hn kn, List.forall_mem_cons.mpr ⟨fun _ => lw_37 hl h hn kn, List.forall_mem_cons.mpr ⟨fun _ => lw_38 hl h hn kn, List.forall_mem_cons.mpr ⟨fun _ => lw_39 hl h hn kn, List.forall_mem_cons.mpr ⟨fun _ => lw_40 hl h hn kn, List.forall_mem_cons.mpr ⟨fun _ => lw_41 hl h hn kn, List.forall_mem_cons.mpr ⟨fun _ => lw_42 hl h hn kn, List.forall_mem_cons.mpr ⟨fun _ => lw_43 hl h hn kn, List.forall_mem_cons.mpr ⟨fun _ => lw_44 hl h hn kn, List.forall_mem_cons.mpr ⟨fun _ => lw_45 hl h hn kn, List.forall_mem_cons.mpr ⟨fun _ => lw_46 hl h hn kn, List.forall_mem_cons.mpr ⟨fun _ => lw_47 hl h hn kn, List.forall_mem_cons.mpr ⟨fun _ => lw_48 hl h hn kn, List.forall_mem_cons.mpr ⟨fun _ => lw_49 hl h hn kn, List.forall_mem_cons.mpr ⟨fun _ => lw_50 hl h hn kn, List.forall_mem_cons.mpr ⟨fun _ => lw_51 hl h hn kn, List.forall_mem_cons.mpr ⟨fun _ => lw_52 hl h hn kn, List.forall_mem_cons.mpr ⟨fun _ => lw_53 hl h hn kn, List.forall_mem_cons.mpr ⟨fun _ => lw_54 hl h hn kn, List.forall_mem_cons.mpr ⟨fun _ => lw_55 hl h hn kn, List.forall_mem_cons.mpr ⟨fun _ => lw_56 hl h hn kn, fun e he => absurd he (by simp)⟩⟩⟩⟩⟩⟩⟩⟩⟩⟩⟩⟩⟩⟩⟩⟩⟩⟩⟩⟩⟩⟩⟩⟩⟩⟩⟩⟩⟩⟩⟩⟩⟩⟩⟩⟩⟩⟩⟩⟩⟩⟩⟩⟩⟩⟩⟩⟩⟩⟩⟩⟩⟩⟩⟩⟩⟩
  · show Q (cev 356 106 1828 [vR (-1), vR 1, vR 78, vI x3] [] (SH T, c))
    exact lw_next hl (kn T c SC.rfl h.up1)
theorem lw_end (hl : (0 ≤ x3 ∧ c 1000001 0 < x3 + 6) ∧ 0 ≤ c 1000001 0 ∧ c 1000001 0 ≤ 3072) (k : Q (some (some (vI 1), (SH T, c)))) : Q (cev 356 106 18 [vR (-1), vR 1, vR 78, vI x3] [] (SH T, c)) := by
  refine of_cev (Q := Q) ?_
  refine wq_pos (Q := Q) (show -2147483648 ≤ c 1000001 0 - 6 ∧ c 1000001 0 - 6 < 2147483648 by omega) ?_
  refine wq_ite (Q := Q) (p := c 1000001 0 - 6 < x3) (fun _ => ?_) (fun z => by omega)
  show Q (cev 356 106 1834 [vU, vU, vU, vU] [] (SH T, c))
  refine of_cev (Q := Q) ?_
  exact k
end LAW
/-- the whole loop -/
theorem lw_loop {Q : Res → Prop} (hQ : ∀ T c n, REL T c n → n ≤ 512 → Q (some (some (vI 1), (SH T, c)))) : ∀ (m : Nat) (T : List Shp) (c : Cm) (n : Nat), REL T c n → n + m = 512 → (0 ≤ c 1000001 0 ∧ c 1000001 0 ≤ 3072) → (∀ j, -2147483648 ≤ c 1000000 j ∧ c 1000000 j < 2147483648) → Q (cev 356 106 18 [vR (-1), vR 1, vR 78, vI (6 * (n : Int))] [] (SH T, c)) := by
  intro m
  induction m with
  | zero =>
    intro T c n h hm hl hv
    exact lw_end ⟨⟨by omega, by omega⟩, hl⟩ (hQ T c n h (by omega))
  | succ m ih =>
    intro T c n h hm hl hv
    by_cases e : c 1000001 0 < 6 * (n : Int) + 6
    · exact lw_end ⟨⟨by omega, e⟩, hl⟩ (hQ T c n h (by omega))
    · refine lw_round ⟨⟨by omega, by omega, hl.2⟩, hv⟩ h (by omega) fun T' c4 s hr => ?_
      have k := ih T' c4 (n + 1) hr (by omega) (by rw [s.2]; exact hl) (by rw [s.1]; exact hv)
      rw [show 6 * ((n + 1 : Nat) : Int) = 6 * (n : Int) + 6 from by omega] at k
      exact k

/-! THE LAW, purely: on every script it answers 1 -/
theorem slz_le : ∀ {T : List Shp} {b : Nat}, (∀ s ∈ T, 0 ≤ s.2.1 ∧ s.2.1 ≤ (b : Int)) → slz T ≤ b * T.length
  | [], b, _ => by show 0 ≤ _; omega
  | s :: T, b, h => by
    have h1 := h s List.mem_cons_self
    have ih := slz_le (T := T) (b := b) fun q hq => h q (List.mem_cons_of_mem _ hq)
    have e : slz (s :: T) = s.2.1.toNat + slz T := by simp [slz]
    rw [e, List.length_cons, Nat.mul_succ]
    omega
theorem slz_sh {T : List Shp} : slz (SH T) = 31571 + slz T := by
  show ((bsh ++ T).map (fun s : Shp => s.2.1.toNat)).sum = _
  rw [List.map_append, List.sum_append]
  rfl
theorem law_pure {L : Nat} {xs : Nat → Int32} (hL : L ≤ 3072) : ∃ (fuel : Nat) (RL : List Shp) (Rc : Nat → Int → Int), run fuel 356 106 0 (mkl 4 [vR (-1)]) [] ([], scm L xs) = some (some (vI 1), (RL, Rc)) ∧ RL.length ≤ 600000 ∧ slz RL ≤ 7302249 := by
  have K : ∃ RL Rc, cev 356 106 0 (mkl 4 [vR (-1)]) [] ([], scm L xs) = some (some (vI 1), (RL, Rc)) ∧ RL.length ≤ 600000 ∧ slz RL ≤ 7302249 := by
    refine lw_begin (Q := fun Z => ∃ (RL : List Shp) (Rc : Cm), Z = some (some (vI 1), (RL, Rc)) ∧ RL.length ≤ 600000 ∧ slz RL ≤ 7302249) ?_
    have k := lw_loop (Q := fun Z => ∃ (RL : List Shp) (Rc : Cm), Z = some (some (vI 1), (RL, Rc)) ∧ RL.length ≤ 600000 ∧ slz RL ≤ 7302249) (fun T c n h hn => ⟨SH T, c, rfl, ?_, ?_⟩) 512 [] (c0s (scm L xs)) 0 rel_beg rfl ?_ ?_
    · exact k
    · have t := h.2.2.2.2.2.2.1
      rw [sh_len]
      omega
    · have t := h.2.2.2.2.2.2
      have s := slz_le (b := 450) t.2
      have t1 := t.1
      rw [slz_sh]
      omega
    · rw [(sc_beg (c := scm L xs)).2]
      show 0 ≤ (L : Int) ∧ (L : Int) ≤ 3072
      omega
    · intro j
      rw [(sc_beg (c := scm L xs)).1]
      show -2147483648 ≤ (xs j.toNat).toInt ∧ (xs j.toNat).toInt < 2147483648
      have a := (xs j.toNat).le_toInt
      have b := (xs j.toNat).toInt_lt
      omega
  obtain ⟨RL, Rc, e, h1, h2⟩ := K
  obtain ⟨fuel, hr⟩ := cev_le e
  exact ⟨fuel, RL, Rc, hr, h1, h2⟩

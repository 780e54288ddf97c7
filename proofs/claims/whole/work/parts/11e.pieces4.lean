/-! PIECES: the class's joining of two values -/
theorem c_joinsa {T : List Shp} {c : Cm} {d a b H : Int} (hd : 2 ≤ d ∧ d ≤ 8) (hH : 2 ≤ H ∧ H ≤ 100) (eH : c 15 1 = H) (ea : c 16 (H - 2) = a) (eb : c 16 (H - 1) = b) (ha : -1000000000 ≤ a ∧ a ≤ 1000000000) (hb : -1000000000 ≤ b ∧ b ≤ 1000000000) : QI T (fun r c' => (bin d a b = none → r = 0) ∧ (∀ y, bin d a b = some y → r = 1 ∧ c' 15 1 = H - 1 ∧ c' 16 (H - 2) = y) ∧ (∀ j, j ≠ H - 2 → c' 16 j = c 16 j) ∧ Off [15, 16] [] c c') (ccal 21 [vR 16, vI d] (SH T, c)) := by
  have mb := mul_big ha hb
  have tb := tdiv_big (b := b) ha
  have fin : ∀ r : Int, r = bnr d a b → ¬ (d = 5 ∧ b = 0) → QI T (fun r c' => (bin d a b = none → r = 0) ∧ (∀ y, bin d a b = some y → r = 1 ∧ c' 15 1 = H - 1 ∧ c' 16 (H - 2) = y) ∧ (∀ j, j ≠ H - 2 → c' 16 j = c 16 j) ∧ Off [15, 16] [] c c') (cev 21 1 187 [vR 16, vU, vU, vU, vU, vU, vL r, vU] [] (SH T, c)) := by
    intro r er h5
    have eb' : bin d a b = if 1000000000 < r ∨ r < -1000000000 then none else some r := by
      unfold bin
      rw [if_neg h5, ← er]
    rw [eb']
    refine W_X3_joinsa_187 ⟨fun e => QI.ret ⟨fun _ => rfl, fun y hy => ?_, fun j _ => rfl, Off.rfl⟩, fun e => ⟨fun e2 => QI.ret ⟨fun _ => rfl, fun y hy => ?_, fun j _ => rfl, Off.rfl⟩, fun e2 => ?_⟩⟩
    · rw [if_pos (.inl e)] at hy; exact absurd hy (by simp)
    · rw [if_pos (.inr e2)] at hy; exact absurd hy (by simp)
    · rw [eH, w32_id (by omega) (by omega), show H - 1 - 1 = H - 2 from by omega]
      refine ⟨by omega, QI.ret ⟨fun hy => ?_, fun y hy => ⟨rfl, ?_, ?_⟩, fun j hj => ?_, (Off.rfl.wr rfl).wr rfl⟩⟩
      · rw [if_neg (by omega)] at hy; exact absurd hy (by simp)
      · rw [up_cell (by decide), up_same]
      · rw [if_neg (by omega)] at hy
        rw [up_same]
        exact Option.some.inj hy
      · rw [up_ne hj, up_cell (by decide)]
  have mid : ¬ (d = 5 ∧ b = 0) → QI T (fun r c' => (bin d a b = none → r = 0) ∧ (∀ y, bin d a b = some y → r = 1 ∧ c' 15 1 = H - 1 ∧ c' 16 (H - 2) = y) ∧ (∀ j, j ≠ H - 2 → c' 16 j = c 16 j) ∧ Off [15, 16] [] c c') (cev 21 1 51 [vR 16, vI d, vL a, vU, vL b, vU, vU, vU] [] (SH T, c)) := by
    intro h5
    refine W_X3_joinsa_51 ⟨fun e => ⟨by omega, fin _ ?_ h5⟩, fun e => ⟨by omega, fin _ ?_ h5⟩, fun e => ⟨by omega, fin _ ?_ h5⟩, fun e => ⟨fun e2 => fin _ ?_ h5, fun e2 => ⟨⟨by omega, e2⟩, fin _ ?_ h5⟩⟩, fun e => ⟨fun e2 => fin _ ?_ h5, fun e2 => fin _ ?_ h5⟩, fun e => ⟨fun e2 => fin _ ?_ h5, fun e2 => fin _ ?_ h5⟩, fun e => ⟨fun e2 => fin _ ?_ h5, fun e2 => fin _ ?_ h5⟩⟩ <;> unfold bnr
    · rw [if_pos e]
    · rw [if_neg (by omega), if_pos e]
    · rw [if_neg (by omega), if_neg (by omega), if_pos e]
    · rw [if_neg (by omega), if_neg (by omega), if_neg (by omega), if_pos e, if_pos e2]
    · rw [if_neg (by omega), if_neg (by omega), if_neg (by omega), if_pos e, if_neg e2]
    · rw [if_neg (by omega), if_neg (by omega), if_neg (by omega), if_neg (by omega), if_pos e, if_pos e2]
    · rw [if_neg (by omega), if_neg (by omega), if_neg (by omega), if_neg (by omega), if_pos e, if_neg e2]
    · rw [if_neg (by omega), if_neg (by omega), if_neg (by omega), if_neg (by omega), if_neg (by omega), if_pos e, if_pos e2]
    · rw [if_neg (by omega), if_neg (by omega), if_neg (by omega), if_neg (by omega), if_neg (by omega), if_pos e, if_neg e2]
    · rw [if_neg (by omega), if_neg (by omega), if_neg (by omega), if_neg (by omega), if_neg (by omega), if_neg (by omega), if_pos e2]
    · rw [if_neg (by omega), if_neg (by omega), if_neg (by omega), if_neg (by omega), if_neg (by omega), if_neg (by omega), if_neg e2]
  refine W_X3_joinsa (Q := QI T _) ⟨fun z => absurd z (by omega), fun _ => ?_⟩
  rw [eH, ea, eb]
  refine ⟨by omega, fun e => ⟨fun e2 => QI.ret ⟨fun _ => rfl, fun y hy => ?_, fun j _ => rfl, Off.rfl⟩, fun e2 => mid (fun z => e2 z.2)⟩, fun e => mid (fun z => e z.1)⟩
  unfold bin at hy
  rw [if_pos ⟨e, e2⟩] at hy
  exact absurd hy (by simp)

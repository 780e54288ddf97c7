/-! ORDERS: the reference keeps a copy, and takes it back -/
theorem r_keep66 {T : List Shp} {Q : Res → Prop} {c : Cm} (h : ∀ c', Off [81] [55] c c' → (∀ j, 0 ≤ j → j < 5780 → c' 81 j = c 79 j) → c' 77 55 = 0 → Q (cev 334 12 98 [vR 78, vI 0, vU, vU, vU] [] (SH T, c'))) : Q (cev 334 12 66 [vR 78, vI 0, vU, vU, vU] [] (SH T, c)) := by
  refine lpI (E := fun i (s : Cm) => cev 334 12 66 [vR 78, vI i, vU, vU, vU] [] (SH T, s)) (fun i s => (0 ≤ i ∧ i ≤ 5780) ∧ Off [81] [55] c s ∧ ∀ j, 0 ≤ j → j < i → s 81 j = c 79 j) 5780 ?_ ?_ 0 c ⟨by omega, Off.rfl, fun j a b => by omega⟩
  · intro i s hi hI ih
    refine W_X12_orders_66 ⟨fun _ => ⟨by omega, ih _ ⟨by omega, hI.2.1.wr rfl, fun j a b => ?_⟩⟩, fun e => absurd hi e⟩
    rw [up_at]
    by_cases e : j = i
    · rw [if_pos e, e, hI.2.1.cell (q := 79) rfl]
    · rw [if_neg e]; exact hI.2.2 j a (by omega)
  · intro i s hi hI
    refine W_X12_orders_66 ⟨fun e => absurd e (by omega), fun _ => ?_⟩
    exact h _ (hI.2.1.wr rfl) (fun j a b => by rw [up_cell (by decide)]; exact hI.2.2 j a (by omega)) up_same
theorem r_back140 {T : List Shp} {Q : Res → Prop} {c : Cm} {x1 x3 : Int} (h : ∀ c', Off [79] [56] c c' → (∀ j, 0 ≤ j → j < 5780 → c' 79 j = c 81 j) → (∀ j, ¬ (0 ≤ j ∧ j < 5780) → c' 79 j = c 79 j) → c' 77 56 = x1 → QI T (fun r c2 => Q (some (some (vI r), (SH T, c2)))) (ccal 190 [vR 78, vI x3] (SH T, c'))) : Q (cev 334 12 140 [vR 78, vI x1, vU, vI x3, vI 0] [] (SH T, c)) := by
  refine lpI (E := fun i (s : Cm) => cev 334 12 140 [vR 78, vI x1, vU, vI x3, vI i] [] (SH T, s)) (fun i s => (0 ≤ i ∧ i ≤ 5780) ∧ Off [79] [56] c s ∧ (∀ j, 0 ≤ j → j < i → s 79 j = c 81 j) ∧ ∀ j, ¬ (0 ≤ j ∧ j < i) → s 79 j = c 79 j) 5780 ?_ ?_ 0 c ⟨by omega, Off.rfl, fun j a b => by omega, fun _ _ => rfl⟩
  · intro i s hi hI ih
    refine W_X12_orders_140 ⟨fun _ => ⟨by omega, ih _ ⟨by omega, hI.2.1.wr rfl, fun j a b => ?_, fun j a => ?_⟩⟩, fun e => absurd hi e⟩
    · rw [up_at]
      by_cases e : j = i
      · rw [if_pos e, e, hI.2.1.cell (q := 81) rfl]
      · rw [if_neg e]; exact hI.2.2.1 j a (by omega)
    · rw [up_ne (by omega)]
      exact hI.2.2.2 j (by omega)
  · intro i s hi hI
    refine W_X12_orders_140 ⟨fun e => absurd e (by omega), fun _ => ?_⟩
    exact h _ (hI.2.1.wr rfl) (fun j a b => by rw [up_cell (by decide)]; exact hI.2.2.1 j a (by omega)) (fun j a => by rw [up_cell (by decide)]; exact hI.2.2.2 j (by omega)) up_same

/-! ORDERS: the class takes its copy back -/
def P2 (c s : Cm) : Prop := (s 1 0 = c 60 0 ∧ s 1 2 = c 60 2 ∧ s 1 5 = c 60 5) ∧ (∀ i, 0 ≤ i → i < 25 → s 2 i = c 61 i) ∧ (∀ i, 0 ≤ i → i < 18 → s 3 i = c 62 i) ∧ (∀ i, 0 ≤ i → i < 5 → s 4 i = c 63 i)
theorem P2.off {c s s' : Cm} (h : P2 c s) (o : Off [5] [] s s') : P2 c s' := by
  unfold P2
  rw [o.cell (q := 1) rfl, o.cell (q := 2) rfl, o.cell (q := 3) rfl, o.cell (q := 4) rfl]
  exact h
theorem c_takeNb {T : List Shp} {c : Cm} {R : Int → Int} (h : CSo 60 c R) (hR : RNG R) (hd : ∀ x, 0 ≤ x → x < 6 → trf (SH T) (c 64 x) 20 = true) : QV T (fun c' => Off [1, 2, 3, 4, 5, 6, 7, 8, 9] [] c c' ∧ CS c' R ∧ ∀ x, 0 ≤ x → x < 6 → c' 5 x = c 64 x) (ccal 65 [vR 2, vR 61] (SH T, c)) := by
  have h1 := hR.1
  obtain ⟨⟨a0, a1, a2, a3, a4, a5, a6, a7, a8, a9, a10, a11⟩, b1, b2, b3, b4, b5, b6⟩ := h
  refine W_X7_takeFromnb (Q := QV T _) ?_
  refine lpI (E := fun i (s : Cm) => cev 65 1 80 [vR 2, vR 61, vI i] [] (SH T, s)) (fun i s => (0 ≤ i ∧ i ≤ 6) ∧ Off [1, 2, 3, 4, 5, 6, 7, 8, 9] [] c s ∧ P2 c s ∧ ∀ j, 0 ≤ j → j < i → s 5 j = c 64 j) 6 ?_ ?_ 0 _ ⟨by omega, ?_, ?_, fun j a b => by omega⟩
  · intro i s hi hI ih
    have e5 : s 64 = c 64 := hI.2.1.cell rfl
    have e := hd i hI.1.1 hi
    refine W_X7_takeFromnb_80 ⟨fun _ => ⟨⟨by omega, by rw [e5]; exact e, by omega⟩, ih _ ⟨by omega, hI.2.1.wr rfl, hI.2.2.1.off (Off.rfl.wr rfl), fun j a b => ?_⟩⟩, fun z => absurd hi z⟩
    rw [up_at, e5]
    by_cases ej : j = i
    · rw [if_pos ej, ej]
    · rw [if_neg ej]; exact hI.2.2.2 j a (by omega)
  · intro i s hi hI
    obtain ⟨i0, o, ⟨⟨p0, p2, p5⟩, q1, q2, q3⟩, q4⟩ := hI
    have g60 : s 60 = c 60 := o.cell rfl
    have g65 : s 65 = c 65 := o.cell rfl
    have g66 : s 66 = c 66 := o.cell rfl
    have g67 : s 67 = c 67 := o.cell rfl
    have g68 : s 68 = c 68 := o.cell rfl
    refine W_X7_takeFromnb_80 ⟨fun z => absurd z (by omega), fun _ => QV.ret ⟨?_, ?_, fun x a b => ?_⟩⟩
    · exact ((((((((o.wr rfl).wr rfl).cp rfl).cp rfl).wr rfl).cp rfl).wr rfl).cp rfl)
    · refine ⟨⟨?_, ?_, ?_, ?_, ?_, ?_, ?_, ?_, ?_, ?_, ?_, ?_⟩, fun i a b => ?_, fun i a b => ?_, fun i a b => ?_, fun i a b => ?_, fun i a b => ?_, fun i a b => ?_⟩
      · simp [up, cpy]; rw [p0]; exact a0
      · simp [up, cpy]; rw [p2]; exact a1
      · simp [up, cpy]; rw [p5]; exact a2
      · simp [up, cpy]; rw [g60]; exact a3
      · simp [up, cpy]; rw [g60]; exact a4
      · simp [up, cpy]; rw [g60]; exact a5
      · simp [up, cpy]; rw [g60]; exact a6
      · simp [up, cpy]; rw [q3 0 (by omega) (by omega)]; exact a7
      · simp [up, cpy]; rw [q3 1 (by omega) (by omega)]; exact a8
      · simp [up, cpy]; rw [q3 2 (by omega) (by omega)]; exact a9
      · simp [up, cpy]; rw [q3 3 (by omega) (by omega)]; exact a10
      · simp [up, cpy]; rw [q3 4 (by omega) (by omega)]; exact a11
      · simp [up, cpy]; rw [q1 i a b]; exact b1 i a b
      · simp [up, cpy]; rw [q2 i a (by omega)]; exact b2 i a b
      · simp [up, cpy, a, b]; rw [g65]; exact b3 i a b
      · simp [up, cpy, a, b]; rw [g66]; exact b4 i a b
      · simp [up, cpy, a, b]; rw [g67]; exact b5 i a b
      · simp [up, cpy, a, b]; rw [g68]; exact b6 i a b
    · simp [up, cpy]; exact q4 x a (by omega)
  · exact ((((((Off.rfl.wr rfl).cp rfl).wr rfl).cp rfl).cp rfl).wr rfl)
  · refine ⟨⟨?_, ?_, ?_⟩, fun i a b => ?_, fun i a b => ?_, fun i a b => ?_⟩
    · simp [up, cpy]
    · simp [up, cpy]
    · simp [up, cpy]
    · simp [up, cpy, a, b]
    · simp [up, cpy, a, b]
    · simp [up, cpy, a, b]

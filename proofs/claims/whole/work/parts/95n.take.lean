/-! ORDERS: the class keeps a copy -/
def P1 (c s : Cm) : Prop := (s 60 0 = c 1 0 ∧ s 60 2 = c 1 2 ∧ s 60 5 = c 1 5) ∧ (∀ i, 0 ≤ i → i < 25 → s 61 i = c 2 i) ∧ (∀ i, 0 ≤ i → i < 18 → s 62 i = c 3 i) ∧ (∀ i, 0 ≤ i → i < 5 → s 63 i = c 4 i)
theorem P1.off {c s s' : Cm} (h : P1 c s) (o : Off [64] [] s s') : P1 c s' := by
  unfold P1
  rw [o.cell (q := 60) rfl, o.cell (q := 61) rfl, o.cell (q := 62) rfl, o.cell (q := 63) rfl]
  exact h
theorem c_takeBn {T : List Shp} {c : Cm} {R : Int → Int} (h : CS c R) (hR : RNG R) (hd : ∀ x, 0 ≤ x → x < 6 → trf (SH T) (c 5 x) 20 = true) : QV T (fun c' => Off [60, 61, 62, 63, 64, 65, 66, 67, 68] [] c c' ∧ CSo 60 c' R ∧ ∀ x, 0 ≤ x → x < 6 → c' 64 x = c 5 x) (ccal 65 [vR 61, vR 2] (SH T, c)) := by
  have h1 := hR.1
  obtain ⟨⟨a0, a1, a2, a3, a4, a5, a6, a7, a8, a9, a10, a11⟩, b1, b2, b3, b4, b5, b6⟩ := h
  refine W_X7_takeFrombn (Q := QV T _) ?_
  refine lpI (E := fun i (s : Cm) => cev 65 1 80 [vR 61, vR 2, vI i] [] (SH T, s)) (fun i s => (0 ≤ i ∧ i ≤ 6) ∧ Off [60, 61, 62, 63, 64, 65, 66, 67, 68] [] c s ∧ P1 c s ∧ ∀ j, 0 ≤ j → j < i → s 64 j = c 5 j) 6 ?_ ?_ 0 _ ⟨by omega, ?_, ?_, fun j a b => by omega⟩
  · intro i s hi hI ih
    have e5 : s 5 = c 5 := hI.2.1.cell rfl
    have e := hd i hI.1.1 hi
    refine W_X7_takeFrombn_80 ⟨fun _ => ⟨⟨by omega, by rw [e5]; exact e, by omega⟩, ih _ ⟨by omega, hI.2.1.wr rfl, hI.2.2.1.off (Off.rfl.wr rfl), fun j a b => ?_⟩⟩, fun z => absurd hi z⟩
    rw [up_at, e5]
    by_cases ej : j = i
    · rw [if_pos ej, ej]
    · rw [if_neg ej]; exact hI.2.2.2 j a (by omega)
  · intro i s hi hI
    obtain ⟨i0, o, ⟨⟨p0, p2, p5⟩, q1, q2, q3⟩, q4⟩ := hI
    have g : ∀ q, q < 60 → s q = c q := fun q hq => by
      funext j
      exact o q j (by simp; omega) (by intro e; omega)
    refine W_X7_takeFrombn_80 ⟨fun z => absurd z (by omega), fun _ => QV.ret ⟨?_, ?_, fun x a b => ?_⟩⟩
    · exact ((((((((o.wr rfl).wr rfl).cp rfl).cp rfl).wr rfl).cp rfl).wr rfl).cp rfl)
    · refine ⟨⟨?_, ?_, ?_, ?_, ?_, ?_, ?_, ?_, ?_, ?_, ?_, ?_⟩, fun i a b => ?_, fun i a b => ?_, fun i a b => ?_, fun i a b => ?_, fun i a b => ?_, fun i a b => ?_⟩
      · simp [up, cpy]; rw [p0]; exact a0
      · simp [up, cpy]; rw [p2]; exact a1
      · simp [up, cpy]; rw [p5]; exact a2
      · simp [up, cpy]; rw [g 1 (by decide)]; exact a3
      · simp [up, cpy]; rw [g 1 (by decide)]; exact a4
      · simp [up, cpy]; rw [g 1 (by decide)]; exact a5
      · simp [up, cpy]; rw [g 1 (by decide)]; exact a6
      · simp [up, cpy]; rw [q3 0 (by omega) (by omega)]; exact a7
      · simp [up, cpy]; rw [q3 1 (by omega) (by omega)]; exact a8
      · simp [up, cpy]; rw [q3 2 (by omega) (by omega)]; exact a9
      · simp [up, cpy]; rw [q3 3 (by omega) (by omega)]; exact a10
      · simp [up, cpy]; rw [q3 4 (by omega) (by omega)]; exact a11
      · simp [up, cpy]; rw [q1 i a b]; exact b1 i a b
      · simp [up, cpy]; rw [q2 i a (by omega)]; exact b2 i a b
      · simp [up, cpy, a, b]; rw [g 6 (by decide)]; exact b3 i a b
      · simp [up, cpy, a, b]; rw [g 7 (by decide)]; exact b4 i a b
      · simp [up, cpy, a, b]; rw [g 8 (by decide)]; exact b5 i a b
      · simp [up, cpy, a, b]; rw [g 9 (by decide)]; exact b6 i a b
    · simp [up, cpy]; exact q4 x a (by omega)
  · exact ((((((Off.rfl.wr rfl).cp rfl).wr rfl).cp rfl).cp rfl).wr rfl)
  · refine ⟨⟨?_, ?_, ?_⟩, fun i a b => ?_, fun i a b => ?_, fun i a b => ?_⟩
    · simp [up, cpy]
    · simp [up, cpy]
    · simp [up, cpy]
    · simp [up, cpy, a, b]
    · simp [up, cpy, a, b]
    · simp [up, cpy, a, b]

/-! IMAGES: the class keeps one, and takes it back -/
def P1i (c s : Cm) : Prop := (s 30 0 = c 1 0 ∧ s 30 2 = c 1 2 ∧ s 30 5 = c 1 5) ∧ (∀ i, 0 ≤ i → i < 25 → s 31 i = c 2 i) ∧ (∀ i, 0 ≤ i → i < 18 → s 32 i = c 3 i) ∧ (∀ i, 0 ≤ i → i < 5 → s 33 i = c 4 i)
theorem P1i.off {c s s' : Cm} (h : P1i c s) (o : Off [34] [] s s') : P1i c s' := by
  unfold P1i
  rw [o.cell (q := 30) rfl, o.cell (q := 31) rfl, o.cell (q := 32) rfl, o.cell (q := 33) rfl]
  exact h
theorem c_takeIn {T : List Shp} {c : Cm} {R : Int → Int} (h : CS c R) (hR : RNG R) (hd : ∀ x, 0 ≤ x → x < 6 → trf (SH T) (c 5 x) 20 = true) : QV T (fun c' => Off [30, 31, 32, 33, 34, 35, 36, 37, 38] [] c c' ∧ CSo 30 c' R ∧ ∀ x, 0 ≤ x → x < 6 → c' 34 x = c 5 x) (ccal 65 [vR 31, vR 2] (SH T, c)) := by
  have h1 := hR.1
  obtain ⟨⟨a0, a1, a2, a3, a4, a5, a6, a7, a8, a9, a10, a11⟩, b1, b2, b3, b4, b5, b6⟩ := h
  refine W_X7_takeFromin (Q := QV T _) ?_
  refine lpI (E := fun i (s : Cm) => cev 65 1 80 [vR 31, vR 2, vI i] [] (SH T, s)) (fun i s => (0 ≤ i ∧ i ≤ 6) ∧ Off [30, 31, 32, 33, 34, 35, 36, 37, 38] [] c s ∧ P1i c s ∧ ∀ j, 0 ≤ j → j < i → s 34 j = c 5 j) 6 ?_ ?_ 0 _ ⟨by omega, ?_, ?_, fun j a b => by omega⟩
  · intro i s hi hI ih
    have e5 : s 5 = c 5 := hI.2.1.cell rfl
    have e := hd i hI.1.1 hi
    refine W_X7_takeFromin_80 ⟨fun _ => ⟨⟨by omega, by rw [e5]; exact e, by omega⟩, ih _ ⟨by omega, hI.2.1.wr rfl, hI.2.2.1.off (Off.rfl.wr rfl), fun j a b => ?_⟩⟩, fun z => absurd hi z⟩
    rw [up_at, e5]
    by_cases ej : j = i
    · rw [if_pos ej, ej]
    · rw [if_neg ej]; exact hI.2.2.2 j a (by omega)
  · intro i s hi hI
    obtain ⟨i0, o, ⟨⟨p0, p2, p5⟩, q1, q2, q3⟩, q4⟩ := hI
    have g : ∀ q, q < 30 → s q = c q := fun q hq => by
      funext j
      exact o q j (by simp; omega) (by intro e; omega)
    refine W_X7_takeFromin_80 ⟨fun z => absurd z (by omega), fun _ => QV.ret ⟨?_, ?_, fun x a b => ?_⟩⟩
    · exact ((((((((o.wr rfl).wr rfl).cp rfl).cp rfl).wr rfl).cp rfl).wr rfl).cp rfl)
    · refine ⟨⟨?_, ?_, ?_, ?_, ?_, ?_, ?_, ?_, ?_, ?_, ?_, ?_⟩, fun i a b => ?_, fun i a b => ?_, fun i a b => ?_, fun i a b => ?_, fun i a b => ?_, fun i a b => ?_⟩
      · simp [up, cpy]; rw [p0]; exact a0
      · simp [up, cpy]; rw [p2]; exact a1
      · simp [up, cpy]; rw [p5]; exact a2
      · simp [up, cpy]; rw [g 1 (by decide)]; exact a3
      · simp [up, cpy]; rw [g 1 (by decide)]; exact a4
      · simp [up, cpy]; rw [g 1 (by decide)]; exact a5
      · simp [up, cpy]; rw [g 1 (by decide)]; exact a6
      · simp [up, cpy]; rw [q3 0 (by omega) (by omega)]; exact a7
      · simp [up, cpy]; rw [q3 1 (by omega) (by omega)]; exact a8
      · simp [up, cpy]; rw [q3 2 (by omega) (by omega)]; exact a9
      · simp [up, cpy]; rw [q3 3 (by omega) (by omega)]; exact a10
      · simp [up, cpy]; rw [q3 4 (by omega) (by omega)]; exact a11
      · simp [up, cpy]; rw [q1 i a b]; exact b1 i a b
      · simp [up, cpy]; rw [q2 i a (by omega)]; exact b2 i a b
      · simp [up, cpy, a, b]; rw [g 6 (by decide)]; exact b3 i a b
      · simp [up, cpy, a, b]; rw [g 7 (by decide)]; exact b4 i a b
      · simp [up, cpy, a, b]; rw [g 8 (by decide)]; exact b5 i a b
      · simp [up, cpy, a, b]; rw [g 9 (by decide)]; exact b6 i a b
    · simp [up, cpy]; exact q4 x a (by omega)
  · exact ((((((Off.rfl.wr rfl).cp rfl).wr rfl).cp rfl).cp rfl).wr rfl)
  · refine ⟨⟨?_, ?_, ?_⟩, fun i a b => ?_, fun i a b => ?_, fun i a b => ?_⟩
    · simp [up, cpy]
    · simp [up, cpy]
    · simp [up, cpy]
    · simp [up, cpy, a, b]
    · simp [up, cpy, a, b]
    · simp [up, cpy, a, b]
def P2i (c s : Cm) : Prop := (s 1 0 = c 30 0 ∧ s 1 2 = c 30 2 ∧ s 1 5 = c 30 5) ∧ (∀ i, 0 ≤ i → i < 25 → s 2 i = c 31 i) ∧ (∀ i, 0 ≤ i → i < 18 → s 3 i = c 32 i) ∧ (∀ i, 0 ≤ i → i < 5 → s 4 i = c 33 i)
theorem P2i.off {c s s' : Cm} (h : P2i c s) (o : Off [5] [] s s') : P2i c s' := by
  unfold P2i
  rw [o.cell (q := 1) rfl, o.cell (q := 2) rfl, o.cell (q := 3) rfl, o.cell (q := 4) rfl]
  exact h
theorem c_takeNi {T : List Shp} {c : Cm} {R : Int → Int} (h : CSo 30 c R) (hR : RNG R) (hd : ∀ x, 0 ≤ x → x < 6 → trf (SH T) (c 34 x) 20 = true) : QV T (fun c' => Off [1, 2, 3, 4, 5, 6, 7, 8, 9] [] c c' ∧ CS c' R ∧ ∀ x, 0 ≤ x → x < 6 → c' 5 x = c 34 x) (ccal 65 [vR 2, vR 31] (SH T, c)) := by
  have h1 := hR.1
  obtain ⟨⟨a0, a1, a2, a3, a4, a5, a6, a7, a8, a9, a10, a11⟩, b1, b2, b3, b4, b5, b6⟩ := h
  refine W_X7_takeFromni (Q := QV T _) ?_
  refine lpI (E := fun i (s : Cm) => cev 65 1 80 [vR 2, vR 31, vI i] [] (SH T, s)) (fun i s => (0 ≤ i ∧ i ≤ 6) ∧ Off [1, 2, 3, 4, 5, 6, 7, 8, 9] [] c s ∧ P2i c s ∧ ∀ j, 0 ≤ j → j < i → s 5 j = c 34 j) 6 ?_ ?_ 0 _ ⟨by omega, ?_, ?_, fun j a b => by omega⟩
  · intro i s hi hI ih
    have e5 : s 34 = c 34 := hI.2.1.cell rfl
    have e := hd i hI.1.1 hi
    refine W_X7_takeFromni_80 ⟨fun _ => ⟨⟨by omega, by rw [e5]; exact e, by omega⟩, ih _ ⟨by omega, hI.2.1.wr rfl, hI.2.2.1.off (Off.rfl.wr rfl), fun j a b => ?_⟩⟩, fun z => absurd hi z⟩
    rw [up_at, e5]
    by_cases ej : j = i
    · rw [if_pos ej, ej]
    · rw [if_neg ej]; exact hI.2.2.2 j a (by omega)
  · intro i s hi hI
    obtain ⟨i0, o, ⟨⟨p0, p2, p5⟩, q1, q2, q3⟩, q4⟩ := hI
    have g60 : s 30 = c 30 := o.cell rfl
    have g65 : s 35 = c 35 := o.cell rfl
    have g66 : s 36 = c 36 := o.cell rfl
    have g67 : s 37 = c 37 := o.cell rfl
    have g68 : s 38 = c 38 := o.cell rfl
    refine W_X7_takeFromni_80 ⟨fun z => absurd z (by omega), fun _ => QV.ret ⟨?_, ?_, fun x a b => ?_⟩⟩
    · exact ((((((((o.wr rfl).wr rfl).cp rfl).cp rfl).wr rfl).cp rfl).wr rfl).cp rfl)
    · refine ⟨⟨?_, ?_, ?_, ?_, ?_, ?_, ?_, ?_, ?_, ?_, ?_, ?_⟩, fun i a b => ?_, fun i a b => ?_, fun i a b => ?_, fun i a b => ?_, fun i a b => ?_, fun i a b => ?_⟩
      · simp [up, cpy]; rw [p0]; exact a0
      · simp [up, cpy]; rw [p2]; exact a1
      · simp [up, cpy]; rw [p5]; exact a2
      · simp [up, cpy]; rw [g60]; exact a3
      · simp [up, cpy]; rw [g60]; exact a4
      · simp [up, cpy]; rw [g60]; exact a5
      · simp [up, cpy]; rw [g60]; exact a6
      · simp [up, cpy]; rw [q3 0 (by omega) (by omega)]; exact a7
      · simp [up, cpy]; rw [q3 1 (by omega) (by omega)]; exact a8
      · simp [up, cpy]; rw [q3 2 (by omega) (by omega)]; exact a9
      · simp [up, cpy]; rw [q3 3 (by omega) (by omega)]; exact a10
      · simp [up, cpy]; rw [q3 4 (by omega) (by omega)]; exact a11
      · simp [up, cpy]; rw [q1 i a b]; exact b1 i a b
      · simp [up, cpy]; rw [q2 i a (by omega)]; exact b2 i a b
      · simp [up, cpy, a, b]; rw [g65]; exact b3 i a b
      · simp [up, cpy, a, b]; rw [g66]; exact b4 i a b
      · simp [up, cpy, a, b]; rw [g67]; exact b5 i a b
      · simp [up, cpy, a, b]; rw [g68]; exact b6 i a b
    · simp [up, cpy]; exact q4 x a (by omega)
  · exact ((((((Off.rfl.wr rfl).cp rfl).wr rfl).cp rfl).cp rfl).wr rfl)
  · refine ⟨⟨?_, ?_, ?_⟩, fun i a b => ?_, fun i a b => ?_, fun i a b => ?_⟩
    · simp [up, cpy]
    · simp [up, cpy]
    · simp [up, cpy]
    · simp [up, cpy, a, b]
    · simp [up, cpy, a, b]
    · simp [up, cpy, a, b]
def P1j (c s : Cm) : Prop := (s 39 0 = c 1 0 ∧ s 39 2 = c 1 2 ∧ s 39 5 = c 1 5) ∧ (∀ i, 0 ≤ i → i < 25 → s 40 i = c 2 i) ∧ (∀ i, 0 ≤ i → i < 18 → s 41 i = c 3 i) ∧ (∀ i, 0 ≤ i → i < 5 → s 42 i = c 4 i)
theorem P1j.off {c s s' : Cm} (h : P1j c s) (o : Off [43] [] s s') : P1j c s' := by
  unfold P1j
  rw [o.cell (q := 39) rfl, o.cell (q := 40) rfl, o.cell (q := 41) rfl, o.cell (q := 42) rfl]
  exact h
theorem c_takeJn {T : List Shp} {c : Cm} {R : Int → Int} (h : CS c R) (hR : RNG R) (hd : ∀ x, 0 ≤ x → x < 6 → trf (SH T) (c 5 x) 20 = true) : QV T (fun c' => Off [39, 40, 41, 42, 43, 44, 45, 46, 47] [] c c' ∧ CSo 39 c' R ∧ ∀ x, 0 ≤ x → x < 6 → c' 43 x = c 5 x) (ccal 65 [vR 40, vR 2] (SH T, c)) := by
  have h1 := hR.1
  obtain ⟨⟨a0, a1, a2, a3, a4, a5, a6, a7, a8, a9, a10, a11⟩, b1, b2, b3, b4, b5, b6⟩ := h
  refine W_X7_takeFromjn (Q := QV T _) ?_
  refine lpI (E := fun i (s : Cm) => cev 65 1 80 [vR 40, vR 2, vI i] [] (SH T, s)) (fun i s => (0 ≤ i ∧ i ≤ 6) ∧ Off [39, 40, 41, 42, 43, 44, 45, 46, 47] [] c s ∧ P1j c s ∧ ∀ j, 0 ≤ j → j < i → s 43 j = c 5 j) 6 ?_ ?_ 0 _ ⟨by omega, ?_, ?_, fun j a b => by omega⟩
  · intro i s hi hI ih
    have e5 : s 5 = c 5 := hI.2.1.cell rfl
    have e := hd i hI.1.1 hi
    refine W_X7_takeFromjn_80 ⟨fun _ => ⟨⟨by omega, by rw [e5]; exact e, by omega⟩, ih _ ⟨by omega, hI.2.1.wr rfl, hI.2.2.1.off (Off.rfl.wr rfl), fun j a b => ?_⟩⟩, fun z => absurd hi z⟩
    rw [up_at, e5]
    by_cases ej : j = i
    · rw [if_pos ej, ej]
    · rw [if_neg ej]; exact hI.2.2.2 j a (by omega)
  · intro i s hi hI
    obtain ⟨i0, o, ⟨⟨p0, p2, p5⟩, q1, q2, q3⟩, q4⟩ := hI
    have g : ∀ q, q < 39 → s q = c q := fun q hq => by
      funext j
      exact o q j (by simp; omega) (by intro e; omega)
    refine W_X7_takeFromjn_80 ⟨fun z => absurd z (by omega), fun _ => QV.ret ⟨?_, ?_, fun x a b => ?_⟩⟩
    · exact ((((((((o.wr rfl).wr rfl).cp rfl).cp rfl).wr rfl).cp rfl).wr rfl).cp rfl)
    · refine ⟨⟨?_, ?_, ?_, ?_, ?_, ?_, ?_, ?_, ?_, ?_, ?_, ?_⟩, fun i a b => ?_, fun i a b => ?_, fun i a b => ?_, fun i a b => ?_, fun i a b => ?_, fun i a b => ?_⟩
      · simp [up, cpy]; rw [p0]; exact a0
      · simp [up, cpy]; rw [p2]; exact a1
      · simp [up, cpy]; rw [p5]; exact a2
      · simp [up, cpy]; rw [g 1 (by decide)]; exact a3
      · simp [up, cpy]; rw [g 1 (by decide)]; exact a4
      · simp [up, cpy]; rw [g 1 (by decide)]; exact a5
      · simp [up, cpy]; rw [g 1 (by decide)]; exact a6
      · simp [up, cpy]; rw [q3 0 (by omega) (by omega)]; exact a7
      · simp [up, cpy]; rw [q3 1 (by omega) (by omega)]; exact a8
      · simp [up, cpy]; rw [q3 2 (by omega) (by omega)]; exact a9
      · simp [up, cpy]; rw [q3 3 (by omega) (by omega)]; exact a10
      · simp [up, cpy]; rw [q3 4 (by omega) (by omega)]; exact a11
      · simp [up, cpy]; rw [q1 i a b]; exact b1 i a b
      · simp [up, cpy]; rw [q2 i a (by omega)]; exact b2 i a b
      · simp [up, cpy, a, b]; rw [g 6 (by decide)]; exact b3 i a b
      · simp [up, cpy, a, b]; rw [g 7 (by decide)]; exact b4 i a b
      · simp [up, cpy, a, b]; rw [g 8 (by decide)]; exact b5 i a b
      · simp [up, cpy, a, b]; rw [g 9 (by decide)]; exact b6 i a b
    · simp [up, cpy]; exact q4 x a (by omega)
  · exact ((((((Off.rfl.wr rfl).cp rfl).wr rfl).cp rfl).cp rfl).wr rfl)
  · refine ⟨⟨?_, ?_, ?_⟩, fun i a b => ?_, fun i a b => ?_, fun i a b => ?_⟩
    · simp [up, cpy]
    · simp [up, cpy]
    · simp [up, cpy]
    · simp [up, cpy, a, b]
    · simp [up, cpy, a, b]
    · simp [up, cpy, a, b]
def P2j (c s : Cm) : Prop := (s 1 0 = c 39 0 ∧ s 1 2 = c 39 2 ∧ s 1 5 = c 39 5) ∧ (∀ i, 0 ≤ i → i < 25 → s 2 i = c 40 i) ∧ (∀ i, 0 ≤ i → i < 18 → s 3 i = c 41 i) ∧ (∀ i, 0 ≤ i → i < 5 → s 4 i = c 42 i)
theorem P2j.off {c s s' : Cm} (h : P2j c s) (o : Off [5] [] s s') : P2j c s' := by
  unfold P2j
  rw [o.cell (q := 1) rfl, o.cell (q := 2) rfl, o.cell (q := 3) rfl, o.cell (q := 4) rfl]
  exact h
theorem c_takeNj {T : List Shp} {c : Cm} {R : Int → Int} (h : CSo 39 c R) (hR : RNG R) (hd : ∀ x, 0 ≤ x → x < 6 → trf (SH T) (c 43 x) 20 = true) : QV T (fun c' => Off [1, 2, 3, 4, 5, 6, 7, 8, 9] [] c c' ∧ CS c' R ∧ ∀ x, 0 ≤ x → x < 6 → c' 5 x = c 43 x) (ccal 65 [vR 2, vR 40] (SH T, c)) := by
  have h1 := hR.1
  obtain ⟨⟨a0, a1, a2, a3, a4, a5, a6, a7, a8, a9, a10, a11⟩, b1, b2, b3, b4, b5, b6⟩ := h
  refine W_X7_takeFromnj (Q := QV T _) ?_
  refine lpI (E := fun i (s : Cm) => cev 65 1 80 [vR 2, vR 40, vI i] [] (SH T, s)) (fun i s => (0 ≤ i ∧ i ≤ 6) ∧ Off [1, 2, 3, 4, 5, 6, 7, 8, 9] [] c s ∧ P2j c s ∧ ∀ j, 0 ≤ j → j < i → s 5 j = c 43 j) 6 ?_ ?_ 0 _ ⟨by omega, ?_, ?_, fun j a b => by omega⟩
  · intro i s hi hI ih
    have e5 : s 43 = c 43 := hI.2.1.cell rfl
    have e := hd i hI.1.1 hi
    refine W_X7_takeFromnj_80 ⟨fun _ => ⟨⟨by omega, by rw [e5]; exact e, by omega⟩, ih _ ⟨by omega, hI.2.1.wr rfl, hI.2.2.1.off (Off.rfl.wr rfl), fun j a b => ?_⟩⟩, fun z => absurd hi z⟩
    rw [up_at, e5]
    by_cases ej : j = i
    · rw [if_pos ej, ej]
    · rw [if_neg ej]; exact hI.2.2.2 j a (by omega)
  · intro i s hi hI
    obtain ⟨i0, o, ⟨⟨p0, p2, p5⟩, q1, q2, q3⟩, q4⟩ := hI
    have g60 : s 39 = c 39 := o.cell rfl
    have g65 : s 44 = c 44 := o.cell rfl
    have g66 : s 45 = c 45 := o.cell rfl
    have g67 : s 46 = c 46 := o.cell rfl
    have g68 : s 47 = c 47 := o.cell rfl
    refine W_X7_takeFromnj_80 ⟨fun z => absurd z (by omega), fun _ => QV.ret ⟨?_, ?_, fun x a b => ?_⟩⟩
    · exact ((((((((o.wr rfl).wr rfl).cp rfl).cp rfl).wr rfl).cp rfl).wr rfl).cp rfl)
    · refine ⟨⟨?_, ?_, ?_, ?_, ?_, ?_, ?_, ?_, ?_, ?_, ?_, ?_⟩, fun i a b => ?_, fun i a b => ?_, fun i a b => ?_, fun i a b => ?_, fun i a b => ?_, fun i a b => ?_⟩
      · simp [up, cpy]; rw [p0]; exact a0
      · simp [up, cpy]; rw [p2]; exact a1
      · simp [up, cpy]; rw [p5]; exact a2
      · simp [up, cpy]; rw [g60]; exact a3
      · simp [up, cpy]; rw [g60]; exact a4
      · simp [up, cpy]; rw [g60]; exact a5
      · simp [up, cpy]; rw [g60]; exact a6
      · simp [up, cpy]; rw [q3 0 (by omega) (by omega)]; exact a7
      · simp [up, cpy]; rw [q3 1 (by omega) (by omega)]; exact a8
      · simp [up, cpy]; rw [q3 2 (by omega) (by omega)]; exact a9
      · simp [up, cpy]; rw [q3 3 (by omega) (by omega)]; exact a10
      · simp [up, cpy]; rw [q3 4 (by omega) (by omega)]; exact a11
      · simp [up, cpy]; rw [q1 i a b]; exact b1 i a b
      · simp [up, cpy]; rw [q2 i a (by omega)]; exact b2 i a b
      · simp [up, cpy, a, b]; rw [g65]; exact b3 i a b
      · simp [up, cpy, a, b]; rw [g66]; exact b4 i a b
      · simp [up, cpy, a, b]; rw [g67]; exact b5 i a b
      · simp [up, cpy, a, b]; rw [g68]; exact b6 i a b
    · simp [up, cpy]; exact q4 x a (by omega)
  · exact ((((((Off.rfl.wr rfl).cp rfl).wr rfl).cp rfl).cp rfl).wr rfl)
  · refine ⟨⟨?_, ?_, ?_⟩, fun i a b => ?_, fun i a b => ?_, fun i a b => ?_⟩
    · simp [up, cpy]
    · simp [up, cpy]
    · simp [up, cpy]
    · simp [up, cpy, a, b]
    · simp [up, cpy, a, b]
    · simp [up, cpy, a, b]

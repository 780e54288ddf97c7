/-! CALLS that change the world: century -/
theorem REL.gen {T : List Shp} {c c2 : Cm} {n : Nat} (h : REL T c n) (hP : PT 1 T c2 (c2 79)) (hI : IMG T c2) (e : ∀ q, scq q = false → 10 ≤ q → (q < 29 ∨ 47 < q) → q ≠ 73 → q ≠ 74 → q ≠ 75 → q ≠ 76 → q ≠ 77 → q ≠ 78 → q ≠ 79 → q ≠ 80 → q ≠ 82 → q ≠ 108 → c2 q = c q) (e0 : ∀ j, j ≠ 17 → j ≠ 2 → c2 0 j = c 0 j) (f : ∀ j, [7, 9, 14, 56].contains j = true → c2 77 j = c 77 j) (ax : AX c2) (cn : CNR c2) (st : RFS (n + 1) c2) (e79 : ∀ j, 5780 ≤ j → c2 79 j = 0) : REL T c2 (n + 1) := by
  obtain ⟨h1, h2, h3, ⟨m1, m2, m3, m4, m5⟩, h5, h6, h7⟩ := h
  have z : ∀ q, scq q = false → 10 ≤ q → (q < 29 ∨ 47 < q) → (q < 73 ∨ 82 < q) → q ≠ 108 → c2 q = c q := fun q a b d g k => e q a b d (by omega) (by omega) (by omega) (by omega) (by omega) (by omega) (by omega) (by omega) (by omega) k
  refine ⟨hP, hI, h3.cells (e0 4 (by decide) (by decide)) (f 9 rfl) (z 10 rfl (by decide) (by decide) (by decide) (by decide)) (z 83 rfl (by decide) (by decide) (by decide) (by decide)), ⟨?_, ax, m3.cong (z 89 rfl (by decide) (by decide) (by decide) (by decide)) (z 90 rfl (by decide) (by decide) (by decide) (by decide)) (z 91 rfl (by decide) (by decide) (by decide) (by decide)), ?_, e79⟩, st, cn, h7.up1⟩
  · rw [e0 14 (by decide) (by decide), e0 15 (by decide) (by decide), e0 16 (by decide) (by decide), f 14 rfl, f 7 rfl, f 56 rfl]
    exact m1
  · unfold B9
    rw [z 71 rfl (by decide) (by decide) (by decide) (by decide)]
    exact m4
section CAL
variable {T : List Shp} {c : Cm} {n : Nat}
theorem j_century {s m : Int} (h : REL T c n) (hn : n < 512) : JN T c n 165 337 [vI s, vI m] := by
  have hs := h.cs
  have hR := h.rng
  have r := hR.1
  have e8 := hs.1.2.2.2.2.1
  have rf := h.2.2.2.2.1
  obtain ⟨F, hc, hr⟩ := h.worlds
  have nr : ∀ (c1 : Cm) (Q' : Res → Prop), c1 79 = c 79 → ¬ ((0 ≤ s ∧ s ≤ 1000000) ∧ (0 ≤ m ∧ m ≤ 40) ∧ c 79 4 + m < 100) → ((-2147483648 ≤ (c1 78 1) + 1 ∧ (c1 78 1) + 1 < 2147483648) ∧ Q' (some (some (vI (-1)), (SH T, (up (up (up c1 77 0 0) 77 1 (-1)) 78 1 ((c1 78 1) + 1)))))) → Q' (ccal 337 (vR 78 :: [vI s, vI m]) (SH T, c1)) := fun c1 Q' e79 nb g => W_X12_century ⟨fun a => ⟨fun b => ⟨by rw [e79]; omega, fun d => by rw [e79] at d; omega, fun _ => g⟩, fun _ => g⟩, fun _ => g⟩
  refine W_X11_century (Q := QI T _) ⟨fun a => jr1 h hn fun Q' g => nr _ Q' rfl (by omega) g, fun a => ⟨fun b => jr1 h hn fun Q' g => nr _ Q' rfl (by omega) g, fun b => ⟨fun d => ⟨by omega, fun f => ?_, fun f => jr1 h hn fun Q' g => nr _ Q' rfl (by omega) g⟩, fun d => jr1 h hn fun Q' g => nr _ Q' rfl (by omega) g⟩⟩⟩
  refine (c_pass (seed := s) (n := m) hc (by omega) (by omega) (by omega)).mono fun c1 k => ?_
  obtain ⟨⟨i1, i2, i3⟩, k3, k7, k6, o⟩ := k
  have o1 : Off [0, 14, 15, 16, 17, 73, 74, 75] [] c (up c1 0 17 0) := (o.mono rfl rfl).wr rfl
  have e79 : (up c1 0 17 0) 79 = c 79 := o1.cell rfl
  have g := r_centuryA (T := T) (seed := s) (n := m) (hr.off o1 rfl) (by omega) (by omega) (by rw [e79]; omega)
  rw [e79] at g
  refine QI.ret ⟨o1.sc rfl, g.mono fun v c2 q => ?_⟩
  obtain ⟨q1, q2, q59, q60, q01, o2⟩ := q
  have a73 : c2 73 = c1 73 := (o2.cell rfl).trans (up_cell (by decide))
  have a74 : c2 74 = c1 74 := (o2.cell rfl).trans (up_cell (by decide))
  have a75 : c2 75 = c1 75 := (o2.cell rfl).trans (up_cell (by decide))
  have e179 : c2 79 = c 79 := (o2.cell rfl).trans e79
  have ev : ∀ q, scq q = false → q ≠ 0 → q ≠ 73 → q ≠ 74 → q ≠ 75 → q ≠ 77 → q ≠ 108 → c2 q = c q := fun q z z0 z3 z4 z5 z7 z8 => by
    have nl : ∀ L : List Nat, (L.all fun q => scq q || Nat.beq q 0 || Nat.beq q 73 || Nat.beq q 74 || Nat.beq q 75 || Nat.beq q 108) = true → L.contains q = false := fun L hl => by
      cases w : L.contains q with
      | false => rfl
      | true =>
        have := (List.all_eq_true.mp hl) q (List.contains_iff_mem.mp w)
        rw [z] at this
        simp only [Bool.or_eq_true, Nat.beq_eq] at this
        rcases this with (((((this | this) | this) | this) | this) | this)
        · exact absurd this (by decide)
        · exact absurd this z0
        · exact absurd this z3
        · exact absurd this z4
        · exact absurd this z5
        · exact absurd this z8
    funext j
    exact (o2 q j (nl _ rfl) fun y => absurd y z7).trans (o1 q j (nl _ rfl) fun y => absurd y z7)
  have e0 : ∀ j, j ≠ 17 → c2 0 j = c 0 j := fun j z => by
    rw [o2.cell rfl, up_ne z]
    exact congrFun (o.cell rfl) j
  have f7 : ∀ j, [0, 1, 30, 34, 35, 36, 57, 59, 60].contains j = false → c2 77 j = c 77 j := fun j z => by
    exact (o2 77 j rfl fun _ => z).trans (o1 77 j rfl fun _ => rfl)
  obtain ⟨h1, h2, h3, ⟨m1, m2, m3, m4, m5⟩, h5, h6, h7⟩ := h
  have big : ∀ q, 109 ≤ q → c2 q = c q := fun q z => ev q (scq_big (by omega)) (by omega) (by omega) (by omega) (by omega) (by omega) (by omega)
  have sl : ∀ q, (q < 11 ∨ (29 ≤ q ∧ q ≤ 47)) → scq q = false := fun q z => by
    cases w : scq q with
    | false => rfl
    | true =>
      unfold scq at w
      simp only [Bool.or_eq_true, Bool.and_eq_true, Nat.ble_eq, Nat.beq_eq] at w
      omega
  have hh : REL T c n := ⟨h1, h2, h3, ⟨m1, m2, m3, m4, m5⟩, h5, h6, h7⟩
  refine ⟨by rw [q1, k6], (o1.sc rfl).trans (o2.sc rfl), hh.gen ?_ ?_ (fun q z1 z2 z3 z4 z5 z6 z7 z8 z9 z10 z11 z12 z13 => ev q z1 (by omega) z4 z5 z6 z8 z13) (fun j z _ => e0 j z) (fun j z => ?_) ?_ ⟨?_, .inr q59, fun _ => ⟨?_, ?_, fun i a b => ?_, fun p a b => ?_⟩⟩ (h5.ok ?_ q01 (ev 76 rfl (by decide) (by decide) (by decide) (by decide) (by decide) (by decide)) (ev 78 rfl (by decide) (by decide) (by decide) (by decide) (by decide) (by decide))) (fun j z => by rw [e179]; exact m5 j z)⟩
  · rw [e179]
    exact h1.cells (fun q a b => ev q (sl q (by omega)) (by omega) (by omega) (by omega) (by omega) (by omega) (by omega)) big
  · exact h2.cells (e0 2 (by decide)) (fun q a b => ev q (sl q (by omega)) (by omega) (by omega) (by omega) (by omega) (by omega) (by omega)) (ev 80 rfl (by decide) (by decide) (by decide) (by decide) (by decide) (by decide)) (ev 82 rfl (by decide) (by decide) (by decide) (by decide) (by decide) (by decide)) big
  · have w := List.contains_iff_mem.mp z
    simp at w
    have : j = 7 ∨ j = 9 ∨ j = 14 ∨ j = 56 := by omega
    rcases this with z | z | z | z <;> subst z <;> exact f7 _ rfl
  · unfold AX at m2 ⊢
    rw [f7 16 rfl, f7 44 rfl, f7 45 rfl]
    exact m2
  · rw [a73, k7, q59]
  · rw [a73, k3, q60]
  · rw [q60]; omega
  · rw [a75, i2 i a b, q2 i a (by omega)]
  · rw [a74, i3 p a b, q2 (12 + p) (by omega) (by omega)]
  · rw [o2.cell rfl]; exact up_same
end CAL

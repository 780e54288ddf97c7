/-! WHAT CHANGES THE WORLD: the joint world behind it -/
def mt0 (q : Nat) (j : Int) : Bool := (Nat.ble 1 q && Nat.ble q 9 && !Nat.beq q 5) || Nat.beq q 79 || (Nat.beq q 0 && decide (j = 17)) || scq q || (Nat.beq q 77 && [0, 1, 30, 34, 35, 36, 49, 50].contains j)
def MT0 (q : Nat) (j : Int) : Prop := mt0 q j = true
theorem RFS.ok {n : Nat} {c c2 : Cm} (h : RFS n c) (e17 : c2 0 17 = 0) (e1 : c2 77 1 = 0) (e76 : c2 76 = c 76) (e78 : c2 78 = c 78) : RFS (n + 1) c2 := by
  obtain ⟨h1, h2, a, b, d, e, f⟩ := h
  unfold RFS
  rw [e17, e1, e76, e78]
  exact ⟨rfl, h2, by omega, by omega, by omega, by omega, by omega⟩
theorem RFS.b1 {n : Nat} {c c2 : Cm} (h : RFS n c) (e17 : c2 0 17 = -1) (e1 : c2 77 1 = -1) (e76 : c2 76 = rU (c 76) 0 (c 76 0 + 1)) (e78 : c2 78 = rU (c 78) 1 (c 78 1 + 1)) : RFS (n + 1) c2 := by
  obtain ⟨h1, ⟨g1, g2, g3, g5, g6⟩, a, b, d, e, f⟩ := h
  unfold RFS
  rw [e17, e1, e76, e78]
  exact ⟨rfl, ⟨congrArg (· + 1) g1, g2, g3, g5, g6⟩, by rw [rU_s]; omega, by rw [rU_o (by decide)]; omega, by rw [rU_o (by decide)]; omega, by rw [rU_o (by decide)]; omega, by rw [rU_o (by decide)]; omega⟩
theorem RFS.b2 {n : Nat} {c c2 : Cm} (h : RFS n c) (e17 : c2 0 17 = -2) (e1 : c2 77 1 = -2) (e76 : c2 76 = rU (c 76) 1 (c 76 1 + 1)) (e78 : c2 78 = rU (c 78) 2 (c 78 2 + 1)) : RFS (n + 1) c2 := by
  obtain ⟨h1, ⟨g1, g2, g3, g5, g6⟩, a, b, d, e, f⟩ := h
  unfold RFS
  rw [e17, e1, e76, e78]
  exact ⟨rfl, ⟨g1, congrArg (· + 1) g2, g3, g5, g6⟩, by rw [rU_o (by decide)]; omega, by rw [rU_s]; omega, by rw [rU_o (by decide)]; omega, by rw [rU_o (by decide)]; omega, by rw [rU_o (by decide)]; omega⟩
theorem RFS.b3 {n : Nat} {c c2 : Cm} (h : RFS n c) (e17 : c2 0 17 = -3) (e1 : c2 77 1 = -3) (e76 : c2 76 = rU (c 76) 2 (c 76 2 + 1)) (e78 : c2 78 = rU (c 78) 3 (c 78 3 + 1)) : RFS (n + 1) c2 := by
  obtain ⟨h1, ⟨g1, g2, g3, g5, g6⟩, a, b, d, e, f⟩ := h
  unfold RFS
  rw [e17, e1, e76, e78]
  exact ⟨rfl, ⟨g1, g2, congrArg (· + 1) g3, g5, g6⟩, by rw [rU_o (by decide)]; omega, by rw [rU_o (by decide)]; omega, by rw [rU_s]; omega, by rw [rU_o (by decide)]; omega, by rw [rU_o (by decide)]; omega⟩
theorem RFS.b5 {n : Nat} {c c2 : Cm} (h : RFS n c) (e17 : c2 0 17 = -5) (e1 : c2 77 1 = -5) (e76 : c2 76 = rU (c 76) 3 (c 76 3 + 1)) (e78 : c2 78 = rU (c 78) 5 (c 78 5 + 1)) : RFS (n + 1) c2 := by
  obtain ⟨h1, ⟨g1, g2, g3, g5, g6⟩, a, b, d, e, f⟩ := h
  unfold RFS
  rw [e17, e1, e76, e78]
  exact ⟨rfl, ⟨g1, g2, g3, congrArg (· + 1) g5, g6⟩, by rw [rU_o (by decide)]; omega, by rw [rU_o (by decide)]; omega, by rw [rU_o (by decide)]; omega, by rw [rU_s]; omega, by rw [rU_o (by decide)]; omega⟩
theorem RFS.b6 {n : Nat} {c c2 : Cm} (h : RFS n c) (e17 : c2 0 17 = -6) (e1 : c2 77 1 = -6) (e76 : c2 76 = rU (c 76) 4 (c 76 4 + 1)) (e78 : c2 78 = rU (c 78) 6 (c 78 6 + 1)) : RFS (n + 1) c2 := by
  obtain ⟨h1, ⟨g1, g2, g3, g5, g6⟩, a, b, d, e, f⟩ := h
  unfold RFS
  rw [e17, e1, e76, e78]
  exact ⟨rfl, ⟨g1, g2, g3, g5, congrArg (· + 1) g6⟩, by rw [rU_o (by decide)]; omega, by rw [rU_o (by decide)]; omega, by rw [rU_o (by decide)]; omega, by rw [rU_o (by decide)]; omega, by rw [rU_s]; omega⟩
/-- the general one: the row is R' now -/
theorem REL.mut {T : List Shp} {c c2 : Cm} {n : Nat} {R' : Int → Int} (h : REL T c n) (hs : CS c2 R') (hR : RNG R') (e79 : c2 79 = R') (e1 : R' 1 = c 79 1) (e380 : ∀ j, 380 ≤ j → R' j = c 79 j) (e5 : ∀ x, 0 ≤ x → x < 6 → c2 5 x = c 5 x) (e0 : ∀ j, ¬ j = 17 → c2 0 j = c 0 j) (e : ∀ q, scq q = false → (q = 10 ∨ 11 ≤ q) → q ≠ 76 → q ≠ 77 → q ≠ 78 → q ≠ 79 → c2 q = c q) (f : ∀ j, LK8.contains j = true → j ≠ 1 → c2 77 j = c 77 j) (ax : AX c2) (st : RFS (n + 1) c2) : REL T c2 (n + 1) := by
  obtain ⟨⟨h1, h2, h3, h4⟩, i2, i3, ⟨m1, m2, m3, m4, m5⟩, -, i6, i7⟩ := h
  have big : ∀ q, 109 ≤ q → c2 q = c q := fun q a => e q (scq_big (by omega)) (by omega) (by omega) (by omega) (by omega) (by omega)
  have r1 := h2.1
  refine ⟨?_, i2.cells (e0 2 (by decide)) (fun q a b => e q ?_ (by omega) (by omega) (by omega) (by omega) (by omega)) (e 80 rfl (by decide) (by decide) (by decide) (by decide) (by decide)) (e 82 rfl (by decide) (by decide) (by decide) (by decide) (by decide)) big, i3.cells (e0 4 (by decide)) (f 9 rfl (by decide)) (e 10 rfl (by decide) (by decide) (by decide) (by decide) (by decide)) (e 83 rfl (by decide) (by decide) (by decide) (by decide) (by decide)), ⟨?_, ax, m3.cong (e 89 rfl (by decide) (by decide) (by decide) (by decide) (by decide)) (e 90 rfl (by decide) (by decide) (by decide) (by decide) (by decide)) (e 91 rfl (by decide) (by decide) (by decide) (by decide) (by decide)), ?_, ?_⟩, st, i6.cells (e 73 rfl (by decide) (by decide) (by decide) (by decide) (by decide)) (e 74 rfl (by decide) (by decide) (by decide) (by decide) (by decide)) (e 75 rfl (by decide) (by decide) (by decide) (by decide) (by decide)) (e 108 rfl (by decide) (by decide) (by decide) (by decide) (by decide)) (f 59 rfl (by decide)) (f 60 rfl (by decide)), i7.up1⟩
  · rw [e79]
    refine ⟨hs, hR, fun i a b => ?_, fun x a b => ?_⟩
    · rw [e1] at b
      obtain ⟨F, k1, k2⟩ := h3 i a b
      refine ⟨F, ?_, k2.cg (by omega) e380⟩
      show CTX T c2 (c2 5 i) F
      rw [e5 i a (by omega)]
      exact k1.cg big
    · show trf (SH T) (c2 5 x) 20 = true
      rw [e5 x a b]
      exact h4 x a b
  · cases z : scq q with
    | false => rfl
    | true =>
      unfold scq at z
      simp only [Bool.or_eq_true, Bool.and_eq_true, Nat.ble_eq, Nat.beq_eq] at z
      omega
  · rw [e0 14 (by decide), e0 15 (by decide), e0 16 (by decide), f 14 rfl (by decide), f 7 rfl (by decide), f 56 rfl (by decide)]
    exact m1
  · unfold B9
    rw [e 71 rfl (by decide) (by decide) (by decide) (by decide) (by decide)]
    exact m4
  · intro j a
    rw [e79, e380 j (by omega)]
    exact m5 j a
/-- a plain change of the row, or none; what stands besides is as before -/
theorem REL.mut1 {T : List Shp} {c c2 : Cm} {n : Nat} {R' : Int → Int} (h : REL T c n) (hs : CS c2 R') (hR : RNG R') (e79 : c2 79 = R') (e1 : R' 1 = c 79 1) (e380 : ∀ j, 380 ≤ j → R' j = c 79 j) (fr : Fr (fun q j => mt0 q j = true ∨ q = 76 ∨ q = 78) c c2) (st : RFS (n + 1) c2) : REL T c2 (n + 1) := by
  have nb : ∀ q j, mt0 q j = false → q ≠ 76 → q ≠ 78 → c2 q j = c q j := fun q j a b d => fr q j fun k => by
    rcases k with k | k | k
    · rw [a] at k; exact absurd k (by decide)
    · exact b k
    · exact d k
  have m0 : ∀ j, ¬ j = 17 → mt0 0 j = false := fun j a => by
    show (false || false || (true && decide (j = 17)) || false || (false && _)) = false
    rw [decide_eq_false a]
    rfl
  refine h.mut hs hR e79 e1 e380 (fun x _ _ => nb 5 x rfl (by decide) (by decide)) (fun j a => nb 0 j (m0 j a) (by decide) (by decide)) (fun q a b d g k l => funext fun j => nb q j ?_ d k) (fun j a b => nb 77 j ?_ (by decide) (by decide)) ?_ st
  · cases z : mt0 q j with
    | false => rfl
    | true =>
      unfold mt0 at z
      rw [a] at z
      simp only [Bool.or_eq_true, Bool.and_eq_true, Nat.ble_eq, Nat.beq_eq] at z
      rcases z with ((((⟨⟨z, z2⟩, _⟩ | z) | z) | z) | z)
      · omega
      · omega
      · omega
      · exact absurd z (by decide)
      · omega
  · have m := List.contains_iff_mem.mp a
    unfold LK8 at m
    simp at m
    have : j = 1 ∨ j = 7 ∨ j = 9 ∨ j = 14 ∨ j = 56 ∨ j = 59 ∨ j = 60 := by omega
    rcases this with z | z | z | z | z | z | z <;> subst z
    · exact absurd rfl b
    all_goals rfl
  · have ax := h.2.2.2.1.2.1
    unfold AX at ax ⊢
    rw [nb 77 16 rfl (by decide) (by decide), nb 77 44 rfl (by decide) (by decide), nb 77 45 rfl (by decide) (by decide)]
    exact ax
theorem REL.mut0 {T : List Shp} {c c2 : Cm} {n : Nat} {R' : Int → Int} (h : REL T c n) (hs : CS c2 R') (hR : RNG R') (e79 : c2 79 = R') (e1 : R' 1 = c 79 1) (e380 : ∀ j, 380 ≤ j → R' j = c 79 j) (fr : Fr MT0 c c2) (e17 : c2 0 17 = 0) (e01 : c2 77 1 = 0) : REL T c2 (n + 1) := h.mut1 hs hR e79 e1 e380 (fr.mono fun q j a => .inl a) (h.2.2.2.2.1.ok e17 e01 (fr.cell fun j a => absurd (show false = true from a) (by decide)) (fr.cell fun j a => absurd (show false = true from a) (by decide)))
section JR
variable {T : List Shp} {c : Cm} {n Y : Nat} {a : List V}
theorem REL.bd (h : REL T c n) (hn : n < 512) : (0 ≤ c 76 0 ∧ c 76 0 ≤ 512) ∧ (0 ≤ c 76 1 ∧ c 76 1 ≤ 512) ∧ (0 ≤ c 76 2 ∧ c 76 2 ≤ 512) ∧ (0 ≤ c 76 3 ∧ c 76 3 ≤ 512) ∧ (0 ≤ c 76 4 ∧ c 76 4 ≤ 512) := by
  obtain ⟨-, -, a, b, d, e, f⟩ := h.2.2.2.2.1
  omega
theorem REL.r1 (h : REL T c n) : REL T (up (up (up (up (up c 0 17 (-1)) 76 0 ((c 76 0) + 1)) 77 0 0) 77 1 (-1)) 78 1 (((up (up c 0 17 (-1)) 76 0 ((c 76 0) + 1)) 78 1) + 1)) (n + 1) :=
  h.mut1 (R' := c 79) (h.cs.cells rfl rfl rfl rfl rfl rfl rfl rfl) h.rng rfl rfl (fun _ _ => rfl) (((((Fr.rfl.wr (.inl rfl)).wr (.inr (.inl rfl))).wr (.inl rfl)).wr (.inl rfl)).wr (.inr (.inr rfl))) (h.2.2.2.2.1.b1 rfl rfl (funext fun j => rfl) (funext fun j => rfl))
theorem jr1 (h : REL T c n) (hn : n < 512) (k : ∀ Q' : Res → Prop, ((-2147483648 ≤ ((up (up c 0 17 (-1)) 76 0 ((c 76 0) + 1)) 78 1) + 1 ∧ ((up (up c 0 17 (-1)) 76 0 ((c 76 0) + 1)) 78 1) + 1 < 2147483648) ∧ Q' (some (some (vI (-1)), (SH T, (up (up (up (up (up c 0 17 (-1)) 76 0 ((c 76 0) + 1)) 77 0 0) 77 1 (-1)) 78 1 (((up (up c 0 17 (-1)) 76 0 ((c 76 0) + 1)) 78 1) + 1)))))) → Q' (ccal Y (vR 78 :: a) (SH T, (up (up c 0 17 (-1)) 76 0 ((c 76 0) + 1))))) : (-2147483648 ≤ (c 76 0) + 1 ∧ (c 76 0) + 1 < 2147483648) ∧ QI T (JP T c n Y a) (some (some (vI (-1)), (SH T, (up (up c 0 17 (-1)) 76 0 ((c 76 0) + 1))))) := by
  have b := h.bd hn
  have g := h.2.2.2.2.1.2.1
  refine ⟨by omega, QI.ret ⟨(SC.rfl.wr (by decide)).wr (by decide), k (QI T (fun r' c2 => r' = -1 ∧ SC c c2 ∧ REL T c2 (n + 1))) ⟨?_, QI.ret ⟨rfl, ((((SC.rfl.wr (by decide)).wr (by decide)).wr (by decide)).wr (by decide)).wr (by decide), h.r1⟩⟩⟩⟩
  show -2147483648 ≤ (c 78 1) + 1 ∧ (c 78 1) + 1 < 2147483648
  omega
theorem REL.r2 (h : REL T c n) : REL T (up (up (up (up (up c 0 17 (-2)) 76 1 ((c 76 1) + 1)) 77 0 0) 77 1 (-2)) 78 2 (((up (up c 0 17 (-2)) 76 1 ((c 76 1) + 1)) 78 2) + 1)) (n + 1) :=
  h.mut1 (R' := c 79) (h.cs.cells rfl rfl rfl rfl rfl rfl rfl rfl) h.rng rfl rfl (fun _ _ => rfl) (((((Fr.rfl.wr (.inl rfl)).wr (.inr (.inl rfl))).wr (.inl rfl)).wr (.inl rfl)).wr (.inr (.inr rfl))) (h.2.2.2.2.1.b2 rfl rfl (funext fun j => rfl) (funext fun j => rfl))
theorem jr2 (h : REL T c n) (hn : n < 512) (k : ∀ Q' : Res → Prop, ((-2147483648 ≤ ((up (up c 0 17 (-2)) 76 1 ((c 76 1) + 1)) 78 2) + 1 ∧ ((up (up c 0 17 (-2)) 76 1 ((c 76 1) + 1)) 78 2) + 1 < 2147483648) ∧ Q' (some (some (vI (-2)), (SH T, (up (up (up (up (up c 0 17 (-2)) 76 1 ((c 76 1) + 1)) 77 0 0) 77 1 (-2)) 78 2 (((up (up c 0 17 (-2)) 76 1 ((c 76 1) + 1)) 78 2) + 1)))))) → Q' (ccal Y (vR 78 :: a) (SH T, (up (up c 0 17 (-2)) 76 1 ((c 76 1) + 1))))) : (-2147483648 ≤ (c 76 1) + 1 ∧ (c 76 1) + 1 < 2147483648) ∧ QI T (JP T c n Y a) (some (some (vI (-2)), (SH T, (up (up c 0 17 (-2)) 76 1 ((c 76 1) + 1))))) := by
  have b := h.bd hn
  have g := h.2.2.2.2.1.2.1
  refine ⟨by omega, QI.ret ⟨(SC.rfl.wr (by decide)).wr (by decide), k (QI T (fun r' c2 => r' = -2 ∧ SC c c2 ∧ REL T c2 (n + 1))) ⟨?_, QI.ret ⟨rfl, ((((SC.rfl.wr (by decide)).wr (by decide)).wr (by decide)).wr (by decide)).wr (by decide), h.r2⟩⟩⟩⟩
  show -2147483648 ≤ (c 78 2) + 1 ∧ (c 78 2) + 1 < 2147483648
  omega
theorem REL.r3 (h : REL T c n) : REL T (up (up (up (up (up c 0 17 (-3)) 76 2 ((c 76 2) + 1)) 77 0 0) 77 1 (-3)) 78 3 (((up (up c 0 17 (-3)) 76 2 ((c 76 2) + 1)) 78 3) + 1)) (n + 1) :=
  h.mut1 (R' := c 79) (h.cs.cells rfl rfl rfl rfl rfl rfl rfl rfl) h.rng rfl rfl (fun _ _ => rfl) (((((Fr.rfl.wr (.inl rfl)).wr (.inr (.inl rfl))).wr (.inl rfl)).wr (.inl rfl)).wr (.inr (.inr rfl))) (h.2.2.2.2.1.b3 rfl rfl (funext fun j => rfl) (funext fun j => rfl))
theorem jr3 (h : REL T c n) (hn : n < 512) (k : ∀ Q' : Res → Prop, ((-2147483648 ≤ ((up (up c 0 17 (-3)) 76 2 ((c 76 2) + 1)) 78 3) + 1 ∧ ((up (up c 0 17 (-3)) 76 2 ((c 76 2) + 1)) 78 3) + 1 < 2147483648) ∧ Q' (some (some (vI (-3)), (SH T, (up (up (up (up (up c 0 17 (-3)) 76 2 ((c 76 2) + 1)) 77 0 0) 77 1 (-3)) 78 3 (((up (up c 0 17 (-3)) 76 2 ((c 76 2) + 1)) 78 3) + 1)))))) → Q' (ccal Y (vR 78 :: a) (SH T, (up (up c 0 17 (-3)) 76 2 ((c 76 2) + 1))))) : (-2147483648 ≤ (c 76 2) + 1 ∧ (c 76 2) + 1 < 2147483648) ∧ QI T (JP T c n Y a) (some (some (vI (-3)), (SH T, (up (up c 0 17 (-3)) 76 2 ((c 76 2) + 1))))) := by
  have b := h.bd hn
  have g := h.2.2.2.2.1.2.1
  refine ⟨by omega, QI.ret ⟨(SC.rfl.wr (by decide)).wr (by decide), k (QI T (fun r' c2 => r' = -3 ∧ SC c c2 ∧ REL T c2 (n + 1))) ⟨?_, QI.ret ⟨rfl, ((((SC.rfl.wr (by decide)).wr (by decide)).wr (by decide)).wr (by decide)).wr (by decide), h.r3⟩⟩⟩⟩
  show -2147483648 ≤ (c 78 3) + 1 ∧ (c 78 3) + 1 < 2147483648
  omega
theorem REL.r5 (h : REL T c n) : REL T (up (up (up (up (up c 0 17 (-5)) 76 3 ((c 76 3) + 1)) 77 0 0) 77 1 (-5)) 78 5 (((up (up c 0 17 (-5)) 76 3 ((c 76 3) + 1)) 78 5) + 1)) (n + 1) :=
  h.mut1 (R' := c 79) (h.cs.cells rfl rfl rfl rfl rfl rfl rfl rfl) h.rng rfl rfl (fun _ _ => rfl) (((((Fr.rfl.wr (.inl rfl)).wr (.inr (.inl rfl))).wr (.inl rfl)).wr (.inl rfl)).wr (.inr (.inr rfl))) (h.2.2.2.2.1.b5 rfl rfl (funext fun j => rfl) (funext fun j => rfl))
theorem jr5 (h : REL T c n) (hn : n < 512) (k : ∀ Q' : Res → Prop, ((-2147483648 ≤ ((up (up c 0 17 (-5)) 76 3 ((c 76 3) + 1)) 78 5) + 1 ∧ ((up (up c 0 17 (-5)) 76 3 ((c 76 3) + 1)) 78 5) + 1 < 2147483648) ∧ Q' (some (some (vI (-5)), (SH T, (up (up (up (up (up c 0 17 (-5)) 76 3 ((c 76 3) + 1)) 77 0 0) 77 1 (-5)) 78 5 (((up (up c 0 17 (-5)) 76 3 ((c 76 3) + 1)) 78 5) + 1)))))) → Q' (ccal Y (vR 78 :: a) (SH T, (up (up c 0 17 (-5)) 76 3 ((c 76 3) + 1))))) : (-2147483648 ≤ (c 76 3) + 1 ∧ (c 76 3) + 1 < 2147483648) ∧ QI T (JP T c n Y a) (some (some (vI (-5)), (SH T, (up (up c 0 17 (-5)) 76 3 ((c 76 3) + 1))))) := by
  have b := h.bd hn
  have g := h.2.2.2.2.1.2.1
  refine ⟨by omega, QI.ret ⟨(SC.rfl.wr (by decide)).wr (by decide), k (QI T (fun r' c2 => r' = -5 ∧ SC c c2 ∧ REL T c2 (n + 1))) ⟨?_, QI.ret ⟨rfl, ((((SC.rfl.wr (by decide)).wr (by decide)).wr (by decide)).wr (by decide)).wr (by decide), h.r5⟩⟩⟩⟩
  show -2147483648 ≤ (c 78 5) + 1 ∧ (c 78 5) + 1 < 2147483648
  omega
theorem REL.r6 (h : REL T c n) : REL T (up (up (up (up (up c 0 17 (-6)) 76 4 ((c 76 4) + 1)) 77 0 0) 77 1 (-6)) 78 6 (((up (up c 0 17 (-6)) 76 4 ((c 76 4) + 1)) 78 6) + 1)) (n + 1) :=
  h.mut1 (R' := c 79) (h.cs.cells rfl rfl rfl rfl rfl rfl rfl rfl) h.rng rfl rfl (fun _ _ => rfl) (((((Fr.rfl.wr (.inl rfl)).wr (.inr (.inl rfl))).wr (.inl rfl)).wr (.inl rfl)).wr (.inr (.inr rfl))) (h.2.2.2.2.1.b6 rfl rfl (funext fun j => rfl) (funext fun j => rfl))
theorem jr6 (h : REL T c n) (hn : n < 512) (k : ∀ Q' : Res → Prop, ((-2147483648 ≤ ((up (up c 0 17 (-6)) 76 4 ((c 76 4) + 1)) 78 6) + 1 ∧ ((up (up c 0 17 (-6)) 76 4 ((c 76 4) + 1)) 78 6) + 1 < 2147483648) ∧ Q' (some (some (vI (-6)), (SH T, (up (up (up (up (up c 0 17 (-6)) 76 4 ((c 76 4) + 1)) 77 0 0) 77 1 (-6)) 78 6 (((up (up c 0 17 (-6)) 76 4 ((c 76 4) + 1)) 78 6) + 1)))))) → Q' (ccal Y (vR 78 :: a) (SH T, (up (up c 0 17 (-6)) 76 4 ((c 76 4) + 1))))) : (-2147483648 ≤ (c 76 4) + 1 ∧ (c 76 4) + 1 < 2147483648) ∧ QI T (JP T c n Y a) (some (some (vI (-6)), (SH T, (up (up c 0 17 (-6)) 76 4 ((c 76 4) + 1))))) := by
  have b := h.bd hn
  have g := h.2.2.2.2.1.2.1
  refine ⟨by omega, QI.ret ⟨(SC.rfl.wr (by decide)).wr (by decide), k (QI T (fun r' c2 => r' = -6 ∧ SC c c2 ∧ REL T c2 (n + 1))) ⟨?_, QI.ret ⟨rfl, ((((SC.rfl.wr (by decide)).wr (by decide)).wr (by decide)).wr (by decide)).wr (by decide), h.r6⟩⟩⟩⟩
  show -2147483648 ≤ (c 78 6) + 1 ∧ (c 78 6) + 1 < 2147483648
  omega
end JR

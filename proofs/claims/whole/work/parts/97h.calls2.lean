/-! CALLS that change the world: terms, painter, scar, heal, claimant, claim -/
theorem CS.p2e {c : Cm} {R : Int → Int} {i v a : Int} (h : CS c R) (ha : a = 233 + i) (hi : 0 ≤ i ∧ i < 25) : CS (up c 2 i v) (rU R a v) := by subst ha; exact h.p2 hi
theorem CS.p3e {c : Cm} {R : Int → Int} {i v a : Int} (h : CS c R) (ha : a = 258 + i) (hi : 0 ≤ i ∧ i < 18) : CS (up c 3 i v) (rU R a v) := by subst ha; exact h.p3 hi
theorem CS.p9e {c : Cm} {R : Int → Int} {i v a : Int} (h : CS c R) (h3 : R 3 ≤ 6) (ha : a = 348 + i) (hi : 0 ≤ i ∧ i < 32) : CS (up c 9 i v) (rU R a v) := by subst ha; exact h.p9 h3 hi
section CAL
variable {T : List Shp} {c : Cm} {n : Nat}
def hi5 (x : Int) : Int := if x = 0 then 99 else if x = 1 then 5 else if x = 2 then 9 else if x = 3 then 999 else 3
theorem c_high {x : Int} : ccal 176 [vI x] (SH T, c) = some (some (vI (hi5 x)), (SH T, c)) := by
  unfold hi5
  refine W_X11_highestTerm (Q := fun Z => Z = some (some (vI (if x = 0 then 99 else if x = 1 then 5 else if x = 2 then 9 else if x = 3 then 999 else 3)), (SH T, c))) ⟨fun e => ?_, fun e => ?_, fun e => ?_, fun e => ?_, fun e => ?_⟩
  · subst e; rfl
  · subst e; rfl
  · subst e; rfl
  · subst e; rfl
  · rw [if_neg (by omega), if_neg (by omega), if_neg (by omega), if_neg (by omega)]
theorem r_isTerm {x v : Int} : ccal 208 [vI x, vI v] (SH T, c) = some (some (vI (b01 ((0 ≤ x ∧ x < 5) ∧ 0 ≤ v ∧ v ≤ hi5 x))), (SH T, c)) := by
  refine W_X12_isTerm (Q := fun Z => Z = some (some (vI (b01 ((0 ≤ x ∧ x < 5) ∧ 0 ≤ v ∧ v ≤ hi5 x))), (SH T, c))) ⟨fun e => ?_, fun e => ?_, fun e => ?_, fun e => ?_, fun e => ?_, fun e => ?_⟩
  · subst e; rw [b01_congr (show (0 ≤ v ∧ v ≤ 99) ↔ ((0 ≤ (0 : Int) ∧ (0 : Int) < 5) ∧ 0 ≤ v ∧ v ≤ hi5 0) from by rw [show hi5 0 = 99 from rfl]; omega)]
  · subst e; rw [b01_congr (show (0 ≤ v ∧ v ≤ 5) ↔ ((0 ≤ (1 : Int) ∧ (1 : Int) < 5) ∧ 0 ≤ v ∧ v ≤ hi5 1) from by rw [show hi5 1 = 5 from rfl]; omega)]
  · subst e; rw [b01_congr (show (0 ≤ v ∧ v ≤ 9) ↔ ((0 ≤ (2 : Int) ∧ (2 : Int) < 5) ∧ 0 ≤ v ∧ v ≤ hi5 2) from by rw [show hi5 2 = 9 from rfl]; omega)]
  · subst e; rw [b01_congr (show (0 ≤ v ∧ v ≤ 999) ↔ ((0 ≤ (3 : Int) ∧ (3 : Int) < 5) ∧ 0 ≤ v ∧ v ≤ hi5 3) from by rw [show hi5 3 = 999 from rfl]; omega)]
  · subst e; rw [b01_congr (show (0 ≤ v ∧ v ≤ 3) ↔ ((0 ≤ (4 : Int) ∧ (4 : Int) < 5) ∧ 0 ≤ v ∧ v ≤ hi5 4) from by rw [show hi5 4 = 3 from rfl]; omega)]
  · rw [b01_f (by omega)]
theorem j_terms {x v : Int} (h : REL T c n) (hn : n < 512) : JN T c n 118 209 [vI x, vI v] := by
  have hs := h.cs
  have hR := h.rng
  have r := hR.1
  have rf : ∀ (c1 : Cm) (Q' : Res → Prop), ¬ ((0 ≤ x ∧ x < 5) ∧ 0 ≤ v ∧ v ≤ hi5 x) → ((-2147483648 ≤ (c1 78 1) + 1 ∧ (c1 78 1) + 1 < 2147483648) ∧ Q' (some (some (vI (-1)), (SH T, (up (up (up c1 77 0 0) 77 1 (-1)) 78 1 ((c1 78 1) + 1)))))) → Q' (ccal 209 (vR 78 :: [vI x, vI v]) (SH T, c1)) := fun c1 Q' nb g => W_X12_terms (QI.of_eq r_isTerm ⟨fun _ => g, fun z => absurd (b01_f nb) z⟩)
  have e4 : ∀ i, 0 ≤ i → i < 5 → c 4 i = c 79 (7 + i) := fun i a b => by
    obtain ⟨⟨-, -, -, -, -, -, -, t0, t1, t2, t3, t4⟩, -⟩ := hs
    have : i = 0 ∨ i = 1 ∨ i = 2 ∨ i = 3 ∨ i = 4 := by omega
    rcases this with z | z | z | z | z <;> subst z
    · exact t0
    · exact t1
    · exact t2
    · exact t3
    · exact t4
  refine W_X11_terms (Q := QI T _) ⟨fun a => ⟨fun b => jr1 h hn fun Q' g => rf _ Q' (by omega) g, fun b => QI.of_eq c_high ⟨fun d => jr1 h hn fun Q' g => rf _ Q' (by omega) g, fun d => ⟨a, QI.ret ⟨(SC.rfl.wr (by decide)).wr (by decide), W_X12_terms (Q := QI T _) (QI.of_eq r_isTerm ⟨fun z => ?_, fun _ => ⟨by omega, QI.ret ⟨?_, ?_, ?_⟩⟩⟩)⟩⟩⟩⟩, fun a => jr1 h hn fun Q' g => rf _ Q' (by omega) g⟩
  · rw [b01_t (by omega)] at z
    exact absurd z (by decide)
  · exact (e4 x a.1 a.2).symm
  · repeat' (first | exact SC.rfl | refine SC.wr ?_ ?_ | decide)
  · have g : ∀ k, x = k → hi5 x = hi5 k := fun k e => by rw [e]
    have g0 := g 0
    have g1 := g 1
    have g2 := g 2
    have g3 := g 3
    have g4 := g 4
    rw [show hi5 0 = 99 from rfl] at g0
    rw [show hi5 1 = 5 from rfl] at g1
    rw [show hi5 2 = 9 from rfl] at g2
    rw [show hi5 3 = 999 from rfl] at g3
    rw [show hi5 4 = 3 from rfl] at g4
    refine h.mut0 (R' := rU (c 79) (7 + x) v) ((hs.p4 (i := x) (v := v) a).cells rfl rfl rfl rfl rfl rfl rfl rfl) (hR.scl (.inr (by omega)) (by omega) (by omega) (by omega) (by omega) (by omega) (by omega)) (funext fun j => rfl) (rU_o (by omega)) (fun j a => rU_o (by omega)) ?_ rfl rfl
    repeat' (first | exact Fr.rfl | refine Fr.wr ?_ ?_ | exact (show mt0 _ _ = true from rfl))
theorem pt_cl {Q : Res → Prop} {c2 : Cm} {P : Int} (hP : 0 ≤ P ∧ P ≤ 20) (h1 : 0 ≤ c2 1 0 ∧ c2 1 0 ≤ 5) (k : Q (some (some (vI (c2 1 0)), (SH T, up (up (up (up (up c2 2 (P + 2) 3) 2 (P + 3) 3) 2 (P + 4) 3) 1 0 (c2 1 0 + 1)) 0 17 0)))) : Q (cev 115 3 79 [vR 1, vU, vU, vI P, vI 0] [] (SH T, c2)) := by
  refine W_X11_painter_79 ⟨fun _ => ⟨by omega, ?_⟩, fun z => by omega⟩
  rw [show P + 2 + 0 = P + 2 from by omega, show (0 : Int) + 1 = 1 from rfl]
  refine W_X11_painter_79 ⟨fun _ => ⟨by omega, ?_⟩, fun z => by omega⟩
  rw [show P + 2 + 1 = P + 3 from by omega, show (1 : Int) + 1 = 2 from rfl]
  refine W_X11_painter_79 ⟨fun _ => ⟨by omega, ?_⟩, fun z => by omega⟩
  rw [show P + 2 + 2 = P + 4 from by omega, show (2 : Int) + 1 = 3 from rfl]
  refine W_X11_painter_79 ⟨fun z => by omega, fun _ => ⟨?_, ?_⟩⟩
  · show (-2147483648 ≤ c2 1 0 + 1 ∧ c2 1 0 + 1 < 2147483648) ∧ -2147483648 ≤ c2 1 0 + 1 - 1 ∧ c2 1 0 + 1 - 1 < 2147483648
    omega
  · show Q (some (some (vI (c2 1 0 + 1 - 1)), (SH T, up (up (up (up (up c2 2 (P + 2) 3) 2 (P + 3) 3) 2 (P + 4) 3) 1 0 (c2 1 0 + 1)) 0 17 0)))
    rw [show c2 1 0 + 1 - 1 = c2 1 0 from by omega]
    exact k
theorem pt_rl {Q : Res → Prop} {c2 : Cm} {x3 A : Int} (hA : 233 ≤ A ∧ A ≤ 253) (h1 : 0 ≤ c2 79 0 ∧ c2 79 0 ≤ 5) (h3 : 0 ≤ x3) (k : Q (some (some (vI x3), (SH T, up (up (up (up (up c2 79 (A + 2) 3) 79 (A + 3) 3) 79 (A + 4) 3) 79 0 (c2 79 0 + 1)) 77 1 0)))) : Q (cev 205 2 84 [vR 78, vU, vU, vI x3, vI A, vI 2] [] (SH T, c2)) := by
  refine W_X12_painter_84 ⟨fun _ => ⟨by omega, ?_⟩, fun z => by omega⟩
  rw [show (2 : Int) + 1 = 3 from rfl]
  refine W_X12_painter_84 ⟨fun _ => ⟨by omega, ?_⟩, fun z => by omega⟩
  rw [show (3 : Int) + 1 = 4 from rfl]
  refine W_X12_painter_84 ⟨fun _ => ⟨by omega, ?_⟩, fun z => by omega⟩
  rw [show (4 : Int) + 1 = 5 from rfl]
  have e : up (up (up c2 79 (A + 2) 3) 79 (A + 3) 3) 79 (A + 4) 3 79 0 = c2 79 0 := by rw [up_ne (by omega), up_ne (by omega), up_ne (by omega)]
  refine W_X12_painter_84 ⟨fun z => by omega, fun _ => ⟨?_, ?_⟩⟩
  · rw [e]; omega
  · rw [e]; exact k
/-- a painter more -/
def paR (R : Int → Int) (x y : Int) : Int → Int := rU (rU (rU (rU (rU (rU R (233 + 5 * R 0) x) (233 + 5 * R 0 + 1) y) (233 + 5 * R 0 + 2) 3) (233 + 5 * R 0 + 3) 3) (233 + 5 * R 0 + 4) 3) 0 (R 0 + 1)
theorem paR_o {R : Int → Int} {x y j : Int} (h0 : j ≠ 0) (h : ¬ (233 + 5 * R 0 ≤ j ∧ j < 238 + 5 * R 0)) : paR R x y j = R j := by
  unfold paR
  rw [rU_o h0, rU_o (by omega), rU_o (by omega), rU_o (by omega), rU_o (by omega), rU_o (by omega)]
theorem paR_rng {R : Int → Int} {x y : Int} (h : RNG R) (h0 : R 0 < 5) (hx : 1 ≤ x ∧ x ≤ 9) (hy : 0 ≤ y ∧ y ≤ 99) : RNG (paR R x y) := by
  have r := h.1
  have e0 : paR R x y 0 = R 0 + 1 := rU_s
  have o : ∀ j, 1 ≤ j → j < 233 → paR R x y j = R j := fun j a b => paR_o (by omega) (by omega)
  have v0 : paR R x y (233 + 5 * R 0) = x := by
    unfold paR
    rw [rU_o (by omega), rU_o (by omega), rU_o (by omega), rU_o (by omega), rU_o (by omega), rU_s]
  have v1 : paR R x y (233 + 5 * R 0 + 1) = y := by
    unfold paR
    rw [rU_o (by omega), rU_o (by omega), rU_o (by omega), rU_o (by omega), rU_s]
  have v2 : ∀ k, 0 ≤ k → k < 3 → paR R x y (233 + 5 * R 0 + 2 + k) = 3 := fun k a b => by
    have : k = 0 ∨ k = 1 ∨ k = 2 := by omega
    unfold paR
    rcases this with z | z | z <;> subst z
    · rw [rU_o (by omega), rU_o (by omega), rU_o (by omega), show 233 + 5 * R 0 + 2 + 0 = 233 + 5 * R 0 + 2 from by omega, rU_s]
    · rw [rU_o (by omega), rU_o (by omega), show 233 + 5 * R 0 + 2 + 1 = 233 + 5 * R 0 + 3 from by omega, rU_s]
    · rw [rU_o (by omega), show 233 + 5 * R 0 + 2 + 2 = 233 + 5 * R 0 + 4 from by omega, rU_s]
  refine h.keep2 (by omega) (by omega) ⟨o 1 (by omega) (by omega), by rw [o 2 (by omega) (by omega)]; omega⟩ (by rw [o 3 (by omega) (by omega)]; omega) ⟨o 4 (by omega) (by omega), o 5 (by omega) (by omega)⟩ (by rw [o 6 (by omega) (by omega)]; omega) (by rw [o 7 (by omega) (by omega), o 8 (by omega) (by omega), o 9 (by omega) (by omega), o 10 (by omega) (by omega), o 11 (by omega) (by omega)]; omega) (fun j b => paR_o (by omega) (by omega)) (fun p b d => ?_) (fun p k b d b2 d2 => ?_) (fun s b d => ?_) (fun q b d => ?_)
  · by_cases e : p = R 0
    · subst e
      rw [v0, v1]
      omega
    · rw [paR_o (by omega) (by omega), paR_o (by omega) (by omega)]
      exact h.2.2.2.1 p b (by omega)
  · by_cases e : p = R 0
    · subst e
      rw [v2 k b2 d2]
      omega
    · rw [paR_o (by omega) (by omega)]
      exact h.2.2.2.2.1 p k b (by omega) b2 d2
  · rw [o 3 (by omega) (by omega)] at d
    rw [paR_o (by omega) (by omega), paR_o (by omega) (by omega), paR_o (by omega) (by omega)]
    exact h.2.2.2.2.2.1 s b d
  · rw [o 6 (by omega) (by omega)] at d
    rw [paR_o (by omega) (by omega), paR_o (by omega) (by omega), paR_o (by omega) (by omega), paR_o (by omega) (by omega)]
    exact h.2.2.2.2.2.2.2 q b d
theorem j_painter {x y : Int} (h : REL T c n) (hn : n < 512) : JN T c n 115 205 [vI x, vI y] := by
  have hs := h.cs
  have hR := h.rng
  have r := hR.1
  have e0 := hs.1.1
  refine W_X11_painter (Q := QI T _) ⟨fun a => jr1 h hn fun Q' g => W_X12_painter ⟨fun z => by omega, fun _ => g⟩, fun a => ⟨fun b => jr1 h hn fun Q' g => W_X12_painter ⟨fun z => by omega, fun _ => g⟩, fun b => ⟨fun d => ⟨fun f => ⟨by omega, ?_⟩, fun f => jr5 h hn fun Q' g => W_X12_painter ⟨fun _ => ⟨fun _ => ⟨fun _ => g, fun z => ?_⟩, fun z => by omega⟩, fun z => by omega⟩⟩, fun d => jr1 h hn fun Q' g => W_X12_painter ⟨fun _ => ⟨fun z => by omega, fun _ => g⟩, fun z => by omega⟩⟩⟩⟩
  · refine pt_cl (by omega) (show 0 ≤ c 1 0 ∧ c 1 0 ≤ 5 from by omega) (QI.ret ⟨?_, W_X12_painter (Q := QI T _) ⟨fun _ => ⟨fun _ => ⟨fun z => ?_, fun _ => ⟨?_, pt_rl ?_ ?_ ?_ (QI.ret ⟨?_, ?_, ?_⟩)⟩⟩, fun z => by omega⟩, fun z => by omega⟩⟩)
    · repeat' (first | exact SC.rfl | refine SC.wr ?_ ?_ | decide)
    · replace z : c 79 0 = 5 := z
      omega
    · show (-2147483648 ≤ 5 * c 79 0 ∧ 5 * c 79 0 < 2147483648) ∧ (-2147483648 ≤ 233 + 5 * c 79 0 ∧ 233 + 5 * c 79 0 < 2147483648) ∧ (0 ≤ 233 + 5 * c 79 0 ∧ 233 + 5 * c 79 0 < 5780) ∧ (-2147483648 ≤ 233 + 5 * c 79 0 + 1 ∧ 233 + 5 * c 79 0 + 1 < 2147483648) ∧ 0 ≤ 233 + 5 * c 79 0 + 1 ∧ 233 + 5 * c 79 0 + 1 < 5780
      omega
    · show 233 ≤ 233 + 5 * c 79 0 ∧ 233 + 5 * c 79 0 ≤ 253
      omega
    · rw [up_ne (by show (0 : Int) ≠ 233 + 5 * c 79 0 + 1; omega), up_ne (by show (0 : Int) ≠ 233 + 5 * c 79 0; omega)]
      show 0 ≤ c 79 0 ∧ c 79 0 ≤ 5
      omega
    · show 0 ≤ c 79 0
      omega
    · show c 79 0 = c 1 0
      omega
    · repeat' (first | exact SC.rfl | refine SC.wr ?_ ?_ | decide)
    · have e0' : c 1 0 * 5 = 5 * c 79 0 := by omega
      refine h.mut0 (R' := paR (c 79) x y) ?_ (paR_rng hR (by omega) (by omega) (by omega)) ?_ (paR_o (by decide) (by omega)) (fun j a => paR_o (by omega) (by omega)) ?_ rfl rfl
      · have hp := (((((hs.p2e (i := c 1 0 * 5) (v := x) (a := 233 + 5 * c 79 0) (by omega) (by omega)).p2e (i := c 1 0 * 5 + 1) (v := y) (a := 233 + 5 * c 79 0 + 1) (by omega) (by omega)).p2e (i := c 1 0 * 5 + 2) (v := 3) (a := 233 + 5 * c 79 0 + 2) (by omega) (by omega)).p2e (i := c 1 0 * 5 + 3) (v := 3) (a := 233 + 5 * c 79 0 + 3) (by omega) (by omega)).p2e (i := c 1 0 * 5 + 4) (v := 3) (a := 233 + 5 * c 79 0 + 4) (by omega) (by omega)).f0 (v := c 1 0 + 1)
        exact (hp.cells rfl rfl rfl rfl rfl rfl rfl rfl).nn fun j _ => by
          unfold paR
          rw [e0]
      · funext j
        have e1 : ∀ (M : Cm) (A : Int), A ≠ 0 → A + 1 ≠ 0 → M 79 0 = c 79 0 → up (up M 79 A x) 79 (A + 1) y 79 0 = c 79 0 := fun M A a1 a2 a3 => by rw [up_ne (Ne.symm a2), up_ne (Ne.symm a1), a3]
        have e2 := e1 (up (up (up (up (up (up (up (up c 2 (c 1 0 * 5) x) 2 (c 1 0 * 5 + 1) y) 2 (c 1 0 * 5 + 2) 3) 2 (c 1 0 * 5 + 3) 3) 2 (c 1 0 * 5 + 4) 3) 1 0 (c 1 0 + 1)) 0 17 0) 77 0 0) (233 + 5 * c 79 0) (by omega) (by omega) rfl
        show (if j = 0 then _ + 1 else _) = _
        have e3 : ∀ a b : Int, a = c 79 0 → (if j = 0 then a + 1 else b) = (if j = 0 then c 79 0 + 1 else b) := fun a b q => by rw [q]
        exact e3 _ _ e2
      · repeat' (first | exact Fr.rfl | refine Fr.wr ?_ ?_ | exact (show mt0 _ _ = true from rfl))
  · replace z : ¬ c 79 0 = 5 := z
    omega
end CAL

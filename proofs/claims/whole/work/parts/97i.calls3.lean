/-! CALLS that change the world: scar, heal -/
section CAL
variable {T : List Shp} {c : Cm} {n : Nat}
/-- a scar more -/
def saR (R : Int → Int) (x y t : Int) : Int → Int := rU (rU (rU (rU R (258 + 3 * R 3) x) (258 + 3 * R 3 + 1) y) (258 + 3 * R 3 + 2) t) 3 (R 3 + 1)
theorem saR_o {R : Int → Int} {x y t j : Int} (h0 : j ≠ 3) (h : ¬ (258 + 3 * R 3 ≤ j ∧ j < 261 + 3 * R 3)) : saR R x y t j = R j := by
  unfold saR
  rw [rU_o h0, rU_o (by omega), rU_o (by omega), rU_o (by omega)]
theorem saR_v {R : Int → Int} {x y t : Int} (h : 0 ≤ R 3) : saR R x y t (258 + 3 * R 3) = x ∧ saR R x y t (258 + 3 * R 3 + 1) = y ∧ saR R x y t (258 + 3 * R 3 + 2) = t := by
  unfold saR
  refine ⟨?_, ?_, ?_⟩
  · rw [rU_o (by omega), rU_o (by omega), rU_o (by omega), rU_s]
  · rw [rU_o (by omega), rU_o (by omega), rU_s]
  · rw [rU_o (by omega), rU_s]
theorem saR_rng {R : Int → Int} {x y t : Int} (h : RNG R) (h0 : R 3 < 6) (hx : 0 ≤ x ∧ x < 12) (hy : 0 ≤ y ∧ y < 100) (ht : 0 ≤ t ∧ t < 10) : RNG (saR R x y t) := by
  have r := h.1
  have e3 : saR R x y t 3 = R 3 + 1 := rU_s
  have v := saR_v (R := R) (x := x) (y := y) (t := t) (by omega)
  have o : ∀ j, j ≠ 3 → j < 258 → saR R x y t j = R j := fun j a b => saR_o a (by omega)
  refine h.keep2 (by rw [o 0 (by omega) (by omega)]; omega) (by rw [o 0 (by omega) (by omega)]; omega) ⟨o 1 (by omega) (by omega), by rw [o 2 (by omega) (by omega)]; omega⟩ (by omega) ⟨o 4 (by omega) (by omega), o 5 (by omega) (by omega)⟩ (by rw [o 6 (by omega) (by omega)]; omega) (by rw [o 7 (by omega) (by omega), o 8 (by omega) (by omega), o 9 (by omega) (by omega), o 10 (by omega) (by omega), o 11 (by omega) (by omega)]; omega) (fun j b => saR_o (by omega) (by omega)) (fun p b d => ?_) (fun p k b d b2 d2 => ?_) (fun s b d => ?_) (fun q b d => ?_)
  · rw [o 0 (by omega) (by omega)] at d
    rw [saR_o (by omega) (by omega), saR_o (by omega) (by omega)]
    exact h.2.2.2.1 p b d
  · rw [o 0 (by omega) (by omega)] at d
    rw [saR_o (by omega) (by omega)]
    exact h.2.2.2.2.1 p k b d b2 d2
  · by_cases e : s = R 3
    · subst e
      rw [v.1, v.2.1, v.2.2]
      omega
    · rw [saR_o (by omega) (by omega), saR_o (by omega) (by omega), saR_o (by omega) (by omega)]
      exact h.2.2.2.2.2.1 s b (by omega)
  · rw [o 6 (by omega) (by omega)] at d
    rw [saR_o (by omega) (by omega), saR_o (by omega) (by omega), saR_o (by omega) (by omega), saR_o (by omega) (by omega)]
    exact h.2.2.2.2.2.2.2 q b d
theorem j_scar {x y t : Int} (h : REL T c n) (hn : n < 512) : JN T c n 119 210 [vI x, vI y, vI t] := by
  have hs := h.cs
  have hR := h.rng
  have r := hR.1
  have e2 := hs.1.2.1
  refine W_X11_scar (Q := QI T _) ⟨fun a => ⟨fun b => ⟨fun d => ⟨fun f => ⟨by omega, QI.ret ⟨?_, W_X12_scar (Q := QI T _) ⟨fun _ => ⟨fun _ => ⟨fun _ => ⟨fun z => ?_, fun _ => ⟨?_, QI.ret ⟨?_, ?_, ?_⟩⟩⟩, fun z => by omega⟩, fun z => by omega⟩, fun z => by omega⟩⟩⟩, fun f => jr5 h hn fun Q' g => W_X12_scar ⟨fun _ => ⟨fun _ => ⟨fun _ => ⟨fun _ => g, fun z => ?_⟩, fun z => by omega⟩, fun z => by omega⟩, fun z => by omega⟩⟩, fun d => jr1 h hn fun Q' g => W_X12_scar ⟨fun _ => ⟨fun _ => ⟨fun z => by omega, fun _ => g⟩, fun z => by omega⟩, fun z => by omega⟩⟩, fun b => jr1 h hn fun Q' g => W_X12_scar ⟨fun _ => ⟨fun z => by omega, fun _ => g⟩, fun z => by omega⟩⟩, fun a => jr1 h hn fun Q' g => W_X12_scar ⟨fun z => by omega, fun _ => g⟩⟩
  · repeat' (first | exact SC.rfl | refine SC.wr ?_ ?_ | decide)
  · replace z : c 79 3 = 6 := z
    omega
  · have e : ∀ (M : Cm) (S : Int), M 79 3 = c 79 3 → S = c 79 3 → up (up (up M 79 (258 + 3 * S) x) 79 (258 + 3 * S + 1) y) 79 (258 + 3 * S + 2) t 79 3 = c 79 3 := fun M S a b => by
      rw [up_ne (by omega), up_ne (by omega), up_ne (by omega), a]
    have e9 := e (up (up (up (up (up c 3 (c 1 2 * 3) x) 3 (c 1 2 * 3 + 1) y) 3 (c 1 2 * 3 + 2) t) 1 2 (c 1 2 + 1)) 0 17 0) (c 79 3) rfl rfl
    refine ⟨?_, ?_, ?_, ?_, ?_, ?_, ?_, ?_, ?_⟩
    · show -2147483648 ≤ 3 * c 79 3 ∧ 3 * c 79 3 < 2147483648
      omega
    · show -2147483648 ≤ 258 + 3 * c 79 3 ∧ 258 + 3 * c 79 3 < 2147483648
      omega
    · show 0 ≤ 258 + 3 * c 79 3 ∧ 258 + 3 * c 79 3 < 5780
      omega
    · show -2147483648 ≤ 258 + 3 * c 79 3 + 1 ∧ 258 + 3 * c 79 3 + 1 < 2147483648
      omega
    · show 0 ≤ 258 + 3 * c 79 3 + 1 ∧ 258 + 3 * c 79 3 + 1 < 5780
      omega
    · show -2147483648 ≤ 258 + 3 * c 79 3 + 2 ∧ 258 + 3 * c 79 3 + 2 < 2147483648
      omega
    · show 0 ≤ 258 + 3 * c 79 3 + 2 ∧ 258 + 3 * c 79 3 + 2 < 5780
      omega
    · have k : ∀ v : Int, v = c 79 3 → -2147483648 ≤ v + 1 ∧ v + 1 < 2147483648 := fun v q => by omega
      exact k _ e9
    · show 0 ≤ c 79 3
      omega
  · show c 79 3 = c 1 2 + 1 - 1
    omega
  · repeat' (first | exact SC.rfl | refine SC.wr ?_ ?_ | decide)
  · have e0' : c 1 2 * 3 = 3 * c 79 3 := by omega
    refine h.mut0 (R' := saR (c 79) x y t) ?_ (saR_rng hR (by omega) (by omega) (by omega) (by omega)) ?_ (saR_o (by decide) (by omega)) (fun j a => saR_o (by omega) (by omega)) ?_ rfl rfl
    · have hp := ((hs.p3e (i := c 1 2 * 3) (v := x) (a := 258 + 3 * c 79 3) (by omega) (by omega)).p3e (i := c 1 2 * 3 + 1) (v := y) (a := 258 + 3 * c 79 3 + 1) (by omega) (by omega)).p3e (i := c 1 2 * 3 + 2) (v := t) (a := 258 + 3 * c 79 3 + 2) (by omega) (by omega)
      have hb := hp.f2 (v := c 1 2 + 1) fun j a b => by
        unfold rU up
        simp only [if_true]
        by_cases j2 : j = c 1 2 * 3 + 2
        · rw [if_pos j2, if_pos (by omega)]
        · rw [if_neg j2, if_neg (show ¬ 258 + j = 258 + 3 * c 79 3 + 2 by omega)]
          by_cases j1 : j = c 1 2 * 3 + 1
          · rw [if_pos j1, if_pos (by omega)]
          · rw [if_neg j1, if_neg (show ¬ 258 + j = 258 + 3 * c 79 3 + 1 by omega)]
            by_cases j0 : j = c 1 2 * 3
            · rw [if_pos j0, if_pos (by omega)]
            · rw [if_neg j0, if_neg (show ¬ 258 + j = 258 + 3 * c 79 3 by omega)]
              exact hs.2.2.1 j a (by omega)
      exact (hb.cells rfl rfl rfl rfl rfl rfl rfl rfl).nn fun j _ => by
        unfold saR
        rw [e2]
    · funext j
      have e1 : ∀ (M : Cm) (S : Int), M 79 3 = c 79 3 → S = c 79 3 → up (up (up M 79 (258 + 3 * S) x) 79 (258 + 3 * S + 1) y) 79 (258 + 3 * S + 2) t 79 3 = c 79 3 := fun M S a b => by
        rw [up_ne (by omega), up_ne (by omega), up_ne (by omega), a]
      have e9 := e1 (up (up (up (up (up c 3 (c 1 2 * 3) x) 3 (c 1 2 * 3 + 1) y) 3 (c 1 2 * 3 + 2) t) 1 2 (c 1 2 + 1)) 0 17 0) (c 79 3) rfl rfl
      show (if j = 3 then _ + 1 else _) = _
      have e3 : ∀ a b : Int, a = c 79 3 → (if j = 3 then a + 1 else b) = (if j = 3 then c 79 3 + 1 else b) := fun a b q => by rw [q]
      exact e3 _ _ e9
    · repeat' (first | exact Fr.rfl | refine Fr.wr ?_ ?_ | exact (show mt0 _ _ = true from rfl))
  · replace z : ¬ c 79 3 = 6 := z
    omega
/-- a scar less -/
def heR (R : Int → Int) (x : Int) : Int → Int := fun j => if j = 3 then R 3 - 1 else if 258 + 3 * x ≤ j ∧ j < 273 then R (j + 3) else R j
theorem heR_o {R : Int → Int} {x j : Int} (h0 : j ≠ 3) (h : ¬ (258 + 3 * x ≤ j ∧ j < 273)) : heR R x j = R j := by
  unfold heR
  rw [if_neg h0, if_neg h]
theorem heR_v {R : Int → Int} {x j : Int} (h0 : j ≠ 3) (h : 258 + 3 * x ≤ j ∧ j < 273) : heR R x j = R (j + 3) := by
  unfold heR
  rw [if_neg h0, if_pos h]
theorem heR_rng {R : Int → Int} {x : Int} (h : RNG R) (hx : 0 ≤ x ∧ x < R 3) : RNG (heR R x) := by
  have r := h.1
  have e3 : heR R x 3 = R 3 - 1 := if_pos rfl
  have o : ∀ j, j ≠ 3 → j < 258 → heR R x j = R j := fun j a b => heR_o a (by omega)
  refine h.keep2 (by rw [o 0 (by omega) (by omega)]; omega) (by rw [o 0 (by omega) (by omega)]; omega) ⟨o 1 (by omega) (by omega), by rw [o 2 (by omega) (by omega)]; omega⟩ (by omega) ⟨o 4 (by omega) (by omega), o 5 (by omega) (by omega)⟩ (by rw [o 6 (by omega) (by omega)]; omega) (by rw [o 7 (by omega) (by omega), o 8 (by omega) (by omega), o 9 (by omega) (by omega), o 10 (by omega) (by omega), o 11 (by omega) (by omega)]; omega) (fun j b => heR_o (by omega) (by omega)) (fun p b d => ?_) (fun p k b d b2 d2 => ?_) (fun s b d => ?_) (fun q b d => ?_)
  · rw [o 0 (by omega) (by omega)] at d
    rw [heR_o (by omega) (by omega), heR_o (by omega) (by omega)]
    exact h.2.2.2.1 p b d
  · rw [o 0 (by omega) (by omega)] at d
    rw [heR_o (by omega) (by omega)]
    exact h.2.2.2.2.1 p k b d b2 d2
  · rw [e3] at d
    by_cases e : x ≤ s
    · rw [heR_v (by omega) (by omega), heR_v (by omega) (by omega), heR_v (by omega) (by omega)]
      have g := h.2.2.2.2.2.1 (s + 1) (by omega) (by omega)
      rw [show 258 + 3 * (s + 1) = 258 + 3 * s + 3 from by omega, show 258 + 3 * s + 3 + 1 = 258 + 3 * s + 1 + 3 from by omega, show 258 + 3 * s + 3 + 2 = 258 + 3 * s + 2 + 3 from by omega] at g
      exact g
    · rw [heR_o (by omega) (by omega), heR_o (by omega) (by omega), heR_o (by omega) (by omega)]
      exact h.2.2.2.2.2.1 s b (by omega)
  · rw [o 6 (by omega) (by omega)] at d
    rw [heR_o (by omega) (by omega), heR_o (by omega) (by omega), heR_o (by omega) (by omega), heR_o (by omega) (by omega)]
    exact h.2.2.2.2.2.2.2 q b d
theorem c_heal27 {Q : Res → Prop} {x : Int} (hc : 0 ≤ c 1 2 ∧ c 1 2 ≤ 6) (hx : 0 ≤ x ∧ x < c 1 2) (k : ∀ s : Cm, (∀ q, q ≠ 3 → s q = c q) → (∀ j, s 3 j = if 3 * x ≤ j ∧ j < 3 * c 1 2 - 3 then c 3 (j + 3) else c 3 j) → Q (some (some (vI (c 1 2 - 1)), (SH T, up (up s 1 2 (c 1 2 - 1)) 0 17 0)))) : Q (cev 120 3 27 [vR 1, vU, vI ((x + 1) * 3)] [] (SH T, c)) := by
  refine lpI (E := fun i (s : Cm) => cev 120 3 27 [vR 1, vU, vI i] [] (SH T, s)) (fun i s => (3 * x + 3 ≤ i ∧ i ≤ 3 * c 1 2) ∧ (∀ q, q ≠ 3 → s q = c q) ∧ ∀ j, s 3 j = if 3 * x ≤ j ∧ j < i - 3 then c 3 (j + 3) else c 3 j) (3 * c 1 2) ?_ ?_ ((x + 1) * 3) c ⟨by omega, fun _ _ => rfl, fun j => by rw [if_neg (by omega)]⟩
  · intro i s hi hI ih
    have e1 : s 1 = c 1 := hI.2.1 1 (by decide)
    refine W_X11_heal_27 ⟨by rw [e1]; omega, fun _ => ⟨by omega, ih _ ⟨by omega, fun q hq => (up_cell hq).trans (hI.2.1 q hq), fun j => ?_⟩⟩, fun z => by rw [e1] at z; omega⟩
    rw [up_at]
    by_cases e : j = i - 3
    · rw [if_pos e, hI.2.2, if_neg (by omega), if_pos (by omega), e]
      exact congrArg (c 3) (by omega)
    · rw [if_neg e, hI.2.2]
      by_cases e2 : 3 * x ≤ j ∧ j < i - 3
      · rw [if_pos e2, if_pos (by omega)]
      · rw [if_neg e2, if_neg (by omega)]
  · intro i s hi hI
    have e1 : s 1 = c 1 := hI.2.1 1 (by decide)
    have ei : i = 3 * c 1 2 := by omega
    refine W_X11_heal_27 ⟨by rw [e1]; omega, fun z => by rw [e1] at z; omega, fun _ => ⟨by rw [e1]; omega, ?_⟩⟩
    rw [e1]
    subst ei
    exact k s hI.2.1 hI.2.2
theorem r_heal38 {Q : Res → Prop} {x : Int} (hc : 1 ≤ c 79 3 ∧ c 79 3 ≤ 6) (hx : 0 ≤ x ∧ x < c 79 3) (k : ∀ s : Cm, (∀ q, q ≠ 79 → s q = c q) → (∀ j, s 79 j = if 258 + 3 * x ≤ j ∧ j < 273 then c 79 (j + 3) else c 79 j) → Q (some (some (vI (c 79 3 - 1)), (SH T, up (up s 79 3 (c 79 3 - 1)) 77 1 0)))) : Q (cev 211 2 38 [vR 78, vU, vI (258 + 3 * x)] [] (SH T, c)) := by
  refine lpI (E := fun i (s : Cm) => cev 211 2 38 [vR 78, vU, vI i] [] (SH T, s)) (fun i s => (258 + 3 * x ≤ i ∧ i ≤ 273) ∧ (∀ q, q ≠ 79 → s q = c q) ∧ ∀ j, s 79 j = if 258 + 3 * x ≤ j ∧ j < i then c 79 (j + 3) else c 79 j) 273 ?_ ?_ (258 + 3 * x) c ⟨by omega, fun _ _ => rfl, fun j => by rw [if_neg (by omega)]⟩
  · intro i s hi hI ih
    refine W_X12_heal_38 ⟨fun _ => ⟨by omega, ih _ ⟨by omega, fun q hq => (up_cell hq).trans (hI.2.1 q hq), fun j => ?_⟩⟩, fun z => absurd hi z⟩
    rw [up_at]
    by_cases e : j = i
    · rw [if_pos e, hI.2.2, if_neg (by omega), if_pos (by omega), e]
    · rw [if_neg e, hI.2.2]
      by_cases e2 : 258 + 3 * x ≤ j ∧ j < i
      · rw [if_pos e2, if_pos (by omega)]
      · rw [if_neg e2, if_neg (by omega)]
  · intro i s hi hI
    have ei : i = 273 := by omega
    have e3 : s 79 3 = c 79 3 := by rw [hI.2.2, if_neg (by omega)]
    refine W_X12_heal_38 ⟨fun z => absurd z (by omega), fun _ => ⟨by rw [e3]; omega, ?_⟩⟩
    rw [e3]
    subst ei
    exact k s hI.2.1 hI.2.2
theorem j_heal {x : Int} (h : REL T c n) (hn : n < 512) : JN T c n 120 211 [vI x] := by
  have hs := h.cs
  have hR := h.rng
  have r := hR.1
  have e2 := hs.1.2.1
  refine W_X11_heal (Q := QI T _) ⟨fun a => ⟨by omega, c_heal27 (by omega) a fun s f1 f2 => QI.ret ⟨?_, W_X12_heal (Q := QI T _) ⟨?_, fun z => ⟨by omega, ?_⟩, fun z => ?_⟩⟩⟩, fun a => jr2 h hn fun Q' g => W_X12_heal ⟨?_, fun z => ?_, fun _ => g⟩⟩
  · exact ((show SC c s from ⟨f1 _ (by decide), f1 _ (by decide)⟩).wr (by decide)).wr (by decide)
  · have e79 : s 79 = c 79 := f1 79 (by decide)
    show -9223372036854775808 ≤ s 79 3 - 1 ∧ s 79 3 - 1 < 9223372036854775808
    rw [e79]
    omega
  · have e79 : s 79 = c 79 := f1 79 (by decide)
    have m79 : (up (up (up s 1 2 (c 1 2 - 1)) 0 17 0) 77 0 0) 79 = c 79 := e79
    have m3 : (up (up (up s 1 2 (c 1 2 - 1)) 0 17 0) 77 0 0) 79 3 = c 79 3 := congrFun m79 3
    refine r_heal38 (by rw [m3]; omega) (by rw [m3]; omega) fun s2 g1 g2 => QI.ret ⟨?_, ?_, ?_⟩
    · rw [m3]; omega
    · have k : SC c s := ⟨f1 _ (by decide), f1 _ (by decide)⟩
      have k2 : SC (up (up (up s 1 2 (c 1 2 - 1)) 0 17 0) 77 0 0) s2 := ⟨g1 _ (by decide), g1 _ (by decide)⟩
      exact ((((((k.wr (by decide)).wr (by decide)).wr (by decide)).trans k2).wr (by decide)).wr (by decide))
    · rw [m3]
      rw [m79] at g2
      have q2 : ∀ q, q ≠ 79 → q ≠ 77 → s2 q = (up (up s 1 2 (c 1 2 - 1)) 0 17 0) q := fun q a b => (g1 q a).trans (up_cell b)
      refine h.mut0 (R' := heR (c 79) x) ?_ (heR_rng hR (by omega)) ?_ (heR_o (by decide) (by omega)) (fun j a => heR_o (by omega) (by omega)) ?_ ?_ rfl
      · obtain ⟨⟨a0, a1, a2, a3, a4, a5, a6, a7, a8, a9, a10, a11⟩, b2, b3, b6, b7, b8, b9⟩ := hs
        have s1 : ∀ j, j ≠ 2 → s2 1 j = c 1 j := fun j hj => by rw [q2 1 (by decide) (by decide), up_cell (by decide), up_ne hj, f1 1 (by decide)]
        have sq : ∀ q, q ≠ 0 → q ≠ 1 → q ≠ 3 → q ≠ 77 → q ≠ 79 → s2 q = c q := fun q k0 k1 k3 k77 k79 => by rw [q2 q k79 k77, up_cell k0, up_cell k1, f1 q k3]
        have s3 : s2 3 = s 3 := by rw [q2 3 (by decide) (by decide), up_cell (by decide), up_cell (by decide)]
        have s4 := sq 4 (by decide) (by decide) (by decide) (by decide) (by decide)
        have o : ∀ j, j ≠ 3 → (j < 258 ∨ 276 ≤ j) → heR (c 79) x j = c 79 j := fun j k k2 => heR_o k (by omega)
        refine ⟨⟨?_, ?_, ?_, ?_, ?_, ?_, ?_, ?_, ?_, ?_, ?_, ?_⟩, fun j p q => ?_, fun j p q => ?_, fun j p q => ?_, fun j p q => ?_, fun j p q => ?_, fun j p q => ?_⟩
        · rw [o 0 (by decide) (by omega)]; exact (s1 0 (by decide)).trans a0
        · show s2 1 2 = c 79 3 - 1
          rw [q2 1 (by decide) (by decide), up_cell (by decide), up_same]
          omega
        · rw [o 1 (by decide) (by omega)]; exact (s1 5 (by decide)).trans a2
        · rw [o 2 (by decide) (by omega)]; exact (s1 7 (by decide)).trans a3
        · rw [o 4 (by decide) (by omega)]; exact (s1 8 (by decide)).trans a4
        · rw [o 5 (by decide) (by omega)]; exact (s1 11 (by decide)).trans a5
        · rw [o 6 (by decide) (by omega)]; exact (s1 13 (by decide)).trans a6
        · rw [o 7 (by decide) (by omega)]; exact (congrFun s4 0).trans a7
        · rw [o 8 (by decide) (by omega)]; exact (congrFun s4 1).trans a8
        · rw [o 9 (by decide) (by omega)]; exact (congrFun s4 2).trans a9
        · rw [o 10 (by decide) (by omega)]; exact (congrFun s4 3).trans a10
        · rw [o 11 (by decide) (by omega)]; exact (congrFun s4 4).trans a11
        · rw [o _ (by omega) (by omega)]; exact (congrFun (sq 2 (by decide) (by decide) (by decide) (by decide) (by decide)) j).trans (b2 j p q)
        · replace q : j < 3 * (c 79 3 - 1) := q
          show s2 3 j = _
          rw [s3, f2]
          by_cases e : 3 * x ≤ j
          · rw [if_pos (by omega), heR_v (by omega) (by omega), b3 (j + 3) (by omega) (by omega)]
            exact congrArg (c 79) (by omega)
          · rw [if_neg (by omega), heR_o (by omega) (by omega)]
            exact b3 j p (by omega)
        · rw [o _ (by omega) (by omega)]; exact (congrFun (sq 6 (by decide) (by decide) (by decide) (by decide) (by decide)) j).trans (b6 j p q)
        · rw [o _ (by omega) (by omega)]; exact (congrFun (sq 7 (by decide) (by decide) (by decide) (by decide) (by decide)) j).trans (b7 j p q)
        · rw [o _ (by omega) (by omega)]; exact (congrFun (sq 8 (by decide) (by decide) (by decide) (by decide) (by decide)) j).trans (b8 j p q)
        · rw [o _ (by omega) (by omega)]; exact (congrFun (sq 9 (by decide) (by decide) (by decide) (by decide) (by decide)) j).trans (b9 j p q)
      · funext j
        show (if j = 3 then c 79 3 - 1 else s2 79 j) = _
        unfold heR
        rw [g2 j]
      · intro q j hq
        have hq : ¬ mt0 q j = true := hq
        have n79 : q ≠ 79 := fun z => hq (by subst z; rfl)
        have n3 : q ≠ 3 := fun z => hq (by subst z; rfl)
        have n1 : q ≠ 1 := fun z => hq (by subst z; rfl)
        show up (up s2 79 3 (c 79 3 - 1)) 77 1 0 q j = c q j
        have n77 : ∀ k, k = 0 ∨ k = 1 → ¬ (q = 77 ∧ j = k) := fun k hk z => hq (by
          obtain ⟨z1, z2⟩ := z
          subst z1
          rcases hk with hk | hk <;> subst hk <;> subst z2 <;> rfl)
        have n0 : ¬ (q = 0 ∧ j = 17) := fun z => hq (by
          obtain ⟨z1, z2⟩ := z
          subst z1
          subst z2
          rfl)
        by_cases e : q = 77
        · subst e
          rw [up_ne (fun z => n77 1 (.inr rfl) ⟨rfl, z⟩), up_cell (by decide), g1 77 (by decide), up_ne (fun z => n77 0 (.inl rfl) ⟨rfl, z⟩), up_cell (by decide), up_cell (by decide), f1 77 (by decide)]
        · rw [up_cell e, up_cell n79, q2 q n79 e]
          by_cases e0 : q = 0
          · subst e0
            rw [up_ne (fun z => n0 ⟨rfl, z⟩), up_cell (by decide), f1 0 (by decide)]
          · rw [up_cell e0, up_cell n1, f1 q n3]
      · show s2 0 17 = 0
        rw [q2 0 (by decide) (by decide), up_same]
  · have e79 : s 79 = c 79 := f1 79 (by decide)
    replace z : ¬ (0 ≤ x ∧ x ≤ s 79 3 - 1) := z
    rw [e79] at z
    omega
  · show -9223372036854775808 ≤ c 79 3 - 1 ∧ c 79 3 - 1 < 9223372036854775808
    omega
  · replace z : 0 ≤ x ∧ x ≤ c 79 3 - 1 := z
    omega
end CAL

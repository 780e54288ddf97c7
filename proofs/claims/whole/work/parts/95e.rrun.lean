/-! ORDERS: the reference runs one order once -/
def KP (R : Int → Int) (B : Int × (Int → Int)) : Prop := RNG B.2 ∧ ∀ j, (j = 1 ∨ j = 2 ∨ 348 ≤ j) → B.2 j = R j
theorem KP.same {R : Int → Int} {r : Int} (h : RNG R) : KP R (r, R) := ⟨h, fun _ _ => rfl⟩
theorem kp_pwk {F : List Clz} {R : Int → Int} {p : Int} (h : RNG R) : KP R (pwk F R p) := by
  have h1 := h.1
  unfold pwk
  by_cases hp : 0 ≤ p ∧ p < R 0
  · rw [if_pos hp]
    by_cases e : brp F R p (R 4 + 1) = true ∨ rst R p (R 4 + 1) = true
    · rw [if_pos e]; exact KP.same h
    · rw [if_neg e]
      by_cases e4 : R 4 < 16
      · rw [if_pos e4]
        exact ⟨pRw_rng h (by omega) hp, fun j hj => pRw_o (by omega) (by omega) (by omega)⟩
      · rw [if_neg e4]; exact KP.same h
  · rw [if_neg hp]; exact KP.same h
theorem kp_tch {F : List Clz} {R : Int → Int} {a b t : Int} (h : RNG R) : KP R (tch F R a b t) := by
  have h1 := h.1
  rw [tch_if]
  by_cases e : (0 ≤ a ∧ a < R 5) ∧ (0 ≤ b ∧ b < 12) ∧ 0 ≤ t ∧ t < 10
  · rw [if_pos e]
    exact ⟨toR_rng h (by omega) e.2.1 (by omega), fun j hj => toR_o (by omega)⟩
  · rw [if_neg e]; exact KP.same h
theorem kp_oac {F : List Clz} {R P : Int → Int} {k : Int} (h : RNG R) : KP R (oac F R k P) := by
  have h1 := h.1
  by_cases e5 : k = 5
  · rw [e5]
    show KP R (tch F R (P 0) (P 1) (P 2))
    exact kp_tch h
  · unfold oac
    rw [if_neg e5]
    by_cases e4 : k = 4
    · rw [if_pos e4]
      by_cases e : R 5 < 6
      · rw [if_pos e]
        exact ⟨cpR_rng h e, fun j hj => cpR_o (by omega) (by omega)⟩
      · rw [if_neg e]; exact KP.same h
    · rw [if_neg e4]
      by_cases e3 : k = 3
      · rw [if_pos e3]
        by_cases e : R 4 = 0
        · rw [if_pos e]; exact KP.same h
        · rw [if_neg e]
          exact ⟨scR_rng h e, fun j hj => scR_o (by omega)⟩
      · rw [if_neg e3]; exact kp_pwk h
theorem kp_oaw {F : List Clz} {R W : Int → Int} {z : Orc} (h : RNG R) : KP R (oaw F R W z) := by
  unfold oaw
  by_cases e2 : z.1 = 2
  · rw [if_pos e2]
    cases sv W z 0 with
    | none => exact KP.same h
    | some y =>
      show KP R (oac F R 2 fun _ => y)
      exact kp_oac h
  · rw [if_neg e2]
    by_cases e5 : z.1 = 5
    · rw [if_pos e5]
      cases sv W z 0 with
      | none => exact KP.same h
      | some a =>
        show KP R ((sv W z 1).elim _ _)
        cases sv W z 1 with
        | none => exact KP.same h
        | some b =>
          show KP R ((sv W z 2).elim _ _)
          cases sv W z 2 with
          | none => exact KP.same h
          | some t => exact kp_tch h
    · rw [if_neg e5]; exact kp_oac h
theorem RWd.kp {c c' : Cm} {F : List Clz} {B : Int × (Int → Int)} (h : RWd c F) (k : KP (c 79) B) (e : c' 79 = B.2) (e16 : c' 77 16 = 0) : RWd c' F := by
  unfold RWd
  rw [e]
  exact ⟨k.1, h.2.1.cg (k.2 1 (.inl rfl)) (k.2 2 (.inr (.inl rfl))) (fun j hj => k.2 j (.inr (.inr (by omega)))), e16⟩
/-- the reference does an order, whatever its kind -/
theorem r_doAct {T : List Shp} {c : Cm} {F : List Clz} {n x q : Int} {z : Orc} (h : RWd c F) (hx : AX c) (hn : 0 ≤ n ∧ n ≤ 1000) (h93 : ∀ i, 1 ≤ i → i ≤ 6 → c 93 i = wO F (c 79) n i) (ha : 0 ≤ x ∧ x < 114) (hq : q ≤ 400) (hz : ZRa 1 (c 107) x (c 85) (c 86) q z) (hw : wfo z) : QI T (ACT c (oaw F (c 79) (wO F (c 79) n) z)) (ccal 332 [vR 78, vI x, vI (c 107 x)] (SH T, c)) := by
  obtain ⟨k, m, t, l⟩ := z
  have ek : c 107 x = k := hz.1
  have hs : ∀ j : Nat, j < 3 → ∀ (d : Den) (u v : Int), l[j]? = some d → u = x + 1 + 2 * (j : Int) → v = x + 2 + 2 * (j : Int) → PRL 18 (c 85) (c 86) q (c 107 u) (c 107 v) d := by
    intro j hj d u v e eu ev
    rw [eu, ev]
    have w := hz.2
    rw [if_neg (by decide)] at w
    have w2 := w.2 j hj
    rw [show ((k, m, t, l) : Orc).2.2.2 = l from rfl, e] at w2
    exact w2
  obtain ⟨h1, h2, h3⟩ := hw
  have h1' : 0 ≤ k ∧ k ≤ 5 := h1
  have h3' : l.length = (if k = 2 then 1 else if k = 5 then 3 else 0) := h3
  rw [ek]
  have kk : k = 0 ∨ k = 1 ∨ k = 2 ∨ k = 3 ∨ k = 4 ∨ k = 5 := by omega
  rcases kk with e | e | e | e | e | e <;> subst e
  · exact r_act01 (P := fun _ => 0) h hx (.inl rfl)
  · exact r_act01 (P := fun _ => 0) h hx (.inr rfl)
  · match l, h3', hs with
    | [d], _, hs => exact r_act2 h hx hn h93 (by omega) hq (hs 0 (by omega) d _ _ rfl (by omega) (by omega))
  · exact r_act3 (P := fun _ => 0) h hx
  · exact r_act4 (P := fun _ => 0) h hx
  · match l, h3', hs with
    | [d1, d2, d3], _, hs => exact r_act5 h hx hn h93 ha hq (hs 0 (by omega) d1 _ _ rfl (by omega) (by omega)) (hs 1 (by omega) d2 _ _ rfl (by omega) (by omega)) (hs 2 (by omega) d3 _ _ rfl (by omega) (by omega))

/-! ORDERS: the class paints -/
theorem c_paint45 {T : List Shp} {c : Cm} {R : Int → Int} {F : List Clz} {p : Int} (h : CWd T c R F) : QI T (fun r c' => r = (pwk F R p).1 ∧ CWd T c' (pwk F R p).2 F ∧ Off [1, 6, 7, 14, 15, 16, 17] [] c c' ∧ ∀ j, j ≠ 8 → c' 1 j = c 1 j) (cev 10 18 45 [vR 60, vU, vI p, vU] [] (SH T, c)) := by
  have hR := h.2.1
  have h1 := hR.1
  have e8 : c 1 8 = R 4 := h.1.1.2.2.2.2.1
  have e0 : c 1 0 = R 0 := h.1.1.1
  refine W_X1_paints_45 (Q := QI T _) ?_
  rw [e8, e0]
  unfold pwk
  refine ⟨by omega, fun hp => ?_, fun hp => ?_⟩
  · rw [if_pos hp]
    refine (c_barsPainter h.1 hR h.2.2 hp (by omega)).mono fun r c2 h2 => ?_
    have o2 : Off [1, 6, 7, 14, 15, 16, 17] [] c c2 := h2.2.mono rfl rfl
    have g2 : ∀ j, c2 1 j = c 1 j := fun j => by rw [h2.2.cell rfl]
    have w2 := h.off h2.2 rfl
    refine ⟨fun e => ?_, fun e => ?_⟩
    · refine QI.of_eq (c_rests (p := p) (y := R 4 + 1) w2.1 hR (by omega)) ?_
      refine ⟨fun e3 => ?_, fun e3 => ?_⟩
      · have n1 : ¬ brp F R p (R 4 + 1) = true := fun z => by rw [h2.1] at e; unfold b01 at e; rw [if_pos z] at e; exact absurd e (by decide)
        have n2 : ¬ rst R p (R 4 + 1) = true := fun z => by unfold b01 at e3; rw [if_pos z] at e3; exact absurd e3 (by decide)
        rw [if_neg (fun z => z.elim n1 n2), g2 8, e8]
        refine ⟨fun e4 => ?_, fun e4 => ?_⟩
        · rw [if_pos e4]
          refine (c_paintNext w2 hp (by omega)).mono fun c3 h3 => ?_
          exact QI.ret ⟨rfl, ⟨h3.1, pRw_rng hR (by omega) hp, h3.2.1⟩, o2.trans h3.2.2.1, fun j hj => (h3.2.2.2 j hj).trans (g2 j)⟩
        · rw [if_neg e4]
          exact QI.ret ⟨rfl, w2, o2, fun j _ => g2 j⟩
      · have y2 : rst R p (R 4 + 1) = true := by
          cases k : rst R p (R 4 + 1) with
          | true => rfl
          | false => rw [k] at e3; exact absurd rfl e3
        rw [if_pos (.inr y2)]
        exact QI.ret ⟨rfl, w2, o2, fun j _ => g2 j⟩
    · have y1 : brp F R p (R 4 + 1) = true := by
        cases k : brp F R p (R 4 + 1) with
        | true => rfl
        | false => rw [h2.1, k] at e; exact absurd rfl e
      rw [if_pos (.inl y1)]
      exact QI.ret ⟨rfl, w2, o2, fun j _ => g2 j⟩
  · rw [if_neg hp]
    exact QI.ret ⟨rfl, h, Off.rfl, fun j _ => rfl⟩
theorem c_paints {T : List Shp} {c : Cm} {R : Int → Int} {F : List Clz} {k : Int} (h : CWd T c R F) (hk : 0 ≤ k ∧ k ≤ 2) : QI T (fun r c' => r = (oac F R k (c 72)).1 ∧ CWd T c' (oac F R k (c 72)).2 F ∧ Off [1, 6, 7, 14, 15, 16, 17, 21, 22, 23, 24, 25, 26, 27, 28] [] c c' ∧ ∀ j, j ≠ 8 → c' 1 j = c 1 j) (ccal 10 [vR 60, vI k] (SH T, c)) := by
  have eo : oac F R k (c 72) = pwk F R (if k = 2 then c 72 0 else if 0 < (pln F R k 1).1 then (pln F R k 1).2.2.2 0 else -1) := by
    unfold oac
    rw [if_neg (by omega), if_neg (by omega), if_neg (by omega)]
  rw [eo]
  refine W_X1_paints (Q := QI T _) ⟨fun e => ?_, fun e => ?_⟩
  · rw [if_pos e]
    exact (c_paint45 h).mono fun r c' g => ⟨g.1, g.2.1, g.2.2.1.mono rfl rfl, g.2.2.2⟩
  · rw [if_neg e]
    refine (c_seek (by' := k) (n := 1) h (by omega)).mono fun c1 g => ?_
    have o1 : Off [1, 6, 7, 14, 15, 16, 17, 21, 22, 23, 24, 25, 26, 27, 28] [] c c1 := g.2.mono rfl rfl
    have w1 := h.off g.2 rfl
    have g1 : ∀ j, c1 1 j = c 1 j := fun j => by rw [g.2.cell rfl]
    have p1 := g.1.1
    rw [p1]
    refine ⟨fun e2 => ?_, fun e2 => ?_⟩
    · rw [if_pos e2, (g.1.2 (by omega)).2.2 0 (by omega) (by omega)]
      exact (c_paint45 w1).mono fun r c' g' => ⟨g'.1, g'.2.1, o1.trans (g'.2.2.1.mono rfl rfl), fun j hj => (g'.2.2.2 j hj).trans (g1 j)⟩
    · rw [if_neg e2]
      exact (c_paint45 w1).mono fun r c' g' => ⟨g'.1, g'.2.1, o1.trans (g'.2.2.1.mono rfl rfl), fun j hj => (g'.2.2.2 j hj).trans (g1 j)⟩

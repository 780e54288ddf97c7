/-! ORDERS: the class copies, scrapes, touches, paints -/
theorem CS.copied {c : Cm} {R : Int → Int} (h : CS c R) (hR : RNG R) (h5 : R 5 < 6) : CS (up (cpy c 7 (R 4 * 12) 8 (R 5 * 12) 12) 1 11 (R 5 + 1)) (cpR R) := by
  have h1 := hR.1
  obtain ⟨⟨a0, a1, a2, a3, a4, a5, a6, a7, a8, a9, a10, a11⟩, b1, b2, b3, b4, b5, b6⟩ := h
  have o : ∀ j, j < 276 → j ≠ 5 → cpR R j = R j := fun j hj e => cpR_o e (by omega)
  have o3 : cpR R 3 = R 3 := o 3 (by omega) (by omega)
  have g1 : ∀ j, j ≠ 11 → up (cpy c 7 (R 4 * 12) 8 (R 5 * 12) 12) 1 11 (R 5 + 1) 1 j = c 1 j := fun j hj => by rw [up_ne hj, cpy_cell (by decide)]
  have g : ∀ q, q ≠ 1 → q ≠ 8 → up (cpy c 7 (R 4 * 12) 8 (R 5 * 12) 12) 1 11 (R 5 + 1) q = c q := fun q k1 k2 => by rw [up_cell k1, cpy_cell k2]
  refine ⟨⟨?_, ?_, ?_, ?_, ?_, ?_, ?_, ?_, ?_, ?_, ?_, ?_⟩, fun i a b => ?_, fun i a b => ?_, fun i a b => ?_, fun i a b => ?_, fun i p q => ?_, fun i a b => ?_⟩
  · rw [o _ (by omega) (by omega), g1 _ (by omega)]; exact a0
  · rw [o _ (by omega) (by omega), g1 _ (by omega)]; exact a1
  · rw [o _ (by omega) (by omega), g1 _ (by omega)]; exact a2
  · rw [o _ (by omega) (by omega), g1 _ (by omega)]; exact a3
  · rw [o _ (by omega) (by omega), g1 _ (by omega)]; exact a4
  · rw [up_same]; rfl
  · rw [o _ (by omega) (by omega), g1 _ (by omega)]; exact a6
  · rw [o _ (by omega) (by omega), g _ (by decide) (by decide)]; exact a7
  · rw [o _ (by omega) (by omega), g _ (by decide) (by decide)]; exact a8
  · rw [o _ (by omega) (by omega), g _ (by decide) (by decide)]; exact a9
  · rw [o _ (by omega) (by omega), g _ (by decide) (by decide)]; exact a10
  · rw [o _ (by omega) (by omega), g _ (by decide) (by decide)]; exact a11
  · rw [o _ (by omega) (by omega), g _ (by decide) (by decide)]; exact b1 i a b
  · rw [o3] at b
    rw [o _ (by omega) (by omega), g _ (by decide) (by decide)]; exact b2 i a b
  · rw [o _ (by omega) (by omega), g _ (by decide) (by decide)]; exact b3 i a b
  · rw [o _ (by omega) (by omega), g _ (by decide) (by decide)]; exact b4 i a b
  · rw [up_cell (by decide)]
    by_cases e : R 5 * 12 ≤ i ∧ i < R 5 * 12 + 12
    · rw [cpy_at e]
      unfold cpR
      rw [if_neg (by omega), if_pos (by omega), b4 _ (by omega) (by omega)]
      congr 1
      omega
    · rw [cpy_out e, cpR_o (by omega) (by omega)]; exact b5 i p q
  · rw [cpR_o (by omega) (by omega), g _ (by decide) (by decide)]; exact b6 i a b
theorem c_changes {T : List Shp} {c : Cm} {R : Int → Int} {F : List Clz} {k : Int} (h : CWd T c R F) (hk : 3 ≤ k ∧ k ≤ 5) : QI T (fun r c' => r = (oac F R k (c 72)).1 ∧ CWd T c' (oac F R k (c 72)).2 F ∧ Off [1, 8] [] c c' ∧ ∀ j, j ≠ 8 → j ≠ 11 → c' 1 j = c 1 j) (ccal 11 [vR 60, vI k] (SH T, c)) := by
  have hR := h.2.1
  have h1 := hR.1
  have e8 : c 1 8 = R 4 := h.1.1.2.2.2.2.1
  have e11 : c 1 11 = R 5 := h.1.1.2.2.2.2.2.1
  refine W_X1_changes (Q := QI T _) ?_
  rw [e8, e11]
  unfold oac
  refine ⟨fun e => ⟨fun e5 => ?_, fun e5 => ?_⟩, fun e => ⟨fun e3 => ⟨fun e4 => ?_, fun e4 => ⟨by omega, ?_⟩⟩, fun e3 => ?_⟩⟩
  · rw [if_pos e, if_pos e5]
    refine W_X7_addCopy (Q := QV T _) ?_
    have e11' : (cpy c 7 (R 4 * 12) 8 (R 5 * 12) 12) 1 11 = R 5 := by rw [cpy_cell (by decide)]; exact e11
    rw [e8, e11, e11']
    have g1 : ∀ j, j ≠ 11 → up (cpy c 7 (R 4 * 12) 8 (R 5 * 12) 12) 1 11 (R 5 + 1) 1 j = c 1 j := fun j hj => by rw [up_ne hj, cpy_cell (by decide)]
    have g : ∀ q, q ≠ 1 → q ≠ 8 → up (cpy c 7 (R 4 * 12) 8 (R 5 * 12) 12) 1 11 (R 5 + 1) q = c q := fun q k1 k2 => by rw [up_cell k1, cpy_cell k2]
    refine ⟨by omega, QV.ret (QI.ret ⟨rfl, ⟨h.1.copied hR e5, cpR_rng hR e5, h.2.2.of (g1 5 (by omega)) (g1 7 (by omega)) (g 5 (by decide) (by decide)) fun q hq => g q (by omega) (by omega)⟩, ?_, fun j _ a2 => g1 j a2⟩)⟩
    exact (Off.rfl.cp rfl).wr rfl
  · rw [if_pos e, if_neg e5]
    exact QI.ret ⟨rfl, h, Off.rfl, fun j _ _ => rfl⟩
  · rw [if_neg e, if_pos e3, if_pos e4]
    exact QI.ret ⟨rfl, h, Off.rfl, fun j _ _ => rfl⟩
  · rw [if_neg e, if_pos e3, if_neg e4]
    refine QI.ret ⟨rfl, ⟨h.1.scrape, scR_rng hR e4, h.2.2.of (up_ne (by omega)) (up_ne (by omega)) (up_cell (by decide)) fun q hq => up_cell (by omega)⟩, Off.rfl.wr rfl, fun j a1 _ => up_ne a1⟩
  · have e5 : k = 5 := by omega
    rw [if_neg e, if_neg e3, if_pos e5]
    refine ⟨fun k0 => ⟨fun k1 => ⟨fun k2 => ⟨by omega, ?_⟩, fun k2 => ?_⟩, fun k1 => ?_⟩, fun k0 => ?_⟩
    · rw [if_pos ⟨k0, k1, k2⟩]
      refine QI.ret ⟨rfl, ⟨h.1.touch hR (by omega) k1, toR_rng hR (by omega) k1 (by omega), h.2.2.of (by rw [up_cell (by decide)]) (by rw [up_cell (by decide)]) (up_cell (by decide)) fun q hq => up_cell (by omega)⟩, Off.rfl.wr rfl, fun j _ _ => by rw [up_cell (by decide)]⟩
    · rw [if_neg (fun z => k2 z.2.2)]
      exact QI.ret ⟨rfl, h, Off.rfl, fun j _ _ => rfl⟩
    · rw [if_neg (fun z => k1 z.2.1)]
      exact QI.ret ⟨rfl, h, Off.rfl, fun j _ _ => rfl⟩
    · rw [if_neg (fun z => k0 z.1)]
      exact QI.ret ⟨rfl, h, Off.rfl, fun j _ _ => rfl⟩

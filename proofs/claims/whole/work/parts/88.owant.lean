/-! ORDERS: the clerk tries an order's test and works its sums -/
def wnt (W : Int → Int) (z : Orc) : Bool := match z.2.2.1 with | none => true | some d => d W == some 1
theorem LN.hw {c : Cm} {W : Int → Int} (h : LN c (c 11 4) W) (hw : WI c) : ∀ j w, 0 ≤ j → j < c 11 3 → 0 ≤ w → w < 18 → c 13 j = 1 + 16 * w → c 71 w = W (w + 1) := by
  intro j w a b a2 b2 e
  have k := hw.2 j w a b a2 b2 e
  exact h.2 w a2 b2 (fun e2 => by rw [← e2]; exact k) (fun e2 => by rw [← e2]; exact k)
theorem c_wanted {T : List Shp} {c : Cm} {W : Int → Int} {a : Int} {z : Orc} (hz : ZO 18 (c 12) a (c 13) (c 11 3) z) (ha : 0 ≤ a ∧ a ≤ 66) (hn : c 11 3 ≤ 450) (hw : WI c) (hl : LN c (c 11 4) W) : QI T (fun r c' => r = b01 (wnt W z = true) ∧ Off [69, 70] [] c c') (ccal 8 [vR 60, vR 12, vI a] (SH T, c)) := by
  obtain ⟨k, n, t, s⟩ := z
  have h2 := hz.2.2.1
  refine W_X1_isWanted (Q := QI T _) ⟨by omega, ?_⟩
  cases t with
  | none =>
    have h2' : c 12 (a + 2) = -1 := h2
    refine ⟨fun _ => QI.ret ⟨rfl, Off.rfl⟩, fun e => absurd h2' e⟩
  | some d =>
    have h2' : XP 18 (c 13) (c 11 3) (c 12 (a + 2)) d := h2.1
    have h0 : 0 ≤ c 12 (a + 2) := by obtain ⟨q, l, _, k0, _⟩ := h2'; exact k0
    refine ⟨fun e => by omega, fun _ => ?_⟩
    refine (c_pieceB hn hl.1 (hl.hw hw) h2').mono fun r c2 g => ?_
    obtain ⟨g1, g2, g3⟩ := g
    cases e : d W with
    | none =>
      refine ⟨fun _ => QI.ret ⟨?_, g3⟩, fun e2 => absurd (g1 e) e2⟩
      show (0 : Int) = b01 ((d W == some 1) = true)
      rw [e]; rfl
    | some y =>
      have g := g2 y e
      refine ⟨fun e2 => by omega, fun _ => ⟨fun e3 => QI.ret ⟨?_, g3⟩, fun e3 => QI.ret ⟨?_, g3⟩⟩⟩
      · show (1 : Int) = b01 ((d W == some 1) = true)
        rw [e, ← g.2, e3]; rfl
      · show (0 : Int) = b01 ((d W == some 1) = true)
        have : (d W == some 1) = false := by
          rw [e]
          rw [g.2] at e3
          exact beq_eq_false_iff_ne.mpr fun k => e3 (Option.some.inj k)
        rw [this]; rfl
/-- what comes of an order's sums: the first that breaks, or all their numbers in cell 72 -/
def SWK (W : Int → Int) (z : Orc) (r : Int) (P : Int → Int) : Prop := (r = 0 ∧ ∃ j : Nat, j < 3 ∧ ∃ d, z.2.2.2[j]? = some d ∧ d W = none) ∨ (r = 1 ∧ ∀ j : Nat, j < 3 → ∀ d, z.2.2.2[j]? = some d → d W = some (P (j : Int)))
theorem c_sumsWork {T : List Shp} {c : Cm} {W : Int → Int} {a : Int} {z : Orc} (hz : ZO 18 (c 12) a (c 13) (c 11 3) z) (ha : 0 ≤ a ∧ a ≤ 66) (hn : c 11 3 ≤ 450) (hw : WI c) (hl : LN c (c 11 4) W) : QI T (fun r c' => SWK W z r (c' 72) ∧ Off [69, 70, 72] [] c c') (ccal 9 [vR 60, vR 12, vI a] (SH T, c)) := by
  have h2 := hz.2.2.2
  refine W_X1_sumsWork (Q := QI T _) ?_
  refine lpI (E := fun i (s : Cm) => cev 9 3 2 [vR 60, vR 12, vI a, vI i, vU] [] (SH T, s)) (fun i s => (0 ≤ i ∧ i ≤ 3) ∧ Off [69, 70, 72] [] c s ∧ ∀ j : Nat, (j : Int) < i → ∀ d, z.2.2.2[j]? = some d → d W = some (s 72 (j : Int))) 3 ?_ ?_ 0 c ⟨by omega, Off.rfl, fun j b => by omega⟩
  · intro i s hi hI ih
    obtain ⟨i0, o, hv⟩ := hI
    obtain ⟨m, rfl⟩ := Int.eq_ofNat_of_zero_le i0.1
    have k := h2 m (by omega)
    have e12 : s 12 = c 12 := o.cell rfl
    have e13 : s 13 = c 13 := o.cell rfl
    have e11 : s 11 = c 11 := o.cell rfl
    have e71 : s 71 = c 71 := o.cell rfl
    refine W_X1_sumsWork_2 ⟨fun _ => ⟨by omega, ?_⟩, fun e => absurd hi e⟩
    rw [e12]
    cases e : z.2.2.2[m]? with
    | none =>
      rw [e] at k
      have k' : c 12 (a + 3 + (m : Int)) = -1 := k
      refine ⟨fun _ => ⟨by omega, ih s ⟨by omega, o, fun j b d ed => ?_⟩⟩, fun e2 => absurd k' e2⟩
      by_cases ej : j = m
      · rw [ej, e] at ed; exact absurd ed (by simp)
      · exact hv j (by omega) d ed
    | some d =>
      rw [e] at k
      have k' : XP 18 (c 13) (c 11 3) (c 12 (a + 3 + (m : Int))) d := k
      have h0 : 0 ≤ c 12 (a + 3 + (m : Int)) := by obtain ⟨q, l, _, k0, _⟩ := k'; exact k0
      refine ⟨fun e2 => by omega, fun _ => ?_⟩
      have hl' : LN s (s 11 4) W := by unfold LN; rw [e71, e11]; exact hl
      have hw' : WI s := hw.cong (by rw [e11]) (by rw [e11]) e13
      refine (c_pieceB (by rw [e11]; exact hn) hl'.1 (hl'.hw hw') (by rw [e11, e13]; exact k')).mono fun r c2 g => ?_
      obtain ⟨g1, g2, g3⟩ := g
      cases ew : d W with
      | none => exact ⟨fun e2 => QI.ret ⟨.inl ⟨rfl, m, by omega, d, e, ew⟩, o.trans (g3.mono rfl rfl)⟩, fun e2 => absurd (g1 ew) e2⟩
      | some y =>
        have g := g2 y ew
        refine ⟨fun e2 => by omega, fun _ => ⟨by omega, ih _ ⟨by omega, (o.trans (g3.mono rfl rfl)).wr rfl, fun j b d' ed => ?_⟩⟩⟩
        rw [up_at]
        by_cases ej : j = m
        · subst ej
          rw [if_pos rfl, g.2]
          rw [e] at ed
          rw [← Option.some.inj ed]; exact ew
        · rw [if_neg (by omega), g3.cell rfl]
          exact hv j (by omega) d' ed
  · intro i s hi hI
    refine W_X1_sumsWork_2 ⟨fun e => absurd e (by omega), fun _ => QI.ret ⟨.inr ⟨rfl, fun j b d ed => hI.2.2 j (by omega) d ed⟩, hI.2.1⟩⟩

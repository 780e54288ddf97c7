/-! ORDERS: the class runs one order once, test and all -/
def ONC (c c' : Cm) : Prop := Off [1, 6, 7, 8, 14, 15, 16, 17, 21, 22, 23, 24, 25, 26, 27, 28, 69, 70, 71, 72] [] c c' ∧ (∀ j, j ≠ 8 → j ≠ 11 → c' 1 j = c 1 j) ∧ B9 c'
theorem c_once {T : List Shp} {Q : Res → Prop} {c : Cm} {R : Int → Int} {F : List Clz} {n a t : Int} {z : Orc} (h : CWd T c R F) (hB : B9 c) (hwi : WI c) (h113 : c 11 3 ≤ 450) (h9 : c 59 9 = n) (hn : 0 ≤ n ∧ n ≤ 1000) (ha : 0 ≤ a ∧ a ≤ 66) (hz : ZO 18 (c 12) a (c 13) (c 11 3) z) (hw : wfo z) (ht : 0 ≤ t ∧ t < z.2.1) (hno : wnt (wO F R n) z = false → ∀ c', CWd T c' R F → ONC c c' → Q (cev 6 19 42 [vR 60, vR 12, vI a, vI (t + 1), vU, vU] [] (SH T, c'))) (hdo : wnt (wO F R n) z = true → ∀ c', CWd T c' (oaw F R (wO F R n) z).2 F → ONC c c' → Q (cev 6 19 117 [vR 60, vR 12, vI a, vI t, vI (oaw F R (wO F R n) z).1, vU] [] (SH T, c'))) : Q (cev 6 19 42 [vR 60, vR 12, vI a, vI t, vU, vU] [] (SH T, c)) := by
  have e1 : c 12 (a + 1) = z.2.1 := hz.2.1
  have e0 : c 12 a = z.1 := hz.1
  have hk := hw.1
  have ht20 := hw.2.1
  refine W_X1_runAll_42 ⟨by omega, fun _ => ?_, fun e => absurd (by rw [e1]; exact ht.2) e⟩
  refine (c_learnWs (n := n) h hwi.1 hB h9 hn).mono fun c1 g1 => ?_
  have w1 := h.off g1.2 rfl
  have i1 : c1 12 = c 12 := g1.2.cell rfl
  have i2 : c1 13 = c 13 := g1.2.cell rfl
  have i3 : c1 11 = c 11 := g1.2.cell rfl
  have l1 : LN c1 (c1 11 4) (wO F R n) := by rw [i3]; exact g1.1
  have wi1 : WI c1 := hwi.cong (by rw [i3]) (by rw [i3]) i2
  have z1 : ZO 18 (c1 12) a (c1 13) (c1 11 3) z := by rw [i1, i2, i3]; exact hz
  refine (c_wanted z1 ha (by rw [i3]; exact h113) wi1 l1).mono fun r c3 g3 => ?_
  have o3 : Off [14, 15, 16, 17, 69, 70, 71] [] c c3 := (g1.2.mono rfl rfl).trans (g3.2.mono rfl rfl)
  have w3 := h.off o3 rfl
  have q1 : ∀ j, c3 1 j = c 1 j := fun j => by rw [o3.cell (q := 1) rfl]
  have q71 : c3 71 = c1 71 := g3.2.cell rfl
  have b3 : B9 c3 := by unfold B9; rw [q71]; exact g1.1.1
  refine ⟨fun e => ⟨by omega, ?_⟩, fun e => ?_⟩
  · have wn : wnt (wO F R n) z = false := by
      cases k : wnt (wO F R n) z with
      | false => rfl
      | true => rw [g3.1, k] at e; exact absurd e (by decide)
    exact hno wn c3 w3 ⟨o3.mono rfl rfl, fun j _ _ => q1 j, b3⟩
  · have wn : wnt (wO F R n) z = true := by
      cases k : wnt (wO F R n) z with
      | true => rfl
      | false => rw [g3.1, k] at e; exact absurd rfl e
    have k1 : c3 12 = c 12 := o3.cell rfl
    have k2 : c3 13 = c 13 := o3.cell rfl
    have k3 : c3 11 = c 11 := o3.cell rfl
    have l3 : LN c3 (c3 11 4) (wO F R n) := by unfold LN; rw [q71, k3]; exact g1.1
    have wi3 : WI c3 := hwi.cong (by rw [k3]) (by rw [k3]) k2
    have z3 : ZO 18 (c3 12) a (c3 13) (c3 11 3) z := by rw [k1, k2, k3]; exact hz
    refine (c_sumsWork z3 ha (by rw [k3]; exact h113) wi3 l3).mono fun s c5 g5 => ?_
    have o5 : Off [14, 15, 16, 17, 69, 70, 71, 72] [] c c5 := (o3.mono rfl rfl).trans (g5.2.mono rfl rfl)
    have w5 := h.off o5 rfl
    have p1 : ∀ j, c5 1 j = c 1 j := fun j => by rw [o5.cell (q := 1) rfl]
    have b5 : B9 c5 := by unfold B9; rw [g5.2.cell (q := 71) rfl]; exact b3
    have on5 : ONC c c5 := ⟨o5.mono rfl rfl, fun j _ _ => p1 j, b5⟩
    have k12 : c5 12 (a + 0) = z.1 := by rw [o5.cell (q := 12) rfl, show a + 0 = a from by omega]; exact e0
    have go := hdo wn
    refine ⟨fun e5 => ?_, fun e5 => ⟨by omega, ?_⟩⟩
    · rcases g5.1 with ⟨_, j, _, d, ej, ed⟩ | ⟨s1, _⟩
      · rw [swk_0 hw ej ed] at go
        exact go c5 w5 on5
      · omega
    · have hs : ∀ j : Nat, j < 3 → ∀ d, z.2.2.2[j]? = some d → d (wO F R n) = some (c5 72 (j : Int)) := by
        rcases g5.1 with ⟨s0, _⟩ | ⟨_, s1⟩
        · exact absurd s0 e5
        · exact s1
      rw [swk_1 (F := F) (R := R) hw hs] at go
      rw [k12]
      refine ⟨fun k => ?_, fun k => ?_⟩
      · refine (c_changes w5 (k := z.1) (by omega)).mono fun r7 c7 g7 => ?_
        rw [g7.1]
        exact go c7 g7.2.1 ⟨(o5.mono rfl rfl).trans (g7.2.2.1.mono rfl rfl), fun j j8 j11 => (g7.2.2.2 j j8 j11).trans (p1 j), by unfold B9; rw [g7.2.2.1.cell (q := 71) rfl]; exact b5⟩
      · refine (c_paints w5 (k := z.1) (by omega)).mono fun r7 c7 g7 => ?_
        rw [g7.1]
        exact go c7 g7.2.1 ⟨(o5.mono rfl rfl).trans (g7.2.2.1.mono rfl rfl), fun j j8 _ => (g7.2.2.2 j j8).trans (p1 j), by unfold B9; rw [g7.2.2.1.cell (q := 71) rfl]; exact b5⟩

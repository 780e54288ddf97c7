/-! THE REFERENCE's law(): all of it -/
/-- what law() may change but for its row, the refusals, the status -/
def LWF (q : Nat) (j : Int) : Prop := LXB q j ∨ (q = 77 ∧ (j = 0 ∨ j = 1)) ∨ q = 78 ∨ q = 79
theorem BTX.lxb {q : Nat} {j : Int} (h : BTX q j) : LXB q j := by
  unfold BTX at h; unfold LXB RXA; omega
def RLO (c : Cm) (out : Ou2) (r : Int) (c' : Cm) : Prop := Fr LWF c c' ∧ c' 77 0 = 0 ∧ c' 77 9 = 0 ∧ c' 77 16 = 0 ∧ c' 77 1 = (if r < 0 then r else 0) ∧ (match out with
  | .inl f => r = -6 ∧ c' 77 14 = f ∧ c' 79 = c 79 ∧ c' 78 6 = c 78 6 + 1 ∧ ∀ j, ¬ j = 6 → c' 78 j = c 78 j
  | .inr F => r = c 79 1 ∧ c' 77 14 = -1 ∧ c' 78 = c 78 ∧ c' 79 1 = c 79 1 + 1 ∧ (∀ j, ¬ j = 1 → ¬ (380 + 900 * c 79 1 ≤ j ∧ j < 380 + 900 * c 79 1 + 900) → c' 79 j = c 79 j) ∧ KLF F ∧ RTX (c' 79) (380 + 900 * c 79 1) (F.map clz))
theorem r_law {T : List Shp} {c : Cm} {B : Int → Int} {L : Int} {out : Ou2} (hL : c 77 9 = L) (hB : ∀ j, 0 ≤ j → j < L → c 83 j = B j) (hbl : BLt B L) (hk : KW c) (h1 : 0 ≤ c 79 1 ∧ c 79 1 < 6) (h78 : 0 ≤ c 78 6 ∧ c 78 6 < 1000000) (hY : YL T B L 0 0 (sk B L 0) 0 [] zo out) : QI T (fun r c' => RLO c out r c') (ccal 244 [vR 78] (SH T, c)) := by
  refine W_X12_law (Q := QI T _) ⟨fun z => by omega, fun _ => ?_⟩
  have g0 : ∀ q j, ¬ (q = 77 ∧ j = 0) → up c 77 0 0 q j = c q j := fun q j a => by
    by_cases e : q = 77
    · subst e; exact up_ne (by omega)
    · exact congrFun (up_cell e) j
  refine (r_beginText (B := B) (L := L) (.inl rfl) ((g0 77 9 (by omega)).trans hL) (fun j a b => (g0 83 j (by omega)).trans (hB j a b)) hbl (hk.cong (up_cell (by decide)) (up_cell (by decide)) (up_cell (by decide)))).mono fun c1 hb => ?_
  obtain ⟨fb, l1⟩ := hb
  have k1 : ∀ q j, ¬ LXB q j → c1 q j = up c 77 0 0 q j := fun q j a => fb q j fun z => a z.lxb
  have f79 : ∀ c2 : Cm, Fr LXB c1 c2 → c2 79 = c 79 := fun c2 f => by
    funext j
    rw [f 79 j (by unfold LXB RXA; omega), k1 79 j (by unfold LXB RXA; omega), g0 79 j (by omega)]
  have f78 : ∀ c2 : Cm, Fr LXB c1 c2 → c2 78 = c 78 := fun c2 f => by
    funext j
    rw [f 78 j (by unfold LXB RXA; omega), k1 78 j (by unfold LXB RXA; omega), g0 78 j (by omega)]
  have f770 : ∀ c2 : Cm, Fr LXB c1 c2 → c2 77 0 = 0 := fun c2 f => by
    rw [f 77 0 (by unfold LXB RXA; omega), k1 77 0 (by unfold LXB RXA; omega), up_same]
  have fall : ∀ c2 : Cm, Fr LXB c1 c2 → Fr LWF c c2 := fun c2 f q j a => by
    rw [f q j (fun z => a (.inl z)), k1 q j (fun z => a (.inl z))]
    exact g0 q j fun z => a (.inr (.inl ⟨z.1, .inl z.2⟩))
  refine hY (QI T (fun r c' => RLO c out r c')) (fun c1 => (((c1 77 15) = 0 → (((-2147483648 ≤ 900 * (c1 79 1) ∧ 900 * (c1 79 1) < 2147483648) ∧ (-2147483648 ≤ 380 + (900 * (c1 79 1)) ∧ 380 + (900 * (c1 79 1)) < 2147483648) ∧ (-2147483648 ≤ (380 + (900 * (c1 79 1))) + 1 ∧ (380 + (900 * (c1 79 1))) + 1 < 2147483648) ∧ (0 ≤ ((380 + (900 * (c1 79 1))) + 1) ∧ ((380 + (900 * (c1 79 1))) + 1) < 5780)) ∧ QI T (fun r c' => RLO c out r c') (cev 244 9 111 [vR 78, vI (380 + (900 * (c1 79 1))), vI 0] [] (SH T, (up c1 79 ((380 + (900 * (c1 79 1))) + 1) (c1 77 17)))))) ∧ (¬ (c1 77 15) = 0 → ((-2147483648 ≤ (c1 78 6) + 1 ∧ (c1 78 6) + 1 < 2147483648) ∧ QI T (fun r c' => RLO c out r c') (some (some (vI (-6)), (SH T, (up (up c1 77 1 (-6)) 78 6 ((c1 78 6) + 1))))))))) (fun c2 h => W_X12_law_37 ⟨fun z => ⟨fun w => (h.1 z).1 w, fun w => W_X12_law_64 ((h.1 z).2 w)⟩, fun z => W_X12_law_64 (h.2 z)⟩) c1 0 l1 ?_
  rcases out with f | F
  · intro c2 f2 b15 b14 b16 b9
    have e79 := f79 c2 f2
    have e78 := f78 c2 f2
    refine ⟨fun z => absurd (b15.symm.trans z) (by decide), fun _ => ⟨by rw [e78]; omega, QI.ret ⟨?_, ?_, ?_, ?_, ?_, rfl, ?_, ?_, ?_, fun j a => ?_⟩⟩⟩
    · exact ((fall c2 f2).wr (by unfold LWF; omega)).wr (by unfold LWF; omega)
    · rw [up_cell (by decide), up_ne (by decide)]; exact f770 c2 f2
    · rw [up_cell (by decide), up_ne (by decide)]; exact b9
    · rw [up_cell (by decide), up_ne (by decide)]; exact b16
    · rw [up_cell (by decide), up_same]; rfl
    · rw [up_cell (by decide), up_ne (by decide)]; exact b14
    · rw [up_cell (by decide), up_cell (by decide)]; exact e79
    · rw [up_same, e78]
    · rw [up_ne a, up_cell (by decide), e78]
  · intro c2 f2 b15 b14 b16 b9 hF
    have e79 := f79 c2 f2
    have e78 := f78 c2 f2
    have e1 : c2 79 1 = c 79 1 := congrFun e79 1
    have hFk := hF.klf
    refine ⟨fun _ => ⟨by omega, ?_⟩, fun z => absurd b15 z⟩
    rw [e1]
    generalize hA : 380 + 900 * c 79 1 = A
    have u1 : up c2 79 (A + 1) (c2 77 17) 79 1 = c 79 1 := by rw [up_ne (by omega), e1]
    have hF2 : RTD (up c2 79 (A + 1) (c2 77 17)) 0 F := by
      obtain ⟨a1, a2, a3, a4⟩ := hF
      refine ⟨by rw [up_cell (by decide)]; exact a1, a2, by rw [up_cell (by decide)]; exact a3, fun i z hz => ?_⟩
      rw [up_cell (q := 77) (by decide)]
      have := a4 i z hz
      unfold ZRx at this ⊢
      rw [up_cell (q := rcel 0) (by decide), up_cell (q := 85) (by decide), up_cell (q := 86) (by decide)]
      exact this
    refine (r_lawCopy (A := A) (F := F) (by rw [u1]; exact hA.symm) (by rw [u1]; exact h1) hF2 (by rw [up_same, up_cell (by decide)])).mono fun r c3 g => ?_
    obtain ⟨g1, g2, g3, g4, g5, g6⟩ := g
    rw [u1] at g1 g4
    have g77 : ∀ j, ¬ j = 1 → c3 77 j = c2 77 j := fun j a => by rw [g3 77 j (by omega) (by decide), up_cell (by decide)]
    refine ⟨fun q j a => ?_, ?_, ?_, ?_, ?_, g1, ?_, ?_, g4, fun j a b => ?_, hFk, by rw [hA]; exact g6⟩
    · have a79 : ¬ q = 79 := fun z => a (by unfold LWF; omega)
      rw [g3 q j (fun z => a (by unfold LWF; omega)) a79, up_cell a79]
      exact fall c2 f2 q j a
    · rw [g77 0 (by decide)]; exact f770 c2 f2
    · rw [g77 9 (by decide)]; exact b9
    · rw [g77 16 (by decide)]; exact b16
    · rw [g2, if_neg (by omega)]
    · rw [g77 14 (by decide)]; exact b14
    · funext j
      rw [g3 78 j (by omega) (by decide), up_cell (by decide), e78]
    · rw [g5 j a (by omega), up_ne (by omega), e79]

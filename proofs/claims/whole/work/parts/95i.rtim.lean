/-! ORDERS: the reference runs an order as often as it says -/
def OLR : List Nat := [79, 92, 93, 94, 95, 96, 97, 98, 99, 100]
def OGR : List Int := [16, 30, 34, 35, 36, 44, 45, 46, 55]
theorem r_tim {T : List Shp} {Q : Res → Prop} {c0 : Cm} {F : List Clz} {i q : Int} {z : Orc} (hi : 0 ≤ i ∧ i < 12) (hq : q ≤ 400) (hz : ZRa 1 (c0 107) (10 * i) (c0 85) (c0 86) q z) (ht : ZRt 18 (c0 107) (10 * i + 7) (c0 85) (c0 86) q z.2.2.1) (hw : wfo z) : ∀ (k : Nat) (c : Cm) (t n : Int), RWd c F → AX c → c 77 55 = n → 0 ≤ n → n + (k : Int) ≤ 1000 → Off OLR OGR c0 c → (∀ j, 348 ≤ j → c 79 j = c0 79 j) → 0 ≤ t → t + (k : Int) = z.2.1 → (∀ c', (tim F z k (c 79) n).1 < 0 → c' 77 55 = (tim F z k (c 79) n).2.2 → AX c' → Off OLR OGR c0 c' → (∀ j, 348 ≤ j → c' 79 j = c0 79 j) → Q (cev 334 12 140 [vR 78, vI i, vU, vI (tim F z k (c 79) n).1, vI 0] [] (SH T, c'))) → (∀ c', ¬ (tim F z k (c 79) n).1 < 0 → c' 79 = (tim F z k (c 79) n).2.1 → c' 77 55 = (tim F z k (c 79) n).2.2 → RWd c' F → AX c' → Off OLR OGR c0 c' → (∀ j, 348 ≤ j → c' 79 j = c0 79 j) → Q (cev 334 12 98 [vR 78, vI (i + 1), vU, vU, vU] [] (SH T, c'))) → Q (cev 334 12 108 [vR 78, vI i, vI t, vU, vU] [] (SH T, c)) := by
  intro k
  have wt := hw.2.1
  have e9' : c0 107 (10 * i + 9) = z.2.1 := by
    have w := hz.2
    rw [if_neg (by decide)] at w
    exact w.1
  induction k with
  | zero =>
    intro c t n h hx h55 hn hn2 o hk t0 tk _ hok
    have e9 : c 107 (10 * i + 9) = z.2.1 := by rw [o.cell (q := 107) rfl]; exact e9'
    refine W_X12_orders_108 ⟨by omega, fun e => ?_, fun _ => ⟨by omega, ?_⟩⟩
    · rw [e9] at e; omega
    · exact hok c (by show ¬ (0 : Int) < 0; omega) rfl h55 h hx o hk
  | succ k ih =>
    intro c t n h hx h55 hn hn2 o hk t0 tk hbad hok
    have e107 : c 107 = c0 107 := o.cell rfl
    have e85 : c 85 = c0 85 := o.cell rfl
    have e86 : c 86 = c0 86 := o.cell rfl
    have e9 : c 107 (10 * i + 9) = z.2.1 := by rw [e107]; exact e9'
    refine W_X12_orders_108 ⟨by omega, fun _ => ⟨by omega, ?_⟩, fun e => absurd (by rw [e9]; omega) e⟩
    refine (r_run (n := n) h hx (by omega) h55 (by omega) hq (by rw [e107, e85, e86]; exact hz) (by rw [e107, e85, e86]; exact ht) hw).mono fun v c2 g => ?_
    by_cases wn : wnt (wO F (c 79) n) z = true
    · obtain ⟨g1, g2, g3, g4, g5⟩ := g.2 wn
      have o2 : Off OLR OGR c0 c2 := o.trans g5
      by_cases e : (oaw F (c 79) (wO F (c 79) n) z).1 < 0
      · have et : tim F z (k + 1) (c 79) n = ((oaw F (c 79) (wO F (c 79) n) z).1, c 79, n) := by
          show (if _ then _ else _) = _
          rw [if_pos wn, if_pos e]
        rw [et] at hbad
        rw [if_pos e] at g3
        rw [g1]
        exact ⟨fun _ => hbad c2 e g3 g4 o2 (fun j hj => by rw [g2]; exact ((kp_oaw h.1).2 j (.inr (.inr hj))).trans (hk j hj)), fun e2 => absurd e e2⟩
      · have et : tim F z (k + 1) (c 79) n = tim F z k (c2 79) (n + 1) := by
          show (if _ then _ else _) = _
          rw [if_pos wn, if_neg e, g2]
        rw [et] at hbad hok
        rw [if_neg e] at g3
        rw [g1]
        refine ⟨fun e2 => absurd e2 e, fun _ => ⟨by omega, ?_⟩⟩
        exact ih c2 (t + 1) (n + 1) (h.kp (kp_oaw h.1) g2 g4.1) g4 g3 (by omega) (by omega) o2 (fun j hj => by rw [g2]; exact ((kp_oaw h.1).2 j (.inr (.inr hj))).trans (hk j hj)) (by omega) (by omega) hbad hok
    · obtain ⟨g1, g2, g3, g4, g5⟩ := g.1 (by cases k2 : wnt (wO F (c 79) n) z with | false => rfl | true => exact absurd k2 wn)
      have o2 : Off OLR OGR c0 c2 := o.trans g5
      have et : tim F z (k + 1) (c 79) n = tim F z k (c2 79) n := by
        show (if _ then _ else _) = _
        rw [if_neg wn, g2]
      rw [et] at hbad hok
      rw [g1]
      refine ⟨fun e2 => absurd e2 (by omega), fun _ => ⟨by omega, ?_⟩⟩
      exact ih c2 (t + 1) n (h.kp (KP.same (r := 0) h.1) g2 g4.1) g4 g3 hn (by omega) o2 (fun j hj => by rw [g2]; exact hk j hj) (by omega) (by omega) hbad hok

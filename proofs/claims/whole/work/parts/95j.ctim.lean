/-! ORDERS: the class runs an order as often as it says -/
def OLC : List Nat := [1, 6, 7, 8, 14, 15, 16, 17, 21, 22, 23, 24, 25, 26, 27, 28, 59, 69, 70, 71, 72]
def ONK (c c' : Cm) : Prop := Off OLC [] c c' ∧ (∀ j, j ≠ 8 → j ≠ 11 → c' 1 j = c 1 j) ∧ B9 c'
theorem ONK.once {c0 c c' : Cm} (h : ONK c0 c) (k : ONC c c') : ONK c0 c' := ⟨h.1.trans (k.1.mono rfl rfl), fun j a b => (k.2.1 j a b).trans (h.2.1 j a b), k.2.2⟩
theorem ONK.w59 {c0 c : Cm} {j v : Int} (h : ONK c0 c) : ONK c0 (up c 59 j v) := ⟨h.1.wr rfl, fun j a b => by rw [up_cell (by decide)]; exact h.2.1 j a b, by unfold B9; rw [up_cell (by decide)]; exact h.2.2⟩
theorem CWd.w59 {T : List Shp} {c : Cm} {R : Int → Int} {F : List Clz} {j v : Int} (h : CWd T c R F) : CWd T (up c 59 j v) R F := h.off (L := [59]) (G := []) (Off.rfl.wr rfl) rfl
theorem c_tim {T : List Shp} {Q : Res → Prop} {c0 : Cm} {F : List Clz} {i : Int} {z : Orc} (hi : 0 ≤ i ∧ i < 12) (h113 : c0 11 3 ≤ 450) (hwi : WI c0) (hz : ZO 18 (c0 12) (6 * i) (c0 13) (c0 11 3) z) (hw : wfo z) : ∀ (k : Nat) (c : Cm) (t n : Int) (R : Int → Int), CWd T c R F → c 59 9 = n → c 59 8 = i → 0 ≤ n → n + (k : Int) ≤ 1000 → ONK c0 c → 0 ≤ t → t + (k : Int) = z.2.1 → (∀ c' t', (tim F z k R n).1 < 0 → c' 59 9 = (tim F z k R n).2.2 → c' 59 8 = i → ONK c0 c' → Q (cev 6 19 117 [vR 60, vR 12, vI (6 * i), vI t', vI (tim F z k R n).1, vU] [] (SH T, c'))) → (∀ c', ¬ (tim F z k R n).1 < 0 → CWd T c' (tim F z k R n).2.1 F → c' 59 9 = (tim F z k R n).2.2 → c' 59 8 = i + 1 → ONK c0 c' → Q (cev 6 19 21 [vR 60, vR 12, vU, vU, vU, vU] [] (SH T, c'))) → Q (cev 6 19 42 [vR 60, vR 12, vI (6 * i), vI t, vU, vU] [] (SH T, c)) := by
  intro k
  have wt := hw.2.1
  induction k with
  | zero =>
    intro c t n R h h9 h8 hn hn2 o t0 tk _ hok
    have e1 : c 12 (6 * i + 1) = z.2.1 := by rw [o.1.cell (q := 12) rfl]; exact hz.2.1
    refine W_X1_runAll_42 ⟨by omega, fun e => ?_, fun _ => ⟨by omega, ?_⟩⟩
    · rw [e1] at e; omega
    · exact hok _ (by show ¬ (0 : Int) < 0; omega) h.w59 (by rw [up_ne (by decide)]; exact h9) (by rw [up_same, h8]) o.w59
  | succ k ih =>
    intro c t n R h h9 h8 hn hn2 o t0 tk hbad hok
    have e11 : c 11 = c0 11 := o.1.cell rfl
    have e12 : c 12 = c0 12 := o.1.cell rfl
    have e13 : c 13 = c0 13 := o.1.cell rfl
    refine c_once (n := n) h o.2.2 (hwi.cong (by rw [e11]) (by rw [e11]) e13) (by rw [e11]; exact h113) h9 (by omega) (by omega) (by rw [e11, e12, e13]; exact hz) hw (by omega) (fun wn c2 w2 o2 => ?_) (fun wn c2 w2 o2 => ?_)
    · have et : tim F z (k + 1) R n = tim F z k R n := by
        show (if _ then _ else _) = _
        rw [if_neg (by rw [wn]; decide)]
      rw [et] at hbad hok
      have q9 : c2 59 = c 59 := o2.1.cell rfl
      exact ih c2 (t + 1) n R w2 (by rw [q9]; exact h9) (by rw [q9]; exact h8) hn (by omega) (o.once o2) (by omega) (by omega) hbad hok
    · have q9 : c2 59 = c 59 := o2.1.cell rfl
      by_cases e : (oaw F R (wO F R n) z).1 < 0
      · have et : tim F z (k + 1) R n = ((oaw F R (wO F R n) z).1, R, n) := by
          show (if _ then _ else _) = _
          rw [if_pos wn, if_pos e]
        rw [et] at hbad
        exact hbad c2 t e (by rw [q9]; exact h9) (by rw [q9]; exact h8) (o.once o2)
      · have et : tim F z (k + 1) R n = tim F z k (oaw F R (wO F R n) z).2 (n + 1) := by
          show (if _ then _ else _) = _
          rw [if_pos wn, if_neg e]
        rw [et] at hbad hok
        have z0 : (oaw F R (wO F R n) z).1 = 0 := by
          rcases oaw_code (F := F) (R := R) (W := wO F R n) (z := z) with a | a
          · exact a
          · exact absurd a e
        rw [z0]
        refine W_X1_runAll_117 ⟨fun _ => ⟨by rw [q9, h9]; omega, ?_⟩, fun e2 => absurd rfl e2⟩
        exact ih _ (t + 1) (n + 1) _ w2.w59 (by rw [up_same, q9, h9]) (by rw [up_ne (by decide), q9]; exact h8) (by omega) (by omega) (o.once o2).w59 (by omega) (by omega) hbad hok

/-! ORDERS: both sides run them all -/
theorem r_oru {T : List Shp} {Q : Res → Prop} {c0 : Cm} {F : List Clz} {q : Int} (hq : q ≤ 400) (h17 : c0 77 17 ≤ 12) : ∀ (l : List Orc) (c : Cm) (i n : Int), (∀ (j : Nat) (z : Orc), l[j]? = some z → ZRx c0 1 (i + (j : Int)) q z ∧ wfo z) → 0 ≤ i → i + (l.length : Int) = c0 77 17 → 0 ≤ n → n ≤ 20 * i → RWd c F → AX c → c 77 55 = n → Off OLR OGR c0 c → (∀ j, 348 ≤ j → c 79 j = c0 79 j) → (∀ c', (oru F l i (c 79) n).1 < 0 → c' 77 55 = (oru F l i (c 79) n).2.2.2 → AX c' → Off OLR OGR c0 c' → (∀ j, 348 ≤ j → c' 79 j = c0 79 j) → Q (cev 334 12 140 [vR 78, vI (oru F l i (c 79) n).2.1, vU, vI (oru F l i (c 79) n).1, vI 0] [] (SH T, c'))) → (∀ c', ¬ (oru F l i (c 79) n).1 < 0 → c' 79 = (oru F l i (c 79) n).2.2.1 → c' 77 55 = (oru F l i (c 79) n).2.2.2 → RWd c' F → AX c' → Off OLR OGR c0 c' → (∀ j, 348 ≤ j → c' 79 j = c0 79 j) → Q (cev 334 12 98 [vR 78, vI (c0 77 17), vU, vU, vU] [] (SH T, c'))) → Q (cev 334 12 98 [vR 78, vI i, vU, vU, vU] [] (SH T, c)) := by
  intro l
  induction l with
  | nil =>
    intro c i n _ i0 il n0 n1 h hx h55 o hk _ hok
    have ei : i = c0 77 17 := by
      have : (([] : List Orc).length : Int) = 0 := rfl
      omega
    rw [ei]
    exact hok c (by show ¬ (0 : Int) < 0; omega) rfl h55 h hx o hk
  | cons z l ih =>
    intro c i n hl i0 il n0 n1 h hx h55 o hk hbad hok
    have hl0 := hl 0 z rfl
    have len : ((z :: l).length : Int) = (l.length : Int) + 1 := by rw [List.length_cons]; omega
    rw [len] at il
    have e17 : c 77 17 = c0 77 17 := o.fld rfl
    have wt := hl0.2.2.1
    have tn : (z.2.1.toNat : Int) = z.2.1 := Int.toNat_of_nonneg (by omega)
    have hz : ZRx c0 1 i q z := by
      have := hl0.1
      rw [show i + ((0 : Nat) : Int) = i from by omega] at this
      exact this
    refine W_X12_orders_98 ⟨fun _ => ?_, fun e => absurd (by rw [e17]; omega) e⟩
    have tb := tim_bd (F := F) (z := z) z.2.1.toNat (c 79) n
    refine r_tim (c0 := c0) (i := i) (q := q) (z := z) (F := F) (by omega) hq hz.1 hz.2 hl0.2 z.2.1.toNat c 0 n h hx h55 n0 (by omega) o hk (by omega) (by omega) (fun c' e e55 x' o' k' => ?_) (fun c' e e79 e55 h' x' o' k' => ?_)
    · have et : oru F (z :: l) i (c 79) n = ((tim F z z.2.1.toNat (c 79) n).1, i, (tim F z z.2.1.toNat (c 79) n).2.1, (tim F z z.2.1.toNat (c 79) n).2.2) := by
        show (if _ then _ else _) = _
        rw [if_pos e]
      rw [et] at hbad
      exact hbad c' e e55 x' o' k'
    · have et : oru F (z :: l) i (c 79) n = oru F l (i + 1) (c' 79) (tim F z z.2.1.toNat (c 79) n).2.2 := by
        show (if _ then _ else _) = _
        rw [if_neg e, e79]
      rw [et] at hbad hok
      exact ih c' (i + 1) _ (fun j y hj => by
        have := hl (j + 1) y hj
        rw [show i + ((j + 1 : Nat) : Int) = i + 1 + (j : Int) from by omega] at this
        exact this) (by omega) (by omega) (by omega) (by omega) h' x' e55 o' k' hbad hok
theorem c_oru {T : List Shp} {Q : Res → Prop} {c0 : Cm} {F : List Clz} (h112 : c0 11 2 ≤ 12) (h113 : c0 11 3 ≤ 450) (hwi : WI c0) : ∀ (l : List Orc) (c : Cm) (i n : Int) (R : Int → Int), (∀ (j : Nat) (z : Orc), l[j]? = some z → ZO 18 (c0 12) (6 * (i + (j : Int))) (c0 13) (c0 11 3) z ∧ wfo z) → 0 ≤ i → i + (l.length : Int) = c0 11 2 → 0 ≤ n → n ≤ 20 * i → CWd T c R F → c 59 9 = n → c 59 8 = i → ONK c0 c → (∀ c' a t, (oru F l i R n).1 < 0 → c' 59 9 = (oru F l i R n).2.2.2 → c' 59 8 = (oru F l i R n).2.1 → ONK c0 c' → Q (cev 6 19 117 [vR 60, vR 12, vI a, vI t, vI (oru F l i R n).1, vU] [] (SH T, c'))) → (∀ c', ¬ (oru F l i R n).1 < 0 → CWd T c' (oru F l i R n).2.2.1 F → c' 59 9 = (oru F l i R n).2.2.2 → c' 59 8 = c0 11 2 → ONK c0 c' → Q (some (some (vI 0), (SH T, c')))) → Q (cev 6 19 21 [vR 60, vR 12, vU, vU, vU, vU] [] (SH T, c)) := by
  intro l
  induction l with
  | nil =>
    intro c i n R _ i0 il n0 n1 h h9 h8 o _ hok
    have ei : i = c0 11 2 := by
      have : (([] : List Orc).length : Int) = 0 := rfl
      omega
    have e11 : c 11 = c0 11 := o.1.cell rfl
    refine W_X1_runAll_21 ⟨fun e => ?_, fun _ => hok c (by show ¬ (0 : Int) < 0; omega) h h9 (by omega) o⟩
    rw [h8, e11] at e
    omega
  | cons z l ih =>
    intro c i n R hl i0 il n0 n1 h h9 h8 o hbad hok
    have hl0 := hl 0 z rfl
    have len : ((z :: l).length : Int) = (l.length : Int) + 1 := by rw [List.length_cons]; omega
    rw [len] at il
    have e11 : c 11 = c0 11 := o.1.cell rfl
    have wt := hl0.2.2.1
    have tn : (z.2.1.toNat : Int) = z.2.1 := Int.toNat_of_nonneg (by omega)
    have hz : ZO 18 (c0 12) (6 * i) (c0 13) (c0 11 3) z := by
      have := hl0.1
      rw [show i + ((0 : Nat) : Int) = i from by omega] at this
      exact this
    refine W_X1_runAll_21 ⟨fun _ => ?_, fun e => absurd (by rw [h8, e11]; omega) e⟩
    rw [h8, show i * 6 = 6 * i from by omega]
    refine ⟨by omega, ?_⟩
    have tb := tim_bd (F := F) (z := z) z.2.1.toNat R n
    refine c_tim (c0 := c0) (i := i) (z := z) (F := F) (by omega) h113 hwi hz hl0.2 z.2.1.toNat c 0 n R h h9 h8 n0 (by omega) o (by omega) (by omega) (fun c' t' e q9 q8 o' => ?_) (fun c' e h' q9 q8 o' => ?_)
    · have et : oru F (z :: l) i R n = ((tim F z z.2.1.toNat R n).1, i, (tim F z z.2.1.toNat R n).2.1, (tim F z z.2.1.toNat R n).2.2) := by
        show (if _ then _ else _) = _
        rw [if_pos e]
      rw [et] at hbad
      exact hbad c' _ t' e q9 q8 o'
    · have et : oru F (z :: l) i R n = oru F l (i + 1) (tim F z z.2.1.toNat R n).2.1 (tim F z z.2.1.toNat R n).2.2 := by
        show (if _ then _ else _) = _
        rw [if_neg e]
      rw [et] at hbad hok
      exact ih c' (i + 1) _ _ (fun j y hj => by
        have := hl (j + 1) y hj
        rw [show i + ((j + 1 : Nat) : Int) = i + 1 + (j : Int) from by omega] at this
        exact this) (by omega) (by omega) (by omega) (by omega) h' q9 q8 o' hbad hok

/-! ORDERS: the reference acts, kind by kind -/
def AX (c : Cm) : Prop := c 77 16 = 0 ∧ (0 ≤ c 77 44 ∧ c 77 44 ≤ 200) ∧ 0 ≤ c 77 45 ∧ c 77 45 ≤ 10000
/-- what an order's act leaves: the answer, the row, the frame -/
def ACT (c : Cm) (B : Int × (Int → Int)) (r : Int) (c' : Cm) : Prop := ANS r B.1 ∧ c' 79 = B.2 ∧ AX c' ∧ Off [79, 92, 94, 95, 96, 97, 98, 99, 100] [16, 30, 34, 35, 36, 44, 45, 46] c c'
theorem AX.off {c c' : Cm} {L : List Nat} {G : List Int} (h : AX c) (o : Off L G c c') (hl : (L.contains 77 || G.contains 16 || G.contains 44 || G.contains 45) = false) : AX c' := by
  have h1 := Bool.or_eq_false_iff.mp hl
  have h2 := Bool.or_eq_false_iff.mp h1.1
  have h3 := Bool.or_eq_false_iff.mp h2.1
  unfold AX
  rw [o.fld (j := 16) (by rw [h3.1, h3.2]; rfl), o.fld (j := 44) (by rw [h3.1, h2.2]; rfl), o.fld (j := 45) (by rw [h3.1, h1.2]; rfl)]
  exact h
theorem AX.o16 {c c' : Cm} {L : List Nat} {G : List Int} (h : AX c) (o : Off L G c c') (hl : (L.contains 77 || G.contains 44 || G.contains 45) = false) (e : c' 77 16 = 0) : AX c' := by
  have h1 := Bool.or_eq_false_iff.mp hl
  have h2 := Bool.or_eq_false_iff.mp h1.1
  unfold AX
  rw [o.fld (j := 44) (by rw [h2.1, h2.2]; rfl), o.fld (j := 45) (by rw [h2.1, h1.2]; rfl)]
  exact ⟨e, h.2⟩
theorem r_act3 {T : List Shp} {c : Cm} {F : List Clz} {x : Int} {P : Int → Int} (h : RWd c F) (hx : AX c) : QI T (ACT c (oac F (c 79) 3 P)) (ccal 332 [vR 78, vI x, vI 3] (SH T, c)) := by
  have r := h.1.1
  unfold oac
  rw [if_neg (by omega), if_pos rfl]
  refine W_X12_act (Q := QI T _) ⟨fun e => absurd e (by omega), fun _ => ⟨fun e => QI.ret ?_, fun e => ⟨by omega, QI.ret ?_⟩⟩, fun e => absurd e (by omega), fun e => absurd e (by omega), fun e => absurd (.inr (.inl rfl)) e⟩
  · rw [if_pos e]
    exact ⟨.inr ⟨by show (-3 : Int) < 0; omega, rfl⟩, rfl, hx, Off.rfl⟩
  · rw [if_neg e]
    have o : Off [79, 92, 94, 95, 96, 97, 98, 99, 100] [] c (up c 79 4 (c 79 4 - 1)) := Off.rfl.wr rfl
    refine ⟨.inl ⟨rfl, by omega⟩, ?_, hx.off o rfl, o.mono rfl rfl⟩
    funext j
    rw [up_at]
    rfl
theorem r_act4 {T : List Shp} {c : Cm} {F : List Clz} {x : Int} {P : Int → Int} (h : RWd c F) (hx : AX c) : QI T (ACT c (oac F (c 79) 4 P)) (ccal 332 [vR 78, vI x, vI 4] (SH T, c)) := by
  have r := h.1.1
  unfold oac
  rw [if_pos rfl]
  refine W_X12_act (Q := QI T _) ⟨fun e => absurd e (by omega), fun e => absurd e (by omega), fun _ => ?_, fun e => absurd e (by omega), fun e => absurd (.inr (.inr (.inl rfl))) e⟩
  refine (r_copyNow h).mono fun v c' g => QI.ret ?_
  obtain ⟨g1, o⟩ := g
  by_cases e : c 79 5 = 6
  · rw [if_pos e] at g1
    rw [if_neg (by omega), g1.2]
    exact ⟨.inr ⟨by show (-5 : Int) < 0; omega, g1.1⟩, rfl, hx, Off.rfl⟩
  · rw [if_neg e] at g1
    rw [if_pos (by omega)]
    exact ⟨.inl ⟨rfl, by omega⟩, g1.2, hx.off o rfl, o.mono rfl rfl⟩
theorem r_act2 {T : List Shp} {c : Cm} {F : List Clz} {n x q : Int} {d : Den} (h : RWd c F) (hx : AX c) (hn : 0 ≤ n ∧ n ≤ 1000) (h93 : ∀ i, 1 ≤ i → i ≤ 6 → c 93 i = wO F (c 79) n i) (ha : 0 ≤ x ∧ x < 118) (hq : q ≤ 400) (hp : PRL 18 (c 85) (c 86) q (c 107 (x + 1)) (c 107 (x + 1 + 1)) d) : QI T (ACT c ((d (wO F (c 79) n)).elim (-3, c 79) fun y => oac F (c 79) 2 fun _ => y)) (ccal 332 [vR 78, vI x, vI 2] (SH T, c)) := by
  have r := h.1.1
  refine W_X12_act (Q := QI T _) ⟨fun _ => ⟨by omega, ?_⟩, fun e => absurd e (by omega), fun e => absurd e (by omega), fun e => absurd e (by omega), fun e => absurd (.inl rfl) e⟩
  refine (r_osum h hn h93 (by omega) hq hp).mono fun v c2 g => ?_
  obtain ⟨w2, o, g1, g2⟩ := g
  have x2 := hx.o16 o rfl w2.2.2
  have e79 : c2 79 = c 79 := o.cell rfl
  have bad : ∀ r : Int, r = -3 → ACT c (-3, c 79) r c2 := fun r e => ⟨.inr ⟨by show (-3 : Int) < 0; omega, e⟩, e79, x2, o.mono rfl rfl⟩
  cases ed : d (wO F (c 79) n) with
  | none => exact ⟨fun e => absurd (g1 ed) (by omega), fun _ => QI.ret (bad _ rfl)⟩
  | some y =>
    have g3 := g2 y ed
    have eo : ((some y : Option Int).elim (-3, c 79) fun y => oac F (c 79) 2 fun _ => y) = pwk F (c 79) y := rfl
    refine ⟨fun _ => ?_, fun e => absurd g3.1 e⟩
    rw [e79, g3.2, eo]
    refine ⟨by omega, fun hy => ?_, fun hy => QI.ret ?_⟩
    · rw [w32_id (by omega) (by omega)]
      refine (r_pw (p := y) w2 (by rw [e79]; omega)).mono fun v' c3 k => QI.ret ?_
      rw [e79] at k
      exact ⟨k.1, k.2.1, x2.off k.2.2 rfl, (o.mono rfl rfl).trans (k.2.2.mono rfl rfl)⟩
    · rw [pwk_out (by omega)]
      exact bad _ rfl
theorem r_act01 {T : List Shp} {c : Cm} {F : List Clz} {x k : Int} {P : Int → Int} (h : RWd c F) (hx : AX c) (hk : k = 0 ∨ k = 1) : QI T (ACT c (oac F (c 79) k P)) (ccal 332 [vR 78, vI x, vI k] (SH T, c)) := by
  have r := h.1.1
  have eo : oac F (c 79) k P = pwk F (c 79) (if 0 < (pln F (c 79) k 1).1 then (pln F (c 79) k 1).2.2.2 0 else -1) := by
    unfold oac
    rw [if_neg (by omega), if_neg (by omega), if_neg (by omega), if_neg (show ¬ k = 2 by omega)]
  have b := pln_one (F := F) (R := c 79) (k := k) (by omega)
  rw [eo]
  refine W_X12_act (Q := QI T _) ⟨fun e => absurd e (by omega), fun e => absurd e (by omega), fun e => absurd e (by omega), fun e => absurd e (by omega), fun _ => ?_⟩
  refine (r_goThrough (by' := k) (n := 1) h (by omega) hx.2.1 hx.2.2).mono fun c2 g => ?_
  obtain ⟨⟨⟨g1, g2⟩, g3, g4⟩, o⟩ := g
  have w2 := h.off o rfl
  have x2 : AX c2 := ⟨w2.2.2, g3, g4⟩
  have e79 : c2 79 = c 79 := o.cell rfl
  rw [g1]
  refine ⟨fun e => QI.ret ?_, fun e => ?_⟩
  · rw [if_neg (by omega), pwk_out (by omega)]
    exact ⟨.inr ⟨by show (-3 : Int) < 0; omega, rfl⟩, e79, x2, o.mono rfl rfl⟩
  · have b2 := b.2 e
    rw [if_pos (by omega), (g2 e).2.2 0 (by omega) (by omega)]
    refine (r_pw (p := (pln F (c 79) k 1).2.2.2 0) w2 (by rw [e79]; exact b2)).mono fun v' c3 k' => QI.ret ?_
    rw [e79] at k'
    exact ⟨k'.1, k'.2.1, x2.off k'.2.2 rfl, (o.mono rfl rfl).trans (k'.2.2.mono rfl rfl)⟩

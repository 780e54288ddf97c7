/-! ORDERS: the reference touches a paper's cell -/
def tch (F : List Clz) (R : Int → Int) (a b t : Int) : Int × (Int → Int) := oac F R 5 (fun j => if j = 0 then a else if j = 1 then b else t)
theorem tch_if {F : List Clz} {R : Int → Int} {a b t : Int} : tch F R a b t = if (0 ≤ a ∧ a < R 5) ∧ (0 ≤ b ∧ b < 12) ∧ 0 ≤ t ∧ t < 10 then (0, toR R a b t) else (-3, R) := rfl
def TS (F : List Clz) (c0 c : Cm) : Prop := RWd c F ∧ AX c ∧ Off [94] [16, 34, 35] c0 c
theorem TS.bad {F : List Clz} {c0 c : Cm} (h : TS F c0 c) : ACT c0 (-3, c0 79) (-3) c := ⟨.inr ⟨by show (-3 : Int) < 0; omega, rfl⟩, h.2.2.cell rfl, h.2.1, h.2.2.mono rfl rfl⟩
theorem r_osumS {T : List Shp} {c0 c : Cm} {F : List Clz} {n a q : Int} {d : Den} (h : TS F c0 c) (hn : 0 ≤ n ∧ n ≤ 1000) (h93 : ∀ i, 1 ≤ i → i ≤ 6 → c0 93 i = wO F (c0 79) n i) (ha : 0 ≤ a ∧ a < 119) (hq : q ≤ 400) (hp : PRL 18 (c0 85) (c0 86) q (c0 107 a) (c0 107 (a + 1)) d) : QL T (fun r c' => TS F c0 c' ∧ (d (wO F (c0 79) n) = none → c' 77 34 = 1) ∧ (∀ y, d (wO F (c0 79) n) = some y → c' 77 34 = 0 ∧ r = y)) (ccal 330 [vR 78, vI a] (SH T, c)) := by
  obtain ⟨w, x, o⟩ := h
  have e79 : c 79 = c0 79 := o.cell rfl
  refine (r_osum (d := d) (n := n) (q := q) w hn (fun i a b => by rw [e79, o.cell (q := 93) rfl]; exact h93 i a b) ha hq (by rw [o.cell (q := 85) rfl, o.cell (q := 86) rfl, o.cell (q := 107) rfl]; exact hp)).mono fun v c2 g => ?_
  rw [e79] at g
  exact ⟨⟨g.1, x.o16 g.2.1 rfl g.1.2.2, o.trans g.2.1⟩, g.2.2.1, g.2.2.2⟩
theorem r_t94 {T : List Shp} {c0 c : Cm} {F : List Clz} {a b t : Int} (h : TS F c0 c) : QI T (ACT c0 (tch F (c0 79) a b t)) (cev 333 5 94 [vR 78, vU, vL a, vU, vU, vL b, vU, vL t, vU] [vI 1] (SH T, c)) := by
  have e79 : c 79 = c0 79 := h.2.2.cell rfl
  have r := h.1.1.1
  rw [e79] at r
  rw [tch_if]
  refine W_X12_touchNow_94 (Q := QI T _) ⟨fun e => absurd e (by omega), fun _ => ?_⟩
  rw [e79]
  refine ⟨by omega, fun k0 => ⟨fun k1 => ⟨fun k2 => ?_, fun k2 => ?_⟩, fun k1 => ?_⟩, fun k0 => ?_⟩
  · rw [w32_id (x := a) (by omega) (by omega), w32_id (x := b) (by omega) (by omega), w32_id (x := t) (by omega) (by omega), if_pos (by omega)]
    have o : Off [79, 92, 94, 95, 96, 97, 98, 99, 100] [] c (up c 79 (276 + 12 * a + b) t) := Off.rfl.wr rfl
    refine ⟨by omega, QI.ret ⟨.inl ⟨rfl, by omega⟩, ?_, h.2.1.off o rfl, (h.2.2.mono rfl rfl).trans (o.mono rfl rfl)⟩⟩
    funext j
    rw [up_at, e79]
    rfl
  · rw [if_neg (by omega)]; exact QI.ret h.bad
  · rw [if_neg (by omega)]; exact QI.ret h.bad
  · rw [if_neg (by omega)]; exact QI.ret h.bad
theorem r_t94n {T : List Shp} {c0 c : Cm} {F : List Clz} {a b t : Int} (h : TS F c0 c) : QI T (ACT c0 (-3, c0 79)) (cev 333 5 94 [vR 78, vU, vL a, vU, vU, vL b, vU, vL t, vU] [vI 0] (SH T, c)) :=
  W_X12_touchNow_94 (Q := QI T _) ⟨fun _ => QI.ret h.bad, fun e => absurd rfl e⟩
theorem r_t57n {T : List Shp} {c0 c : Cm} {F : List Clz} {x a b : Int} (h : TS F c0 c) : QI T (ACT c0 (-3, c0 79)) (cev 333 5 57 [vR 78, vI x, vL a, vU, vU, vL b, vU, vU, vU] [vI 0] (SH T, c)) :=
  W_X12_touchNow_57 (Q := QI T _) ⟨fun _ => W_X12_touchNow_75 (Q := QI T _) ⟨fun _ => r_t94n h, fun e => absurd rfl e⟩, fun e => absurd rfl e⟩
theorem r_t57 {T : List Shp} {c0 c : Cm} {F : List Clz} {n x q a b : Int} {d : Den} (h : TS F c0 c) (hn : 0 ≤ n ∧ n ≤ 1000) (h93 : ∀ i, 1 ≤ i → i ≤ 6 → c0 93 i = wO F (c0 79) n i) (ha : 0 ≤ x ∧ x < 114) (hq : q ≤ 400) (hp : PRL 18 (c0 85) (c0 86) q (c0 107 (x + 5)) (c0 107 (x + 5 + 1)) d) : QI T (ACT c0 ((d (wO F (c0 79) n)).elim (-3, c0 79) fun t => tch F (c0 79) a b t)) (cev 333 5 57 [vR 78, vI x, vL a, vU, vU, vL b, vU, vU, vU] [vI 1] (SH T, c)) := by
  refine W_X12_touchNow_57 (Q := QI T _) ⟨fun e => absurd e (by omega), fun _ => ⟨by omega, ?_⟩⟩
  refine (r_osumS h hn h93 (by omega) hq hp).mono fun v c2 g => ?_
  refine W_X12_touchNow_75 (Q := QI T _) ⟨fun e => absurd e (by omega), fun _ => ?_⟩
  cases ed : d (wO F (c0 79) n) with
  | none => exact ⟨fun e => absurd (g.2.1 ed) (by omega), fun _ => r_t94n g.1⟩
  | some y =>
    have g3 := g.2.2 y ed
    refine ⟨fun _ => ?_, fun e => absurd g3.1 e⟩
    rw [g3.2]
    exact r_t94 g.1
theorem r_t20 {T : List Shp} {c0 c : Cm} {F : List Clz} {n x q a : Int} {d d3 : Den} (h : TS F c0 c) (hn : 0 ≤ n ∧ n ≤ 1000) (h93 : ∀ i, 1 ≤ i → i ≤ 6 → c0 93 i = wO F (c0 79) n i) (ha : 0 ≤ x ∧ x < 114) (hq : q ≤ 400) (hp : PRL 18 (c0 85) (c0 86) q (c0 107 (x + 3)) (c0 107 (x + 3 + 1)) d) (hp3 : PRL 18 (c0 85) (c0 86) q (c0 107 (x + 5)) (c0 107 (x + 5 + 1)) d3) : QI T (ACT c0 ((d (wO F (c0 79) n)).elim (-3, c0 79) fun b => (d3 (wO F (c0 79) n)).elim (-3, c0 79) fun t => tch F (c0 79) a b t)) (cev 333 5 20 [vR 78, vI x, vL a, vU, vU, vU, vU, vU, vU] [vI 1] (SH T, c)) := by
  refine W_X12_touchNow_20 (Q := QI T _) ⟨fun e => absurd e (by omega), fun _ => ⟨by omega, ?_⟩⟩
  refine (r_osumS h hn h93 (by omega) hq hp).mono fun v c2 g => ?_
  refine W_X12_touchNow_38 (Q := QI T _) ⟨fun e => absurd e (by omega), fun _ => ?_⟩
  cases ed : d (wO F (c0 79) n) with
  | none => exact ⟨fun e => absurd (g.2.1 ed) (by omega), fun _ => r_t57n g.1⟩
  | some y =>
    have g3 := g.2.2 y ed
    refine ⟨fun _ => ?_, fun e => absurd g3.1 e⟩
    rw [g3.2]
    exact r_t57 g.1 hn h93 ha hq hp3
theorem r_t20n {T : List Shp} {c0 c : Cm} {F : List Clz} {x a : Int} (h : TS F c0 c) : QI T (ACT c0 (-3, c0 79)) (cev 333 5 20 [vR 78, vI x, vL a, vU, vU, vU, vU, vU, vU] [vI 0] (SH T, c)) :=
  W_X12_touchNow_20 (Q := QI T _) ⟨fun _ => W_X12_touchNow_38 (Q := QI T _) ⟨fun _ => r_t57n h, fun e => absurd rfl e⟩, fun e => absurd rfl e⟩
theorem r_act5 {T : List Shp} {c : Cm} {F : List Clz} {n x q : Int} {d1 d2 d3 : Den} (h : RWd c F) (hx : AX c) (hn : 0 ≤ n ∧ n ≤ 1000) (h93 : ∀ i, 1 ≤ i → i ≤ 6 → c 93 i = wO F (c 79) n i) (ha : 0 ≤ x ∧ x < 114) (hq : q ≤ 400) (hp1 : PRL 18 (c 85) (c 86) q (c 107 (x + 1)) (c 107 (x + 1 + 1)) d1) (hp2 : PRL 18 (c 85) (c 86) q (c 107 (x + 3)) (c 107 (x + 3 + 1)) d2) (hp3 : PRL 18 (c 85) (c 86) q (c 107 (x + 5)) (c 107 (x + 5 + 1)) d3) : QI T (ACT c ((d1 (wO F (c 79) n)).elim (-3, c 79) fun a => (d2 (wO F (c 79) n)).elim (-3, c 79) fun b => (d3 (wO F (c 79) n)).elim (-3, c 79) fun t => tch F (c 79) a b t)) (ccal 332 [vR 78, vI x, vI 5] (SH T, c)) := by
  refine W_X12_act (Q := QI T _) ⟨fun e => absurd e (by omega), fun e => absurd e (by omega), fun e => absurd e (by omega), fun _ => ?_, fun e => absurd (.inr (.inr (.inr rfl))) e⟩
  refine QI.mono (P := ACT c _) ?_ fun v c' g => QI.ret g
  refine W_X12_touchNow (Q := QI T _) ⟨by omega, ?_⟩
  refine (r_osumS (c0 := c) ⟨h, hx, Off.rfl⟩ hn h93 (by omega) hq hp1).mono fun v c2 g => ?_
  cases ed : d1 (wO F (c 79) n) with
  | none => exact ⟨fun e => absurd (g.2.1 ed) (by omega), fun _ => r_t20n g.1⟩
  | some y =>
    have g3 := g.2.2 y ed
    refine ⟨fun _ => ?_, fun e => absurd g3.1 e⟩
    rw [g3.2]
    exact r_t20 g.1 hn h93 ha hq hp2 hp3

/-! ORDERS: the reference learns its words, works an order's test and sums -/
theorem r_setNow {T : List Shp} {c : Cm} {F : List Clz} {n : Int} (h : RWd c F) (hn : c 77 55 = n) : QV T (fun c' => (∀ i, 1 ≤ i → i ≤ 6 → c' 93 i = wO F (c 79) n i) ∧ Off [92, 93, 94, 95, 96] [30, 34, 35, 36] c c') (ccal 329 [vR 78] (SH T, c)) := by
  have r := h.1.1
  have o1 : Off [92, 93, 94, 95, 96] [30, 34, 35, 36] c (up c 93 1 (c 79 4)) := Off.rfl.wr rfl
  refine W_X12_setNow (Q := QV T _) ?_
  refine (r_unlikeOf (h.off o1 rfl) (l := c 79 4) (by omega)).mono fun u c2 h2 => ?_
  rw [up_cell (q := 79) (by decide)] at h2
  have o2 : Off [92, 93, 94, 95, 96] [30, 34, 35, 36] c (up c2 93 2 u) := (o1.trans (h2.2.mono rfl rfl)).wr rfl
  have e2 : c2 79 = c 79 := by rw [h2.2.cell (q := 79) rfl, up_cell (by decide)]
  have e2' : (up c2 93 2 u) 79 = c 79 := by rw [up_cell (by decide)]; exact e2
  rw [e2]
  refine (r_moneyBehind (h.off o2 rfl) (l := c 79 4) (by rw [e2']; omega)).mono fun m c4 h4 => ?_
  rw [e2'] at h4
  have e4 : c4 79 = c 79 := by rw [h4.2.cell (q := 79) rfl]; exact e2'
  have o4 : Off [92, 93, 94, 95, 96] [30, 34, 35, 36] c (up (up c4 93 3 m) 93 4 (c 79 5)) := ((o2.trans (h4.2.mono rfl rfl)).wr rfl).wr rfl
  rw [e4]
  refine QI.of_eq (r_ageIn (h.off o4 rfl) (by omega)) ?_
  have e79 : (up (up c4 93 3 m) 93 4 (c 79 5)) 79 = c 79 := by rw [up_cell (by decide), up_cell (by decide)]; exact e4
  have e55 : (up (up c4 93 3 m) 93 4 (c 79 5)) 77 55 = n := by rw [o4.fld rfl]; exact hn
  rw [e79, e55]
  refine QV.ret ⟨fun i a b => ?_, (o4.wr rfl).wr rfl⟩
  have ei : i = 1 ∨ i = 2 ∨ i = 3 ∨ i = 4 ∨ i = 5 ∨ i = 6 := by omega
  have k93 : c4 93 = (up c2 93 2 u) 93 := h4.2.cell (q := 93) rfl
  have k93' : c2 93 = (up c 93 1 (c 79 4)) 93 := h2.2.cell (q := 93) rfl
  rcases ei with e | e | e | e | e | e <;> subst e
  · rw [up_ne (by decide), up_ne (by decide), up_ne (by decide), up_ne (by decide), k93, up_ne (by decide), k93', up_same]; rfl
  · rw [up_ne (by decide), up_ne (by decide), up_ne (by decide), up_ne (by decide), k93, up_same, h2.1]; rfl
  · rw [up_ne (by decide), up_ne (by decide), up_ne (by decide), up_same, h4.1]; rfl
  · rw [up_ne (by decide), up_ne (by decide), up_same]; rfl
  · rw [up_ne (by decide), up_same]; rfl
  · rw [up_same]; rfl
theorem RWd.o16 {L : List Nat} {G : List Int} {c c' : Cm} {F : List Clz} (h : RWd c F) (o : Off L G c c') (hl : L.contains 79 = false) (e : c' 77 16 = 0) : RWd c' F := by
  have e79 : c' 79 = c 79 := o.cell (by rw [hl]; rfl)
  unfold RWd
  rw [e79]
  exact ⟨h.1, h.2.1, e⟩
theorem r_osum {T : List Shp} {c : Cm} {F : List Clz} {n a q : Int} {d : Den} (h : RWd c F) (hn : 0 ≤ n ∧ n ≤ 1000) (h93 : ∀ i, 1 ≤ i → i ≤ 6 → c 93 i = wO F (c 79) n i) (ha : 0 ≤ a ∧ a < 119) (hq : q ≤ 400) (hp : PRL 18 (c 85) (c 86) q (c 107 a) (c 107 (a + 1)) d) : QL T (fun r c' => RWd c' F ∧ Off [94] [16, 34, 35] c c' ∧ (d (wO F (c 79) n) = none → c' 77 34 = 1) ∧ (∀ y, d (wO F (c 79) n) = some y → c' 77 34 = 0 ∧ r = y)) (ccal 330 [vR 78, vI a] (SH T, c)) := by
  have r := h.1.1
  obtain ⟨l, p1, p2, p3, p4⟩ := hp
  refine (r_sumOf (W := wO F (c 79) n) ha (wO_bd h.1 hn) (by omega) h93 (fun x h1 h2 => (wO_7 h1).symm) ⟨l, p1, p2, Int.le_trans p3 hq, p4⟩).mono fun v c' g => ?_
  exact ⟨h.o16 g.1 rfl g.2.1, g.1, g.2.2⟩

/-! ORDERS, joined: what the run's codes and rows can be -/
def OK3 (x : Int) : Prop := x = 0 ∨ x = -3 ∨ x = -5
theorem oac_c3 {F : List Clz} {R P : Int → Int} {k : Int} : OK3 (oac F R k P).1 := by
  have pk : ∀ p, OK3 (pwk F R p).1 := fun p => by
    unfold pwk
    split
    · split
      · exact .inr (.inl rfl)
      · split
        · exact .inl rfl
        · exact .inr (.inr rfl)
    · exact .inr (.inl rfl)
  unfold oac
  split
  · split
    · exact .inl rfl
    · exact .inr (.inr rfl)
  · split
    · split
      · exact .inr (.inl rfl)
      · exact .inl rfl
    · split
      · split
        · exact .inl rfl
        · exact .inr (.inl rfl)
      · exact pk _
theorem el_c3 {R : Int → Int} {x : Option Int} {f : Int → Int × (Int → Int)} (hf : ∀ y, OK3 (f y).1) : OK3 (x.elim (-3, R) f).1 := by
  cases x with
  | none => exact .inr (.inl rfl)
  | some y => exact hf y
theorem oaw_c3 {F : List Clz} {R W : Int → Int} {z : Orc} : OK3 (oaw F R W z).1 := by
  unfold oaw
  split
  · exact el_c3 fun y => oac_c3
  · split
    · exact el_c3 fun a => el_c3 fun b => el_c3 fun t => oac_c3
    · exact oac_c3
theorem tim_c3 {F : List Clz} {z : Orc} : ∀ (k : Nat) (R : Int → Int) (n : Int), OK3 (tim F z k R n).1
  | 0, R, n => .inl rfl
  | k + 1, R, n => by
    unfold tim
    split
    · split
      · exact oaw_c3
      · exact tim_c3 k _ _
    · exact tim_c3 k _ _
theorem oru_c3 {F : List Clz} : ∀ (l : List Orc) (i : Int) (R : Int → Int) (n : Int), OK3 (oru F l i R n).1
  | [], i, R, n => .inl rfl
  | z :: l, i, R, n => by
    unfold oru
    split
    · exact tim_c3 _ _ _
    · exact oru_c3 l _ _ _
theorem oru_bd {F : List Clz} : ∀ (l : List Orc) (i : Int) (R : Int → Int) (n : Int), n ≤ (oru F l i R n).2.2.2
  | [], i, R, n => Int.le_refl _
  | z :: l, i, R, n => by
    have tb := tim_bd (F := F) (z := z) z.2.1.toNat R n
    unfold oru
    split
    · exact tb.1
    · exact Int.le_trans tb.1 (oru_bd l _ _ _)
def KPr (R R' : Int → Int) : Prop := RNG R' ∧ ∀ j, (j = 1 ∨ j = 2 ∨ 348 ≤ j) → R' j = R j
theorem tim_kp {F : List Clz} {z : Orc} : ∀ (k : Nat) (R : Int → Int) (n : Int), RNG R → KPr R (tim F z k R n).2.1
  | 0, R, n => fun h => ⟨h, fun _ _ => rfl⟩
  | k + 1, R, n => fun h => by
    unfold tim
    split
    · split
      · exact ⟨h, fun _ _ => rfl⟩
      · have kp := kp_oaw (F := F) (W := wO F R n) (z := z) h
        have ih := tim_kp (F := F) (z := z) k (oaw F R (wO F R n) z).2 (n + 1) kp.1
        exact ⟨ih.1, fun j hj => (ih.2 j hj).trans (kp.2 j hj)⟩
    · exact tim_kp k R n h
theorem oru_kp {F : List Clz} : ∀ (l : List Orc) (i : Int) (R : Int → Int) (n : Int), RNG R → KPr R (oru F l i R n).2.2.1
  | [], i, R, n => fun h => ⟨h, fun _ _ => rfl⟩
  | z :: l, i, R, n => fun h => by
    have tk := tim_kp (F := F) (z := z) z.2.1.toNat R n h
    unfold oru
    split
    · exact tk
    · have ih := oru_kp (F := F) l (i + 1) (tim F z z.2.1.toNat R n).2.1 (tim F z z.2.1.toNat R n).2.2 tk.1
      exact ⟨ih.1, fun j hj => (ih.2 j hj).trans (tk.2 j hj)⟩
/-- the joint world, anew -/
theorem REL.g3 {T T' : List Shp} {c c2 : Cm} {n : Nat} (h : REL T c n) (hP : PT 1 T' c2 (c2 79)) (hI : IMG T' c2) (tap : TAP c2) (m1 : c2 0 14 = c2 77 14 ∧ c2 0 15 = c2 77 7 ∧ c2 0 16 = c2 77 56) (ax : AX c2) (b9 : B9 c2) (e89 : c2 89 = c 89) (e90 : c2 90 = c 90) (e91 : c2 91 = c 91) (e73 : c2 73 = c 73) (e74 : c2 74 = c 74) (e75 : c2 75 = c 75) (e108 : c2 108 = c 108) (f59 : c2 77 59 = c 77 59) (f60 : c2 77 60 = c 77 60) (st : RFS (n + 1) c2) (e79 : ∀ j, 5780 ≤ j → c2 79 j = 0) (ts : TSZ T' (n + 1)) : REL T' c2 (n + 1) := ⟨hP, hI, tap, ⟨m1, ax, h.2.2.2.1.2.2.1.cong e89 e90 e91, b9, e79⟩, st, h.2.2.2.2.2.1.cells e73 e74 e75 e108 f59 f60, ts⟩
/-- what the class's orders() may change; the reference's -/
def CBF (q : Nat) (j : Int) : Prop := (1 ≤ q ∧ q ≤ 9) ∨ (11 ≤ q ∧ q ≤ 17) ∨ (21 ≤ q ∧ q ≤ 28) ∨ q = 48 ∨ (59 ≤ q ∧ q ≤ 72) ∨ q = 76 ∨ (q = 0 ∧ (j = 4 ∨ j = 14 ∨ j = 16 ∨ j = 17))
def OBF (q : Nat) (j : Int) : Prop := (84 ≤ q ∧ q ≤ 88) ∨ q = 107 ∨ q = 78 ∨ q = 79 ∨ q = 81 ∨ (92 ≤ q ∧ q ≤ 100) ∨ (q = 77 ∧ (j = 0 ∨ j = 1 ∨ (9 ≤ j ∧ j ≤ 17) ∨ j = 19 ∨ j = 22 ∨ j = 25 ∨ j = 26 ∨ j = 30 ∨ j = 34 ∨ j = 35 ∨ j = 36 ∨ j = 44 ∨ j = 45 ∨ j = 46 ∨ j = 55 ∨ j = 56))
theorem LXB.obf {q : Nat} {j : Int} (h : LXB q j) : OBF q j := by unfold LXB RXA at h; unfold OBF; omega
theorem BTX.obf {q : Nat} {j : Int} (h : BTX q j) : OBF q j := by unfold BTX at h; unfold OBF; omega
theorem off_obf {c c' : Cm} (o : Off (81 :: OLR) (56 :: OGR) c c') : Fr OBF c c' := by
  intro q j hn
  refine o q j ?_ fun e => ?_
  · cases e : (81 :: OLR).contains q with
    | false => rfl
    | true =>
      have m := List.contains_iff_mem.mp e
      unfold OLR at m
      simp at m
      exact absurd (by unfold OBF; omega) hn
  · cases e2 : (56 :: OGR).contains j with
    | false => rfl
    | true =>
      have m := List.contains_iff_mem.mp e2
      unfold OGR at m
      simp at m
      exact absurd (by unfold OBF; omega) hn
theorem off_cbf {c c' : Cm} (o : Off OLA [] c c') : Fr CBF c c' := by
  intro q j hn
  refine o q j ?_ fun e => rfl
  cases e : OLA.contains q with
  | false => rfl
  | true =>
    have m := List.contains_iff_mem.mp e
    unfold OLA at m
    simp at m
    exact absurd (by unfold CBF; omega) hn
theorem REL.ord {T : List Shp} {c c5 cf : Cm} {n : Nat} {R' : Int → Int} (h : REL T c n) (fc : Fr CBF c c5) (fr : Fr OBF c5 cf) (hs : CS c5 R') (hR : RNG R') (k1 : R' 1 = c 79 1) (k3 : ∀ j, 380 ≤ j → R' j = c 79 j) (x5 : ∀ x, 0 ≤ x → x < 6 → c5 5 x = c 5 x) (b9 : B9 c5) (e79 : ∀ j, 0 ≤ j → cf 79 j = R' j) (z4 : c5 0 4 = 0) (z9 : cf 77 9 = 0) (z14 : c5 0 14 = cf 77 14) (z16 : c5 0 16 = cf 77 56) (ax : AX cf) (st : RFS (n + 1) cf) : REL T cf (n + 1) := by
  have fcell : ∀ q, (¬ (1 ≤ q ∧ q ≤ 9) ∧ ¬ (11 ≤ q ∧ q ≤ 17) ∧ ¬ (21 ≤ q ∧ q ≤ 28) ∧ ¬ q = 48 ∧ ¬ (59 ≤ q ∧ q ≤ 72) ∧ ¬ q = 76 ∧ ¬ q = 0) → c5 q = c q := fun q a => fc.cell fun j k => by unfold CBF at k; omega
  have rcell : ∀ q, (q < 77 ∨ q = 80 ∨ q = 82 ∨ q = 83 ∨ (89 ≤ q ∧ q ≤ 91) ∨ (101 ≤ q ∧ q ≤ 106) ∨ 108 ≤ q) → cf q = c5 q := fun q a => fr.cell fun j k => by unfold OBF at k; omega
  have big : ∀ q, 109 ≤ q → cf q = c q := fun q a => (rcell q (by omega)).trans (fcell q (by omega))
  have both : ∀ q, q = 10 ∨ (29 ≤ q ∧ q ≤ 47) ∨ (73 ≤ q ∧ q ≤ 75) ∨ q = 80 ∨ q = 82 ∨ q = 83 ∨ (89 ≤ q ∧ q ≤ 91) ∨ q = 108 → cf q = c q := fun q a => (rcell q (by omega)).trans (fcell q (by omega))
  have f0 : ∀ j, cf 0 j = c5 0 j := fun j => congrFun (rcell 0 (by omega)) j
  have c0 : ∀ j, j ≠ 4 → j ≠ 14 → j ≠ 16 → j ≠ 17 → c5 0 j = c 0 j := fun j a b d g => fc 0 j fun k => by unfold CBF at k; omega
  have r77 : ∀ j, (j = 7 ∨ j = 59 ∨ j = 60) → cf 77 j = c 77 j := fun j a => (fr 77 j fun k => by unfold OBF at k; omega).trans (congrFun (fcell 77 (by omega)) j)
  obtain ⟨t1, t2, t3⟩ := h.2.2.1
  obtain ⟨m1, m2, m3, m4, m5⟩ := h.2.2.2.1
  have hP := h.1
  have r1 := hP.2.1.1
  refine h.g3 ?_ (h.2.1.cells ((f0 2).trans (c0 2 (by decide) (by decide) (by decide) (by decide))) (fun q a b => both q (by omega)) (both 80 (by omega)) (both 82 (by omega)) big) ⟨?_, ⟨?_, ?_⟩, ?_⟩ ⟨(f0 14).trans z14, ?_, (f0 16).trans z16⟩ ax ?_ (both 89 (by omega)) (both 90 (by omega)) (both 91 (by omega)) (both 73 (by omega)) (both 74 (by omega)) (both 75 (by omega)) (both 108 (by omega)) (r77 59 (by omega)) (r77 60 (by omega)) st (fun j a => ?_) h.2.2.2.2.2.2.up1
  · have p : PT 1 T cf R' := ⟨hs.cells (rcell 1 (by omega)) (rcell 2 (by omega)) (rcell 3 (by omega)) (rcell 4 (by omega)) (rcell 6 (by omega)) (rcell 7 (by omega)) (rcell 8 (by omega)) (rcell 9 (by omega)), hR, ((hP.2.2.1.cg big).tx (by omega) (fun x a b => by show cf 5 x = c 5 x; rw [rcell 5 (by omega)]; exact x5 x a b)).row k1 k3, fun x a b => by show trf (SH T) (cf 5 x) 20 = true; rw [rcell 5 (by omega), x5 x a b]; exact hP.2.2.2 x a b⟩
    exact p.nn e79
  · rw [f0, z4, z9]
  · rw [z9]; omega
  · rw [both 10 (by omega)]; exact t2.2
  · rw [both 10 (by omega), both 83 (by omega)]; exact t3
  · rw [f0, c0 15 (by decide) (by decide) (by decide) (by decide), r77 7 (by omega)]
    exact m1.2.1
  · unfold B9
    rw [rcell 71 (by omega)]
    exact b9
  · rw [e79 j (by omega), k3 j (by omega)]
    exact m5 j a
/-- as r_runs; what is told when none could be is left alone -/
theorem r_runs2 {T : List Shp} {Q : Res → Prop} {c : Cm} {F : List Clz} {FO : List Orc} (h : RWd c F) (hx : AX c) (hr : RTD c 1 FO) (hw : ∀ z ∈ FO, wfo z) (hbad : ∀ c', (oru F FO 0 (c 79) 0).1 < 0 → (∀ j, 0 ≤ j → c' 79 j = c 79 j) → c' 77 55 = (oru F FO 0 (c 79) 0).2.2.2 → c' 77 56 = (oru F FO 0 (c 79) 0).2.1 → AX c' → Off (81 :: OLR) (56 :: OGR) c c' → QI T (fun r c2 => Q (some (some (vI r), (SH T, c2)))) (ccal 190 [vR 78, vI (oru F FO 0 (c 79) 0).1] (SH T, c'))) (hok : ∀ c', ¬ (oru F FO 0 (c 79) 0).1 < 0 → c' 79 = (oru F FO 0 (c 79) 0).2.2.1 → c' 77 55 = (oru F FO 0 (c 79) 0).2.2.2 → RWd c' F → AX c' → Off (81 :: OLR) OGR c c' → QI T (fun r c2 => Q (some (some (vI r), (SH T, c2)))) (ccal 190 [vR 78, vI (c' 77 55)] (SH T, c'))) : Q (cev 334 12 66 [vR 78, vI 0, vU, vU, vU] [] (SH T, c)) := by
  obtain ⟨r1, r2, r3, r4⟩ := hr
  refine r_keep66 fun c1 o e81 e55 => ?_
  have e79 : c1 79 = c 79 := o.cell rfl
  have e17 : c1 77 17 = c 77 17 := o.fld rfl
  have w1 := h.off o rfl
  have x1 := hx.off o rfl
  have o1 : Off (81 :: OLR) (56 :: OGR) c c1 := o.mono rfl rfl
  have zs : ∀ (j : Nat) (z : Orc), FO[j]? = some z → ZRx c1 1 (0 + (j : Int)) (c 77 19) z ∧ wfo z := by
    intro j z e
    refine ⟨?_, hw z (List.mem_of_getElem? e)⟩
    have := r4 j z e
    rw [show (0 : Int) + (j : Int) = (j : Int) from by omega]
    unfold ZRx
    rw [o.cell (q := rcel 1) rfl, o.cell (q := 85) rfl, o.cell (q := 86) rfl]
    exact this
  refine r_oru (c0 := c1) (F := F) (q := c 77 19) (by omega) (by omega) FO c1 0 0 zs (by omega) (by omega) (by omega) (by omega) w1 x1 e55 Off.rfl (fun _ _ => rfl) (fun c' b e x' o' k' => ?_) (fun c' b f79 e w' x' o' k' => ?_)
  · rw [e79] at b e ⊢
    refine r_back140 fun c2 o2 k1 k2 k3 => ?_
    have e81' : c' 81 = c1 81 := o'.cell rfl
    exact hbad c2 b (fun j a1 => by
      by_cases a2 : j < 5780
      · rw [k1 j a1 a2, e81']; exact e81 j a1 a2
      · rw [k2 j (by omega), k' j (by omega), e79]) (by rw [o2.fld rfl]; exact e) k3 (x'.off o2 rfl) ((o1.trans (o'.mono rfl rfl)).trans (o2.mono rfl rfl))
  · rw [e79] at b f79 e
    have f17 : c' 77 17 = c1 77 17 := o'.fld rfl
    refine W_X12_orders_98 ⟨fun z => absurd z (by rw [f17]; omega), fun _ => ?_⟩
    exact hok c' b f79 e w' x' ((o.mono rfl rfl : Off (81 :: OLR) OGR c c1).trans (o'.mono rfl rfl))
/-- the reference's orders(): all of it -/
theorem r_ordersB {T : List Shp} {Q : Res → Prop} {c : Cm} {F : List Clz} {B : Int → Int} {L : Int} {out : Ou2} (h : RWd c F) (hx : AX c) (hL : c 77 9 = L) (hB : ∀ j, 0 ≤ j → j < L → c 83 j = B j) (hbl : BLt B L) (hk : KW c) (h78 : 0 ≤ c 78 6 ∧ c 78 6 ≤ 1000) (hY : YO T 1 B L 0 0 (sk B L 0) 0 [] zo out) (hwf : ∀ FO, out = .inr FO → ∀ z ∈ FO, wfo z)
    (kF : ∀ f c', out = .inl f → Fr OBF c c' → c' 79 = c 79 → c' 77 56 = -1 → c' 77 14 = f → c' 77 9 = 0 → c' 77 1 = -6 → c' 78 = rU (c 78) 6 (c 78 6 + 1) → AX c' → Q (some (some (vI (-6)), (SH T, c'))))
    (kB : ∀ FO c', out = .inr FO → (oru F FO 0 (c 79) 0).1 < 0 → Fr OBF c c' → (∀ j, 0 ≤ j → c' 79 j = c 79 j) → c' 77 56 = (oru F FO 0 (c 79) 0).2.1 → c' 77 14 = -1 → c' 77 9 = 0 → c' 78 = c 78 → AX c' → QI T (fun r c2 => Q (some (some (vI r), (SH T, c2)))) (ccal 190 [vR 78, vI (oru F FO 0 (c 79) 0).1] (SH T, c')))
    (kO : ∀ FO c', out = .inr FO → ¬ (oru F FO 0 (c 79) 0).1 < 0 → Fr OBF c c' → c' 79 = (oru F FO 0 (c 79) 0).2.2.1 → c' 77 56 = -1 → c' 77 14 = -1 → c' 77 9 = 0 → c' 78 = c 78 → AX c' → QI T (fun r c2 => Q (some (some (vI r), (SH T, c2)))) (ccal 190 [vR 78, vI (oru F FO 0 (c 79) 0).2.2.2] (SH T, c'))) : Q (ccal 334 [vR 78] (SH T, c)) := by
  refine W_X12_orders ?_
  have g0 : Fr (fun q j => q = 77 ∧ (j = 0 ∨ j = 56)) c (up (up c 77 0 0) 77 56 (-1)) := (Fr.rfl.wr ⟨rfl, .inl rfl⟩).wr ⟨rfl, .inr rfl⟩
  have g56 : (up (up c 77 0 0) 77 56 (-1)) 77 56 = -1 := up_same
  generalize up (up c 77 0 0) 77 56 (-1) = s at g0 g56 ⊢
  have gc : ∀ q, q ≠ 77 → s q = c q := fun q a => g0.cell fun j k => a k.1
  refine (r_beginText (o := 1) (B := B) (L := L) (.inr rfl) ((g0 77 9 (by omega)).trans hL) (fun j a b => (congrFun (gc 83 (by decide)) j).trans (hB j a b)) hbl (hk.cong (gc 89 (by decide)) (gc 90 (by decide)) (gc 91 (by decide)))).mono fun c1 hb => ?_
  obtain ⟨fb, l1⟩ := hb
  have fall : ∀ c2 : Cm, Fr LXB c1 c2 → Fr OBF c c2 := fun c2 f => ((g0.mono fun q j k => by unfold OBF; omega).trans (fb.mono fun q j k => k.obf)).trans (f.mono fun q j k => k.obf)
  have ecell : ∀ c2 : Cm, Fr LXB c1 c2 → ∀ q, q = 78 ∨ q = 79 → c2 q = c q := fun c2 f q hq => by
    rw [f.cell (q := q) fun j k => by unfold LXB RXA at k; omega, fb.cell (q := q) fun j k => by unfold BTX at k; omega]
    exact gc q (by omega)
  have efld : ∀ c2 : Cm, Fr LXB c1 c2 → ∀ j, j = 44 ∨ j = 45 ∨ j = 56 → c2 77 j = s 77 j := fun c2 f j hj => by
    rw [f 77 j fun k => by unfold LXB RXA at k; omega]
    exact fb 77 j fun k => by unfold BTX at k; omega
  have hax : ∀ c2 : Cm, Fr LXB c1 c2 → c2 77 16 = 0 → AX c2 := fun c2 f e16 => by
    unfold AX at hx ⊢
    rw [efld c2 f 44 (by omega), efld c2 f 45 (by omega), g0 77 44 (by omega), g0 77 45 (by omega)]
    exact ⟨e16, hx.2⟩
  refine hY Q (fun c1 => (((c1 77 15) = 0 → Q (cev 334 12 66 [vR 78, vI 0, vU, vU, vU] [] (SH T, c1))) ∧ (¬ (c1 77 15) = 0 → ((-2147483648 ≤ (c1 78 6) + 1 ∧ (c1 78 6) + 1 < 2147483648) ∧ Q (some (some (vI (-6)), (SH T, (up (up c1 77 1 (-6)) 78 6 ((c1 78 6) + 1))))))))) (fun c2 h => W_X12_orders_19 ⟨fun z => ⟨fun w => (h.1 z).1 w, fun w => W_X12_orders_46 ((h.1 z).2 w)⟩, fun z => W_X12_orders_46 (h.2 z)⟩) c1 0 l1 ?_
  rcases out with f | FO
  · intro c2 f2 b15 b14 b16 b9
    have e78 := ecell c2 f2 78 (.inl rfl)
    have e79 := ecell c2 f2 79 (.inr rfl)
    refine ⟨fun z => absurd (b15.symm.trans z) (by decide), fun _ => ⟨by rw [e78]; omega, kF f _ rfl (((fall c2 f2).wr (by unfold OBF; omega)).wr (by unfold OBF; omega)) ?_ ?_ ?_ ?_ ?_ ?_ ?_⟩⟩
    · rw [up_cell (by decide), up_cell (by decide)]; exact e79
    · rw [up_cell (by decide), up_ne (by decide), efld c2 f2 56 (by omega)]; exact g56
    · rw [up_cell (by decide), up_ne (by decide)]; exact b14
    · rw [up_cell (by decide), up_ne (by decide)]; exact b9
    · rw [up_cell (by decide)]; exact up_same
    · rw [up_rU, up_cell (by decide), e78]
    · have a := hax c2 f2 b16
      unfold AX at a ⊢
      rw [up_cell (by decide), up_ne (by decide), up_ne (by decide), up_ne (by decide)]
      exact a
  · intro c2 f2 b15 b14 b16 b9 hF
    have e78 := ecell c2 f2 78 (.inl rfl)
    have e79 := ecell c2 f2 79 (.inr rfl)
    have w2 : RWd c2 F := by
      unfold RWd
      rw [e79]
      exact ⟨h.1, h.2.1, b16⟩
    refine ⟨fun _ => r_runs2 w2 (hax c2 f2 b16) hF (hwf FO rfl) (fun c' b k k55 k56 ax o => ?_) (fun c' b k k55 w' ax o => ?_), fun z => absurd b15 z⟩
    · rw [e79] at b k k56 ⊢
      exact kB FO c' rfl b ((fall c2 f2).trans (off_obf o)) k k56 ((o.fld rfl).trans b14) ((o.fld rfl).trans b9) ((o.cell rfl).trans e78) ax
    · rw [e79] at b k k55
      rw [k55]
      exact kO FO c' rfl b ((fall c2 f2).trans (off_obf (o.mono rfl rfl))) k ((o.fld rfl).trans ((efld c2 f2 56 (by omega)).trans g56)) ((o.fld rfl).trans b14) ((o.fld rfl).trans b9) ((o.cell rfl).trans e78) ax
theorem j_orders {T : List Shp} {c : Cm} {n : Nat} (h : REL T c n) (hn : n < 512) : JN T c n 126 334 [] := by
  obtain ⟨F, hc, hr⟩ := h.worlds
  have hs := h.cs
  have hR := h.rng
  have r := hR.1
  obtain ⟨t1, t2, t3⟩ := h.2.2.1
  obtain ⟨m1, m2, m3, m4, m5⟩ := h.2.2.2.1
  have rf := h.2.2.2.2.1
  have bd := h.bd hn
  have g6 := rf.2.1.2.2.2.2
  have g3 := rf.2.1.2.2.1
  have g5 := rf.2.1.2.2.2.1
  have hd := h.1.2.2.2
  refine W_X11_orders (Q := QI T _) ?_
  rw [t1]
  have f0 : Fr (fun q j => q = 0 ∧ (j = 4 ∨ j = 16)) c (up (up c 0 4 0) 0 16 (-1)) := (Fr.rfl.wr ⟨rfl, .inl rfl⟩).wr ⟨rfl, .inr rfl⟩
  have w0 : CWd T (up (up c 0 4 0) 0 16 (-1)) (c 79) F := hc.w0.w0
  have B0 : B9 (up (up c 0 4 0) 0 16 (-1)) := (B9.w0 m4).w0
  have z4 : (up (up c 0 4 0) 0 16 (-1)) 0 4 = 0 := rfl
  have z16 : (up (up c 0 4 0) 0 16 (-1)) 0 16 = -1 := rfl
  have z10 : (up (up c 0 4 0) 0 16 (-1)) 10 = c 10 := rfl
  generalize up (up c 0 4 0) 0 16 (-1) = c0 at f0 w0 B0 z4 z16 z10 ⊢
  refine (c_faultOrd (X := RS T 1 (c 10) (c 77 9)) (Y := YO T 1 (c 10) (c 77 9)) rs_gram (yo_gram (by decide)) z10 t2).mono fun r1 c2 g => ?_
  obtain ⟨f2, g⟩ := g
  have w2 := w0.txg f2
  have B2 := B0.txg f2
  have fc2 : Fr CBF c c2 := (f0.mono fun q j k => by unfold CBF; omega).trans (f2.mono fun q j k => by unfold TXG at k; unfold CBF; omega)
  have q4 : c2 0 4 = 0 := (f2 0 4 fun k => by unfold TXG at k; omega).trans z4
  have q16 : c2 0 16 = -1 := (f2 0 16 fun k => by unfold TXG at k; omega).trans z16
  have e76 : c2 76 = c 76 := by
    rw [f2.cell (q := 76) fun j k => by unfold TXG at k; omega]
    exact f0.cell fun j k => by omega
  have e5 : c2 5 = c 5 := by
    rw [f2.cell (q := 5) fun j k => by unfold TXG at k; omega]
    exact f0.cell fun j k => by omega
  have start : ∀ c5 : Cm, Fr CBF c c5 → RWd c5 F ∧ AX c5 ∧ c5 77 9 = c 77 9 ∧ (∀ j, 0 ≤ j → j < c 77 9 → c5 83 j = c 10 j) ∧ KW c5 ∧ (0 ≤ c5 78 6 ∧ c5 78 6 ≤ 1000) ∧ c5 78 = c 78 ∧ c5 79 = c 79 := fun c5 f => by
    have ec : ∀ q, q = 77 ∨ q = 78 ∨ q = 79 ∨ q = 83 ∨ q = 89 ∨ q = 90 ∨ q = 91 → c5 q = c q := fun q a => f.cell fun j k => by unfold CBF at k; omega
    have a77 := ec 77 (by omega)
    have a78 := ec 78 (by omega)
    have a79 := ec 79 (by omega)
    refine ⟨?_, ?_, by rw [a77], fun j a b => ?_, m3.cong (ec 89 (by omega)) (ec 90 (by omega)) (ec 91 (by omega)), by rw [a78]; omega, a78, a79⟩
    · unfold RWd
      rw [a77, a79]
      exact hr
    · unfold AX
      rw [a77]
      exact m2
    · rw [ec 83 (by omega)]
      have tl := t2.1
      exact t3 j a (by omega)
  have scs : ∀ c5 cf : Cm, Fr CBF c c5 → Fr OBF c5 cf → SC c cf := fun c5 cf f f' => ⟨(f'.cell fun j k => by unfold OBF at k; omega).trans (f.cell fun j k => by unfold CBF at k; omega), (f'.cell fun j k => by unfold OBF at k; omega).trans (f.cell fun j k => by unfold CBF at k; omega)⟩
  have sc5 : ∀ c5 : Cm, Fr CBF c c5 → SC c c5 := fun c5 f => ⟨f.cell fun j k => by unfold CBF at k; omega, f.cell fun j k => by unfold CBF at k; omega⟩
  rcases g with ⟨hr1, hY⟩ | ⟨hr1, FO, tx, wf, hY⟩
  · refine ⟨fun z => by omega, fun _ => ⟨by rw [e76]; omega, ?_⟩⟩
    have fc5 : Fr CBF c (up (up (up c2 0 14 r1) 0 17 (-6)) 76 4 (c2 76 4 + 1)) := ((fc2.wr (by unfold CBF; omega)).wr (by unfold CBF; omega)).wr (by unfold CBF; omega)
    have y4 : (up (up (up c2 0 14 r1) 0 17 (-6)) 76 4 (c2 76 4 + 1)) 0 4 = 0 := q4
    have y14 : (up (up (up c2 0 14 r1) 0 17 (-6)) 76 4 (c2 76 4 + 1)) 0 14 = r1 := rfl
    have y16 : (up (up (up c2 0 14 r1) 0 17 (-6)) 76 4 (c2 76 4 + 1)) 0 16 = -1 := q16
    have y17 : (up (up (up c2 0 14 r1) 0 17 (-6)) 76 4 (c2 76 4 + 1)) 0 17 = -6 := rfl
    have y76 : (up (up (up c2 0 14 r1) 0 17 (-6)) 76 4 (c2 76 4 + 1)) 76 = rU (c 76) 4 (c 76 4 + 1) := by
      rw [up_rU, up_cell (by decide), up_cell (by decide), e76]
    have yS : CS (up (up (up c2 0 14 r1) 0 17 (-6)) 76 4 (c2 76 4 + 1)) (c 79) := w2.1.cells rfl rfl rfl rfl rfl rfl rfl rfl
    have y5 : (up (up (up c2 0 14 r1) 0 17 (-6)) 76 4 (c2 76 4 + 1)) 5 = c 5 := e5
    have yB : B9 (up (up (up c2 0 14 r1) 0 17 (-6)) 76 4 (c2 76 4 + 1)) := B2
    generalize up (up (up c2 0 14 r1) 0 17 (-6)) 76 4 (c2 76 4 + 1) = c5 at fc5 y4 y14 y16 y17 y76 yS y5 yB ⊢
    obtain ⟨s1, s2, s3, s4, s5, s6, s7, s8⟩ := start c5 fc5
    refine QI.ret ⟨sc5 _ fc5, r_ordersB (Q := QI T (fun r' c2 => r' = -6 ∧ SC c c2 ∧ REL T c2 (n + 1))) (out := .inl r1) s1 s2 s3 s4 t2 s5 s6 hY (fun FO e => by cases e) (fun f cf e fr k79 k56 k14 k9 k1 k78 ax => ?_) (fun FO cf e => by cases e) (fun FO cf e => by cases e)⟩
    have ef : r1 = f := by injection e
    subst ef
    have i0 : ∀ j, cf 0 j = c5 0 j := fun j => fr 0 j fun k => by unfold OBF at k; omega
    have i76 : cf 76 = c5 76 := fr.cell fun j k => by unfold OBF at k; omega
    exact QI.ret ⟨rfl, scs _ _ fc5 fr, h.ord fc5 fr yS hR rfl (fun _ _ => rfl) (fun x _ _ => by rw [y5]) yB (fun j _ => by rw [k79, s8]) y4 k9 (by rw [y14, k14]) (by rw [y16, k56]) ax (rf.b6 (by rw [i0, y17]) k1 (by rw [i76, y76]) (by rw [k78, s7]))⟩
  · subst hr1
    refine ⟨fun _ => ?_, fun z => absurd rfl z⟩
    have tx3 : TXT (up c2 0 14 (-1)) 1 FO := tx
    have hd3 : ∀ x, 0 ≤ x → x < 6 → trf (SH T) ((up c2 0 14 (-1)) 5 x) 20 = true := fun x a b => by
      rw [up_cell (by decide), e5]
      exact hd x a b
    refine (c_runAll (w2.w0 (j := 14) (v := -1)) (B2.w0 (j := 14) (v := -1)) hd3 tx3 wf).mono fun r3 c4 k => ?_
    obtain ⟨k, o4, x5, B4⟩ := k
    have f4 : Fr CBF c c4 := (fc2.wr (by unfold CBF; omega)).trans (off_cbf o4)
    have v0 : c4 0 = (up c2 0 14 (-1)) 0 := o4.cell rfl
    have v76 : c4 76 = c 76 := (o4.cell rfl).trans e76
    have kp := oru_kp (F := F) FO 0 (c 79) 0 hR
    have c3 := oru_c3 (F := F) FO 0 (c 79) 0
    have ob := oru_bd (F := F) FO 0 (c 79) 0
    have xx : ∀ x, 0 ≤ x → x < 6 → c4 5 x = c 5 x := fun x a b => by
      rw [x5 x a b, up_cell (by decide), e5]
    rcases k with ⟨nb, hr3, w4, k9⟩ | ⟨nb, hr3, w4, k9, k8⟩
    · refine ⟨fun _ => ?_, fun z => absurd hr3 z⟩
      have fc5 : Fr CBF c (up c4 0 17 0) := f4.wr (by unfold CBF; omega)
      have y4 : (up c4 0 17 0) 0 4 = 0 := by rw [up_ne (by decide), v0, up_ne (by decide)]; exact q4
      have y14 : (up c4 0 17 0) 0 14 = -1 := by rw [up_ne (by decide), v0]; exact up_same
      have y16 : (up c4 0 17 0) 0 16 = -1 := by rw [up_ne (by decide), v0, up_ne (by decide)]; exact q16
      have y17 : (up c4 0 17 0) 0 17 = 0 := up_same
      have y76 : (up c4 0 17 0) 76 = c 76 := (up_cell (by decide)).trans v76
      have yS : CS (up c4 0 17 0) (oru F FO 0 (c 79) 0).2.2.1 := w4.1.cells rfl rfl rfl rfl rfl rfl rfl rfl
      have y5 : (up c4 0 17 0) 5 = c4 5 := up_cell (by decide)
      have yB : B9 (up c4 0 17 0) := B4.w0
      generalize up c4 0 17 0 = c5 at fc5 y4 y14 y16 y17 y76 yS y5 yB ⊢
      obtain ⟨s1, s2, s3, s4, s5, s6, s7, s8⟩ := start c5 fc5
      refine QI.ret ⟨sc5 _ fc5, r_ordersB (Q := QI T (fun r' c2 => r' = c4 59 9 ∧ SC c c2 ∧ REL T c2 (n + 1))) (out := .inr FO) s1 s2 s3 s4 t2 s5 s6 hY (fun FO' e => by injection e with e; subst e; exact wf) (fun f cf e => by cases e) (fun FO' cf e b => ?_) (fun FO' cf e b fr k79 k56 k14 k9' k78 ax => ?_)⟩
      · injection e with e
        subst e
        rw [s8] at b
        exact absurd b nb
      · injection e with e
        subst e
        rw [s8] at k79 ⊢
        have i0 : ∀ j, cf 0 j = c5 0 j := fun j => fr 0 j fun k => by unfold OBF at k; omega
        have i76 : cf 76 = c5 76 := fr.cell fun j k => by unfold OBF at k; omega
        have fr' : Fr OBF c5 (up cf 77 1 0) := fr.wr (by unfold OBF; omega)
        refine QI.of_eq (S_X12_tell T cf _ ob) (QI.ret ⟨k9.symm, scs _ _ fc5 fr', h.ord fc5 fr' yS kp.1 (kp.2 1 (.inl rfl)) (fun j a => kp.2 j (.inr (.inr (by omega)))) (fun x a b => by rw [y5]; exact xx x a b) yB (fun j _ => by rw [up_cell (by decide), k79]) y4 ?_ ?_ ?_ ?_ (rf.ok ?_ up_same ?_ ?_)⟩)
        · rw [up_ne (by decide)]; exact k9'
        · rw [up_ne (by decide), y14, k14]
        · rw [up_ne (by decide), y16, k56]
        · unfold AX at ax ⊢
          rw [up_ne (by decide), up_ne (by decide), up_ne (by decide)]
          exact ax
        · rw [up_cell (by decide), i0, y17]
        · rw [up_cell (by decide), i76, y76]
        · rw [up_cell (by decide), k78, s7]
    · have hcode : (oru F FO 0 (c 79) 0).1 = -3 ∨ (oru F FO 0 (c 79) 0).1 = -5 := by
        rcases c3 with z | z | z
        · omega
        · exact .inl z
        · exact .inr z
      refine ⟨fun z => by omega, fun _ => ?_⟩
      have bad : ∀ (v i k : Int) (C5 : Cm), (v = -3 ∧ i = 2 ∧ k = 3) ∨ (v = -5 ∧ i = 3 ∧ k = 5) → (oru F FO 0 (c 79) 0).1 = v → C5 = up (up (up c4 0 16 (c4 59 8)) 0 17 v) 76 i ((up c4 0 16 (c4 59 8)) 76 i + 1) → QI T (JP T c n 334 []) (some (some (vI v), (SH T, C5))) := by
        intro v i k C5 hv ev e5'
        have fc5 : Fr CBF c C5 := by
          rw [e5']
          exact ((f4.wr (by unfold CBF; omega)).wr (by unfold CBF; omega)).wr (by unfold CBF; omega)
        have y4 : C5 0 4 = 0 := by rw [e5', up_cell (by decide), up_ne (by decide), up_ne (by decide), v0, up_ne (by decide)]; exact q4
        have y14 : C5 0 14 = -1 := by rw [e5', up_cell (by decide), up_ne (by decide), up_ne (by decide), v0]; exact up_same
        have y16 : C5 0 16 = (oru F FO 0 (c 79) 0).2.1 := by rw [e5', up_cell (by decide), up_ne (by decide), up_same, k8]
        have y17 : C5 0 17 = v := by rw [e5', up_cell (by decide), up_same]
        have y76 : C5 76 = rU (c 76) i (c 76 i + 1) := by rw [e5', up_rU, up_cell (by decide), up_cell (by decide), v76]
        have yS : CS C5 (c 79) := by rw [e5']; exact w4.1.cells rfl rfl rfl rfl rfl rfl rfl rfl
        have y5 : C5 5 = c4 5 := by rw [e5', up_cell (by decide), up_cell (by decide), up_cell (by decide)]
        have yB : B9 C5 := by
          unfold B9
          rw [e5', up_cell (by decide)]
          exact B4
        obtain ⟨s1, s2, s3, s4, s5, s6, s7, s8⟩ := start C5 fc5
        refine QI.ret ⟨sc5 _ fc5, r_ordersB (Q := QI T (fun r' c2 => r' = v ∧ SC c c2 ∧ REL T c2 (n + 1))) (out := .inr FO) s1 s2 s3 s4 t2 s5 s6 hY (fun FO' e => by injection e with e; subst e; exact wf) (fun f cf e => by cases e) (fun FO' cf e b fr k79 k56 k14 k9' k78 ax => ?_) (fun FO' cf e b => ?_)⟩
        · injection e with e
          subst e
          rw [s8] at k56 ⊢
          rw [ev]
          have i0 : ∀ j, cf 0 j = C5 0 j := fun j => fr 0 j fun k => by unfold OBF at k; omega
          have i76 : cf 76 = C5 76 := fr.cell fun j k => by unfold OBF at k; omega
          have fr' : Fr OBF C5 (up (up cf 77 1 v) 78 k (cf 78 k + 1)) := (fr.wr (by unfold OBF; omega)).wr (by unfold OBF; omega)
          have rel : RFS (n + 1) (up (up cf 77 1 v) 78 k (cf 78 k + 1)) → REL T (up (up cf 77 1 v) 78 k (cf 78 k + 1)) (n + 1) := fun st => by
            refine h.ord fc5 fr' yS hR rfl (fun _ _ => rfl) (fun x a b => by rw [y5]; exact xx x a b) yB (fun j a => ?_) y4 ?_ ?_ ?_ ?_ st
            · rw [up_cell (by decide), up_cell (by decide), k79 j a, s8]
            · rw [up_cell (by decide), up_ne (by decide)]; exact k9'
            · rw [up_cell (by decide), up_ne (by decide), y14, k14]
            · rw [up_cell (by decide), up_ne (by decide), y16, k56]
            · unfold AX at ax ⊢
              rw [up_cell (by decide), up_ne (by decide), up_ne (by decide), up_ne (by decide)]
              exact ax
          have u17 : (up (up cf 77 1 v) 78 k (cf 78 k + 1)) 0 17 = v := by rw [up_cell (by decide), up_cell (by decide), i0, y17]
          have u1 : (up (up cf 77 1 v) 78 k (cf 78 k + 1)) 77 1 = v := by rw [up_cell (by decide), up_same]
          have u76 : (up (up cf 77 1 v) 78 k (cf 78 k + 1)) 76 = rU (c 76) i (c 76 i + 1) := by rw [up_cell (by decide), up_cell (by decide), i76, y76]
          have u78 : (up (up cf 77 1 v) 78 k (cf 78 k + 1)) 78 = rU (c 78) k (c 78 k + 1) := by rw [up_rU, up_cell (by decide), k78, s7]
          rcases hv with ⟨a1, a2, a3⟩ | ⟨a1, a2, a3⟩
          · subst a1; subst a2; subst a3
            exact QI.of_eq (S_X12_tell_3 T cf (by rw [k78, s7]; omega)) (QI.ret ⟨rfl, scs _ _ fc5 fr', rel (rf.b3 u17 u1 u76 u78)⟩)
          · subst a1; subst a2; subst a3
            exact QI.of_eq (S_X12_tell_5 T cf (by rw [k78, s7]; omega)) (QI.ret ⟨rfl, scs _ _ fc5 fr', rel (rf.b5 u17 u1 u76 u78)⟩)
        · injection e with e
          subst e
          rw [s8] at b
          exact absurd nb b
      have e76' : (up c4 0 16 (c4 59 8)) 76 = c 76 := (up_cell (by decide)).trans v76
      rw [hr3]
      rcases hcode with z | z
      · rw [z]
        exact QI.of_eq (S_X11_refuse_3 T _ (by rw [e76']; omega)) (bad (-3) 2 3 _ (.inl ⟨rfl, rfl, rfl⟩) z rfl)
      · rw [z]
        exact QI.of_eq (S_X11_refuse_5 T _ (by rw [e76']; omega)) (bad (-5) 3 5 _ (.inr ⟨rfl, rfl, rfl⟩) z rfl)

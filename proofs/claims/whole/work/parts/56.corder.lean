/-! THE CLASS READS: orders -/
theorem c_readTimes {T : List Shp} {X : GX} {Y : GY} {o : Int} {B : Int → Int} {L m k p n : Int} {F : List Orc} {z : Orc} {c : Cm} (hY : GYr o B L X Y) (h : TI c o B L m k p n F) (hz : PZ c o k z) (hk : k < 12) (hm : m ≤ 3) : QI T (fun r c' => Fr TXF c c' ∧ CLO Y c' o B L k p n F 2 z 3 r) (ccal 47 [vR 49, vI (6 * k)] (SH T, c)) := by
  have h1 := h.1
  have hF := h.2.2.2.2.2.1
  have pL := h1.pL
  have nb := nx_bd (B := B) pL.2.1
  refine W_X6_readTimes (Q := QI T _) ((c_word5 h1).mono fun r1 c2 h2 => ?_)
  by_cases e : isw B L p 21279923
  · obtain ⟨r1', f2, e2⟩ := h2.1 e
    have f2' : Fr TXF c c2 := f2.mono fun q j a => a.rda.txf
    have t2 := h.next f2 e2 nb.1
    have u4 := e2.2.2.2.2.1
    have u5 := e2.2.2.2.2.2.1
    have u7 := e2.2.2.2.2.2.2.2
    refine ⟨fun z => by omega, fun _ => ⟨fun e4 => ⟨fun e5 => QI.ret ⟨f2', .inl ⟨rfl, _, u5, by omega, hY.ti2 e fun w => by omega⟩⟩, fun e5 => ⟨fun e6 => QI.ret ⟨f2', .inl ⟨rfl, _, u5, by omega, hY.ti2 e fun w => by omega⟩⟩, fun e6 => ⟨by omega, ?_⟩⟩⟩, fun e4 => QI.ret ⟨f2', .inl ⟨rfl, _, u5, by omega, hY.ti2 e fun w => e4 (u4.trans w.1)⟩⟩⟩⟩
    rw [u7]
    have ok : kd B L (nx B L p) = 1 ∧ 1 ≤ nc B L (nx B L p) ∧ nc B L (nx B L p) ≤ 20 := ⟨u4.symm.trans e4, by omega, by omega⟩
    have t3 := t2.1.row (i := 6 * k + 1) (v := nc B L (nx B L p)) (by omega)
    have z3 : PZ (up c2 12 (6 * k + 1) (nc B L (nx B L p))) o k (z.1, nc B L (nx B L p), z.2.2) := by
      have z2 := t2.2 _ hz
      unfold PZ
      rw [up_cell (q := 13) (by decide), up_cell (q := 11) (by decide)]
      exact ZO.set z2 (by rw [up_ne (by omega)]; exact z2.1) up_same fun i a b => up_ne (by omega)
    have nb3 := nx_bd (B := B) nb.2.1
    refine (e2.row (i := 6 * k + 1) (v := nc B L (nx B L p))).next.mono fun c3 h3 => QI.ret ⟨(f2'.wr (q := 12) (.inr (.inl rfl))).trans (h3.1.mono fun q j a => a.rda.txf), .inr ⟨rfl, m, _, n, _, hm, (t3.next h3.1 h3.2 nb3.1).1, (t3.next h3.1 h3.2 nb3.1).2 _ z3, fun out hout => hY.ti3 e ok hout⟩⟩
  · obtain ⟨r1', rfl⟩ := h2.2 e
    exact ⟨fun _ => QI.ret ⟨Fr.rfl, .inr ⟨rfl, m, p, n, z, hm, h, hz, fun out hout => hY.ti1 e hout⟩⟩, fun z => absurd r1' z⟩
def OG (T : List Shp) (Y : GY) (c : Cm) (o : Int) (B : Int → Int) (L k p n : Int) (F : List Orc) (R : Res) : Prop := QI T (fun r c' => Fr TXF c c' ∧ CLO Y c' o B L k p n F 0 zo 3 r) R
theorem c_ord126 {T : List Shp} {X : GX} {Y : GY} {o : Int} {B : Int → Int} {L m k p n p1 n1 : Int} {F : List Orc} {z : Orc} {c s : Cm} (hY : GYr o B L X Y) (fs : Fr TXF c s) (h : TI s o B L m k p1 n1 F) (hz : PZ s o k z) (hk : k < 12) (hm : m ≤ 3) (hd : ∀ out, Y 2 k p1 n1 F z out → Y 0 k p n F zo out) : OG T Y c o B L k p n F (cev 46 101 126 [vR 49, vI (6 * k), vU] [] (SH T, s)) := by
  unfold OG
  refine W_X6_readOrder_126 ((c_readTimes hY h hz hk hm).mono fun r1 c2 h2 => ?_)
  obtain ⟨f2, g2⟩ := h2
  rcases g2 with ⟨r0, f, e5, f0, y⟩ | ⟨r1', m2, p2, n2, z2, hm2, t2, w2, hd2⟩
  · exact ⟨.inl r0, QI.ret ⟨fs.trans f2, .inl ⟨r0, f, e5, f0, hd _ y⟩⟩⟩
  · exact ⟨.inr r1', QI.ret ⟨fs.trans f2, .inr ⟨r1', m2, p2, n2, z2, hm2, t2, w2, fun out hout => hd _ (hd2 out hout)⟩⟩⟩
/-- touch: the second and third sum -/
theorem c_ordTouch2 {T : List Shp} {X : GX} {Y : GY} {o : Int} {B : Int → Int} {L k p n p1 n1 : Int} {F : List Orc} {d1 : Den} {c s : Cm} (hX : GRr o B L X) (hY : GYr o B L X Y) (ho : ¬ o = 0) (fs : Fr TXF c s) (hk : k < 12) (ek : tkw B L p WS1 = 3) (x1 : X 4 0 (nx B L p) n dz (.inr (p1, n1, d1))) (h : TI s o B L 1 k p1 n1 F) (hz : PZ s o k (5, 1, none, [d1])) : QI T (fun r3 c4 => ((r3 = 0 → OG T Y c o B L k p n F (some (some (vI 0), (SH T, c4)))) ∧ (¬ r3 = 0 → (QI T (fun r5 c6 => ((r5 = 0 → OG T Y c o B L k p n F (some (some (vI 0), (SH T, c6)))) ∧ (¬ r5 = 0 → (QI T (fun r7 c8 => ((r7 = 0 → OG T Y c o B L k p n F (some (some (vI 0), (SH T, c8)))) ∧ (¬ r7 = 0 → (QI T (fun r9 c10 => ((r9 = 0 → OG T Y c o B L k p n F (some (some (vI 0), (SH T, c10)))) ∧ (¬ r9 = 0 → OG T Y c o B L k p n F (cev 46 101 126 [vR 49, vI (6 * k), vU] [] (SH T, c10))))) (ccal 49 [vR 49, vI (6 * k), vI 2] (SH T, c8)))))) (ccal 59 [vR 49, vR (-104)] (SH T, c6)))))) (ccal 49 [vR 49, vI (6 * k), vI 1] (SH T, c4)))))) (ccal 59 [vR 49, vR (-103)] (SH T, s)) := by
  have es := h.1
  have nb := nx_bd (B := B) es.pL.2.1
  refine (c_word3 es).mono fun r3 c4 h4 => ?_
  by_cases e : isw B L p1 52
  · obtain ⟨r3', f4, e4⟩ := h4.1 e
    have t4 := h.next f4 e4 nb.1
    have f04 := fs.trans (f4.mono fun q j a => a.rda.txf)
    refine ⟨fun z => by omega, fun _ => (c_sumStep hX t4.1 (t4.2 _ hz) hk (by omega) (j := 1) rfl (by omega)).mono fun r5 c6 h6 => ?_⟩
    obtain ⟨f6, g6⟩ := h6
    have f06 := f04.trans f6
    rcases g6 with ⟨r0, f, e5, f0, x⟩ | ⟨r1, p2, n2, d2, x2, t6, z6⟩
    · exact ⟨fun _ => QI.ret ⟨f06, .inl ⟨rfl, f, e5, f0, hY.or9 ho hk ek x1 e x⟩⟩, fun z => absurd r0 z⟩
    · have nb6 := nx_bd (B := B) t6.1.pL.2.1
      refine ⟨fun z => by omega, fun _ => (c_word4 t6.1).mono fun r7 c8 h8 => ?_⟩
      by_cases e2 : isw B L p2 763528
      · obtain ⟨r7', f8, e8⟩ := h8.1 e2
        have t8 := t6.next f8 e8 nb6.1
        have f08 := f06.trans (f8.mono fun q j a => a.rda.txf)
        refine ⟨fun z => by omega, fun _ => (c_sumStep hX t8.1 (t8.2 _ z6) hk (by omega) (j := 2) rfl (by omega)).mono fun r9 c10 h10 => ?_⟩
        obtain ⟨f10, g10⟩ := h10
        have f010 := f08.trans f10
        rcases g10 with ⟨r0, f, e5, f0, x⟩ | ⟨r1, p3, n3, d3, x3, t10, z10⟩
        · exact ⟨fun _ => QI.ret ⟨f010, .inl ⟨rfl, f, e5, f0, hY.or11 ho hk ek x1 e x2 e2 x⟩⟩, fun z => absurd r0 z⟩
        · exact ⟨fun z => by omega, fun _ => c_ord126 hY f010 t10 z10 hk (by omega) fun out hout => hY.or12 ho hk ek x1 e x2 e2 x3 hout⟩
      · obtain ⟨r7', rfl⟩ := h8.2 e2
        exact ⟨fun _ => QI.ret ⟨f06, .inl ⟨rfl, p2, t6.1.2.2.2.2.2.1, t6.1.pL.1, hY.or10 ho hk ek x1 e x2 e2⟩⟩, fun z => absurd r7' z⟩
  · obtain ⟨r3', rfl⟩ := h4.2 e
    exact ⟨fun _ => QI.ret ⟨fs, .inl ⟨rfl, p1, es.2.2.2.2.2.1, es.pL.1, hY.or8 ho hk ek x1 e⟩⟩, fun z => absurd r3' z⟩
/-- the kind is known -/
theorem c_ord46 {T : List Shp} {X : GX} {Y : GY} {o : Int} {B : Int → Int} {L k p n p0 h : Int} {F : List Orc} {c s : Cm} (hX : GRr o B L X) (hY : GYr o B L X Y) (ho : ¬ o = 0) (fs : Fr TXF c s) (hk : k < 12) (t : TI s o B L 0 k p0 n F) (hz : PZ s o k (-1, 1, none, [])) (hh : (h = 5 ∧ tkw B L p WS1 = 3 ∧ p0 = nx B L p) ∨ (h = 2 ∧ tkw B L p WS1 = 0 ∧ tkw B L (nx B L p) WS2 = 2 ∧ p0 = nx B L (nx B L p)) ∨ (¬ h = 2 ∧ ¬ h = 5 ∧ ∀ out, Y 2 k p0 n F (h, 1, none, []) out → Y 0 k p n F zo out)) : OG T Y c o B L k p n F (cev 46 101 46 [vR 49, vI (6 * k), vI h] [] (SH T, s)) := by
  have hF := t.2.2.2.2.2.1
  unfold OG
  refine W_X6_readOrder_46 ⟨by omega, ?_⟩
  rw [Int.add_zero]
  have f1 : Fr TXF c (up s 12 (6 * k) h) := fs.wr (q := 12) (.inr (.inl rfl))
  have t1 : TI (up s 12 (6 * k) h) o B L 0 k p0 n F := t.row (by omega)
  have z1 : PZ (up s 12 (6 * k) h) o k (h, 1, none, []) := by
    unfold PZ
    rw [up_cell (q := 13) (by decide), up_cell (q := 11) (by decide)]
    exact ZO.set (z := (-1, 1, none, [])) hz up_same (by rw [up_ne (by omega)]; exact hz.2.1) fun i a b => up_ne (by omega)
  rcases hh with ⟨h5, ek, e0⟩ | ⟨h2, ek, ek2, e0⟩ | ⟨h2, h5, hd⟩
  · refine ⟨fun z => absurd z (by omega), fun _ => W_X6_readOrder_74 ⟨fun _ => ?_, fun z => absurd h5 z⟩⟩
    refine (c_sumStep hX t1 z1 hk (by omega) (j := 0) rfl (by omega)).mono fun r1 c2 h2 => ?_
    obtain ⟨f2, g2⟩ := h2
    have f02 := f1.trans f2
    rcases g2 with ⟨r0, f, e5, f0, x⟩ | ⟨r1', p1, n1, d1, x1, t2, z2⟩
    · rw [e0] at x
      exact ⟨fun _ => QI.ret ⟨f02, .inl ⟨rfl, f, e5, f0, hY.or7 ho hk ek x⟩⟩, fun z => absurd r0 z⟩
    · rw [e0] at x1
      rw [h5] at z2
      exact ⟨fun z => by omega, fun _ => c_ordTouch2 hX hY ho f02 hk ek x1 t2 z2⟩
  · refine ⟨fun _ => ?_, fun z => absurd h2 z⟩
    refine (c_sumStep hX t1 z1 hk (by omega) (j := 0) rfl (by omega)).mono fun r1 c2 h2' => ?_
    obtain ⟨f2, g2⟩ := h2'
    have f02 := f1.trans f2
    rcases g2 with ⟨r0, f, e5, f0, x⟩ | ⟨r1', p1, n1, d1, x1, t2, z2⟩
    · rw [e0] at x
      exact ⟨fun _ => QI.ret ⟨f02, .inl ⟨rfl, f, e5, f0, hY.or4 ho hk ek ek2 x⟩⟩, fun z => absurd r0 z⟩
    · rw [e0] at x1
      rw [h2] at z2
      exact ⟨fun z => by omega, fun _ => W_X6_readOrder_74 ⟨fun z => absurd z (by omega), fun _ => c_ord126 hY f02 t2 z2 hk (by omega) fun out hout => hY.or5 ho hk ek ek2 x1 hout⟩⟩
  · exact ⟨fun z => absurd z h2, fun _ => W_X6_readOrder_74 ⟨fun z => absurd z h5, fun _ => c_ord126 hY f1 t1 z1 hk (by omega) hd⟩⟩
theorem c_readOrder {T : List Shp} {X : GX} {Y : GY} {o : Int} {B : Int → Int} {L k p n : Int} {F : List Orc} {c : Cm} (hX : GRr o B L X) (hY : GYr o B L X Y) (ho : ¬ o = 0) (h : TI c o B L 0 k p n F) (hz : PZ c o k (-1, 1, none, [])) (hk : k < 12) : QI T (fun r c' => Fr TXF c c' ∧ CLO Y c' o B L k p n F 0 zo 3 r) (ccal 46 [vR 49, vI (6 * k)] (SH T, c)) := by
  have h1 := h.1
  have pL := h1.pL
  have nb := nx_bd (B := B) pL.2.1
  refine W_X6_readOrder (Q := QI T _) (QI.of_eq (c_placeIn1 h1) ⟨fun e => QI.ret ⟨Fr.rfl, .inl ⟨rfl, p, h1.2.2.2.2.2.1, pL.1, hY.or1 ho hk e⟩⟩, fun e => ?_⟩)
  have tl := tkw_lt e
  have tl3 : tkw B L p WS1 < 4 := tl.2.2
  refine h1.next.mono fun c3 h3 => ?_
  have t3 := h.next h3.1 h3.2 nb.1
  have f3 : Fr TXF c c3 := h3.1.mono fun q j a => a.rda.txf
  have nb3 := nx_bd (B := B) nb.2.1
  refine ⟨fun e0 => QI.of_eq (c_placeIn2 h3.2) ⟨fun e2 => QI.ret ⟨f3, .inl ⟨rfl, _, h3.2.2.2.2.2.2.1, by omega, hY.or2 ho hk e0 e2⟩⟩, fun e2 => ?_⟩, fun e0 => ⟨by omega, ?_⟩⟩
  · have tl2 := tkw_lt e2
    have tl23 : tkw B L (nx B L p) WS2 < 3 := tl2.2.2
    refine h3.2.next.mono fun c6 h6 => ?_
    have t6 := t3.1.next h6.1 h6.2 nb3.1
    have f6 : Fr TXF c c6 := f3.trans (h6.1.mono fun q j a => a.rda.txf)
    by_cases ek : tkw B L (nx B L p) WS2 = 2
    · exact c_ord46 hX hY ho f6 hk t6.1 (t6.2 _ (t3.2 _ hz)) (.inr (.inl ⟨ek, e0, ek, rfl⟩))
    · exact c_ord46 hX hY ho f6 hk t6.1 (t6.2 _ (t3.2 _ hz)) (.inr (.inr ⟨ek, by omega, fun out hout => hY.or3 ho hk e0 rfl e2 ek hout⟩))
  · by_cases ek : tkw B L p WS1 = 3
    · exact c_ord46 hX hY ho f3 hk t3.1 (t3.2 _ hz) (.inl ⟨by omega, ek, rfl⟩)
    · exact c_ord46 hX hY ho f3 hk t3.1 (t3.2 _ hz) (.inr (.inr ⟨by omega, by omega, fun out hout => hY.or6 ho hk rfl (by omega) hout⟩))

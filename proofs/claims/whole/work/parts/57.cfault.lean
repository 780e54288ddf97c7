/-! THE CLASS READS: where a text can't go on -/
theorem c_clearRow {T : List Shp} {o : Int} {B : Int → Int} {L k p n : Int} {F : List Orc} {c : Cm} (h : TI c o B L 0 k p n F) (hk : k < 12) : QV T (fun c' => Fr TXF c c' ∧ TI c' o B L 0 k p n F ∧ PZ c' o k (-1, 1, none, [])) (ccal 44 [vR 49, vI (6 * k)] (SH T, c)) := by
  have hF := h.2.2.2.2.2.1
  refine W_X6_clearRow (Q := QV T _) ?_
  refine lpI (Q := QV T _) (E := fun i (s : Cm) => cev 44 1 2 [vR 49, vI (6 * k), vI i] [] (SH T, s)) (fun i s => (0 ≤ i ∧ i ≤ 6) ∧ Fr TXF c s ∧ TI s o B L 0 k p n F ∧ ∀ j, 0 ≤ j → j < i → s 12 (6 * k + j) = -1) 6 ?_ ?_ 0 c ⟨by omega, Fr.rfl, h, fun j a b => absurd a (by omega)⟩
  · rintro i s hi ⟨ib, f, t, hr⟩ ih
    refine W_X6_clearRow_2 ⟨fun _ => ⟨by omega, ih _ ⟨by omega, f.wr (q := 12) (.inr (.inl rfl)), t.row (by omega), fun j a b => ?_⟩⟩, fun z => absurd hi z⟩
    by_cases e : j = i
    · rw [e, up_same]
    · rw [up_ne (by omega)]; exact hr j a (by omega)
  · rintro i s hi ⟨ib, f, t, hr⟩
    refine W_X6_clearRow_2 ⟨fun z => absurd z (by omega), fun _ => ⟨by omega, QV.ret ⟨f.wr (q := 12) (.inr (.inl rfl)), t.row (by omega), ?_⟩⟩⟩
    unfold PZ
    have g : ∀ j, 0 ≤ j → j < 6 → ¬ j = 1 → up s 12 (6 * k + 1) 1 12 (6 * k + j) = -1 := fun j a b e => by
      rw [up_ne (by omega)]; exact hr j a (by omega)
    refine ⟨?_, up_same, g 2 (by omega) (by omega) (by omega), fun j hj => ?_⟩
    · have := g 0 (by omega) (by omega) (by omega)
      rw [Int.add_zero] at this
      exact this
    · have := g (3 + (j : Int)) (by omega) (by omega) (by omega)
      rw [show 6 * k + (3 + (j : Int)) = 6 * k + 3 + (j : Int) from by omega] at this
      exact this
/-- a text that has been read -/
def TXT (c : Cm) (o : Int) (F : List Orc) : Prop := c 11 2 = (F.length : Int) ∧ F.length ≤ 12 ∧ (0 ≤ c 11 3 ∧ c 11 3 ≤ 450) ∧ (∀ (i : Nat) (z : Orc), F[i]? = some z → ZO (NWx o) (c 12) (6 * (i : Int)) (c 13) (c 11 3) z) ∧ WI c
theorem TI.cl {c : Cm} {o : Int} {B : Int → Int} {L m k p n v : Int} {F : List Orc} (h : TI c o B L m k p n F) : TI (up c 11 2 v) o B L m k p n F := by
  obtain ⟨h1, h2, h3, h4, h5, h6, h7, h8, h9⟩ := h
  have e3 : up c 11 2 v 11 3 = c 11 3 := up_ne (by decide)
  refine ⟨h1.cong (by rw [up_cell (by decide)]) (by rw [up_cell (by decide)]) (by rw [up_cell (by decide)]) (by rw [up_cell (by decide)]) (by rw [up_cell (by decide)]) (up_cell (by decide)), by rw [up_cell (by decide)]; exact h2, by rw [up_cell (by decide)]; exact h3, h4, by rw [e3]; exact h5, h6, h7, ?_, h9.cong e3 (up_ne (by decide)) (up_cell (by decide))⟩
  rw [e3, up_cell (q := 12) (by decide), up_cell (q := 13) (by decide)]
  exact h8
/-- a row that stands becomes a clause -/
theorem TI.push {c : Cm} {o : Int} {B : Int → Int} {L k p n : Int} {F : List Orc} {z : Orc} (h : TI c o B L 4 k p n F) (hz : PZ c o k z) (hk : k < 12) : TI c o B L 0 (k + 1) p n (F ++ [z]) := by
  obtain ⟨h1, h2, h3, h4, h5, h6, h7, h8, h9⟩ := h
  refine ⟨h1, h2, h3, h4, by omega, by rw [List.length_append]; show ((F.length + 1 : Nat) : Int) = k + 1; omega, by omega, fun i w hw => ?_, h9⟩
  by_cases e : i < F.length
  · rw [List.getElem?_append_left e] at hw
    exact h8 i w hw
  · rw [List.getElem?_append_right (by omega)] at hw
    by_cases e2 : i = F.length
    · rw [show i - F.length = 0 from by omega] at hw
      have : z = w := Option.some.inj hw
      rw [← this, e2, h6]
      exact hz
    · rw [List.getElem?_eq_none (by show 1 ≤ i - F.length; omega)] at hw
      exact absurd hw (by simp)
def FG (T : List Shp) (Y : GY) (c : Cm) (o p n : Int) (R : Res) : Prop := QI T (fun r c' => Fr TXF c c' ∧ ((0 ≤ r ∧ Y 0 0 p n [] zo (.inl r)) ∨ (r = -1 ∧ ∃ F, TXT c' o F ∧ Y 0 0 p n [] zo (.inr F)))) R
/-- behind a clause -/
theorem c_fault87 {T : List Shp} {X : GX} {Y : GY} {o : Int} {B : Int → Int} {L m k p n p0 n0 : Int} {F : List Orc} {z : Orc} {c s : Cm} (hX : GRr o B L X) (hY : GYr o B L X Y) (fs : Fr TXF c s) (h : TI s o B L m k p n F) (hz : PZ s o k z) (hk : k < 12) (hm : m ≤ 3) (hd : ∀ out, Y 3 k p n F z out → Y 0 0 p0 n0 [] zo out) (ih : ∀ s' p' n' F', Fr TXF c s' → TI s' o B L 0 (k + 1) p' n' F' → (∀ out, Y 0 (k + 1) p' n' F' zo out → Y 0 0 p0 n0 [] zo out) → FG T Y c o p0 n0 (cev 43 104 41 [vR 49, vU, vU, vI (k + 1), vU] [] (SH T, s'))) : FG T Y c o p0 n0 (cev 43 104 87 [vR 49, vU, vU, vI k, vI (6 * k)] [] (SH T, s)) := by
  have hF := h.2.2.2.2.2.1
  unfold FG
  refine W_X6_faultIn_87 ((c_ifPart hX hY h hz hk hm).mono fun r1 c2 h2 => ?_)
  obtain ⟨f2, g2⟩ := h2
  have f02 := fs.trans f2
  rcases g2 with ⟨r0, f, e5, f0, y⟩ | ⟨r1', p1, n1, z', t2, w2, hd2⟩
  · exact ⟨fun _ => QI.ret ⟨f02, .inl (by rw [e5]; exact ⟨f0, hd _ y⟩)⟩, fun z => absurd r0 z⟩
  · have t3 := (t2.push w2 hk).cl (v := k + 1)
    have e3 := t3.1
    have f3 : Fr TXF c (up c2 11 2 (k + 1)) := f02.wr (q := 11) (.inr (.inr ⟨rfl, rfl⟩))
    have u4 := e3.2.2.2.2.1
    rw [up_cell (by decide)] at u4
    refine ⟨fun z => by omega, fun _ => ⟨by omega, fun e4 => QI.ret ⟨f3, .inr ⟨rfl, F ++ [z'], ?_, hd _ (hd2 _ (hY.af1 (u4.symm.trans e4)))⟩⟩, fun e4 => ?_⟩⟩
    · obtain ⟨q1, q2, q3, q4, q5, q6, q7, q8, q9⟩ := t3
      have pL := q1.pL
      exact ⟨by rw [up_same]; omega, by omega, by omega, q8, q9⟩
    · refine (c_takes (x := 59) e3).mono fun r3 c4 h4 => ?_
      by_cases e : isg B L p1 59
      · obtain ⟨r3', f4, e4'⟩ := h4.1 e
        have nb := nx_bd (B := B) e3.pL.2.1
        exact ⟨fun z => by omega, fun _ => ⟨by omega, ih c4 _ n1 _ (f3.trans (f4.mono fun q j a => a.rda.txf)) (t3.next f4 e4' nb.1).1 fun out hout => hd _ (hd2 _ (hY.af2 e hout))⟩⟩
      · obtain ⟨r3', rfl⟩ := h4.2 e
        have u5 := e3.2.2.2.2.2.1
        exact ⟨fun _ => QI.ret ⟨f3, .inl (by rw [u5]; exact ⟨e3.pL.1, hd _ (hd2 _ (hY.af3 (fun z => e4 (u4.trans z)) e))⟩)⟩, fun z => absurd r3' z⟩
def TXG (q : Nat) (j : Int) : Prop := q = 48 ∨ q = 11 ∨ q = 12 ∨ q = 13
theorem TXF.g {q : Nat} {j : Int} (h : TXF q j) : TXG q j := by unfold TXF RDA at h; unfold TXG; omega
theorem c_faultIn {T : List Shp} {X : GX} {Y : GY} {o : Int} {B : Int → Int} {L : Int} {c : Cm} (hX : GRr o B L X) (hY : GYr o B L X Y) (ho : o = 0 ∨ o = 1) (hB : c 10 = B) (hbl : BLt B L) : QI T (fun r c' => Fr TXG c c' ∧ ((0 ≤ r ∧ Y 0 0 (sk B L 0) 0 [] zo (.inl r)) ∨ (r = -1 ∧ ∃ F, TXT c' o F ∧ Y 0 0 (sk B L 0) 0 [] zo (.inr F)))) (ccal 43 [vR 49, vI L, vI o] (SH T, c)) := by
  have hL := hbl.1
  refine W_X6_faultIn (Q := QI T _) ⟨ho, W_X10_clear (Q := QV T _) (QV.ret ?_)⟩
  rw [if_neg (show ¬ 400 < L by omega)]
  generalize hs : up (up (up (up (up (up (up c 48 1 L) 48 3 o) 11 2 0) 11 3 0) 11 4 0) 48 6 0) 48 8 0 = s
  have g1 : s 48 1 = L := by rw [← hs]; rfl
  have g3 : s 48 3 = o := by rw [← hs]; rfl
  have g6 : s 48 6 = 0 := by rw [← hs]; rfl
  have g8 : s 48 8 = 0 := by rw [← hs]; rfl
  have l3 : s 11 3 = 0 := by rw [← hs]; rfl
  have l4 : s 11 4 = 0 := by rw [← hs]; rfl
  have s10 : s 10 = B := by
    rw [← hs, up_cell (by decide), up_cell (by decide), up_cell (by decide), up_cell (by decide), up_cell (by decide), up_cell (by decide), up_cell (by decide)]
    exact hB
  have f0 : Fr TXG c s := by
    rw [← hs]
    exact ((((((Fr.rfl.wr (.inl rfl)).wr (.inl rfl)).wr (.inr (.inl rfl))).wr (.inr (.inl rfl))).wr (.inr (.inl rfl))).wr (.inl rfl)).wr (.inl rfl)
  clear hs
  refine (c_next g1 s10 hbl (by omega)).mono fun c2 h2 => ?_
  rw [g6] at h2
  have kk := NXA.keep h2.1
  have sb := sk_bd (B := B) (L := L) (s := 0)
  have T0 : TI c2 o B L 0 0 (sk B L 0) 0 [] := by
    refine ⟨⟨(h2.1 48 1 (by unfold NXA; omega)).trans g1, (h2.1.cell (q := 10) (by intro j; unfold NXA; omega)).trans s10, hbl, by omega, h2.2⟩, kk.1.trans g3, kk.2.1.trans g8, by omega, ?_, rfl, by omega, fun i z hz => absurd hz (by simp), ?_, fun j w a b => ?_⟩
    · rw [kk.2.2.1, l3]; omega
    · rw [kk.2.2.1, l4]; omega
    · rw [kk.2.2.1, l3] at b; omega
  have key : FG T Y c2 o (sk B L 0) 0 (cev 43 104 41 [vR 49, vU, vU, vI 0, vU] [] (SH T, c2)) := by
    refine lpI (Q := fun Z => FG T Y c2 o (sk B L 0) 0 Z) (E := fun i (s : Cm) => cev 43 104 41 [vR 49, vU, vU, vI i, vU] [] (SH T, s)) (fun i s => (0 ≤ i ∧ i ≤ 12) ∧ Fr TXF c2 s ∧ ∃ p n F, TI s o B L 0 i p n F ∧ ∀ out, Y 0 i p n F zo out → Y 0 0 (sk B L 0) 0 [] zo out) 12 ?_ ?_ 0 c2 ⟨by omega, Fr.rfl, _, _, _, T0, fun out h => h⟩
    · rintro i s hi ⟨ib, fs, p, n, F, t, hd⟩ ih
      unfold FG
      refine W_X6_faultIn_41 ⟨fun _ => ⟨by omega, ?_⟩, fun z => absurd hi z⟩
      rw [show i * 6 = 6 * i from by omega]
      refine (c_clearRow t hi).mono fun c3 h3 => ?_
      have e33 := h3.2.1.2.1
      rw [e33]
      have fin : ∀ r (c4 : Cm), (Fr TXF c3 c4 ∧ CLO Y c4 o B L i p n F 0 zo 3 r) → ((r = 0 → FG T Y c2 o (sk B L 0) 0 (some (some (vI (c4 48 5)), (SH T, c4)))) ∧ (¬ r = 0 → FG T Y c2 o (sk B L 0) 0 (cev 43 104 87 [vR 49, vU, vU, vI i, vI (6 * i)] [] (SH T, c4)))) := by
        rintro r c4 ⟨f4, g4⟩
        have f24 := (fs.trans h3.1).trans f4
        rcases g4 with ⟨r0, f, e5, f0, y⟩ | ⟨r1', m2, p2, n2, z2, hm2, t2, w2, hd2⟩
        · exact ⟨fun _ => QI.ret ⟨f24, .inl (by rw [e5]; exact ⟨f0, hd _ y⟩)⟩, fun z => absurd r0 z⟩
        · exact ⟨fun z => by omega, fun _ => c_fault87 hX hY f24 t2 w2 hi hm2 (fun out hout => hd _ (hd2 _ hout)) fun s' p' n' F' a b c' => ih s' ⟨by omega, a, p', n', F', b, c'⟩⟩
      exact ⟨fun e0 => (c_readClause hX hY e0 h3.2.1 h3.2.2 hi).mono fin, fun e0 => (c_readOrder hX hY e0 h3.2.1 h3.2.2 hi).mono fin⟩
    · rintro i s hi ⟨ib, fs, p, n, F, t, hd⟩
      unfold FG
      have u5 := t.1.2.2.2.2.2.1
      refine W_X6_faultIn_41 ⟨fun z => absurd z (by omega), fun _ => QI.ret ⟨fs, .inl ?_⟩⟩
      rw [u5]
      exact ⟨t.1.pL.1, hd _ (hY.cl0 (by omega))⟩
  refine key.mono fun r c' hc => ⟨(f0.trans (h2.1.mono fun q j a => a.rda.txf.g)).trans (hc.1.mono fun q j a => a.g), hc.2⟩

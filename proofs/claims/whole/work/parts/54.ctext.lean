/-! THE CLASS READS: whole texts -/
def TXF (q : Nat) (j : Int) : Prop := RDA q j ∨ q = 12 ∨ (q = 11 ∧ j = 2)
theorem XP.mv {NW n n' t : Int} {S S' : Int → Int} {d : Den} (h : XP NW S n t d) (hs : ∀ j, 0 ≤ j → j < n → S' j = S j) (hn : n ≤ n') : XP NW S' n' t d := by
  obtain ⟨q, l, h1, h2, h3, h4, h5⟩ := h
  have lt := h1.lt
  exact ⟨q, l, h1.mv fun j a b => hs j (by omega) (by omega), h2, by omega, (hs q (by omega) h3).trans h4, h5⟩
def SMO (c : Cm) (B : Int → Int) (L NW p n q : Int) (out : Out) (r : Int) (c' : Cm) : Prop := match out with
  | .inl f => r = 0 ∧ c' 48 5 = f ∧ 0 ≤ f
  | .inr (p1, n1, d) => r = 1 ∧ EC c' B L p1 ∧ p < p1 ∧ c' 48 8 = n1 ∧ (n ≤ n1 ∧ n1 ≤ 50) ∧ (q < c' 11 3 ∧ c' 11 3 - q ≤ p1 - p + 1) ∧ XP NW (c' 13) (c' 11 3) q d ∧ (∀ j, j < q → c' 13 j = c 13 j) ∧ (WI c → WI c')
/-- the stop behind a sum, a test -/
theorem CPO.stop {T : List Shp} {c s : Cm} {B : Int → Int} {L NW p n q r : Int} {out : Out} (h : CPO c B L NW p n q out r s) (hq : 0 ≤ q ∧ q ≤ p + 48) (hn : 0 ≤ n) : QV T (fun s4 => Fr RDA s s4 ∧ SMO c B L NW p n q out r s4) (ccal 110 [vR 12, vI 12, vI 0] (SH T, s)) := by
  rcases out with f | ⟨p1, n1, d⟩
  · obtain ⟨h1, h2, h3, h4⟩ := h
    refine (c_add (d := 12) (k := 0) h3.1 (by omega) (by omega)).mono fun s4 e4 => ?_
    have fr := add_fr e4 h3
    refine ⟨fr.1, h1, ?_, h4⟩
    rw [fr.2.2.1]
    exact h2
  · obtain ⟨h1, h2, h3, h4, h5, h6, h7, h8, h9⟩ := h
    have pb := h2.pL
    refine (c_add (d := 12) (k := 0) (by omega) (by omega) (by omega)).mono fun s4 e4 => ?_
    have fr := add_fr e4 (by omega)
    have e := e4.1 (by omega)
    have e3 : s4 11 3 = s 11 3 + 1 := by rw [e, up_same]
    have e13 : ∀ j, j < s 11 3 → s4 13 j = s 13 j := fun j a => by rw [e, up_cell (by decide), up_ne (by omega)]
    refine ⟨fr.1, h1, h2.cong (congrFun fr.2.2.1 1) (congrFun fr.2.2.1 4) (congrFun fr.2.2.1 5) (congrFun fr.2.2.1 6) (congrFun fr.2.2.1 7) fr.2.2.2, h3, (congrFun fr.2.2.1 8).trans h4, h5, by omega, ?_, fun j a => (e13 j (by omega)).trans (h8 j a), fun w => ?_⟩
    · exact ⟨s 11 3, n1 - n, h7.mv fun j a b => e13 j b, hq.1, by omega, by rw [e, up_cell (by decide), up_same]; rfl, by omega⟩
    · rw [e]
      exact (h9 w).add fun w a => by omega
theorem RDA.txf {q : Nat} {j : Int} (h : RDA q j) : TXF q j := .inl h
/-- a row's number is set -/
theorem EC.row {c : Cm} {B : Int → Int} {L p i v : Int} (h : EC c B L p) : EC (up c 12 i v) B L p := h.cong (by rw [up_cell (by decide)]) (by rw [up_cell (by decide)]) (by rw [up_cell (by decide)]) (by rw [up_cell (by decide)]) (by rw [up_cell (by decide)]) (up_cell (by decide))
theorem CRH.row {c : Cm} {B : Int → Int} {L o b p n q i v : Int} (h : CRH c B L o b p n q) : CRH (up c 12 i v) B L o b p n q := by
  obtain ⟨h1, h2, h3, h4, h5, h6, h7⟩ := h
  exact ⟨h1.row, by rw [up_cell (by decide)]; exact h2, by rw [up_cell (by decide)]; exact h3, h4, by rw [up_cell (by decide)]; exact h5, h6, h7⟩
theorem WI.row {c : Cm} {i v : Int} (h : WI c) : WI (up c 12 i v) := h.cong (by rw [up_cell (by decide)]) (by rw [up_cell (by decide)]) (up_cell (by decide))
theorem SMO.row {c c' : Cm} {B : Int → Int} {L NW p n q r i v : Int} {out : Out} (h : SMO (up c 12 i v) B L NW p n q out r c') : SMO c B L NW p n q out r c' := by
  rcases out with f | ⟨p1, n1, d⟩
  · exact h
  · obtain ⟨h1, h2, h3, h4, h5, h6, h7, h8, h9⟩ := h
    exact ⟨h1, h2, h3, h4, h5, h6, h7, fun j a => by rw [h8 j a, up_cell (by decide)], fun w => h9 w.row⟩
theorem rda_12 {c c' : Cm} (f : Fr RDA c c') : c' 12 = c 12 := f.cell (q := 12) (by intro j; unfold RDA; omega)
theorem c_readSumOf {T : List Shp} {X : GX} {o : Int} {B : Int → Int} {L p n q a j : Int} {c : Cm} (hX : GRr o B L X) (H : CRH c B L o 0 p n q) (ha : 0 ≤ a ∧ a ≤ 66) (hj : 0 ≤ j ∧ j ≤ 2) : QI T (fun r c' => Fr TXF c c' ∧ c' 12 = up c 12 (a + 3 + j) q 12 ∧ ∃ out, X 4 0 p n dz out ∧ SMO c B L (NWx o) p n q out r c') (ccal 49 [vR 49, vI a, vI j] (SH T, c)) := by
  have hq := H.2.2.2.2.2.1
  have hn := H.2.2.2.1
  have e3 := H.2.2.2.2.1
  refine W_X6_readSumOf (Q := QI T _) ⟨by omega, ?_⟩
  rw [e3]
  refine (c_sums hX 8 0 _ _ _ _ (by omega) (H.row (i := a + 3 + j) (v := q))).mono fun r1 c2 h2 => ?_
  obtain ⟨f2, out, x2, q2⟩ := h2
  refine (CPO.stop q2 hq hn.1).mono fun c3 h3 => ?_
  have r01 : r1 = 0 ∨ r1 = 1 := by
    rcases out with f | ⟨p1, n1, d⟩
    · exact .inl q2.1
    · exact .inr q2.1
  refine ⟨r01, QI.ret ⟨?_, ?_, out, x2, h3.2.row⟩⟩
  · exact (Fr.rfl.wr (A := TXF) (q := 12) (.inr (.inl rfl))).trans ((f2.trans h3.1).mono fun q j a => a.txf)
  · rw [rda_12 h3.1, rda_12 f2]
theorem c_readIf {T : List Shp} {X : GX} {o : Int} {B : Int → Int} {L p n q a : Int} {c : Cm} (hX : GRr o B L X) (H : CRH c B L o 0 p n q) (ha : 0 ≤ a ∧ a ≤ 66) : QI T (fun r c' => (¬ isw B L p 294 → r = 1 ∧ c = c') ∧ (isw B L p 294 → Fr TXF c c' ∧ c' 12 = up c 12 (a + 2) q 12 ∧ ∃ out, X 9 0 (nx B L p) n dz out ∧ SMO c B L (NWx o) p n q out r c' ∧ TDO out)) (ccal 48 [vR 49, vI a] (SH T, c)) := by
  have hq := H.2.2.2.2.2.1
  have hn := H.2.2.2.1
  have e3 := H.2.2.2.2.1
  refine W_X6_readIf (Q := QI T _) ((c_word6 H.1).mono fun r1 c2 h2 => ?_)
  by_cases e : isw B L p 294
  · obtain ⟨r1', f2, e2⟩ := h2.1 e
    refine ⟨fun z => by omega, fun _ => ⟨by omega, ?_⟩⟩
    have k := NXA.keep f2
    have e3' : c2 11 3 = q := (congrFun k.2.2.1 3).trans e3
    have pL := H.1.pL
    have nb := nx_bd (B := B) pL.2.1
    rw [e3']
    refine (c_tests hX 8 0 _ _ _ _ (by omega) ((H.next f2 e2).row (i := a + 2) (v := q))).mono fun r3 c4 h4 => ?_
    obtain ⟨f4, out, x4, q4, td⟩ := h4
    have q4' : CPO (up c2 12 (a + 2) q) B L (NWx o) p n q out r3 c4 := q4.wk nb.1
    refine (CPO.stop q4' hq hn.1).mono fun c5 h5 => ?_
    have r01 : r3 = 0 ∨ r3 = 1 := by
      rcases out with f | ⟨p1, n1, d⟩
      · exact .inl q4.1
      · exact .inr q4.1
    refine ⟨r01, QI.ret ⟨fun z => absurd e z, fun _ => ⟨?_, ?_, out, x4, ?_, td⟩⟩⟩
    · exact ((f2.mono fun q j a => a.rda.txf).wr (q := 12) (.inr (.inl rfl))).trans ((f4.trans h5.1).mono fun q j a => a.txf)
    · rw [rda_12 h5.1, rda_12 f4]
      funext i
      by_cases ei : i = a + 2
      · rw [ei, up_same, up_same]
      · rw [up_ne ei, up_ne ei]
        exact congrFun (f2.cell (q := 12) (by intro j; unfold NXA; omega)) i
    · have s := h5.2.row
      rcases out with f | ⟨p1, n1, d⟩
      · exact s
      · obtain ⟨s1, s2, s3, s4, s5, s6, s7, s8, s9⟩ := s
        exact ⟨s1, s2, s3, s4, s5, s6, s7, fun j b => by rw [s8 j b, k.2.2.2], fun w => s9 (w.cong (congrFun k.2.2.1 3) (congrFun k.2.2.1 4) k.2.2.2)⟩
  · obtain ⟨r1', rfl⟩ := h2.2 e
    exact ⟨fun _ => QI.ret ⟨fun _ => ⟨rfl, rfl⟩, fun z => absurd z e⟩, fun z => absurd r1' z⟩

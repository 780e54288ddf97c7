/-! THE REFERENCE READS: parts -/
section HXS
variable {T : List Shp} {Q : Res → Prop} {t : Int} {c : Cm}
theorem hx_part (hb : c 77 15 = 0) (k : QI T (fun r c2 => Q (HX T t r c2)) (ccal 236 [vR 78] (SH T, c))) : Q (HX T t 1 c) := W_X12_readExpression_20 ⟨fun _ => ⟨fun z => absurd z (by decide), fun _ => ⟨fun z => absurd z (by decide), fun _ => ⟨fun _ => k, fun z => absurd rfl z⟩⟩⟩, fun z => absurd hb z⟩
theorem hx_plain (hb : c 77 15 = 0) (k : QI T (fun r c2 => Q (HX T t r c2)) (ccal 237 [vR 78] (SH T, c))) : Q (HX T t 0 c) := W_X12_readExpression_20 ⟨fun _ => ⟨fun z => absurd z (by decide), fun _ => ⟨fun _ => k, fun z => absurd rfl z⟩⟩, fun z => absurd hb z⟩
theorem hx_sum (hb : c 77 15 = 0) (k : QI T (fun r c2 => Q (HX T t r c2)) (ccal 238 [vR 78, vI t] (SH T, c))) : Q (HX T t 3 c) := W_X12_readExpression_20 ⟨fun _ => ⟨fun z => absurd z (by decide), fun _ => ⟨fun z => absurd z (by decide), fun _ => ⟨fun z => absurd z (by decide), fun _ => ⟨fun _ => k, fun z => absurd rfl z⟩⟩⟩⟩, fun z => absurd hb z⟩
theorem hx_test (hb : c 77 15 = 0) (k : QI T (fun r c2 => Q (HX T t r c2)) (ccal 239 [vR 78] (SH T, c))) : Q (HX T t 2 c) := W_X12_readExpression_20 ⟨fun _ => ⟨fun z => absurd z (by decide), fun _ => ⟨fun z => absurd z (by decide), fun _ => ⟨fun z => absurd z (by decide), fun _ => ⟨fun z => absurd z (by decide), fun _ => k⟩⟩⟩⟩, fun z => absurd hb z⟩
end HXS
theorem len_cons {e : Int × Int} {P : Pil} : ((e :: P).length : Int) = P.length + 1 := by rw [List.length_cons]; omega
theorem RST.push {c : Cm} {o : Int} {B : Int → Int} {L p n b q x a : Int} {P : Pil} (h : RST c o B L p n b q P) (hq : q + (P.length : Int) + 1 ≤ p) (hx : 20 ≤ x ∧ x ≤ 31) (ha : x = 28 ∨ x = 29 → 0 ≤ a ∧ a < 400) : RST (up (up (up c 87 (c 77 25) x) 88 (c 77 25) a) 77 25 (c 77 25 + 1)) o B L p n b q ((x, a) :: P) := by
  obtain ⟨h1, h2, h3, h4, h5, h6, h7, h8, h9, h10, h11, h12⟩ := h
  rw [h7]
  have g : ∀ j, ¬ j = 25 → up (up (up c 87 (P.length : Int) x) 88 (P.length : Int) a) 77 25 ((P.length : Int) + 1) 77 j = c 77 j := fun j e => by rw [up_ne e, up_cell (by decide), up_cell (by decide)]
  refine ⟨h1.cong (fun j a b => g j (by omega)) ?_, h2.cong ?_ ?_ ?_, (g 16 (by decide)).trans h3, (g 22 (by decide)).trans h4, (g 26 (by decide)).trans h5, (g 19 (by decide)).trans h6, by rw [up_same, len_cons], ⟨?_, ?_, h8.cong fun j b => ⟨?_, ?_⟩⟩, fun e he => ?_, ⟨(g 15 (by decide)).trans h10.1, (g 14 (by decide)).trans h10.2⟩, by rw [len_cons]; omega, h12⟩
  · rw [up_cell (by decide), up_cell (by decide), up_cell (by decide)]
  · rw [up_cell (by decide), up_cell (by decide), up_cell (by decide)]
  · rw [up_cell (by decide), up_cell (by decide), up_cell (by decide)]
  · rw [up_cell (by decide), up_cell (by decide), up_cell (by decide)]
  · rw [up_cell (by decide), up_cell (by decide), up_same]
  · rw [up_cell (by decide), up_same]
  · rw [up_cell (by decide), up_cell (by decide), up_ne (by omega)]
  · rw [up_cell (by decide), up_ne (by omega), up_cell (by decide)]
  · rcases List.mem_cons.mp he with rfl | he
    · exact ⟨hx, ha⟩
    · exact h9 e he
theorem RST.brs {c : Cm} {o : Int} {B : Int → Int} {L p n b q b' : Int} {P : Pil} (h : RST c o B L p n b q P) (hb : 0 ≤ b' ∧ b' ≤ 8) : RST (up c 77 26 b') o B L p n b' q P := by
  obtain ⟨h1, h2, h3, h4, h5, h6, h7, h8, h9, h10, h11, h12⟩ := h
  have g : ∀ j, ¬ j = 26 → up c 77 26 b' 77 j = c 77 j := fun j e => up_ne e
  exact ⟨h1.cong (fun j a b => g j (by omega)) (up_cell (by decide)), h2.cong (up_cell (by decide)) (up_cell (by decide)) (up_cell (by decide)), (g 16 (by decide)).trans h3, (g 22 (by decide)).trans h4, up_same, (g 19 (by decide)).trans h6, (g 25 (by decide)).trans h7, h8.cong fun j b => ⟨by rw [up_cell (by decide)], by rw [up_cell (by decide)]⟩, h9, ⟨(g 15 (by decide)).trans h10.1, (g 14 (by decide)).trans h10.2⟩, h11, h12.1, hb⟩
theorem RST.b0 {c : Cm} {o : Int} {B : Int → Int} {L p n b q : Int} {P : Pil} (h : RST c o B L p n b q P) : c 77 15 = 0 := h.2.2.2.2.2.2.2.2.2.1.1
theorem RST.bb {c : Cm} {o : Int} {B : Int → Int} {L p n b q : Int} {P : Pil} (h : RST c o B L p n b q P) : (0 ≤ q ∧ q + (P.length : Int) ≤ p) ∧ (0 ≤ n ∧ n ≤ 50) ∧ (0 ≤ b ∧ b ≤ 8) := h.2.2.2.2.2.2.2.2.2.2
theorem RST.opened {c : Cm} {o : Int} {B : Int → Int} {L p n b q : Int} {P : Pil} (h : RST c o B L p n b q P) : c 77 26 = b := h.2.2.2.2.1
theorem RST.leaves {c : Cm} {o : Int} {B : Int → Int} {L p n b q : Int} {P : Pil} (h : RST c o B L p n b q P) : c 77 22 = n := h.2.2.2.1
theorem RST.code {c : Cm} {o : Int} {B : Int → Int} {L p n b q : Int} {P : Pil} (h : RST c o B L p n b q P) : c 77 19 = q := h.2.2.2.2.2.1
theorem RST.piled {c : Cm} {o : Int} {B : Int → Int} {L p n b q : Int} {P : Pil} (h : RST c o B L p n b q P) : c 77 25 = (P.length : Int) := h.2.2.2.2.2.2.1
theorem RST.pile {c : Cm} {o : Int} {B : Int → Int} {L p n b q : Int} {P : Pil} (h : RST c o B L p n b q P) : PLm c P := h.2.2.2.2.2.2.2.1
theorem RST.pv {c : Cm} {o : Int} {B : Int → Int} {L p n b q : Int} {P : Pil} (h : RST c o B L p n b q P) : PV P := h.2.2.2.2.2.2.2.2.1
theorem RST.ord {c : Cm} {o : Int} {B : Int → Int} {L p n b q : Int} {P : Pil} (h : RST c o B L p n b q P) : c 77 16 = o := h.2.2.1
/-- brackets -/
theorem r_openF {T : List Shp} {c : Cm} {o : Int} {B : Int → Int} {L p n b q x : Int} {P : Pil} (h : RST c o B L p n b q P) (hb : ¬ b < 8) : QV T (fun c' => Fr RXA c c' ∧ FLT c' p) (ccal 234 [vR 78, vI x] (SH T, c)) := by
  refine W_X12_openBracket (Q := QV T _) ⟨fun z => absurd (h.opened ▸ z) hb, fun _ => W_X12_openBracket_15 ((r_mustF h.1 h.b0).mono fun c1 h1 => ?_)⟩
  have f := h.flt
  rw [← h1] at f
  exact ⟨fun z => absurd (f.1.1.symm.trans z) (by decide), fun _ => QV.ret ⟨f.2, f.1⟩⟩
theorem r_openT {T : List Shp} {c : Cm} {o : Int} {B : Int → Int} {L p n b q x : Int} {P : Pil} (h : RST c o B L p n b q P) (hb : b < 8) (hp : p < L) (hx : x = 30 ∨ x = 31) : QV T (fun c' => RFQ q c c' ∧ RST c' o B L (nx B L p) n (b + 1) q ((x, 0) :: P)) (ccal 234 [vR 78, vI x] (SH T, c)) := by
  have bb := h.bb
  have nb := nx_bd (B := B) h.1.pL.2.1
  have nb2 := nb.2.2 hp
  have pL := h.1.pL
  refine W_X12_openBracket (Q := QV T _) ⟨fun _ => W_X12_openBracket_15 ((r_mustT h.1 h.b0 (by decide)).mono fun c1 h1 => ?_), fun z => absurd (h.opened.symm ▸ hb) z⟩
  have h2 := h.next h1.1 h1.2
  have e26 := h2.opened
  have e25 := h2.piled
  refine ⟨fun _ => ⟨by omega, QV.ret ⟨?_, ?_⟩⟩, fun z => absurd h2.b0 z⟩
  · refine (RFQ.nxr h1.1).trans (q' := q) ⟨(((Fr.rfl.wr (by unfold RXA; omega)).wr (by unfold RXA; omega)).wr (by unfold RXA; omega)).wr (by unfold RXA; omega), fun j _ => ⟨?_, ?_⟩⟩ (Int.le_refl _)
    · rw [up_cell (by decide), up_cell (by decide), up_cell (by decide), up_cell (by decide)]
    · rw [up_cell (by decide), up_cell (by decide), up_cell (by decide), up_cell (by decide)]
  · rw [e26]
    have h3 := (h2.brs (b' := b + 1) (by omega)).push (x := x) (a := 0) (by omega) (by omega) (by omega)
    rw [show up c1 77 26 (b + 1) 77 25 = c1 77 25 from up_ne (by decide)] at h3
    exact h3
/-- leaves -/
theorem r_leafF {T : List Shp} {c : Cm} {o : Int} {B : Int → Int} {L p n b q x y z : Int} {P : Pil} (h : RST c o B L p n b q P) (hx : x = 0 ∨ ¬ n < 50) : QV T (fun c' => Fr RXA c c' ∧ FLT c' p) (ccal 235 [vR 78, vI x, vI y, vI z] (SH T, c)) := by
  have k19 : QV T (fun c' => Fr RXA c c' ∧ FLT c' p) (cev 235 4 19 [vR 78, vU, vI y, vI z] [vI 0, vR 78] (SH T, c)) := by
    refine W_X12_leaf_19 ((r_mustF h.1 h.b0).mono fun c1 h1 => ?_)
    have f := h.flt
    rw [← h1] at f
    exact ⟨fun z => absurd (f.1.1.symm.trans z) (by decide), fun _ => QV.ret ⟨f.2, f.1⟩⟩
  refine W_X12_leaf (Q := QV T _) ⟨fun _ => k19, fun z => ⟨fun z2 => ?_, fun _ => k19⟩⟩
  rw [h.leaves] at z2
  exact absurd hx (by omega)
theorem r_leafT {T : List Shp} {c : Cm} {o : Int} {B : Int → Int} {L p n b q x y z : Int} {P : Pil} (h : RST c o B L p n b q P) (hx : ¬ x = 0) (hn : n < 50) (hp : p < L) : QV T (fun c' => RFQ q c c' ∧ RST c' o B L (nx B L p) (n + 1) b (q + 1) P ∧ c' 85 q = y ∧ c' 86 q = z) (ccal 235 [vR 78, vI x, vI y, vI z] (SH T, c)) := by
  have bb := h.bb
  have nb := nx_bd (B := B) h.1.pL.2.1
  have nb2 := nb.2.2 hp
  have pL := h.1.pL
  refine W_X12_leaf (Q := QV T _) ⟨fun w => absurd w hx, fun _ => ⟨fun _ => ?_, fun w => absurd (h.leaves.symm ▸ hn) w⟩⟩
  refine W_X12_leaf_19 ((r_mustT h.1 h.b0 (by decide)).mono fun c1 h1 => ?_)
  have h2 := h.next h1.1 h1.2
  have e19 := h2.code
  have e22 := h2.leaves
  rw [e19, e22]
  refine ⟨fun _ => ⟨by omega, QV.ret ⟨?_, ?_, ?_, ?_⟩⟩, fun w => absurd h2.b0 w⟩
  · refine (RFQ.nxr h1.1).trans (q' := q) ⟨(((Fr.rfl.wr (by unfold RXA; omega)).wr (by unfold RXA; omega)).wr (by unfold RXA; omega)).wr (by unfold RXA; omega), fun j a => ⟨?_, ?_⟩⟩ (Int.le_refl _)
    · rw [up_cell (by decide), up_cell (by decide), up_cell (by decide), up_ne (by omega)]
    · rw [up_cell (by decide), up_cell (by decide), up_ne (by omega), up_cell (by decide)]
  · obtain ⟨g1, g2, g3, g4, g5, g6, g7, g8, g9, g10, g11, g12⟩ := h2
    have g : ∀ j, ¬ j = 22 → ¬ j = 19 → up (up (up (up c1 85 q y) 86 q z) 77 19 (q + 1)) 77 22 (n + 1) 77 j = c1 77 j := fun j e e' => by rw [up_ne e, up_ne e', up_cell (by decide), up_cell (by decide)]
    refine ⟨g1.cong (fun j a b => g j (by omega) (by omega)) ?_, g2.cong ?_ ?_ ?_, (g 16 (by decide) (by decide)).trans g3, up_same, (g 26 (by decide) (by decide)).trans g5, by rw [up_ne (by decide), up_same], (g 25 (by decide) (by decide)).trans g7, g8.cong fun j b => ⟨?_, ?_⟩, g9, ⟨(g 15 (by decide) (by decide)).trans g10.1, (g 14 (by decide) (by decide)).trans g10.2⟩, by omega, by omega, g12.2⟩
    · rw [up_cell (by decide), up_cell (by decide), up_cell (by decide), up_cell (by decide)]
    · rw [up_cell (by decide), up_cell (by decide), up_cell (by decide), up_cell (by decide)]
    · rw [up_cell (by decide), up_cell (by decide), up_cell (by decide), up_cell (by decide)]
    · rw [up_cell (by decide), up_cell (by decide), up_cell (by decide), up_cell (by decide)]
    · rw [up_cell (by decide), up_cell (by decide), up_cell (by decide), up_cell (by decide)]
    · rw [up_cell (by decide), up_cell (by decide), up_cell (by decide), up_cell (by decide)]
  · rw [up_cell (by decide), up_cell (by decide), up_cell (by decide), up_same]
  · rw [up_cell (by decide), up_cell (by decide), up_same]
/-- a piece that is whole -/
theorem OPS.whole {c : Cm} {o lo : Int} {B : Int → Int} {L p n0 n b q k : Int} {P : Pil} {d : Den} (h : RST c o B L p n b (c 77 19) P) (hr : RP (NWx o) (c 85) (c 86) q (c 77 19) k d) (hk : k ≤ n - n0) (hq : 0 ≤ q) : OPS lo c o B L p n0 n b q P d := ⟨[], q, k, d, k, h, fun e he => absurd he (by simp), ⟨rfl, rfl, rfl⟩, hr, hk, hq⟩

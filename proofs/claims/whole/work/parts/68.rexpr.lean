/-! THE REFERENCE READS: a whole sum, a whole test -/
def EST (c : Cm) (o : Int) (B : Int → Int) (L p n q : Int) : Prop := ER c B L p ∧ KW c ∧ c 77 16 = o ∧ c 77 22 = n ∧ c 77 19 = q ∧ (c 77 15 = 0 ∧ c 77 14 = -1) ∧ (0 ≤ q ∧ q ≤ p) ∧ (0 ≤ n ∧ n ≤ 50)
theorem EST.rst {c : Cm} {o : Int} {B : Int → Int} {L p n q : Int} (h : EST c o B L p n q) : RST (up (up c 77 25 0) 77 26 0) o B L p n 0 q [] := by
  obtain ⟨h1, h2, h3, h4, h5, h6, h7, h8⟩ := h
  have g : ∀ j, ¬ j = 25 → ¬ j = 26 → up (up c 77 25 0) 77 26 0 77 j = c 77 j := fun j a b => by rw [up_ne b, up_ne a]
  refine ⟨h1.cong (fun j a b => g j (by omega) (by omega)) (by rw [up_cell (by decide), up_cell (by decide)]), h2.cong (by rw [up_cell (by decide), up_cell (by decide)]) (by rw [up_cell (by decide), up_cell (by decide)]) (by rw [up_cell (by decide), up_cell (by decide)]), (g 16 (by decide) (by decide)).trans h3, (g 22 (by decide) (by decide)).trans h4, up_same, (g 19 (by decide) (by decide)).trans h5, by rw [up_ne (by decide), up_same]; rfl, trivial, fun e he => absurd he (by simp), ⟨(g 15 (by decide) (by decide)).trans h6.1, (g 14 (by decide) (by decide)).trans h6.2⟩, by show 0 ≤ q ∧ q + 0 ≤ p; omega, h8, by omega⟩
theorem RST.est {c : Cm} {o : Int} {B : Int → Int} {L p n b q : Int} {P : Pil} (h : RST c o B L p n b q P) : EST c o B L p n q := by
  obtain ⟨h1, h2, h3, h4, h5, h6, h7, h8, h9, h10, h11, h12⟩ := h
  exact ⟨h1, h2, h3, h4, h6, h10, by omega, h12.1⟩
def EXO (c : Cm) (o : Int) (B : Int → Int) (L n q : Int) (out : Out) (c' : Cm) : Prop := match out with
  | .inl f => Fr RXA c c' ∧ c' 77 15 = 1 ∧ c' 77 14 = f
  | .inr (p', n', d) => RFQ q c c' ∧ EST c' o B L p' n' (c' 77 19) ∧ ∃ k, RP (NWx o) (c' 85) (c' 86) q (c' 77 19) k d ∧ k ≤ n' - n
theorem hx_bad {T : List Shp} {t x f : Int} {c : Cm} (h : FLT c f) : QV T (fun c' => Fr RXA c c' ∧ c' 77 15 = 1 ∧ c' 77 14 = f) (HX T t x c) := by
  obtain ⟨h1, h2, h3, P, h4, h5, h6, h7⟩ := h
  refine W_X12_readExpression_20 (Q := QV T _) ⟨fun z => absurd (h1.symm.trans z) (by decide), fun _ => W_X12_readExpression_76 ((r_settleBad P c h4 h5 h6 h3 h7).mono fun c1 g => QV.ret ⟨g.1, g.2.1.trans h1, g.2.2.trans h2⟩)⟩
theorem hx_end {T : List Shp} {t : Int} {c : Cm} {o : Int} {B : Int → Int} {L p n0 n b q : Int} {d : Den} (h : OPS 1 c o B L p n0 n b q [] d) : QV T (fun c' => RFQ q c c' ∧ EST c' o B L p n (c' 77 19) ∧ ∃ k, RP (NWx o) (c' 85) (c' 86) q (c' 77 19) k d ∧ k ≤ n - n0) (HX T t 4 c) := by
  obtain ⟨s, hs, hl⟩ := h.st
  refine W_X12_readExpression_20 (Q := QV T _) ⟨fun _ => ⟨fun _ => W_X12_readExpression_76 ((r_settleOps h (show (0 : Int) < 1 by decide)).mono fun c1 g => ?_), fun z => absurd rfl z⟩, fun z => absurd hs.b0 z⟩
  obtain ⟨f, st, k, hr, hk, hq⟩ := g
  exact QV.ret ⟨f, st.est, k, hr, hk⟩
theorem fr0 {q : Int} {c c' : Cm} (f : RFQ q (up (up c 77 25 0) 77 26 0) c') : RFQ q c c' := by
  refine RFQ.trans (q' := q) (b := up (up c 77 25 0) 77 26 0) ⟨(Fr.rfl.wr (by unfold RXA; omega)).wr (by unfold RXA; omega), fun j _ => ⟨?_, ?_⟩⟩ f (Int.le_refl _)
  · rw [up_cell (by decide), up_cell (by decide)]
  · rw [up_cell (by decide), up_cell (by decide)]
theorem fr0' {c c' : Cm} (f : Fr RXA (up (up c 77 25 0) 77 26 0) c') : Fr RXA c c' := ((Fr.rfl.wr (A := RXA) (q := 77) (i := 25) (v := 0) (by unfold RXA; omega)).wr (by unfold RXA; omega)).trans f
theorem r_expr0 {T : List Shp} {c : Cm} {o : Int} {B : Int → Int} {L p n q : Int} {out : Out} (h : EST c o B L p n q) (X : RSN T o B L 4 0 p n out) : QV T (fun c' => EXO c o B L n q out c') (ccal 240 [vR 78, vI 0] (SH T, c)) := by
  refine W_X12_readExpression (Q := QV T _) ⟨fun _ => ?_, fun z => absurd rfl z⟩
  have st := h.rst
  refine hx_part (Q := QV T _) st.b0 (X (QV T (fun c' => EXO c o B L n q out c')) 0 _ [] q st ⟨by show (0 : Int) < 5; decide, fun z => absurd z (by decide)⟩ ?_)
  rcases out with f | ⟨p', n', d⟩
  · exact fun c' x' f1 fl => (hx_bad fl).mono fun c2 g => ⟨(fr0' f1).trans g.1, g.2⟩
  · intro c1 f1 hO hE _
    obtain ⟨s, hs, hl⟩ := hO.st
    have bb := hs.bb
    have pL := hs.1.pL
    refine hx_sum (Q := QV T _) hs.b0 (r_sumEnd (Q := QI T _) hs.1 hE (W_X12_behindSum_57 ⟨fun _ => QI.of_eq (r_inner hs.piled hs.pile (by omega)) ?_, fun z => absurd rfl z⟩))
    rw [inn_app fun e he => (hl e he).2]
    refine ⟨fun z => absurd z (by decide), fun _ => ⟨fun _ => ⟨fun _ => QI.ret ((hx_end (hO.lo (by decide))).mono fun c2 g => ⟨(fr0 f1).trans g.1 (Int.le_refl _), g.2⟩), fun z => absurd rfl z⟩, fun z => absurd rfl z⟩⟩
theorem r_expr1 {T : List Shp} {c : Cm} {o : Int} {B : Int → Int} {L p n q : Int} {out : Out} (h : EST c o B L p n q) (X : RSN T o B L 9 0 p n out) : QV T (fun c' => EXO c o B L n q out c' ∧ TDO out) (ccal 240 [vR 78, vI 1] (SH T, c)) := by
  refine W_X12_readExpression (Q := QV T _) ⟨fun z => absurd z (by decide), fun _ => ?_⟩
  have st := h.rst
  refine X (QV T (fun c' => EXO c o B L n q out c' ∧ TDO out)) 1 _ [] q st ⟨by show (0 : Int) < 1; decide, fun _ => ⟨rfl, by show ¬ (-1 : Int) = 31; decide⟩⟩ ?_
  rcases out with f | ⟨p', n', d⟩
  · exact fun c' x' f1 fl => (hx_bad fl).mono fun c2 g => ⟨⟨(fr0' f1).trans g.1, g.2⟩, trivial⟩
  · intro c1 f1 hO hE td
    obtain ⟨s, hs, hl⟩ := hO.st
    have bb := hs.bb
    have pL := hs.1.pL
    refine hx_test (Q := QV T _) hs.b0 (W_X12_behindTest (Q := QI T _) ⟨fun z => absurd (hs.1.w.mp z) (hE.2.2.1 (by decide)), fun _ => ⟨fun z => absurd (hs.1.w.mp z) (hE.2.2.2 (by decide)), fun _ => QI.of_eq (r_inner hs.piled hs.pile (by omega)) ?_⟩⟩)
    rw [inn_app fun e he => (hl e he).2]
    exact ⟨fun _ => QI.ret ((hx_end hO).mono fun c2 g => ⟨⟨(fr0 f1).trans g.1 (Int.le_refl _), g.2⟩, td (by decide)⟩), fun z => absurd rfl z⟩

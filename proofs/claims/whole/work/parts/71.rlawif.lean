/-! THE REFERENCE READS: a law's tests; all rules of laws hold -/
section LIF
variable {T : List Shp} {B : Int → Int} {L k p n : Int} {F : List Orc} {z : Orc}
theorem zl_row {c : Cm} {q q' : Int} (hz : ZL c k q z) {c' : Cm} (h84 : ∀ j, j < 8 * k + 4 → c' 84 j = c 84 j) (h4 : c' 84 (8 * k + 4) = q) (hs : ∀ j, j < q → c' 85 j = c 85 j ∧ c' 86 j = c 86 j) (hq : q ≤ q') : ZRa 0 (c' 84) (8 * k) (c' 85) (c' 86) q' z := by
  unfold ZRa
  rw [if_pos rfl, h84 (8 * k) (by omega), h84 (8 * k + 3) (by omega), h4]
  refine ⟨hz.1, ?_⟩
  have h2 := hz.2
  cases e2 : z.2.2.2 with
  | nil => rw [e2] at h2; exact h2
  | cons d r => rw [e2] at h2; exact ⟨h2.1, h2.2.1, h2.2.2.mv hs hq⟩
theorem yl_if1 {out : Ou2} (h0 : ¬ isw B L p 294) (hY : YL T B L 4 k p n (F ++ [z]) zo out) : YL T B L 3 k p n F z out := by
  intro Q K hh c q l3 zn hz _ kk
  obtain ⟨h1, h2, h3, h4, h5⟩ := l3
  have hb := h1.2.2.2.2.2.1
  have e19 := h1.2.2.2.2.1
  refine W_X12_readClause_135 (Q := QV T _) ⟨by omega, fun _ => ⟨fun w => absurd (h1.1.w.mp w) h0, fun _ => ⟨by omega, QV.ret ?_⟩⟩, fun w => absurd hb.1 w⟩
  rw [e19]
  refine hY Q K hh _ q ⟨h1.cong (fun j a => ?_) ?_ ?_ ?_ ?_, ?_, by rw [List.length_append]; show ((F.length + 1 : Nat) : Int) = k + 1; omega, by omega, rows_push (rows_mv h5 h3 (fun j a => ?_) (fun j _ => ⟨?_, ?_⟩) (Int.le_refl _)) h3 ⟨zl_row hz (fun j a => ?_) ?_ (fun j _ => ⟨?_, ?_⟩) (Int.le_refl _), ?_⟩⟩ (kk.fr (((Fr.rfl.wr (by unfold LXB; omega)).wr (by unfold LXB; omega)).wr (by unfold LXB; omega)))
  · rw [up_cell (by decide), up_cell (by decide), up_cell (by decide)]
  · rw [up_cell (by decide), up_cell (by decide), up_cell (by decide)]
  · rw [up_cell (by decide), up_cell (by decide), up_cell (by decide)]
  · rw [up_cell (by decide), up_cell (by decide), up_cell (by decide)]
  · rw [up_cell (by decide), up_cell (by decide), up_cell (by decide)]
  · rw [up_cell (by decide), up_cell (by decide), up_cell (by decide)]; exact h2
  · have a' : j < 8 * k := a
    show up (up (up c 84 (8 * k + 4) q) 84 (8 * k + 5) q) 84 (8 * k + 6) q 84 j = c 84 j
    rw [up_ne (by omega), up_ne (by omega), up_ne (by omega)]
  · rw [up_cell (by decide), up_cell (by decide), up_cell (by decide)]
  · rw [up_cell (by decide), up_cell (by decide), up_cell (by decide)]
  · rw [up_ne (by omega), up_ne (by omega), up_ne (by omega)]
  · rw [up_ne (by omega), up_ne (by omega), up_same]
  · rw [up_cell (by decide), up_cell (by decide), up_cell (by decide)]
  · rw [up_cell (by decide), up_cell (by decide), up_cell (by decide)]
  · unfold ZRt
    rw [zn]
    show up (up (up c 84 (8 * k + 4) q) 84 (8 * k + 5) q) 84 (8 * k + 6) q 84 (8 * k + 5 + 1) ≤ up (up (up c 84 (8 * k + 4) q) 84 (8 * k + 5) q) 84 (8 * k + 6) q 84 (8 * k + 5)
    rw [show 8 * k + 5 + 1 = 8 * k + 6 from by omega, up_same, up_ne (by omega), up_same]
    exact Int.le_refl _
/-- the token behind if -/
theorem yl_ifHead {Q : Res → Prop} {c : Cm} {q : Int} (h0 : isw B L p 294) (l3 : LSu c 0 B L k p n q F) (kk : ∀ c1, Fr LXB c c1 → EST c1 0 B L (nx B L p) n q → c1 77 17 = k + 1 → (∀ j, c1 84 j = if j = 8 * k + 5 then q else if j = 8 * k + 4 then q else c 84 j) → c1 85 = c 85 → c1 86 = c 86 → QV T (fun c2 => Q (HL T (up c2 84 (8 * k + 6) (c2 77 19)))) (ccal 240 [vR 78, vI 1] (SH T, c1))) : QV T (fun c2 => Q (HL T c2)) (E3L T k c) := by
  obtain ⟨h1, h2, h3, h4, h5⟩ := l3
  have hb := h1.2.2.2.2.2.1
  have e19 := h1.2.2.2.2.1
  refine W_X12_readClause_135 (Q := QV T _) ⟨by omega, fun _ => ⟨fun _ => ?_, fun w => absurd (h1.1.w.mpr h0) w⟩, fun w => absurd hb.1 w⟩
  rw [e19]
  have es : EST (up (up c 84 (8 * k + 4) q) 84 (8 * k + 5) q) 0 B L p n q := h1.cong (fun j a => by rw [up_cell (by decide), up_cell (by decide)]) (by rw [up_cell (by decide), up_cell (by decide)]) (by rw [up_cell (by decide), up_cell (by decide)]) (by rw [up_cell (by decide), up_cell (by decide)]) (by rw [up_cell (by decide), up_cell (by decide)])
  refine es.1.next.mono fun c1 g1 => ?_
  have w : ∀ i : Nat, ¬ i = 77 → c1 i = up (up c 84 (8 * k + 4) q) 84 (8 * k + 5) q i := fun i a => g1.1.cell (q := i) (by intro j; unfold NXR; omega)
  refine (kk c1 (((Fr.rfl.wr (by unfold LXB; omega)).wr (by unfold LXB; omega)).trans (g1.1.mono fun q j a => a.rxa.lxb)) (es.next g1.1 g1.2) ?_ (fun j => ?_) ?_ ?_).mono fun c2 g2 => ⟨by omega, QV.ret g2⟩
  · rw [g1.1 77 17 (by unfold NXR; omega), up_cell (by decide), up_cell (by decide)]; exact h2
  · rw [w 84 (by decide), up_at, up_at]
  · rw [w 85 (by decide), up_cell (by decide), up_cell (by decide)]
  · rw [w 86 (by decide), up_cell (by decide), up_cell (by decide)]
theorem yl_if2 {f : Int} (h0 : isw B L p 294) (hX : RSN T 0 B L 9 0 (nx B L p) n (.inl f)) : YL T B L 3 k p n F z (.inl f) := by
  intro Q K hh c q l3 zn hz _ kk
  refine yl_ifHead h0 l3 fun c1 f1 es _ _ _ _ => (r_expr1 es hX).mono fun c2 g => ?_
  refine hd_bad hh kk ((f1.trans (g.1.1.mono fun q j a => a.lxb)).wr (by unfold LXB; omega)) ?_ ?_
  · rw [up_cell (by decide)]; exact g.1.2.1
  · rw [up_cell (by decide)]; exact g.1.2.2
theorem yl_if3 {p1 n1 : Int} {t : Den} {out : Ou2} (h0 : isw B L p 294) (hX : RSN T 0 B L 9 0 (nx B L p) n (.inr (p1, n1, t))) (hY : YL T B L 4 k p1 n1 (F ++ [(z.1, z.2.1, some t, z.2.2.2)]) zo out) : YL T B L 3 k p n F z out := by
  intro Q K hh c q l3 zn hz _ kk
  refine yl_ifHead h0 l3 fun c1 f1 es e17 e84 e85 e86 => (r_expr1 es hX).mono fun c2 g => ?_
  obtain ⟨h1, h2, h3, h4, h5⟩ := l3
  obtain ⟨⟨f2, es2, kk1, hr, hkk⟩, td⟩ := g
  have b1 := es.2.2.2.2.2.2
  have b2 := es2.2.2.2.2.2.2
  have lt := hr.lt
  have w84 : ∀ j, c2 84 j = c1 84 j := fun j => f2.1 84 j (by unfold RXA; omega)
  have code : ∀ j, j < q → c2 85 j = c 85 j ∧ c2 86 j = c 86 j := fun j a => ⟨(f2.2 j a).1.trans (congrFun e85 j), (f2.2 j a).2.trans (congrFun e86 j)⟩
  refine hY Q K hh _ (c2 77 19) ⟨es2.cong (fun j a => by rw [up_cell (by decide)]) (up_cell (by decide)) (up_cell (by decide)) (up_cell (by decide)) (up_cell (by decide)), ?_, by rw [List.length_append]; show ((F.length + 1 : Nat) : Int) = k + 1; omega, by omega, rows_push (rows_mv h5 h3 (fun j a => ?_) (fun j a => ?_) (by omega)) h3 ⟨zl_row (z := (z.1, z.2.1, some t, z.2.2.2)) (c := c) (q := q) hz (fun j a => ?_) ?_ (fun j a => ?_) (by omega), ?_⟩⟩ (kk.fr ((f1.trans (f2.1.mono fun q j a => a.lxb)).wr (by unfold LXB; omega)))
  · rw [up_cell (by decide), f2.1 77 17 (by unfold RXA; omega)]; exact e17
  · have a' : j < 8 * k := a
    show up c2 84 (8 * k + 6) (c2 77 19) 84 j = c 84 j
    rw [up_ne (by omega), w84, e84, if_neg (by omega), if_neg (by omega)]
  · rw [up_cell (by decide), up_cell (by decide)]; exact code j a
  · rw [up_ne (by omega), w84, e84, if_neg (by omega), if_neg (by omega)]
  · rw [up_ne (by omega), w84, e84, if_neg (by omega), if_pos rfl]
  · rw [up_cell (by decide), up_cell (by decide)]; exact code j a
  · show PRL 10 (up c2 84 (8 * k + 6) (c2 77 19) 85) (up c2 84 (8 * k + 6) (c2 77 19) 86) (c2 77 19) (up c2 84 (8 * k + 6) (c2 77 19) 84 (8 * k + 5)) (up c2 84 (8 * k + 6) (c2 77 19) 84 (8 * k + 5 + 1)) t ∧ TDn t
    rw [show 8 * k + 5 + 1 = 8 * k + 6 from by omega, up_same, up_ne (by omega), w84, e84, if_pos rfl, up_cell (by decide), up_cell (by decide)]
    exact ⟨⟨kk1, hr, b1.1.1, Int.le_refl _, by omega⟩, td⟩
end LIF
theorem yl_gram {T : List Shp} {B : Int → Int} {L : Int} : GYr 0 B L (RS T 0 B L) (YL T B L) := by
  have no : ∀ {x : Prop}, ¬ (0 : Int) = 0 → x := fun h => absurd rfl h
  refine ⟨fun k p n F h => yl_bad (.inr (by omega)), fun k p n F _ h1 h2 => yl_bad (.inl h2), fun k p n F out _ h1 h2 h3 => yl_la2 h1 h2 h3, fun k p n F h f _ h1 h2 h3 h4 h5 => yl_la3 h1 h2 h3 h4 h5, fun k p n F h p1 n1 d out _ h1 h2 h3 h4 h5 h6 => yl_la4 h1 h2 h3 h4 h5 h6, ?_⟩
  refine ⟨fun k p n F h => no h, fun k p n F h => no h, fun k p n F h out h1 => no h1, fun k p n F f h => no h, fun k p n F p1 n1 d out h => no h, fun k p n F h out h1 => no h1, fun k p n F f h => no h, fun k p n F p1 n1 d1 h => no h, fun k p n F p1 n1 f d1 h => no h, fun k p n F p1 n1 p2 n2 d1 d2 h => no h, fun k p n F p1 n1 p2 n2 f d1 d2 h => no h, fun k p n F p1 n1 p2 n2 p3 n3 d1 d2 d3 out h => no h, ?_⟩
  refine ⟨fun k p n F z out h0 h1 => fun Q K hh e => absurd rfl e, fun k p n F z h0 h1 => fun Q K hh e => absurd rfl e, fun k p n F z out h0 h1 h2 => fun Q K hh e => absurd rfl e, fun k p n F z out h0 h1 => yl_if1 h0 h1, fun k p n F z f h0 h1 => yl_if2 h0 h1, fun k p n F z p1 n1 t out h0 h1 h2 => yl_if3 h0 h1 h2, ?_⟩
  exact ⟨fun k p n F h => yr_af1 h, fun k p n F out h h1 => yr_af2 h h1, fun k p n F h h1 => yr_af3 h h1⟩

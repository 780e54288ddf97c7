/-! THE REFERENCE READS: an order's test and times -/
theorem rco {o : Int} (ho : ¬ o = 0) : rcel o = 107 ∧ rwid o = 10 ∧ rtst o = 7 := by
  rcases rw8 (o := o) with ⟨e, _⟩ | ⟨_, a, b, d⟩
  · exact absurd e ho
  · exact ⟨d, a, b⟩
section OIF
variable {T : List Shp} {o : Int} {B : Int → Int} {L k p n : Int} {F : List Orc} {z : Orc}
theorem zo_row (ho : ¬ o = 0) {c c' : Cm} {q q' : Int} (hz : ZOo c k q z) (h9 : c 107 (10 * k + 9) = z.2.1) (hw : ∀ j, 10 * k ≤ j → j < 10 * k + 10 → ¬ j = 10 * k + 7 → ¬ j = 10 * k + 8 → c' 107 j = c 107 j) (hs : ∀ j, j < q → c' 85 j = c 85 j ∧ c' 86 j = c 86 j) (hq : q ≤ q') : ZRa o (c' 107) (10 * k) (c' 85) (c' 86) q' z := by
  unfold ZRa
  rw [if_neg ho]
  refine ⟨(hw _ (by omega) (by omega) (by omega) (by omega)).trans hz.1, (hw _ (by omega) (by omega) (by omega) (by omega)).trans h9, fun j hj => ?_⟩
  have h2 := hz.2 j hj
  rw [hw (10 * k + 1 + 2 * (j : Int)) (by omega) (by omega) (by omega) (by omega), hw (10 * k + 2 + 2 * (j : Int)) (by omega) (by omega) (by omega) (by omega)]
  cases e2 : z.2.2.2[j]? with
  | none => exact trivial
  | some d => rw [e2] at h2; exact h2.mv hs hq
theorem yo_if1 (ho : ¬ o = 0) {out : Ou2} (h0 : ¬ isw B L p 294) (hY : YO T o B L 4 k p n (F ++ [z]) zo out) : YO T o B L 3 k p n F z out := by
  intro Q K hh c q l3 zn hz h9 kk
  have kb := l3.kb
  have rc := rco ho
  obtain ⟨h1, h2, h3, h4, h5⟩ := l3
  have hb := h1.2.2.2.2.2.1
  have e19 := h1.2.2.2.2.1
  refine W_X12_readOrder_163 (Q := QV T _) ⟨by omega, fun _ => ⟨fun w => absurd (h1.1.w.mp w) h0, fun _ => ⟨by omega, QV.ret ?_⟩⟩, fun w => absurd hb.1 w⟩
  rw [e19]
  refine hY Q K hh _ q ⟨h1.cong (fun j a => ?_) ?_ ?_ ?_ ?_, ?_, by rw [List.length_append]; show ((F.length + 1 : Nat) : Int) = k + 1; omega, by omega, rows_push (rows_mv h5 h3 (fun j a => ?_) (fun j _ => ⟨?_, ?_⟩) (Int.le_refl _)) h3 ⟨?_, ?_⟩⟩ (kk.fr ((Fr.rfl.wr (by unfold LXB; omega)).wr (by unfold LXB; omega)))
  · rw [up_cell (by decide), up_cell (by decide)]
  · rw [up_cell (by decide), up_cell (by decide)]
  · rw [up_cell (by decide), up_cell (by decide)]
  · rw [up_cell (by decide), up_cell (by decide)]
  · rw [up_cell (by decide), up_cell (by decide)]
  · rw [up_cell (by decide), up_cell (by decide)]; exact h2
  · rw [rc.2.1] at a
    rw [rc.1, up_ne (by omega), up_ne (by omega)]
  · rw [up_cell (by decide), up_cell (by decide)]
  · rw [up_cell (by decide), up_cell (by decide)]
  · rw [rc.1, rc.2.1]
    refine zo_row ho hz (h9 ho) (fun j a a2 a3 a4 => ?_) (fun j _ => ⟨?_, ?_⟩) (Int.le_refl _)
    · rw [up_ne a4, up_ne a3]
    · rw [up_cell (by decide), up_cell (by decide)]
    · rw [up_cell (by decide), up_cell (by decide)]
  · rw [rc.1, rc.2.1, rc.2.2]
    unfold ZRt
    rw [zn]
    show up (up c 107 (10 * k + 7) q) 107 (10 * k + 8) q 107 (10 * k + 7 + 1) ≤ up (up c 107 (10 * k + 7) q) 107 (10 * k + 8) q 107 (10 * k + 7)
    rw [show 10 * k + 7 + 1 = 10 * k + 8 from by omega, up_same, up_ne (by omega), up_same]
    exact Int.le_refl _
/-- the token behind if -/
theorem yo_ifHead (ho : ¬ o = 0) {Q : Res → Prop} {c : Cm} {q : Int} (h0 : isw B L p 294) (l3 : LSu c o B L k p n q F) (kk : ∀ c1, Fr LXB c c1 → LSu c1 o B L k (nx B L p) n q F → (∀ j, c1 107 j = if j = 10 * k + 7 then q else c 107 j) → c1 85 = c 85 → c1 86 = c 86 → QV T (fun c2 => Q (HO T (up c2 107 (10 * k + 8) (c2 77 19)))) (ccal 240 [vR 78, vI 1] (SH T, c1))) : QV T (fun c2 => Q (HO T c2)) (E3O T k c) := by
  have kb := l3.kb
  have hb := l3.1.2.2.2.2.2.1
  have e19 := l3.1.2.2.2.2.1
  refine W_X12_readOrder_163 (Q := QV T _) ⟨by omega, fun _ => ⟨fun _ => ?_, fun w => absurd (l3.1.1.w.mpr h0) w⟩, fun w => absurd hb.1 w⟩
  rw [e19]
  have lr := l3.row (a := 10 * k + 7) (v := q) ho (by omega)
  refine lr.1.1.next.mono fun c1 g1 => ?_
  have w : ∀ i : Nat, ¬ i = 77 → c1 i = up c 107 (10 * k + 7) q i := fun i a => g1.1.cell (q := i) (by intro j; unfold NXR; omega)
  refine (kk c1 ((Fr.rfl.wr (by unfold LXB; omega)).trans (g1.1.mono fun q j a => a.rxa.lxb)) (lr.next g1.1 g1.2) (fun j => ?_) ?_ ?_).mono fun c2 g2 => ⟨by omega, QV.ret g2⟩
  · rw [w 107 (by decide), up_at]
  · rw [w 85 (by decide), up_cell (by decide)]
  · rw [w 86 (by decide), up_cell (by decide)]
theorem yo_if2 (ho : ¬ o = 0) {f : Int} (h0 : isw B L p 294) (hX : RSN T o B L 9 0 (nx B L p) n (.inl f)) : YO T o B L 3 k p n F z (.inl f) := by
  intro Q K hh c q l3 zn hz _ kk
  refine yo_ifHead ho h0 l3 fun c1 f1 l1 _ _ _ => (r_expr1 l1.1 hX).mono fun c2 g => ?_
  refine hd_bad hh kk ((f1.trans (g.1.1.mono fun q j a => a.lxb)).wr (by unfold LXB; omega)) ?_ ?_
  · rw [up_cell (by decide)]; exact g.1.2.1
  · rw [up_cell (by decide)]; exact g.1.2.2
theorem yo_if3 (ho : ¬ o = 0) {p1 n1 : Int} {t : Den} {out : Ou2} (h0 : isw B L p 294) (hX : RSN T o B L 9 0 (nx B L p) n (.inr (p1, n1, t))) (hY : YO T o B L 4 k p1 n1 (F ++ [(z.1, z.2.1, some t, z.2.2.2)]) zo out) : YO T o B L 3 k p n F z out := by
  intro Q K hh c q l3 zn hz h9 kk
  have kb := l3.kb
  have rc := rco ho
  have hn : NWx o = 18 := by unfold NWx; rw [if_neg ho]
  refine yo_ifHead ho h0 l3 fun c1 f1 l1 e107 e85 e86 => (r_expr1 l1.1 hX).mono fun c2 g => ?_
  obtain ⟨h1, h2, h3, h4, h5⟩ := l3
  obtain ⟨⟨f2, es2, kk1, hr, hkk⟩, td⟩ := g
  have b1 := l1.1.2.2.2.2.2.2
  have b2 := es2.2.2.2.2.2.2
  have lt := hr.lt
  have w107 : ∀ j, c2 107 j = c1 107 j := fun j => f2.1 107 j (by unfold RXA; omega)
  have code : ∀ j, j < q → c2 85 j = c 85 j ∧ c2 86 j = c 86 j := fun j a => ⟨(f2.2 j a).1.trans (congrFun e85 j), (f2.2 j a).2.trans (congrFun e86 j)⟩
  rw [hn] at hr
  refine hY Q K hh _ (c2 77 19) ⟨es2.cong (fun j a => by rw [up_cell (by decide)]) (up_cell (by decide)) (up_cell (by decide)) (up_cell (by decide)) (up_cell (by decide)), ?_, by rw [List.length_append]; show ((F.length + 1 : Nat) : Int) = k + 1; omega, by omega, rows_push (rows_mv h5 h3 (fun j a => ?_) (fun j a => ?_) (by omega)) h3 ⟨?_, ?_⟩⟩ (kk.fr ((f1.trans (f2.1.mono fun q j a => a.lxb)).wr (by unfold LXB; omega)))
  · rw [up_cell (by decide), f2.1 77 17 (by unfold RXA; omega)]; exact l1.2.1
  · rw [rc.2.1] at a
    rw [rc.1, up_ne (by omega), w107, e107, if_neg (by omega)]
  · rw [up_cell (by decide), up_cell (by decide)]; exact code j a
  · rw [rc.1, rc.2.1]
    refine zo_row (z := (z.1, z.2.1, some t, z.2.2.2)) ho hz (h9 ho) (fun j a a2 a3 a4 => ?_) (fun j a => ?_) (by omega)
    · rw [up_ne a4, w107, e107, if_neg a3]
    · rw [up_cell (by decide), up_cell (by decide)]; exact code j a
  · rw [rc.1, rc.2.1, rc.2.2, hn]
    show PRL 18 (up c2 107 (10 * k + 8) (c2 77 19) 85) (up c2 107 (10 * k + 8) (c2 77 19) 86) (c2 77 19) (up c2 107 (10 * k + 8) (c2 77 19) 107 (10 * k + 7)) (up c2 107 (10 * k + 8) (c2 77 19) 107 (10 * k + 7 + 1)) t ∧ TDn t
    rw [show 10 * k + 7 + 1 = 10 * k + 8 from by omega, up_same, up_ne (by omega), w107, e107, if_pos rfl, up_cell (by decide), up_cell (by decide)]
    exact ⟨⟨kk1, hr, b1.1.1, Int.le_refl _, by omega⟩, td⟩
/-! times -/
theorem ZOo.row {c : Cm} {q a v : Int} (hz : ZOo c k q z) (ha : a = 10 * k + 9) : ZOo (up c 107 a v) k q z := by
  refine ⟨by rw [up_ne (by omega)]; exact hz.1, fun j hj => ?_⟩
  have h2 := hz.2 j hj
  rw [up_ne (by omega), up_ne (by omega), up_cell (by decide), up_cell (by decide)]
  exact h2
theorem ZOo.nxr {c c' : Cm} {q : Int} (hz : ZOo c k q z) (f : Fr NXR c c') : ZOo c' k q z := by
  have w : ∀ i : Nat, ¬ i = 77 → c' i = c i := fun i a => f.cell (q := i) (by intro j; unfold NXR; omega)
  unfold ZOo
  rw [w 107 (by decide), w 85 (by decide), w 86 (by decide)]
  exact hz
theorem yo_ti1 {out : Ou2} (h0 : ¬ isw B L p 21279923) (hY : YO T o B L 3 k p n F z out) : YO T o B L 2 k p n F z out := by
  intro Q K hh ho c q l3 zn z1 hz kk
  have kb := l3.kb
  have hb := l3.1.2.2.2.2.2.1
  refine W_X12_readOrder_115 (Q := QV T _) ⟨by omega, fun _ => ⟨fun w => absurd (l3.1.1.w.mp w) h0, fun _ => ?_⟩, fun w => absurd hb.1 w⟩
  exact hY Q K hh _ q (l3.row ho (by omega)) zn (hz.row rfl) (fun _ => by rw [up_same]; exact z1.symm) (kk.fr (Fr.rfl.wr (by unfold LXB; omega)))
theorem yo_ti2 (h0 : isw B L p 21279923) (h1 : ¬ (kd B L (nx B L p) = 1 ∧ 1 ≤ nc B L (nx B L p) ∧ nc B L (nx B L p) ≤ 20)) : YO T o B L 2 k p n F z (.inl (nx B L p)) := by
  intro Q K hh ho c q l3 zn z1 hz kk
  have kb := l3.kb
  have hb := l3.1.2.2.2.2.2.1
  have lr := l3.row (a := 10 * k + 9) (v := 1) ho (by omega)
  refine W_X12_readOrder_115 (Q := QV T _) ⟨by omega, fun _ => ⟨fun _ => ?_, fun w => absurd (l3.1.1.w.mpr h0) w⟩, fun w => absurd hb.1 w⟩
  refine lr.1.1.next.mono fun c1 g1 => ⟨by omega, ?_⟩
  have l1 := lr.next g1.1 g1.2
  have hb1 := l1.1.2.2.2.2.2.1
  have f1 : Fr LXB c c1 := (Fr.rfl.wr (by unfold LXB; omega)).trans (g1.1.mono fun q j a => a.rxa.lxb)
  have k32 : ∀ v, QI T (fun r2 c3 => (0 ≤ 10 * k + 9 ∧ 10 * k + 9 < 120) ∧ QV T (fun c2 => Q (HO T c2)) (cev 328 9 163 [vR 78, vU, vI (10 * k)] [] (SH T, up c3 107 (10 * k + 9) r2))) (cev 224 4 32 [vU, vU, vU, vU, vU, vI v] [vR 78] (SH T, c1)) := by
    intro v
    refine W_X12_number_32 ((r_mustF l1.1.1 hb1.1).mono fun c3 h3 => QI.ret ⟨by omega, ?_⟩)
    refine o_bad163 hh kk ((f1.trans ?_).wr (by unfold LXB; omega)) ?_ ?_ kb
    · rw [h3]
      exact (Fr.rfl.wr (by unfold LXB RXA; omega)).wr (by unfold LXB RXA; omega)
    · rw [up_cell (by decide), h3, up_ne (by decide), up_same]
    · rw [up_cell (by decide), h3, up_same]
  refine W_X12_number (Q := QI T _) ⟨fun e3 => ⟨fun e4 => ?_, fun _ => k32 _⟩, fun _ => k32 _⟩
  have ek1 := l1.1.1.d.mp e3
  have en := l1.1.1.n ek1
  exact absurd ⟨ek1, by omega, by omega⟩ h1
theorem yo_ti3 {out : Ou2} (h0 : isw B L p 21279923) (h1 : kd B L (nx B L p) = 1 ∧ 1 ≤ nc B L (nx B L p) ∧ nc B L (nx B L p) ≤ 20) (hY : YO T o B L 3 k (nx B L (nx B L p)) n F (z.1, nc B L (nx B L p), z.2.2) out) : YO T o B L 2 k p n F z out := by
  intro Q K hh ho c q l3 zn z1 hz kk
  have kb := l3.kb
  have hb := l3.1.2.2.2.2.2.1
  have lr := l3.row (a := 10 * k + 9) (v := 1) ho (by omega)
  refine W_X12_readOrder_115 (Q := QV T _) ⟨by omega, fun _ => ⟨fun _ => ?_, fun w => absurd (l3.1.1.w.mpr h0) w⟩, fun w => absurd hb.1 w⟩
  refine lr.1.1.next.mono fun c1 g1 => ⟨by omega, ?_⟩
  have l1 := lr.next g1.1 g1.2
  have hb1 := l1.1.2.2.2.2.2.1
  have f1 : Fr LXB c c1 := (Fr.rfl.wr (by unfold LXB; omega)).trans (g1.1.mono fun q j a => a.rxa.lxb)
  have e3 := l1.1.1.d.mpr h1.1
  have en := l1.1.1.n h1.1
  refine W_X12_number (Q := QI T _) ⟨fun _ => ⟨fun _ => ?_, fun w => absurd (show 1 ≤ c1 77 13 ∧ c1 77 13 ≤ 20 by omega) w⟩, fun w => absurd e3 w⟩
  rw [w32_id (by omega) (by omega)]
  refine (r_mustT l1.1.1 hb1.1 (by decide)).mono fun c3 h3 => QI.ret ⟨by omega, ?_⟩
  have l4 := l1.next h3.1 h3.2
  refine hY Q K hh _ q (l4.row (a := 10 * k + 9) (v := c1 77 13) ho (by omega)) zn (ZOo.row (((ZOo.row hz rfl).nxr g1.1).nxr h3.1) rfl) (fun _ => ?_) (kk.fr ((f1.trans (h3.1.mono fun q j a => a.rxa.lxb)).wr (by unfold LXB; omega)))
  rw [up_same]
  show c1 77 13 = nc B L (nx B L p)
  omega
end OIF

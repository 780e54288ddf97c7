/-! THE REFERENCE READS: orders -/
noncomputable def HO (T : List Shp) (c : Cm) : Res := cev 334 12 19 [vR 78, vU, vU, vU, vU] [] (SH T, c)
noncomputable def E2O (T : List Shp) (k : Int) (c : Cm) : Res := cev 328 9 115 [vR 78, vU, vI (10 * k)] [] (SH T, c)
noncomputable def E3O (T : List Shp) (k : Int) (c : Cm) : Res := cev 328 9 163 [vR 78, vU, vI (10 * k)] [] (SH T, c)
def ZOo (c : Cm) (k q : Int) (z : Orc) : Prop := c 107 (10 * k) = z.1 ∧ ∀ j : Nat, j < 3 → (match z.2.2.2[j]? with | none => True | some d => PRL 18 (c 85) (c 86) q (c 107 (10 * k + 1 + 2 * (j : Int))) (c 107 (10 * k + 2 + 2 * (j : Int))) d)
def YO (T : List Shp) (o : Int) (B : Int → Int) (L : Int) : GY := YR T o B L 328 (HO T) (E2O T) (E3O T) ZOo
section OBS
variable {T : List Shp} {Q : Res → Prop} {K : Cm → Prop} {o f k : Int} {c c1 : Cm}
/-- what went wrong runs through -/
theorem o_bad163 (hh : HDP T Q K 328 (HO T)) (kk : CNT o K c (.inl f)) (fr : Fr LXB c c1) (h15 : c1 77 15 = 1) (h14 : c1 77 14 = f) (hk : 0 ≤ k ∧ k < 12) : QV T (fun c2 => Q (HO T c2)) (E3O T k c1) := by
  refine W_X12_readOrder_163 (Q := QV T _) ⟨by omega, fun z => absurd (h15.symm.trans z) (by decide), fun _ => ⟨by omega, QV.ret (hd_bad hh kk ((fr.wr (by unfold LXB; omega)).wr (by unfold LXB; omega)) ?_ ?_)⟩⟩
  · rw [up_cell (by decide), up_cell (by decide)]; exact h15
  · rw [up_cell (by decide), up_cell (by decide)]; exact h14
theorem o_bad115 (hh : HDP T Q K 328 (HO T)) (kk : CNT o K c (.inl f)) (fr : Fr LXB c c1) (h15 : c1 77 15 = 1) (h14 : c1 77 14 = f) (hk : 0 ≤ k ∧ k < 12) : QV T (fun c2 => Q (HO T c2)) (E2O T k c1) := by
  refine W_X12_readOrder_115 (Q := QV T _) ⟨by omega, fun z => absurd (h15.symm.trans z) (by decide), fun _ => ?_⟩
  refine o_bad163 hh kk (fr.wr (by unfold LXB; omega)) ?_ ?_ hk
  · rw [up_cell (by decide)]; exact h15
  · rw [up_cell (by decide)]; exact h14
theorem o_bad85 {x : Int} (hh : HDP T Q K 328 (HO T)) (kk : CNT o K c (.inl f)) (fr : Fr LXB c c1) (h15 : c1 77 15 = 1) (h14 : c1 77 14 = f) (hk : 0 ≤ k ∧ k < 12) : QV T (fun c2 => Q (HO T c2)) (cev 328 9 85 [vR 78, vI x, vI (10 * k)] [] (SH T, c1)) :=
  W_X12_readOrder_85 (Q := QV T _) ⟨fun _ => ⟨fun z => absurd (h15.symm.trans z) (by decide), fun _ => o_bad115 hh kk fr h15 h14 hk⟩, fun _ => o_bad115 hh kk fr h15 h14 hk⟩
theorem o_bad55 {x : Int} (hh : HDP T Q K 328 (HO T)) (kk : CNT o K c (.inl f)) (fr : Fr LXB c c1) (h15 : c1 77 15 = 1) (h14 : c1 77 14 = f) (hk : 0 ≤ k ∧ k < 12) : QV T (fun c2 => Q (HO T c2)) (cev 328 9 55 [vR 78, vI x, vI (10 * k)] [] (SH T, c1)) :=
  W_X12_readOrder_55 (Q := QV T _) ⟨fun _ => ⟨fun z => absurd (h15.symm.trans z) (by decide), fun _ => o_bad85 hh kk fr h15 h14 hk⟩, fun _ => o_bad85 hh kk fr h15 h14 hk⟩
/-- a sum where the text went wrong already -/
theorem o_sumBad {a : Int} (h15 : c1 77 15 = 1) (ha : 0 ≤ a ∧ a < 119) : QV T (fun c2 => Fr LXB c1 c2 ∧ c2 77 15 = 1 ∧ c2 77 14 = c1 77 14) (ccal 326 [vR 78, vI a] (SH T, c1)) := by
  refine W_X12_readSum (Q := QV T _) ⟨by omega, fun z => absurd (h15.symm.trans z) (by decide), fun _ => ⟨by omega, QV.ret ⟨(Fr.rfl.wr (by unfold LXB; omega)).wr (by unfold LXB; omega), ?_, ?_⟩⟩⟩
  · rw [up_cell (by decide), up_cell (by decide)]; exact h15
  · rw [up_cell (by decide), up_cell (by decide)]
end OBS
theorem LSu.row {c : Cm} {o : Int} {B : Int → Int} {L k p n q a v : Int} {F : List Orc} (h : LSu c o B L k p n q F) (ho : ¬ o = 0) (ha : 10 * k ≤ a) : LSu (up c 107 a v) o B L k p n q F := by
  obtain ⟨h1, h2, h3, h4, h5⟩ := h
  have r : rcel o = 107 ∧ rwid o = 10 := by
    rcases rw8 (o := o) with ⟨e, _⟩ | ⟨_, e, _, e2⟩
    · exact absurd e ho
    · exact ⟨e2, e⟩
  refine ⟨h1.cong (fun j a => by rw [up_cell (by decide)]) (up_cell (by decide)) (up_cell (by decide)) (up_cell (by decide)) (up_cell (by decide)), by rw [up_cell (by decide)]; exact h2, h3, h4, rows_mv h5 h3 (fun j b => ?_) (fun j _ => ⟨by rw [up_cell (by decide)], by rw [up_cell (by decide)]⟩) (Int.le_refl _)⟩
  rw [r.2] at b
  rw [r.1, up_ne (by omega)]
theorem LSu.next {c c' : Cm} {o : Int} {B : Int → Int} {L k p n q : Int} {F : List Orc} (h : LSu c o B L k p n q F) (f : Fr NXR c c') (e : ER c' B L (nx B L p)) : LSu c' o B L k (nx B L p) n q F := by
  obtain ⟨h1, h2, h3, h4, h5⟩ := h
  refine ⟨h1.next f e, (f 77 17 (by unfold NXR; omega)).trans h2, h3, h4, rows_mv h5 h3 (fun j _ => ?_) (fun j _ => ⟨f 85 j (by unfold NXR; omega), f 86 j (by unfold NXR; omega)⟩) (Int.le_refl _)⟩
  exact f _ j (by unfold NXR; rcases rw8 (o := o) with ⟨_, _, _, r⟩ | ⟨_, _, _, r⟩ <;> rw [r] <;> omega)
theorem LSu.kb {c : Cm} {o : Int} {B : Int → Int} {L k p n q : Int} {F : List Orc} (h : LSu c o B L k p n q F) : 0 ≤ k ∧ k < 12 := by
  have := h.2.2.1
  have := h.2.2.2.1
  omega
/-- one sum of an order: x its number -/
theorem o_sum {T : List Shp} {o : Int} {B : Int → Int} {L k p n q : Int} {F : List Orc} {c : Cm} {out : Out} {x : Nat} (ho : ¬ o = 0) (h : LSu c o B L k p n q F) (hx : x < 3) (X : RSN T o B L 4 0 p n out) : QV T (fun c' => Fr LXB c c' ∧ match out with | .inl f => c' 77 15 = 1 ∧ c' 77 14 = f | .inr (p', n', d) => LSu c' o B L k p' n' (c' 77 19) F ∧ (∀ j, ¬ j = 10 * k + 1 + 2 * (x : Int) → ¬ j = 10 * k + 2 + 2 * (x : Int) → c' 107 j = c 107 j) ∧ (∀ j, j < q → c' 85 j = c 85 j ∧ c' 86 j = c 86 j) ∧ q ≤ c' 77 19 ∧ PRL 18 (c' 85) (c' 86) (c' 77 19) (c' 107 (10 * k + 1 + 2 * (x : Int))) (c' 107 (10 * k + 2 + 2 * (x : Int))) d) (ccal 326 [vR 78, vI (10 * k + 1 + 2 * (x : Int))] (SH T, c)) := by
  have kb := h.kb
  have hb := h.1.2.2.2.2.2.1
  have e19 := h.1.2.2.2.2.1
  have h1 := h.row (a := 10 * k + 1 + 2 * (x : Int)) (v := c 77 19) ho (by omega)
  refine W_X12_readSum (Q := QV T _) ⟨by omega, fun _ => (r_expr0 h1.1 X).mono fun c1 g => ⟨by omega, ?_⟩, fun z => absurd hb.1 z⟩
  rcases out with f | ⟨p', n', d⟩
  · refine QV.ret ⟨((Fr.rfl.wr (by unfold LXB; omega)).trans (g.1.mono fun q j a => a.lxb)).wr (by unfold LXB; omega), ?_, ?_⟩
    · rw [up_cell (by decide)]; exact g.2.1
    · rw [up_cell (by decide)]; exact g.2.2
  · obtain ⟨f1, es, kk1, hr, hkk⟩ := g
    have lt := hr.lt
    have b0 := h.1.2.2.2.2.2.2
    have b1 := es.2.2.2.2.2.2
    have e107 : ∀ j, c1 107 j = up c 107 (10 * k + 1 + 2 * (x : Int)) (c 77 19) 107 j := fun j => f1.1 107 j (by unfold RXA; omega)
    have l1 : LSu c1 o B L k p' n' (c1 77 19) F := ⟨es, (f1.1 77 17 (by unfold RXA; omega)).trans h1.2.1, h.2.2.1, kb.2, rows_mv h1.2.2.2.2 h.2.2.1 (fun j _ => f1.1 _ j (by unfold RXA; rcases rw8 (o := o) with ⟨_, _, _, r⟩ | ⟨_, _, _, r⟩ <;> rw [r] <;> omega)) (fun j a => f1.2 j a) (by omega)⟩
    have g19 : up c1 107 (10 * k + 1 + 2 * (x : Int) + 1) (c1 77 19) 77 19 = c1 77 19 := by rw [up_cell (by decide)]
    refine QV.ret ⟨((Fr.rfl.wr (by unfold LXB; omega)).trans (f1.1.mono fun q j a => a.lxb)).wr (by unfold LXB; omega), ?_⟩
    rw [g19]
    refine ⟨l1.row ho (by omega), fun j a1 a2 => ?_, fun j a => ?_, by omega, ?_⟩
    · rw [up_ne (by omega), e107, up_ne a1]
    · rw [up_cell (by decide), up_cell (by decide)]
      have := f1.2 j a
      rw [up_cell (by decide), up_cell (by decide)] at this
      exact this
    · rw [show 10 * k + 1 + 2 * (x : Int) + 1 = 10 * k + 2 + 2 * (x : Int) from by omega, up_same, up_ne (by omega), e107, up_same, up_cell (by decide), up_cell (by decide), e19]
      have hn : NWx o = 18 := by unfold NWx; rw [if_neg ho]
      rw [hn] at hr
      exact ⟨kk1, hr, b0.1.1, Int.le_refl _, by omega⟩

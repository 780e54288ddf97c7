/-! THE REFERENCE READS: orders, their rules -/
theorem LSt.next {c c' : Cm} {o : Int} {B : Int → Int} {L k p n q : Int} {F : List Orc} (h : LSt c o B L k p n q F) (f : Fr NXR c c') (e : ER c' B L (nx B L p)) : LSt c' o B L k (nx B L p) n q F := by
  obtain ⟨h1, h2, h3, h4, h5⟩ := h
  refine ⟨h1.next f e, (f 77 17 (by unfold NXR; omega)).trans h2, h3, h4, rows_mv h5 h3 (fun j _ => ?_) (fun j _ => ⟨f 85 j (by unfold NXR; omega), f 86 j (by unfold NXR; omega)⟩) (Int.le_refl _)⟩
  exact f _ j (by unfold NXR; rcases rw8 (o := o) with ⟨_, _, _, r⟩ | ⟨_, _, _, r⟩ <;> rw [r] <;> omega)
theorem LSt.begin {c : Cm} {o : Int} {B : Int → Int} {L k p n q h : Int} {F : List Orc} (l : LSt c o B L k p n q F) (ho : ¬ o = 0) (hk : k < 12) : LSu (up (up c 77 17 (k + 1)) 107 (10 * k) h) o B L k p n q F ∧ ZOo (up (up c 77 17 (k + 1)) 107 (10 * k) h) k q (h, 1, none, []) := by
  obtain ⟨h1, h2, h3, h4, h5⟩ := l
  have rc := rco ho
  refine ⟨⟨h1.cong (fun j a => by rw [up_cell (by decide), up_ne (by omega)]) ?_ ?_ ?_ ?_, by rw [up_cell (by decide), up_same], h3, hk, rows_mv h5 h3 (fun j a => ?_) (fun j _ => ⟨?_, ?_⟩) (Int.le_refl _)⟩, up_same, fun j hj => trivial⟩
  · rw [up_cell (by decide), up_cell (by decide)]
  · rw [up_cell (by decide), up_cell (by decide)]
  · rw [up_cell (by decide), up_cell (by decide)]
  · rw [up_cell (by decide), up_cell (by decide)]
  · rw [rc.2.1] at a
    rw [rc.1, up_ne (by omega), up_cell (by decide)]
  · rw [up_cell (by decide), up_cell (by decide)]
  · rw [up_cell (by decide), up_cell (by decide)]
theorem ZOo.sum {c c' : Cm} {k q q' : Int} {z : Orc} {d : Den} {x : Nat} (hz : ZOo c k q z) (hx : z.2.2.2.length = x) (w : ∀ j, ¬ j = 10 * k + 1 + 2 * (x : Int) → ¬ j = 10 * k + 2 + 2 * (x : Int) → c' 107 j = c 107 j) (hs : ∀ j, j < q → c' 85 j = c 85 j ∧ c' 86 j = c 86 j) (hq : q ≤ q') (hp : PRL 18 (c' 85) (c' 86) q' (c' 107 (10 * k + 1 + 2 * (x : Int))) (c' 107 (10 * k + 2 + 2 * (x : Int))) d) : ZOo c' k q' (z.1, z.2.1, z.2.2.1, z.2.2.2 ++ [d]) := by
  refine ⟨(w _ (by omega) (by omega)).trans hz.1, fun j hj => ?_⟩
  have h2 := hz.2 j hj
  show match (z.2.2.2 ++ [d])[j]? with | none => True | some d => PRL 18 (c' 85) (c' 86) q' (c' 107 (10 * k + 1 + 2 * (j : Int))) (c' 107 (10 * k + 2 + 2 * (j : Int))) d
  by_cases e : j < x
  · rw [List.getElem?_append_left (by omega), w (10 * k + 1 + 2 * (j : Int)) (by omega) (by omega), w (10 * k + 2 + 2 * (j : Int)) (by omega) (by omega)]
    cases e2 : z.2.2.2[j]? with
    | none => exact trivial
    | some d => rw [e2] at h2; exact h2.mv hs hq
  · rw [List.getElem?_append_right (by omega), hx]
    by_cases e2 : j = x
    · subst e2
      rw [show j - j = 0 from by omega]
      exact hp
    · rw [List.getElem?_eq_none (by show 1 ≤ j - x; omega)]
      exact trivial
section ORS
variable {T : List Shp} {o : Int} {B : Int → Int} {L k p n : Int} {F : List Orc}
theorem yo_bad (h : tkw B L p WS1 = -1 ∨ ¬ k < 12) : YO T o B L 0 k p n F zo (.inl p) := by
  intro Q K hh c q hl kk
  refine W_X12_readOrder (Q := QV T _) (oh_bad hl h fun c' f a b r => ⟨fun z => absurd (a.symm.trans z) (by decide), fun _ => QV.ret (hd_bad hh kk f a b)⟩)
/-- the row of an order begins -/
theorem yo_row {Q : Res → Prop} {c2 : Cm} {q p' h : Int} (ho : ¬ o = 0) (hk : k < 12) (l : LSt c2 o B L k p' n q F) (k48 : h = 2 ∨ h = 5 → ∀ c3, LSu c3 o B L k p' n q F → ZOo c3 k q (h, 1, none, []) → Fr LXB c2 c3 → QV T (fun c2 => Q (HO T c2)) (cev 328 9 48 [vR 78, vI h, vI (10 * k)] [] (SH T, c3))) (k55 : ¬ h = 2 → ¬ h = 5 → ∀ c3, LSu c3 o B L k p' n q F → ZOo c3 k q (h, 1, none, []) → Fr LXB c2 c3 → QV T (fun c2 => Q (HO T c2)) (E2O T k c3)) : (((c2 77 15) = 0 → (((-2147483648 ≤ 10 * (c2 77 17) ∧ 10 * (c2 77 17) < 2147483648) ∧ (-2147483648 ≤ (c2 77 17) + 1 ∧ (c2 77 17) + 1 < 2147483648) ∧ (0 ≤ (10 * (c2 77 17)) ∧ (10 * (c2 77 17)) < 120)) ∧ ((h = 2 → QV T (fun c2 => Q (HO T c2)) (cev 328 9 48 [vR 78, vI h, vI (10 * (c2 77 17))] [] (SH T, (up (up c2 77 17 ((c2 77 17) + 1)) 107 (10 * (c2 77 17)) h)))) ∧ (¬ h = 2 → ((h = 5 → QV T (fun c2 => Q (HO T c2)) (cev 328 9 48 [vR 78, vI h, vI (10 * (c2 77 17))] [] (SH T, (up (up c2 77 17 ((c2 77 17) + 1)) 107 (10 * (c2 77 17)) h)))) ∧ (¬ h = 5 → QV T (fun c2 => Q (HO T c2)) (cev 328 9 55 [vR 78, vI h, vI (10 * (c2 77 17))] [] (SH T, (up (up c2 77 17 ((c2 77 17) + 1)) 107 (10 * (c2 77 17)) h))))))))) ∧ (¬ (c2 77 15) = 0 → QV T (fun c2 => Q (HO T c2)) (some (none, (SH T, c2))))) := by
  have hb := l.1.2.2.2.2.2.1
  have kb : 0 ≤ k := by have := l.2.2.1; omega
  rw [l.2.1]
  have b := l.begin (h := h) ho hk
  have f : Fr LXB c2 (up (up c2 77 17 (k + 1)) 107 (10 * k) h) := (Fr.rfl.wr (by unfold LXB; omega)).wr (by unfold LXB; omega)
  refine ⟨fun _ => ⟨by omega, fun z => k48 (.inl z) _ b.1 b.2 f, fun z => ⟨fun z2 => k48 (.inr z2) _ b.1 b.2 f, fun z2 => ?_⟩⟩, fun z => absurd hb.1 z⟩
  exact W_X12_readOrder_55 (Q := QV T _) ⟨fun z3 => absurd z3 z2, fun _ => W_X12_readOrder_85 (Q := QV T _) ⟨fun z3 => absurd z3 z2, fun _ => k55 z z2 _ b.1 b.2 f⟩⟩
/-- kinds without sums -/
theorem yo_plain (ho : ¬ o = 0) (hk : k < 12) {out : Ou2} {h : Int} (e : (tkw B L p WS1 = 0 ∧ tkw B L (nx B L p) WS2 = h ∧ ¬ h = -1 ∧ ¬ h = 2 ∧ YO T o B L 2 k (nx B L (nx B L p)) n F (h, 1, none, []) out) ∨ ((tkw B L p WS1 = 1 ∨ tkw B L p WS1 = 2) ∧ h = tkw B L p WS1 + 2 ∧ YO T o B L 2 k (nx B L p) n F (h, 1, none, []) out)) : YO T o B L 0 k p n F zo out := by
  intro Q K hh c q hl kk
  refine W_X12_readOrder (Q := QV T _) ?_
  rcases e with ⟨e0, e2, n1, n2, hY⟩ | ⟨e0, eh, hY⟩
  · have l2 := tkw_lt (show ¬ tkw B L (nx B L p) WS2 = -1 by rw [e2]; exact n1)
    have l3 : tkw B L (nx B L p) WS2 < 3 := l2.2.2
    refine oh_paint hl hk e0 fun c1 f1 e1 hb1 => ⟨fun z => absurd (e2.symm.trans z) n1, fun _ c' f2 e2' => ?_⟩
    have lt := (hl.next f1 e1).next f2 e2'
    rw [e2]
    exact yo_row ho hk lt (fun z => absurd z (by omega)) fun _ _ c3 l z f3 => hY Q K hh ho c3 q l rfl rfl z (kk.fr (((f1.mono fun q j a => a.rxa.lxb).trans (f2.mono fun q j a => a.rxa.lxb)).trans f3))
  · refine oh_other hl hk (by omega) fun c' f e' => ?_
    have lt := hl.next f e'
    rw [← eh]
    exact yo_row ho hk lt (fun z => absurd z (by omega)) fun _ _ c3 l z f3 => hY Q K hh ho c3 q l rfl rfl z (kk.fr ((f.mono fun q j a => a.rxa.lxb).trans f3))
/-- by a sum -/
theorem yo_by (ho : ¬ o = 0) (hk : k < 12) (e0 : tkw B L p WS1 = 0) (e2 : tkw B L (nx B L p) WS2 = 2) {outS : Out} {out : Ou2} (hX : RSN T o B L 4 0 (nx B L (nx B L p)) n outS) (hF : ∀ f, outS = .inl f → out = .inl f) (hT : ∀ p1 n1 d, outS = .inr (p1, n1, d) → YO T o B L 2 k p1 n1 F (2, 1, none, [d]) out) : YO T o B L 0 k p n F zo out := by
  intro Q K hh c q hl kk
  refine W_X12_readOrder (Q := QV T _) (oh_paint hl hk e0 fun c1 f1 e1 hb1 => ⟨fun z => absurd (e2.symm.trans z) (by decide), fun _ c' f2 e2' => ?_⟩)
  have lt := (hl.next f1 e1).next f2 e2'
  rw [e2]
  refine yo_row ho hk lt (fun _ c3 l z f3 => ?_) fun z => absurd rfl z
  have kb := l.kb
  have f03 := ((f1.mono fun q j a => a.rxa.lxb).trans (f2.mono fun q j a => a.rxa.lxb)).trans f3
  refine W_X12_readOrder_48 (Q := QV T _) ⟨by omega, ?_⟩
  have S := o_sum (x := 0) ho l (by decide) hX
  rw [show 10 * k + 1 + 2 * ((0 : Nat) : Int) = 10 * k + 1 from by omega, show 10 * k + 2 + 2 * ((0 : Nat) : Int) = 10 * k + 2 from by omega] at S
  refine S.mono fun c4 g => ?_
  obtain ⟨f4, g⟩ := g
  rcases outS with f | ⟨p1, n1, d⟩
  · have ef := hF f rfl
    subst ef
    exact o_bad55 hh kk (f03.trans f4) g.1 g.2 kb
  · obtain ⟨l4, w, hs, hq, hp⟩ := g
    have z4 := ZOo.sum (x := 0) z rfl (fun j a b => w j (by omega) (by omega)) hs hq (by rw [show 10 * k + 1 + 2 * ((0 : Nat) : Int) = 10 * k + 1 from by omega, show 10 * k + 2 + 2 * ((0 : Nat) : Int) = 10 * k + 2 from by omega]; exact hp)
    exact W_X12_readOrder_55 (Q := QV T _) ⟨fun z3 => absurd z3 (by decide), fun _ => W_X12_readOrder_85 (Q := QV T _) ⟨fun z3 => absurd z3 (by decide), fun _ => hT p1 n1 d rfl Q K hh ho c4 _ l4 rfl rfl z4 (kk.fr (f03.trans f4))⟩⟩
theorem yo_or2 (hk : k < 12) (e0 : tkw B L p WS1 = 0) (e2 : tkw B L (nx B L p) WS2 = -1) : YO T o B L 0 k p n F zo (.inl (nx B L p)) := by
  intro Q K hh c q hl kk
  exact W_X12_readOrder (Q := QV T _) (oh_paint hl hk e0 fun c1 f1 e1 hb1 => ⟨fun _ c' f a b r => ⟨fun z => absurd (a.symm.trans z) (by decide), fun _ => QV.ret (hd_bad hh kk ((f1.mono fun q j a => a.rxa.lxb).trans f) a b)⟩, fun z => absurd e2 z⟩)
end ORS

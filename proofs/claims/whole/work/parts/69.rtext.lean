/-! THE REFERENCE READS: whole texts -/
def LXB (q : Nat) (j : Int) : Prop := RXA q j ∨ (q = 77 ∧ (j = 9 ∨ j = 16 ∨ j = 17)) ∨ q = 84 ∨ q = 107
theorem RXA.lxb {q : Nat} {j : Int} (h : RXA q j) : LXB q j := .inl h
def PRL (NW : Int) (P A : Int → Int) (q x y : Int) (d : Den) : Prop := ∃ l, RP NW P A x y l d ∧ 0 ≤ x ∧ y ≤ q ∧ l ≤ 50
/-- a law's clause, an order: kind and sums; the test apart -/
def ZRa (o : Int) (w : Int → Int) (a : Int) (P A : Int → Int) (q : Int) (z : Orc) : Prop := w a = z.1 ∧ if o = 0 then (match z.2.2.2 with | [] => z.1 = 4 | d :: r => z.1 ≠ 4 ∧ r = [] ∧ PRL 10 P A q (w (a + 3)) (w (a + 4)) d) else (w (a + 9) = z.2.1 ∧ ∀ j : Nat, j < 3 → (match z.2.2.2[j]? with | none => True | some d => PRL 18 P A q (w (a + 1 + 2 * (j : Int))) (w (a + 2 + 2 * (j : Int))) d))
def ZRt (NW : Int) (w : Int → Int) (b : Int) (P A : Int → Int) (q : Int) (t : Option Den) : Prop := match t with | none => w (b + 1) ≤ w b | some d => PRL NW P A q (w b) (w (b + 1)) d ∧ TDn d
/-- the rows of clauses: cell, width, place of the test -/
def rcel (o : Int) : Nat := if o = 0 then 84 else 107
def rwid (o : Int) : Int := if o = 0 then 8 else 10
def rtst (o : Int) : Int := if o = 0 then 5 else 7
def ZRx (c : Cm) (o i q : Int) (z : Orc) : Prop := ZRa o (c (rcel o)) (rwid o * i) (c 85) (c 86) q z ∧ ZRt (NWx o) (c (rcel o)) (rwid o * i + rtst o) (c 85) (c 86) q z.2.2.1
theorem PRL.mv {NW q q' x y : Int} {P A P' A' : Int → Int} {d : Den} (h : PRL NW P A q x y d) (hs : ∀ j, j < q → P' j = P j ∧ A' j = A j) (hq : q ≤ q') : PRL NW P' A' q' x y d := by
  obtain ⟨l, h1, h2, h3, h4⟩ := h
  exact ⟨l, h1.mv fun j a b => hs j (by omega), h2, by omega, h4⟩
theorem ZRa.mv {o a q q' : Int} {w w' P A P' A' : Int → Int} {z : Orc} (h : ZRa o w a P A q z) (hw : ∀ j, a ≤ j → j < a + rwid o → w' j = w j) (hs : ∀ j, j < q → P' j = P j ∧ A' j = A j) (hq : q ≤ q') : ZRa o w' a P' A' q' z := by
  unfold ZRa at h ⊢
  unfold rwid at hw
  by_cases e : o = 0
  · rw [if_pos e] at h hw ⊢
    refine ⟨(hw a (by omega) (by omega)).trans h.1, ?_⟩
    have h2 := h.2
    rw [hw (a + 3) (by omega) (by omega), hw (a + 4) (by omega) (by omega)]
    cases e2 : z.2.2.2 with
    | nil => rw [e2] at h2; exact h2
    | cons d r => rw [e2] at h2; exact ⟨h2.1, h2.2.1, h2.2.2.mv hs hq⟩
  · rw [if_neg e] at h hw ⊢
    refine ⟨(hw a (by omega) (by omega)).trans h.1, (hw (a + 9) (by omega) (by omega)).trans h.2.1, fun j hj => ?_⟩
    have h2 := h.2.2 j hj
    rw [hw (a + 1 + 2 * (j : Int)) (by omega) (by omega), hw (a + 2 + 2 * (j : Int)) (by omega) (by omega)]
    cases e2 : z.2.2.2[j]? with
    | none => exact trivial
    | some d => rw [e2] at h2; exact h2.mv hs hq
theorem ZRt.mv {NW b q q' : Int} {w w' P A P' A' : Int → Int} {t : Option Den} (h : ZRt NW w b P A q t) (h0 : w' b = w b) (h1 : w' (b + 1) = w (b + 1)) (hs : ∀ j, j < q → P' j = P j ∧ A' j = A j) (hq : q ≤ q') : ZRt NW w' b P' A' q' t := by
  unfold ZRt at h ⊢
  rw [h0, h1]
  cases t with
  | none => exact h
  | some d => exact ⟨h.1.mv hs hq, h.2⟩
theorem rw8 {o : Int} : (o = 0 ∧ rwid o = 8 ∧ rtst o = 5 ∧ rcel o = 84) ∨ (¬ o = 0 ∧ rwid o = 10 ∧ rtst o = 7 ∧ rcel o = 107) := by
  unfold rwid rtst rcel
  by_cases e : o = 0
  · rw [if_pos e, if_pos e, if_pos e]; exact .inl ⟨e, rfl, rfl, rfl⟩
  · rw [if_neg e, if_neg e, if_neg e]; exact .inr ⟨e, rfl, rfl, rfl⟩
/-- rows that stand: behind them all may change -/
theorem ZRx.mv {c c' : Cm} {o i k q q' : Int} {z : Orc} (h : ZRx c o i q z) (hi : 0 ≤ i ∧ i < k) (hw : ∀ j, j < rwid o * k → c' (rcel o) j = c (rcel o) j) (hs : ∀ j, j < q → c' 85 j = c 85 j ∧ c' 86 j = c 86 j) (hq : q ≤ q') : ZRx c' o i q' z := by
  have r := rw8 (o := o)
  have e : ∀ j, rwid o * i ≤ j → j < rwid o * i + rwid o → c' (rcel o) j = c (rcel o) j := by
    intro j a b
    refine hw j ?_
    rcases r with ⟨_, r, _⟩ | ⟨_, r, _⟩ <;> rw [r] at b ⊢ <;> omega
  refine ⟨h.1.mv e hs hq, h.2.mv (e _ ?_ ?_) (e _ ?_ ?_) hs hq⟩
  all_goals rcases r with ⟨_, r, r2, _⟩ | ⟨_, r, r2, _⟩ <;> rw [r, r2] <;> omega
def LSt (c : Cm) (o : Int) (B : Int → Int) (L k p n q : Int) (F : List Orc) : Prop := EST c o B L p n q ∧ c 77 17 = k ∧ (F.length : Int) = k ∧ k ≤ 12 ∧ ∀ (i : Nat) (z : Orc), F[i]? = some z → ZRx c o i q z
/-- a clause under way -/
def LSu (c : Cm) (o : Int) (B : Int → Int) (L k p n q : Int) (F : List Orc) : Prop := EST c o B L p n q ∧ c 77 17 = k + 1 ∧ (F.length : Int) = k ∧ k < 12 ∧ ∀ (i : Nat) (z : Orc), F[i]? = some z → ZRx c o i q z
def RTD (c : Cm) (o : Int) (F : List Orc) : Prop := c 77 17 = (F.length : Int) ∧ F.length ≤ 12 ∧ (0 ≤ c 77 19 ∧ c 77 19 ≤ 400) ∧ ∀ (i : Nat) (z : Orc), F[i]? = some z → ZRx c o i (c 77 19) z
/-- what follows a text -/
def CNT (o : Int) (K : Cm → Prop) (c : Cm) (out : Ou2) : Prop := match out with
  | .inl f => ∀ c', Fr LXB c c' → c' 77 15 = 1 → c' 77 14 = f → c' 77 16 = 0 → c' 77 9 = 0 → K c'
  | .inr F => ∀ c', Fr LXB c c' → c' 77 15 = 0 → c' 77 14 = -1 → c' 77 16 = 0 → c' 77 9 = 0 → RTD c' o F → K c'
theorem CNT.fr {o : Int} {K : Cm → Prop} {c c1 : Cm} {out : Ou2} (h : CNT o K c out) (f : Fr LXB c c1) : CNT o K c1 out := by
  rcases out with x | F
  · exact fun c' f' => h c' (f.trans f')
  · exact fun c' f' => h c' (f.trans f')
/-- the loop over clauses: X reads one, H is the loop's head, K what holds behind endText -/
def HDP (T : List Shp) (Q : Res → Prop) (K : Cm → Prop) (X : Nat) (H : Cm → Res) : Prop := ∀ c : Cm, (((c 77 15) = 0 → (((c 77 12) = 3 ∧ (c 77 13) = 59 → QV T (fun c1 => QV T (fun c2 => Q (H c2)) (ccal X [vR 78] (SH T, c1))) (ccal 220 [vR 78] (SH T, c))) ∧ (¬ ((c 77 12) = 3 ∧ (c 77 13) = 59) → QV T K (ccal 243 [vR 78] (SH T, c))))) ∧ (¬ (c 77 15) = 0 → QV T K (ccal 243 [vR 78] (SH T, c)))) → Q (H c)
def YR (T : List Shp) (o : Int) (B : Int → Int) (L : Int) (X : Nat) (H : Cm → Res) (E2 E3 : Int → Cm → Res) (Z : Cm → Int → Int → Orc → Prop) : GY := fun m k p n F z out => ∀ (Q : Res → Prop) (K : Cm → Prop), HDP T Q K X H → match m with
  | 0 => ∀ c q, LSt c o B L k p n q F → CNT o K c out → QV T (fun c2 => Q (H c2)) (ccal X [vR 78] (SH T, c))
  | 2 => ¬ o = 0 → ∀ c q, LSu c o B L k p n q F → z.2.2.1 = none → z.2.1 = 1 → Z c k q z → CNT o K c out → QV T (fun c2 => Q (H c2)) (E2 k c)
  | 3 => ∀ c q, LSu c o B L k p n q F → z.2.2.1 = none → Z c k q z → (¬ o = 0 → c 107 (10 * k + 9) = z.2.1) → CNT o K c out → QV T (fun c2 => Q (H c2)) (E3 k c)
  | _ => ∀ c q, LSt c o B L (k + 1) p n q F → CNT o K c out → Q (H c)
/-- the text went wrong: at the loop's head -/
theorem hd_bad {T : List Shp} {Q : Res → Prop} {K : Cm → Prop} {X : Nat} {H : Cm → Res} {o f : Int} {c c1 : Cm} (hh : HDP T Q K X H) (k : CNT o K c (.inl f)) (fr : Fr LXB c c1) (h15 : c1 77 15 = 1) (h14 : c1 77 14 = f) : Q (H c1) := by
  refine hh c1 ⟨fun z => absurd (h15.symm.trans z) (by decide), fun _ => W_X12_endText (Q := QV T K) ⟨fun z => absurd (h15.symm.trans z) (by decide), fun _ => QV.ret (k _ ((fr.wr (by unfold LXB; omega)).wr (by unfold LXB; omega)) ?_ ?_ ?_ up_same)⟩⟩
  · rw [up_ne (by decide), up_ne (by decide)]; exact h15
  · rw [up_ne (by decide), up_ne (by decide)]; exact h14
  · rw [up_ne (by decide), up_same]
section AFS
variable {T : List Shp} {o : Int} {B : Int → Int} {L : Int} {X : Nat} {H : Cm → Res} {E2 E3 : Int → Cm → Res} {Z : Cm → Int → Int → Orc → Prop}
theorem yr_af1 {k p n : Int} {F : List Orc} (h0 : kd B L p = 3) : YR T o B L X H E2 E3 Z 4 k p n F zo (.inr F) := by
  intro Q K hh c q hl kk
  obtain ⟨h1, h2, h3, h4, h5⟩ := hl
  have pL := h1.1.pL
  have e12 := h1.1.e.mpr h0
  have hb := h1.2.2.2.2.2.1
  have hq := h1.2.2.2.2.2.2.1
  have e19 := h1.2.2.2.2.1
  refine hh c ⟨fun _ => ⟨fun z => absurd (e12.symm.trans z.1) (by decide), fun _ => W_X12_endText (Q := QV T K) ⟨fun _ => ⟨fun _ => QV.ret (kk _ ((Fr.rfl.wr (by unfold LXB; omega)).wr (by unfold LXB; omega)) ?_ ?_ ?_ up_same ?_), fun z => absurd e12 z⟩, fun z => absurd hb.1 z⟩⟩, fun z => absurd hb.1 z⟩
  · rw [up_ne (by decide), up_ne (by decide)]; exact hb.1
  · rw [up_ne (by decide), up_ne (by decide)]; exact hb.2
  · rw [up_ne (by decide), up_same]
  · have g19 : up (up c 77 16 0) 77 9 0 77 19 = c 77 19 := by rw [up_ne (by decide), up_ne (by decide)]
    refine ⟨by rw [up_ne (by decide), up_ne (by decide)]; omega, by omega, by rw [g19]; omega, fun i z hz => ?_⟩
    rw [g19, e19]
    have r := rw8 (o := o)
    have il : i < F.length := by
      by_cases e : i < F.length
      · exact e
      · rw [List.getElem?_eq_none (by omega)] at hz; exact absurd hz (by simp)
    refine (h5 i z hz).mv (k := k + 1) (by omega) (fun j _ => ?_) (fun j _ => ⟨by rw [up_cell (by decide), up_cell (by decide)], by rw [up_cell (by decide), up_cell (by decide)]⟩) (Int.le_refl _)
    rcases r with ⟨_, _, _, r⟩ | ⟨_, _, _, r⟩ <;> rw [r, up_cell (by decide), up_cell (by decide)]
theorem yr_af2 {k p n : Int} {F : List Orc} {out : Ou2} (h0 : isg B L p 59) (hY : YR T o B L X H E2 E3 Z 0 (k + 1) (nx B L p) n F zo out) : YR T o B L X H E2 E3 Z 4 k p n F zo out := by
  intro Q K hh c q hl kk
  obtain ⟨h1, h2, h3, h4, h5⟩ := hl
  have hb := h1.2.2.2.2.2.1
  refine hh c ⟨fun _ => ⟨fun _ => h1.1.next.mono fun c1 g1 => ?_, fun z => absurd (h1.1.g.mpr h0) z⟩, fun z => absurd hb.1 z⟩
  have nb := nx_bd (B := B) h1.1.pL.2.1
  have g : ∀ j, 14 ≤ j → c1 77 j = c 77 j := fun j a => g1.1 77 j (by unfold NXR; omega)
  refine hY Q K hh c1 q ⟨⟨g1.2, h1.2.1.nxr (g1.1.mono fun q j a => a.rxa), (g 16 (by decide)).trans h1.2.2.1, (g 22 (by decide)).trans h1.2.2.2.1, (g 19 (by decide)).trans h1.2.2.2.2.1, ⟨(g 15 (by decide)).trans hb.1, (g 14 (by decide)).trans hb.2⟩, by have := h1.2.2.2.2.2.2.1; omega, h1.2.2.2.2.2.2.2⟩, (g 17 (by decide)).trans h2, h3, h4, fun i z hz => ?_⟩ (kk.fr (g1.1.mono fun q j a => a.rxa.lxb))
  have il : i < F.length := by
    by_cases e : i < F.length
    · exact e
    · rw [List.getElem?_eq_none (by omega)] at hz; exact absurd hz (by simp)
  refine (h5 i z hz).mv (k := k + 1) (by omega) (fun j _ => ?_) (fun j _ => ⟨g1.1 85 j (by unfold NXR; omega), g1.1 86 j (by unfold NXR; omega)⟩) (Int.le_refl _)
  have r := rw8 (o := o)
  exact g1.1 _ j (by unfold NXR; rcases r with ⟨_, _, _, r⟩ | ⟨_, _, _, r⟩ <;> rw [r] <;> omega)
theorem yr_af3 {k p n : Int} {F : List Orc} (h0 : ¬ kd B L p = 3) (h1' : ¬ isg B L p 59) : YR T o B L X H E2 E3 Z 4 k p n F zo (.inl p) := by
  intro Q K hh c q hl kk
  obtain ⟨h1, h2, h3, h4, h5⟩ := hl
  have hb := h1.2.2.2.2.2.1
  refine hh c ⟨fun _ => ⟨fun z => absurd (h1.1.g.mp z) h1', fun _ => W_X12_endText (Q := QV T K) ⟨fun _ => ⟨fun z => absurd (h1.1.e.mp z) h0, fun _ => (r_mustF h1.1 hb.1).mono fun c1 g1 => ?_⟩, fun z => absurd hb.1 z⟩⟩, fun z => absurd hb.1 z⟩
  refine QV.ret (kk _ ?_ ?_ ?_ ?_ up_same)
  · rw [g1]
    exact (((Fr.rfl.wr (by unfold LXB RXA; omega)).wr (by unfold LXB RXA; omega)).wr (by unfold LXB; omega)).wr (by unfold LXB; omega)
  · rw [up_ne (by decide), up_ne (by decide), g1, up_ne (by decide), up_same]
  · rw [up_ne (by decide), up_ne (by decide), g1, up_same]
  · rw [up_ne (by decide), up_same]
end AFS

theorem r_line {T : List Shp} {c : Cm} {F : List Clz} {y i : Int} (h : RWd c F) : QI T (fun r c' => r = (if 0 ≤ y ∧ y < 100 then lin F (c 79) y i else -1) ∧ Off [92, 94, 106] [0, 30, 34, 35, 36] c c') (ccal 325 [vR 78, vI y, vI i] (SH T, c)) := by
  have h1 := h.1.1
  have o0 : Off [92, 94, 106] [0, 30, 34, 35, 36] c (up c 77 0 0) := Off.rfl.wr rfl
  refine W_X12_line (Q := QI T _) ⟨fun h2 => ?_, fun h2 => QI.ret ⟨by rw [if_neg h2], o0⟩⟩
  rw [if_pos h2]
  refine lpI (E := fun q (s : Int × Cm) => cev 325 7 19 [vR 78, vI y, vI i, vI s.1, vI q, vU, vU] [] (SH T, s.2)) (fun q s => (0 ≤ q ∧ q ≤ c 79 6) ∧ s.1 = cnt (il F (c 79) y) q ∧ (∀ o, 0 ≤ o → o < q → s.2 106 o = if il F (c 79) y o = true then rnk F (c 79) o y else 100000000) ∧ Off [92, 94, 106] [0, 30, 34, 35, 36] c s.2) (c 79 6) ?_ ?_ 0 (0, up c 77 0 0) ⟨by omega, rfl, fun o a b => by omega, o0⟩
  · intro q s hq hI ih
    obtain ⟨i0, i1, i2, i3⟩ := hI
    have es := i3.row rfl
    have cb := cnt_bd (p := il F (c 79) y) (n := q) i0.1
    rw [← i1] at cb
    have rk := rnk_bd (F := F) (R := c 79) (x := q) (y := y)
    have step : ∀ (v : Int) (u : Cm), v = (if il F (c 79) y q = true then rnk F (c 79) q y else 100000000) → (∀ o, 0 ≤ o → o < q → u 106 o = if il F (c 79) y o = true then rnk F (c 79) o y else 100000000) → Off [92, 94, 106] [0, 30, 34, 35, 36] c u → QI T (fun r c' => r = lin F (c 79) y i ∧ Off [92, 94, 106] [0, 30, 34, 35, 36] c c') (cev 325 7 70 [vR 78, vI y, vI i, vI s.1, vI q, vU, vU] [vI v, vI q, vR 107] (SH T, u)) := by
      intro v u hv hu ou
      have hw : ∀ o, 0 ≤ o → o < q + 1 → up u 106 q v 106 o = if il F (c 79) y o = true then rnk F (c 79) o y else 100000000 := by
        intro o a b
        rw [up_at]
        by_cases e : o = q
        · rw [if_pos e, e]; exact hv
        · rw [if_neg e]; exact hu o a (by omega)
      refine W_X12_line_70 ?_
      rw [up_same]
      refine ⟨by omega, fun h3 => ⟨by omega, ih (s.1 + 1, up u 106 q v) ⟨by omega, ?_, hw, ou.wr rfl⟩⟩, fun h3 => ⟨by omega, ih (s.1 + 0, up u 106 q v) ⟨by omega, ?_, hw, ou.wr rfl⟩⟩⟩
      · have : il F (c 79) y q = true := by
          cases g : il F (c 79) y q with
          | true => rfl
          | false => rw [g, if_neg (by decide)] at hv; omega
        show s.1 + 1 = _
        rw [cnt_succ i0.1, if_pos this, i1]
      · have : il F (c 79) y q = false := by
          cases g : il F (c 79) y q with
          | false => rfl
          | true => rw [g, if_pos rfl] at hv; omega
        show s.1 + 0 = _
        rw [cnt_succ i0.1, this, if_neg (by decide), i1, Int.add_zero]
    refine W_X12_line_19 ?_
    rw [es]
    refine ⟨fun _ => ⟨by omega, fun h3 => ?_, fun h3 => step _ s.2 ?_ i2 i3⟩, fun h => absurd hq h⟩
    · refine (r_isOut (h.off i3 rfl) (q := q) (y := y) (by rw [es]; omega) (by omega)).mono fun r1 c2 h4 => ?_
      rw [es] at h4
      have o2 : Off [92, 94, 106] [0, 30, 34, 35, 36] c c2 := i3.trans (h4.2.mono rfl rfl)
      have e2 := o2.row rfl
      rw [h4.1]
      refine ⟨fun h5 => ?_, fun h5 => step _ c2 ?_ (fun o a b => by rw [h4.2.cell rfl]; exact i2 o a b) o2⟩
      · refine (r_ranks (h.off o2 rfl) (q := q) (y := y) (by rw [e2]; omega) (by omega)).mono fun r3 c4 h6 => ?_
        rw [e2] at h6
        refine step _ c4 ?_ (fun o a b => by rw [h6.2.cell rfl, h4.2.cell rfl]; exact i2 o a b) (o2.trans (h6.2.mono rfl rfl))
        rw [if_pos (il_iff.mpr ⟨h3, b01_e0 h5⟩)]
        exact h6.1
      · rw [if_neg]
        intro g
        have := (il_iff.mp g).2
        rw [b01_ne h5] at this
        exact absurd this (by decide)
    · rw [if_neg (fun g => h3 (il_iff.mp g).1)]
  · intro q s hq hI
    obtain ⟨i0, i1, i2, i3⟩ := hI
    have : q = c 79 6 := by omega
    subst this
    have es := i3.row rfl
    have fin : ((i = -1 ∨ frst (fun q => il F (c 79) y q && decide (cnt (fun o => il F (c 79) y o && bfr F (c 79) y o q) (c 79 6) = i)) (c 79 6) = -1)) → QI T (fun r c' => r = lin F (c 79) y i ∧ Off [92, 94, 106] [0, 30, 34, 35, 36] c c') (cev 325 7 221 [vU, vU, vI i, vI s.1, vU, vU, vU] [] (SH T, s.2)) := by
      intro hh
      refine W_X12_line_221 ⟨fun h3 => QI.ret ⟨?_, i3⟩, fun h3 => QI.ret ⟨?_, i3⟩⟩
      · unfold lin
        rw [if_pos h3]; exact i1
      · unfold lin
        rw [if_neg h3]
        rcases hh with hh | hh
        · exact absurd hh h3
        · exact hh.symm
    refine W_X12_line_19 ?_
    rw [es]
    refine ⟨fun h => absurd h (by omega), fun _ => ?_⟩
    refine lpI (E := fun q (_ : Unit) => cev 325 7 101 [vR 78, vU, vI i, vI s.1, vI q, vU, vU] [] (SH T, s.2)) (fun q _ => (0 ≤ q ∧ q ≤ c 79 6) ∧ (i = -1 → q = 0) ∧ ∀ k, 0 ≤ k → k < q → (il F (c 79) y k && decide (cnt (fun o => il F (c 79) y o && bfr F (c 79) y o k) (c 79 6) = i)) = false) (c 79 6) ?_ ?_ 0 () ⟨by omega, fun _ => rfl, fun k a b => by omega⟩
    · intro q _ hq hU ihq
      refine W_X12_line_101 ?_
      rw [es]
      refine ⟨fun _ => ⟨fun h3 => fin (.inl h3), fun h3 => ?_⟩, fun h => absurd hq h⟩
      refine lpI (E := fun o (n : Int) => cev 325 7 124 [vR 78, vU, vI i, vI s.1, vI q, vI n, vI o] [] (SH T, s.2)) (fun o n => (0 ≤ o ∧ o ≤ c 79 6) ∧ (0 ≤ n ∧ n ≤ o) ∧ (il F (c 79) y q = true → n = cnt (fun o => il F (c 79) y o && bfr F (c 79) y o q) o)) (c 79 6) ?_ ?_ 0 0 ⟨by omega, by omega, fun _ => rfl⟩
      · intro o n ho hN iho
        have rq := rnk_bd (F := F) (R := c 79) (x := q) (y := y)
        have ro := rnk_bd (F := F) (R := c 79) (x := o) (y := y)
        have cs : il F (c 79) y q = true → cnt (fun o => il F (c 79) y o && bfr F (c 79) y o q) (o + 1) = if (il F (c 79) y o && bfr F (c 79) y o q) = true then n + 1 else n := fun g => by rw [cnt_succ hN.1.1, hN.2.2 g]
        have gq := i2 q (by omega) hq
        have go := i2 o hN.1.1 ho
        refine W_X12_line_124 ?_
        rw [es, gq, go]
        have tr : il F (c 79) y q = true → ((if il F (c 79) y o = true then rnk F (c 79) o y else 100000000) < (if il F (c 79) y q = true then rnk F (c 79) q y else 100000000) ∨ ((if il F (c 79) y o = true then rnk F (c 79) o y else 100000000) = (if il F (c 79) y q = true then rnk F (c 79) q y else 100000000) ∧ o < q)) → cnt (fun o => il F (c 79) y o && bfr F (c 79) y o q) (o + 1) = n + 1 := by
          intro g g2
          rw [cs g]
          rw [g, if_pos rfl] at g2
          cases e : il F (c 79) y o with
          | true =>
            rw [e, if_pos rfl] at g2
            rw [show bfr F (c 79) y o q = true from decide_eq_true g2, if_pos (by decide)]
          | false => rw [e, if_neg (by decide)] at g2; omega
        have fl : il F (c 79) y q = true → ¬ ((if il F (c 79) y o = true then rnk F (c 79) o y else 100000000) < (if il F (c 79) y q = true then rnk F (c 79) q y else 100000000) ∨ ((if il F (c 79) y o = true then rnk F (c 79) o y else 100000000) = (if il F (c 79) y q = true then rnk F (c 79) q y else 100000000) ∧ o < q)) → cnt (fun o => il F (c 79) y o && bfr F (c 79) y o q) (o + 1) = n := by
          intro g g2
          rw [cs g]
          rw [g, if_pos rfl] at g2
          cases e : il F (c 79) y o with
          | true =>
            rw [e, if_pos rfl] at g2
            rw [show bfr F (c 79) y o q = false from decide_eq_false g2, if_neg (by decide)]
          | false => rw [Bool.false_and, if_neg (by decide)]
        refine ⟨fun _ => ⟨by omega, fun h4 => ⟨by omega, iho _ ⟨by omega, by omega, fun g => (tr g (.inl h4)).symm⟩⟩, fun h4 => ⟨by omega, fun h5 => ⟨fun h6 => ⟨by omega, iho _ ⟨by omega, by omega, fun g => (tr g (.inr ⟨h5, h6⟩)).symm⟩⟩, fun h6 => ⟨by omega, iho _ ⟨by omega, by omega, fun g => ?_⟩⟩⟩, fun h5 => ⟨by omega, iho _ ⟨by omega, by omega, fun g => ?_⟩⟩⟩⟩, fun h => absurd ho h⟩
        · rw [fl g (fun z => by rcases z with z | z; exact h4 z; exact h6 z.2), Int.add_zero]
        · rw [fl g (fun z => by rcases z with z | z; exact h4 z; exact h5 z.1), Int.add_zero]
      · intro o n ho hN
        have : o = c 79 6 := by omega
        subst this
        have rq := rnk_bd (F := F) (R := c 79) (x := q) (y := y)
        refine W_X12_line_124 ?_
        rw [es, i2 q (by omega) hq]
        refine ⟨fun h => absurd h (by omega), fun _ => ⟨by omega, fun h4 => ?_, fun h4 => ⟨by omega, ihq () ⟨by omega, fun e => absurd e h3, fun k a b => ?_⟩⟩⟩⟩
        · have g : il F (c 79) y q = true := by
            cases g : il F (c 79) y q with
            | true => rfl
            | false => rw [g, if_neg (by decide)] at h4; omega
          have hn := hN.2.2 g
          refine ⟨fun h5 => QI.ret ⟨?_, i3⟩, fun h5 => ⟨by omega, ihq () ⟨by omega, fun e => absurd e h3, fun k a b => ?_⟩⟩⟩
          · unfold lin
            rw [if_neg h3]
            refine (frst_at (fun k a b => hU.2.2 k a b) (by omega) hq ?_).symm
            show (il F (c 79) y q && decide (cnt (fun o => il F (c 79) y o && bfr F (c 79) y o q) (c 79 6) = i)) = true
            rw [g, ← hn, decide_eq_true h5]
            rfl
          · by_cases e : k = q
            · rw [e, ← hn, decide_eq_false h5, Bool.and_false]
            · exact hU.2.2 k a (by omega)
        · by_cases e : k = q
          · cases g : il F (c 79) y q with
            | true => rw [g, if_pos rfl] at h4; omega
            | false => rw [e, g, Bool.false_and]
          · exact hU.2.2 k a (by omega)
    · intro q _ hq hU
      have : q = c 79 6 := by omega
      subst this
      refine W_X12_line_101 ?_
      rw [es]
      exact ⟨fun h => absurd h (by omega), fun _ => fin (.inr (frst_none (fun k a b => hU.2.2 k a b) (by omega)))⟩
/-! CENTURIES -/
def nxy (s : Int) : Int := (s * 1103 + 12345) % 1000003
def shf (d : Int) : Int := if d = 0 then -1 else if d = 1 then 1 else 0
def udD (D : Int → Int) (i v : Int) : Int → Int := fun j => if j = i then v else D j
def cn1 (F : List Clz) (R : Int → Int) (y p x : Int) (s : Int × (Int → Int)) : Int × (Int → Int) := (nxy s.1, udD s.2 x (clp (brs R p x (s.2 x) (lk F R x y) + shf (nxy s.1 % 8)) 0 9))
def cny (F : List Clz) (R : Int → Int) (y : Int) (s : Int × (Int → Int)) : Int × (Int → Int) := foldI (cn1 F R y (nxy s.1 % R 0)) (nxy s.1, udD s.2 (12 + nxy s.1 % R 0) (s.2 (12 + nxy s.1 % R 0) + 1)) 12
def cen (F : List Clz) (R : Int → Int) (seed n : Int) : Int × (Int → Int) := foldI (fun i s => cny F R (R 4 + 1 + i) s) (seed, fun i => if i < 12 then R (12 + 12 * R 4 + i) else 0) (if 0 < R 0 then n else 0)
def SB (s : Int × (Int → Int)) (k : Int) : Prop := (0 ≤ s.1 ∧ s.1 ≤ 1000002) ∧ (∀ x, 0 ≤ x → x < 12 → 0 ≤ s.2 x ∧ s.2 x ≤ 9) ∧ ∀ p, 0 ≤ p → p < 5 → 0 ≤ s.2 (12 + p) ∧ s.2 (12 + p) ≤ k
theorem nxy_bd {s : Int} : 0 ≤ nxy s ∧ nxy s ≤ 1000002 := by unfold nxy; omega
theorem cn1_SB {F : List Clz} {R : Int → Int} {y p x k : Int} {s : Int × (Int → Int)} (hx : 0 ≤ x ∧ x < 12) (h : SB s k) : SB (cn1 F R y p x s) k := by
  refine ⟨nxy_bd, fun z a b => ?_, fun q a b => ?_⟩
  · show 0 ≤ udD _ _ _ z ∧ udD _ _ _ z ≤ 9
    unfold udD
    split
    · exact clp_bd (by omega)
    · exact h.2.1 z a b
  · show 0 ≤ udD _ _ _ (12 + q) ∧ udD _ _ _ (12 + q) ≤ k
    unfold udD
    rw [if_neg (by omega)]
    exact h.2.2 q a b
theorem y0_SB {s : Int × (Int → Int)} {k p : Int} (hp : 0 ≤ p ∧ p < 5) (h : SB s k) : SB (nxy s.1, udD s.2 (12 + p) (s.2 (12 + p) + 1)) (k + 1) := by
  refine ⟨nxy_bd, fun z a b => ?_, fun q a b => ?_⟩
  · show 0 ≤ udD _ _ _ z ∧ udD _ _ _ z ≤ 9
    unfold udD
    rw [if_neg (by omega)]
    exact h.2.1 z a b
  · show 0 ≤ udD _ _ _ (12 + q) ∧ udD _ _ _ (12 + q) ≤ k + 1
    have := h.2.2 p hp.1 hp.2
    have := h.2.2 q a b
    unfold udD
    split <;> omega
theorem cnyf_SB {F : List Clz} {R : Int → Int} {y p k b : Int} {s : Int × (Int → Int)} (h : SB s k) (hb : 0 ≤ b ∧ b ≤ 12) : SB (foldI (cn1 F R y p) s b) k := foldI_ind (fun _ s => SB s k) h (fun i s a c hs => cn1_SB (by omega) hs) hb.1
theorem cny_SB {F : List Clz} {R : Int → Int} {y k : Int} {s : Int × (Int → Int)} (h0 : 0 < R 0 ∧ R 0 ≤ 5) (h : SB s k) : SB (cny F R y s) (k + 1) := by
  have := Int.emod_nonneg (nxy s.1) (b := R 0) (by omega)
  have := Int.emod_lt_of_pos (nxy s.1) (b := R 0) h0.1
  exact cnyf_SB (y0_SB (by omega) h) (by omega)
/-- the class's cells of its century -/
def CI (c : Cm) (s : Int × (Int → Int)) : Prop := c 73 2 = s.1 ∧ (∀ x, 0 ≤ x → x < 12 → c 75 x = s.2 x) ∧ ∀ p, 0 ≤ p → p < 5 → c 74 p = s.2 (12 + p)
theorem CI.off {L : List Nat} {G : List Int} {c c' : Cm} {s : Int × (Int → Int)} (h : CI c s) (o : Off L G c c') (hl : (L.contains 73 || L.contains 74 || L.contains 75) = false) : CI c' s := by
  have h2 := Bool.or_eq_false_iff.mp hl
  have h3 := Bool.or_eq_false_iff.mp h2.1
  unfold CI
  rw [o.cell (q := 73) (by rw [h3.1]; rfl), o.cell (q := 74) (by rw [h3.2]; rfl), o.cell (q := 75) (by rw [h2.2]; rfl)]
  exact h
theorem c_draw {T : List Shp} {c : Cm} {b : Int} (hs : 0 ≤ c 73 2 ∧ c 73 2 ≤ 1000002) (hb : 0 < b) : ccal 4 [vR 74, vI b] (SH T, c) = some (some (vI (nxy (c 73 2) % b)), (SH T, up c 73 2 (nxy (c 73 2)))) := by
  have := nxy_bd (s := c 73 2)
  refine W_X0_draw (Q := fun Z => Z = some (some (vI (nxy (c 73 2) % b)), (SH T, up c 73 2 (nxy (c 73 2))))) ⟨by omega, fun _ => ⟨?_, rfl⟩, fun h => absurd hb h⟩
  exact ⟨⟨this.1, Int.lt_of_le_of_lt this.2 (by decide)⟩, hb⟩
theorem c_paintOne {T : List Shp} {c : Cm} {R : Int → Int} {F : List Clz} {y k : Int} {s : Int × (Int → Int)} (h : CWd T c R F) (hC : CI c s) (hS : SB s k) (hk : 0 ≤ k ∧ k < 1000) (hy : 0 ≤ y ∧ y ≤ 200) (h0 : 0 < R 0) (h3 : c 73 3 = R 0) : QV T (fun c' => CI c' (cny F R y s) ∧ (∀ j, j ≠ 2 → c' 73 j = c 73 j) ∧ Off [14, 15, 16, 17, 73, 74, 75] [] c c') (ccal 3 [vR 74, vI y] (SH T, c)) := by
  have hR := h.2.1
  have h1 := hR.1
  have p0 := Int.emod_nonneg (nxy s.1) (b := R 0) (by omega)
  have p1 := Int.emod_lt_of_pos (nxy s.1) (b := R 0) h0
  refine W_X0_paintOne (Q := QV T _) ?_
  rw [h3]
  refine QI.of_eq (c_draw (by rw [hC.1]; exact hS.1) h0) ?_
  rw [hC.1, up_cell (show 74 ≠ 73 by decide), hC.2.2 _ p0 (by omega)]
  have b2 := hS.2.2 _ p0 (by omega)
  refine ⟨by omega, ?_⟩
  generalize hp : nxy s.1 % R 0 = p at *
  have ce : cny F R y s = foldI (cn1 F R y p) (nxy s.1, udD s.2 (12 + p) (s.2 (12 + p) + 1)) 12 := by unfold cny; rw [hp]
  have C0 : CI (up (up c 73 2 (nxy s.1)) 74 p (s.2 (12 + p) + 1)) (nxy s.1, udD s.2 (12 + p) (s.2 (12 + p) + 1)) := by
    refine ⟨?_, fun x a b => ?_, fun q a b => ?_⟩
    · rw [up_cell (by decide), up_same]
    · rw [up_cell (by decide), up_cell (by decide), hC.2.1 x a b]
      show _ = udD _ _ _ x
      unfold udD
      rw [if_neg (by omega)]
    · rw [up_at]
      show _ = udD _ _ _ (12 + q)
      unfold udD
      by_cases e : q = p
      · rw [if_pos e, if_pos (by omega)]
      · rw [if_neg e, if_neg (by omega), up_cell (by decide)]
        exact hC.2.2 q a b
  have S0 := y0_SB (p := p) (by omega) hS
  rw [ce]
  refine lpI (E := fun x (u : Cm) => cev 3 5 21 [vR 74, vI y, vI p, vI x, vU, vU, vU, vU] [] (SH T, u)) (fun x u => (0 ≤ x ∧ x ≤ 12) ∧ CI u (foldI (cn1 F R y p) (nxy s.1, udD s.2 (12 + p) (s.2 (12 + p) + 1)) x) ∧ (∀ j, j ≠ 2 → u 73 j = c 73 j) ∧ Off [14, 15, 16, 17, 73, 74, 75] [] c u) 12 ?_ ?_ 0 _ ⟨by omega, C0, fun j hj => ?_, (Off.rfl.wr rfl).wr rfl⟩
  · intro x u hx hI ih
    obtain ⟨i0, i1, i2, i3⟩ := hI
    have hu := h.off i3 rfl
    have SBx := cnyf_SB (F := F) (R := R) (y := y) (p := p) (b := x) S0 (by omega)
    have fs := foldI_succ (f := cn1 F R y p) (x := (nxy s.1, udD s.2 (12 + p) (s.2 (12 + p) + 1))) i0.1
    generalize foldI (cn1 F R y p) (nxy s.1, udD s.2 (12 + p) (s.2 (12 + p) + 1)) x = w at *
    refine W_X0_paintOne_21 ⟨fun _ => ?_, fun h => absurd hx h⟩
    refine (c_looksOf hu.1 hR hu.2.2 (x := x) (y := y) (by omega) hy).mono fun r1 c2 h5 => ⟨by omega, ?_⟩
    have hu2 := hu.off h5.2 rfl
    have C2 := i1.off h5.2 rfl
    have t9 := SBx.2.1 x i0.1 hx
    rw [h5.1, C2.2.1 x i0.1 hx]
    have lb := lk_bd (F := F) (x := x) (y := y) hR
    refine QI.of_eq (c_brushed hu2.1 hR ⟨p0, p1⟩ ⟨i0.1, hx⟩ t9 lb) ?_
    refine QI.of_eq (c_draw (b := 8) (by rw [C2.1]; exact SBx.1) (by omega)) ?_
    rw [C2.1]
    have bb := brs_bd (R := R) (p := p) (x := x) (t := w.2 x) (a := lk F R x y)
    have nxt : ∀ v, v = shf (nxy w.1 % 8) → QV T (fun c' => CI c' (foldI (cn1 F R y p) (nxy s.1, udD s.2 (12 + p) (s.2 (12 + p) + 1)) 12) ∧ (∀ j, j ≠ 2 → c' 73 j = c 73 j) ∧ Off [14, 15, 16, 17, 73, 74, 75] [] c c') (cev 3 5 85 [vR 74, vI y, vI p, vI x, vU, vI (brs R p x (w.2 x) (lk F R x y)), vU, vU] [vI v] (SH T, up c2 73 2 (nxy w.1))) := by
      intro v hv
      have vb : -1 ≤ v ∧ v ≤ 1 := by rw [hv]; unfold shf; split <;> (try split) <;> omega
      refine W_X0_paintOne_85 ⟨by omega, ih _ ⟨by omega, ?_, fun j hj => ?_, ((i3.trans (h5.2.mono rfl rfl)).wr rfl).wr rfl⟩⟩
      · rw [fs]
        refine ⟨?_, fun z a b => ?_, fun q a b => ?_⟩
        · rw [up_cell (by decide), up_same]; rfl
        · rw [up_at, up_cell (by decide)]
          show _ = udD _ _ _ z
          unfold udD
          by_cases e : z = x
          · rw [if_pos e, if_pos e, hv]
          · rw [if_neg e, if_neg e]; exact C2.2.1 z a b
        · rw [up_cell (by decide), up_cell (by decide)]
          show _ = udD _ _ _ (12 + q)
          unfold udD
          rw [if_neg (by omega)]
          exact C2.2.2 q a b
      · rw [up_cell (by decide), up_ne hj, h5.2.cell rfl]
        exact i2 j hj
    refine ⟨fun h6 => nxt _ ?_, fun h6 => ⟨fun h7 => nxt _ ?_, fun h7 => nxt _ ?_⟩⟩
    · unfold shf; rw [if_pos h6]
    · unfold shf; rw [if_neg h6, if_pos h7]
    · unfold shf; rw [if_neg h6, if_neg h7]
  · intro x u hx hI
    have : x = 12 := by omega
    subst this
    refine W_X0_paintOne_21 ⟨fun h => absurd h (by omega), fun _ => QV.ret ⟨hI.2.1, hI.2.2.1, hI.2.2.2⟩⟩
  · rw [up_cell (by decide), up_ne hj]
theorem cen_SB {F : List Clz} {R : Int → Int} {seed n : Int} (hR : RNG R) (hs : 0 ≤ seed ∧ seed ≤ 1000000) (h0 : 0 < R 0) (hn : 0 ≤ n) : SB (foldI (fun i s => cny F R (R 4 + 1 + i) s) (seed, fun i => if i < 12 then R (12 + 12 * R 4 + i) else 0) n) n := by
  have h1 := hR.1
  refine foldI_ind (fun i s => SB s i) ⟨(show 0 ≤ seed ∧ seed ≤ 1000002 by omega), fun x a b => ?_, fun p a b => ?_⟩ (fun i s a b hs => cny_SB ⟨h0, by omega⟩ hs) hn
  · show 0 ≤ (if x < 12 then R (12 + 12 * R 4 + x) else 0) ∧ (if x < 12 then R (12 + 12 * R 4 + x) else 0) ≤ 9
    rw [if_pos b]
    exact hR.tone (by omega) ⟨a, b⟩
  · show 0 ≤ (if 12 + p < 12 then R (12 + 12 * R 4 + (12 + p)) else 0) ∧ (if 12 + p < 12 then R (12 + 12 * R 4 + (12 + p)) else 0) ≤ 0
    rw [if_neg (by omega)]
    omega
theorem cen_pic {F : List Clz} {R : Int → Int} {seed n : Int} (hR : RNG R) (hs : 0 ≤ seed ∧ seed ≤ 1000000) (hn : 0 ≤ n) : ∀ x, 0 ≤ x → x < 12 → 0 ≤ (cen F R seed n).2 x ∧ (cen F R seed n).2 x ≤ 9 := by
  have h1 := hR.1
  unfold cen
  by_cases h0 : 0 < R 0
  · rw [if_pos h0]
    exact (cen_SB hR hs h0 hn).2.1
  · rw [if_neg h0]
    intro x a b
    show 0 ≤ (if x < 12 then R (12 + 12 * R 4 + x) else 0) ∧ (if x < 12 then R (12 + 12 * R 4 + x) else 0) ≤ 9
    rw [if_pos b]
    exact hR.tone (by omega) ⟨a, b⟩
theorem c_pass {T : List Shp} {c : Cm} {R : Int → Int} {F : List Clz} {seed n : Int} (h : CWd T c R F) (hs : 0 ≤ seed ∧ seed ≤ 1000000) (hn : 0 ≤ n ∧ n ≤ 40) (hy : R 4 + n < 100) : QV T (fun c' => CI c' (cen F R seed n) ∧ c' 73 3 = R 0 ∧ c' 73 7 = 1 ∧ c' 73 6 = ulk (cen F R seed n).2 (fun x => lk F R x (R 4 + n)) ∧ Off [14, 15, 16, 17, 73, 74, 75] [] c c') (ccal 1 [vR 74, vI seed, vI n] (SH T, c)) := by
  have hR := h.2.1
  have h1 := hR.1
  refine W_X0_pass (Q := QV T _) ?_
  rw [h.1.1.2.2.2.2.1, h.1.1.1]
  refine ⟨by omega, ?_⟩
  have oS : Off [14, 15, 16, 17, 73, 74, 75] [] c (cpy (up (up (up c 73 2 seed) 73 3 (R 0)) 73 7 1) 7 (R 4 * 12) 75 0 12) := (((Off.rfl.wr rfl).wr rfl).wr rfl).cp rfl
  refine lpI (E := fun k (u : Cm) => cev 1 6 50 [vR 74, vU, vI n, vI k, vU] [] (SH T, u)) (fun k u => (0 ≤ k ∧ k ≤ 5) ∧ Off [74] [] (cpy (up (up (up c 73 2 seed) 73 3 (R 0)) 73 7 1) 7 (R 4 * 12) 75 0 12) u ∧ ∀ p, 0 ≤ p → p < k → u 74 p = 0) 5 ?_ ?_ 0 _ ⟨by omega, Off.rfl, fun p a b => by omega⟩
  · intro k u hk hI ih
    refine W_X0_pass_50 ⟨fun _ => ⟨by omega, ih _ ⟨by omega, hI.2.1.wr rfl, fun p a b => ?_⟩⟩, fun h => absurd hk h⟩
    rw [up_at]
    by_cases e : p = k
    · rw [if_pos e]
    · rw [if_neg e]; exact hI.2.2 p a (by omega)
  · intro k u hk hI
    have : k = 5 := by omega
    subst this
    have o5 : Off [14, 15, 16, 17, 73, 74, 75] [] c u := oS.trans (hI.2.1.mono rfl rfl)
    have hu := h.off o5 rfl
    refine W_X0_pass_50 ⟨fun h => absurd h (by omega), fun _ => ?_⟩
    rw [hu.1.1.2.2.2.2.1]
    refine ⟨by omega, ?_⟩
    have e73 : u 73 = (up (up (up c 73 2 seed) 73 3 (R 0)) 73 7 1) 73 := (hI.2.1.cell rfl).trans (cpy_cell (by decide))
    have C0 : CI u (seed, fun i => if i < 12 then R (12 + 12 * R 4 + i) else 0) := by
      refine ⟨?_, fun x a b => ?_, fun p a b => ?_⟩
      · rw [e73, up_ne (by decide), up_ne (by decide), up_same]
      · rw [hI.2.1.cell (q := 75) rfl, cpy_at (by omega), up_cell (by decide), up_cell (by decide), up_cell (by decide)]
        show _ = if x < 12 then _ else _
        rw [if_pos b, show R 4 * 12 + (x - 0) = R 4 * 12 + x from by omega]
        exact h.tone (by omega) ⟨a, b⟩
      · rw [hI.2.2 p a b]
        show _ = if 12 + p < 12 then _ else _
        rw [if_neg (by omega)]
    have k3 : u 73 3 = R 0 := by rw [e73, up_ne (by decide), up_same]
    have k7 : u 73 7 = 1 := by rw [e73, up_same]
    have endc : ∀ v : Cm, CI v (cen F R seed n) → v 73 3 = R 0 → v 73 7 = 1 → Off [14, 15, 16, 17, 73, 74, 75] [] c v → QV T (fun c' => CI c' (cen F R seed n) ∧ c' 73 3 = R 0 ∧ c' 73 7 = 1 ∧ c' 73 6 = ulk (cen F R seed n).2 (fun x => lk F R x (R 4 + n)) ∧ Off [14, 15, 16, 17, 73, 74, 75] [] c c') (cev 1 6 122 [vR 74, vU, vU, vI (R 4 + n), vI 0] [] (SH T, up v 73 6 0)) := by
      intro v v0 v3 v7 ov
      have pic := cen_pic (F := F) hR hs hn.1
      refine lpI (E := fun x (w : Cm) => cev 1 6 122 [vR 74, vU, vU, vI (R 4 + n), vI x] [] (SH T, w)) (fun x w => (0 ≤ x ∧ x ≤ 12) ∧ CI w (cen F R seed n) ∧ w 73 3 = R 0 ∧ w 73 7 = 1 ∧ w 73 6 = foldI (fun x n' => n' + abz ((cen F R seed n).2 x - lk F R x (R 4 + n))) 0 x ∧ Off [14, 15, 16, 17, 73, 74, 75] [] c w) 12 ?_ ?_ 0 _ ⟨by omega, ?_, ?_, ?_, ?_, ov.wr rfl⟩
      · intro x w hx hW ih
        obtain ⟨w0, w1, w3, w7, w6, ow⟩ := hW
        have hw := h.off ow rfl
        refine W_X0_pass_122 ⟨fun _ => ⟨by omega, ?_⟩, fun h => absurd hx h⟩
        refine (c_looksOf hw.1 hR hw.2.2 (x := x) (y := R 4 + n) (by omega) (by omega)).mono fun r c2 h5 => ?_
        rw [w1.2.1 x w0.1 hx, h5.1, w6]
        have b := ulk_bd (P := (cen F R seed n).2) (L := fun x => lk F R x (R 4 + n)) (b := x) w0.1 (fun z q1 q2 => pic z q1 (by omega)) (fun z _ _ => lk_bd hR)
        have b1 := pic x w0.1 hx
        have b2 := lk_bd (F := F) (x := x) (y := R 4 + n) hR
        have b3 := abz_bd (v := (cen F R seed n).2 x - lk F R x (R 4 + n))
        have b4 := b3.2 (by omega) (by omega)
        have C2 := w1.off h5.2 rfl
        have e2 : c2 73 = w 73 := h5.2.cell rfl
        refine ⟨by omega, ih _ ⟨by omega, ⟨?_, ?_, ?_⟩, ?_, ?_, ?_, (ow.trans (h5.2.mono rfl rfl)).wr rfl⟩⟩
        · rw [up_ne (by decide)]; exact C2.1
        · intro z a b
          rw [up_cell (by decide)]; exact C2.2.1 z a b
        · intro q a b
          rw [up_cell (by decide)]; exact C2.2.2 q a b
        · rw [up_ne (by decide), e2]; exact w3
        · rw [up_ne (by decide), e2]; exact w7
        · rw [up_same, foldI_succ w0.1]
      · intro x w hx hW
        obtain ⟨w0, w1, w3, w7, w6, ow⟩ := hW
        have : x = 12 := by omega
        subst this
        refine W_X0_pass_122 ⟨fun h => absurd h (by omega), fun _ => QV.ret ⟨w1, w3, w7, w6, ow⟩⟩
      · refine ⟨?_, fun z a b => ?_, fun q a b => ?_⟩
        · rw [up_ne (by decide)]; exact v0.1
        · rw [up_cell (by decide)]; exact v0.2.1 z a b
        · rw [up_cell (by decide)]; exact v0.2.2 q a b
      · rw [up_ne (by decide)]; exact v3
      · rw [up_ne (by decide)]; exact v7
      · exact up_same
    by_cases h0 : 0 < R 0
    · have ce : cen F R seed n = foldI (fun i s => cny F R (R 4 + 1 + i) s) (seed, fun i => if i < 12 then R (12 + 12 * R 4 + i) else 0) n := by unfold cen; rw [if_pos h0]
      rw [← Int.add_zero (R 4 + 1)]
      refine lpI (E := fun i (v : Cm) => cev 1 6 89 [vR 74, vU, vU, vI (R 4 + n), vI (R 4 + 1 + i)] [] (SH T, v)) (fun i v => (0 ≤ i ∧ i ≤ n) ∧ CI v (foldI (fun i s => cny F R (R 4 + 1 + i) s) (seed, fun i => if i < 12 then R (12 + 12 * R 4 + i) else 0) i) ∧ v 73 3 = R 0 ∧ v 73 7 = 1 ∧ Off [14, 15, 16, 17, 73, 74, 75] [] c v) n ?_ ?_ 0 u ⟨by omega, C0, k3, k7, o5⟩
      · intro i v hi hV ih
        obtain ⟨v0, v1, v3, v7, ov⟩ := hV
        refine W_X0_pass_89 ⟨fun h => absurd h (by omega), fun _ => ⟨fun _ => ?_, fun h => absurd (by rw [v3]; exact h0) h⟩⟩
        refine (c_paintOne (h.off ov rfl) v1 (cen_SB hR hs h0 v0.1) (by omega) (y := R 4 + 1 + i) (by omega) h0 v3).mono fun c1 h5 => ⟨by omega, ?_⟩
        rw [show R 4 + 1 + i + 1 = R 4 + 1 + (i + 1) from by omega]
        refine ih c1 ⟨by omega, ?_, by rw [h5.2.1 3 (by decide)]; exact v3, by rw [h5.2.1 7 (by decide)]; exact v7, ov.trans h5.2.2⟩
        rw [foldI_succ v0.1]
        exact h5.1
      · intro i v hi hV
        obtain ⟨v0, v1, v3, v7, ov⟩ := hV
        have : i = n := by omega
        subst this
        rw [← ce] at v1
        refine W_X0_pass_89 ⟨fun _ => endc v v1 v3 v7 ov, fun h => absurd h (by omega)⟩
    · have ce : cen F R seed n = (seed, fun i => if i < 12 then R (12 + 12 * R 4 + i) else 0) := by unfold cen; rw [if_neg h0]; rfl
      rw [← ce] at C0
      refine W_X0_pass_89 ⟨fun _ => endc u C0 k3 k7 o5, fun _ => ⟨fun h => absurd (by rw [k3] at h; exact h) h0, fun _ => endc u C0 k3 k7 o5⟩⟩
/-! the reference's century -/
def RI (c : Cm) (s : Int × (Int → Int)) : Prop := c 77 57 = s.1 ∧ ∀ i, 0 ≤ i → i < 17 → c 108 i = s.2 i
theorem RI.off {L : List Nat} {G : List Int} {c c' : Cm} {s : Int × (Int → Int)} (h : RI c s) (o : Off L G c c') (hl : (L.contains 108 || L.contains 77 || G.contains 57) = false) : RI c' s := by
  have h2 := Bool.or_eq_false_iff.mp hl
  have h3 := Bool.or_eq_false_iff.mp h2.1
  unfold RI
  rw [o.cell (q := 108) (by rw [h3.1]; rfl), o.fld (by rw [h3.2, h2.2]; rfl)]
  exact h
theorem r_draw {T : List Shp} {c : Cm} {b : Int} (hs : 0 ≤ c 77 57 ∧ c 77 57 ≤ 1000002) (hb : 0 < b) : ccal 336 [vR 78, vI b] (SH T, c) = some (some (vI (nxy (c 77 57) % b)), (SH T, up c 77 57 (nxy (c 77 57)))) := by
  have n1 := nxy_bd (s := c 77 57)
  have m1 := Int.emod_nonneg (nxy (c 77 57)) (b := b) (by omega)
  have m2 := Int.emod_add_mul_ediv (nxy (c 77 57)) b
  have m3 := Int.mul_nonneg (Int.le_of_lt hb) (Int.ediv_nonneg n1.1 (Int.le_of_lt hb))
  refine W_X12_draw (Q := fun Z => Z = some (some (vI (nxy (c 77 57) % b)), (SH T, up c 77 57 (nxy (c 77 57))))) ⟨?_, ?_⟩
  · refine ⟨by omega, by omega, by omega, ⟨⟨n1.1, Int.lt_of_le_of_lt n1.2 (by decide)⟩, hb⟩⟩
  · show some (some (vI (w32 (nxy (c 77 57) % b))), _) = _
    rw [w32_id (by omega) (by omega)]
    rfl
theorem r_centuryA {T : List Shp} {c : Cm} {F : List Clz} {seed n : Int} (h : RWd c F) (hs : 0 ≤ seed ∧ seed ≤ 1000000) (hn : 0 ≤ n ∧ n ≤ 40) (hy : c 79 4 + n < 100) : QI T (fun r c' => r = ulk (cen F (c 79) seed n).2 (fun x => lk F (c 79) x (c 79 4 + n)) ∧ (∀ i, 0 ≤ i → i < 17 → c' 108 i = (cen F (c 79) seed n).2 i) ∧ c' 77 59 = 1 ∧ c' 77 60 = c 79 0 ∧ c' 77 1 = 0 ∧ Off [92, 94, 95, 108] [0, 1, 30, 34, 35, 36, 57, 59, 60] c c') (ccal 337 [vR 78, vI seed, vI n] (SH T, c)) := by
  have hR := h.1
  have h1 := hR.1
  refine W_X12_century (Q := QI T _) ⟨fun _ => ⟨fun _ => ⟨by omega, fun _ => ?_, fun h => absurd h (by omega)⟩, fun h => absurd h (by omega)⟩, fun h => absurd h (by omega)⟩
  have o0 : Off [92, 94, 95, 108] [0, 1, 30, 34, 35, 36, 57, 59, 60] c (up (up (up (up c 77 0 0) 77 57 seed) 77 59 1) 77 60 (c 79 0)) := (((Off.rfl.wr rfl).wr rfl).wr rfl).wr rfl
  have f57 : (up (up (up (up c 77 0 0) 77 57 seed) 77 59 1) 77 60 (c 79 0)) 77 57 = seed := by rw [up_ne (by decide), up_ne (by decide), up_same]
  have f59 : (up (up (up (up c 77 0 0) 77 57 seed) 77 59 1) 77 60 (c 79 0)) 77 59 = 1 := by rw [up_ne (by decide), up_same]
  have f60 : (up (up (up (up c 77 0 0) 77 57 seed) 77 59 1) 77 60 (c 79 0)) 77 60 = c 79 0 := up_same
  generalize up (up (up (up c 77 0 0) 77 57 seed) 77 59 1) 77 60 (c 79 0) = c0 at *
  refine lpI (E := fun k (u : Cm) => cev 337 8 70 [vR 78, vU, vI n, vI k, vU, vU, vU, vU] [] (SH T, u)) (fun k u => (0 ≤ k ∧ k ≤ 17) ∧ Off [108] [] c0 u ∧ ∀ i, 0 ≤ i → i < k → u 108 i = if i < 12 then c 79 (12 + 12 * c 79 4 + i) else 0) 17 ?_ ?_ 0 c0 ⟨by omega, Off.rfl, fun i a b => by omega⟩
  · intro k u hk hI ih
    have eu : u 79 = c 79 := (hI.2.1.row rfl).trans (o0.row rfl)
    refine W_X12_century_70 ?_
    rw [eu]
    refine ⟨fun _ => ⟨fun h2 => ⟨by omega, ih _ ⟨by omega, hI.2.1.wr rfl, fun i a b => ?_⟩⟩, fun h2 => ⟨by omega, ih _ ⟨by omega, hI.2.1.wr rfl, fun i a b => ?_⟩⟩⟩, fun h => absurd hk h⟩
    · rw [up_at]
      by_cases e : i = k
      · rw [if_pos e, e, if_pos h2]
      · rw [if_neg e]; exact hI.2.2 i a (by omega)
    · rw [up_at]
      by_cases e : i = k
      · rw [if_pos e, e, if_neg h2]
      · rw [if_neg e]; exact hI.2.2 i a (by omega)
  · intro k u hk hI
    have : k = 17 := by omega
    subst this
    have ou : Off [92, 94, 95, 108] [0, 1, 30, 34, 35, 36, 57, 59, 60] c u := o0.trans (hI.2.1.mono rfl rfl)
    have eu := ou.row rfl
    have R0 : RI u (seed, fun i => if i < 12 then c 79 (12 + 12 * c 79 4 + i) else 0) := ⟨by rw [hI.2.1.fld rfl]; exact f57, hI.2.2⟩
    have u59 : u 77 59 = 1 := by rw [hI.2.1.fld rfl]; exact f59
    have u60 : u 77 60 = c 79 0 := by rw [hI.2.1.fld rfl]; exact f60
    refine W_X12_century_70 ?_
    rw [eu]
    refine ⟨fun h => absurd h (by omega), fun _ => ⟨by omega, ?_⟩⟩
    have endc : ∀ v : Cm, (∀ i, 0 ≤ i → i < 17 → v 108 i = (cen F (c 79) seed n).2 i) → v 77 59 = 1 → v 77 60 = c 79 0 → Off [92, 94, 95, 108] [0, 1, 30, 34, 35, 36, 57, 59, 60] c v → QI T (fun r c' => r = ulk (cen F (c 79) seed n).2 (fun x => lk F (c 79) x (c 79 4 + n)) ∧ (∀ i, 0 ≤ i → i < 17 → c' 108 i = (cen F (c 79) seed n).2 i) ∧ c' 77 59 = 1 ∧ c' 77 60 = c 79 0 ∧ c' 77 1 = 0 ∧ Off [92, 94, 95, 108] [0, 1, 30, 34, 35, 36, 57, 59, 60] c c') (cev 337 8 251 [vR 78, vU, vI n, vU, vU, vU, vU, vU] [] (SH T, v)) := by
      intro v v0 v59 v60 ov
      have pic := cen_pic (F := F) hR hs hn.1
      refine W_X12_century_251 ?_
      rw [ov.row rfl]
      refine ⟨by omega, (r_layLooks (h.off ov rfl) (y := c 79 4 + n) (by omega)).mono fun c1 h2 => ?_⟩
      rw [ov.row rfl] at h2
      have o1 : Off [92, 94, 95, 108] [0, 1, 30, 34, 35, 36, 57, 59, 60] c c1 := ov.trans (h2.2.2.mono rfl rfl)
      have k1 : ∀ i, 0 ≤ i → i < 17 → c1 108 i = (cen F (c 79) seed n).2 i := fun i a b => by rw [h2.2.2.cell rfl]; exact v0 i a b
      refine lpI (E := fun x (m : Int) => cev 337 8 266 [vR 78, vU, vI n, vI m, vI x, vU, vU, vU] [] (SH T, c1)) (fun x m => (0 ≤ x ∧ x ≤ 12) ∧ m = foldI (fun x n' => n' + abz ((cen F (c 79) seed n).2 x - lk F (c 79) x (c 79 4 + n))) 0 x) 12 ?_ ?_ 0 0 ⟨by omega, rfl⟩
      · intro x m hx hM ih
        have b := ulk_bd (P := (cen F (c 79) seed n).2) (L := fun x => lk F (c 79) x (c 79 4 + n)) (b := x) hM.1.1 (fun z q1 q2 => pic z q1 (by omega)) (fun z _ _ => lk_bd hR)
        rw [← hM.2] at b
        have b1 := pic x hM.1.1 hx
        have b2 := lk_bd (F := F) (x := x) (y := c 79 4 + n) hR
        have b3 := abz_bd (v := (cen F (c 79) seed n).2 x - lk F (c 79) x (c 79 4 + n))
        have b4 := b3.2 (by omega) (by omega)
        refine W_X12_century_266 ⟨fun _ => ?_, fun h => absurd hx h⟩
        rw [o1.row rfl, k1 x hM.1.1 (by omega), h2.1 x hM.1.1 hx]
        refine ⟨by omega, ih _ ⟨by omega, ?_⟩⟩
        rw [foldI_succ hM.1.1, ← hM.2]
      · intro x m hx hM
        have : x = 12 := by omega
        subst this
        have b := ulk_bd (P := (cen F (c 79) seed n).2) (L := fun x => lk F (c 79) x (c 79 4 + n)) (b := 12) (by omega) pic (fun z _ _ => lk_bd hR)
        rw [← hM.2] at b
        refine W_X12_century_266 ⟨fun h => absurd h (by omega), fun _ => ⟨b.1, QI.ret ⟨hM.2, fun i a b => ?_, ?_, ?_, up_same, o1.wr rfl⟩⟩⟩
        · rw [up_cell (by decide)]; exact k1 i a b
        · rw [up_ne (by decide), h2.2.2.fld rfl]; exact v59
        · rw [up_ne (by decide), h2.2.2.fld rfl]; exact v60
    by_cases h0 : 0 < c 79 0
    · have ce : cen F (c 79) seed n = foldI (fun i s => cny F (c 79) (c 79 4 + 1 + i) s) (seed, fun i => if i < 12 then c 79 (12 + 12 * c 79 4 + i) else 0) n := by unfold cen; rw [if_pos h0]
      rw [← Int.add_zero (c 79 4 + 1)]
      refine lpI (E := fun i (v : Cm) => cev 337 8 110 [vR 78, vU, vI n, vI (c 79 4 + 1 + i), vU, vU, vU, vU] [] (SH T, v)) (fun i v => (0 ≤ i ∧ i ≤ n) ∧ RI v (foldI (fun i s => cny F (c 79) (c 79 4 + 1 + i) s) (seed, fun i => if i < 12 then c 79 (12 + 12 * c 79 4 + i) else 0) i) ∧ v 77 59 = 1 ∧ v 77 60 = c 79 0 ∧ Off [92, 94, 95, 108] [0, 1, 30, 34, 35, 36, 57, 59, 60] c v) n ?_ ?_ 0 u ⟨by omega, R0, u59, u60, ou⟩
      · intro i v hi hV ih
        obtain ⟨v0, v1, v59, v60, ov⟩ := hV
        have ev := ov.row rfl
        have S := cen_SB (F := F) hR hs h0 v0.1
        have fs := foldI_succ (f := fun i s => cny F (c 79) (c 79 4 + 1 + i) s) (x := (seed, fun i => if i < 12 then c 79 (12 + 12 * c 79 4 + i) else 0)) v0.1
        generalize foldI (fun i s => cny F (c 79) (c 79 4 + 1 + i) s) (seed, fun i => if i < 12 then c 79 (12 + 12 * c 79 4 + i) else 0) i = s at *
        refine W_X12_century_110 ?_
        rw [ev]
        refine ⟨by omega, fun h => absurd h (by omega), fun _ => ⟨fun _ => ?_, fun h => absurd h0 h⟩⟩
        refine (r_layLooks (h.off ov rfl) (y := c 79 4 + 1 + i) (by omega)).mono fun c1 h2 => ?_
        rw [ev] at h2
        have o1 : Off [92, 94, 95, 108] [0, 1, 30, 34, 35, 36, 57, 59, 60] c c1 := ov.trans (h2.2.2.mono rfl rfl)
        have e1 := o1.row rfl
        have R1 := v1.off h2.2.2 rfl
        rw [e1]
        refine QI.of_eq (r_draw (by rw [R1.1]; exact S.1) h0) ?_
        have p0 := Int.emod_nonneg (nxy s.1) (b := c 79 0) (by omega)
        have p1 := Int.emod_lt_of_pos (nxy s.1) (b := c 79 0) h0
        rw [R1.1, up_cell (show 108 ≠ 77 by decide), R1.2 (12 + nxy s.1 % c 79 0) (by omega) (by omega)]
        have b2 := S.2.2 _ p0 (by omega)
        refine ⟨by omega, ?_⟩
        generalize hp : nxy s.1 % c 79 0 = p at *
        have cy : cny F (c 79) (c 79 4 + 1 + i) s = foldI (cn1 F (c 79) (c 79 4 + 1 + i) p) (nxy s.1, udD s.2 (12 + p) (s.2 (12 + p) + 1)) 12 := by unfold cny; rw [hp]
        have S0 := y0_SB (p := p) (by omega) S
        have R2 : RI (up (up c1 77 57 (nxy s.1)) 108 (12 + p) (s.2 (12 + p) + 1)) (nxy s.1, udD s.2 (12 + p) (s.2 (12 + p) + 1)) := by
          refine ⟨?_, fun k a b => ?_⟩
          · rw [up_cell (by decide), up_same]
          · rw [up_at]
            show _ = udD _ _ _ k
            unfold udD
            by_cases e : k = 12 + p
            · rw [if_pos e, if_pos e]
            · rw [if_neg e, if_neg e, up_cell (by decide)]
              exact R1.2 k a b
        have o2 : Off [92, 94, 95, 108] [0, 1, 30, 34, 35, 36, 57, 59, 60] c (up (up c1 77 57 (nxy s.1)) 108 (12 + p) (s.2 (12 + p) + 1)) := (o1.wr rfl).wr rfl
        have g59 : (up (up c1 77 57 (nxy s.1)) 108 (12 + p) (s.2 (12 + p) + 1)) 77 59 = 1 := by rw [up_cell (by decide), up_ne (by decide), h2.2.2.fld rfl]; exact v59
        have g60 : (up (up c1 77 57 (nxy s.1)) 108 (12 + p) (s.2 (12 + p) + 1)) 77 60 = c 79 0 := by rw [up_cell (by decide), up_ne (by decide), h2.2.2.fld rfl]; exact v60
        have l2 : LK (up (up c1 77 57 (nxy s.1)) 108 (12 + p) (s.2 (12 + p) + 1)) F (c 79) (c 79 4 + 1 + i) := fun x a b => by rw [up_cell (by decide), up_cell (by decide)]; exact h2.1 x a b
        generalize up (up c1 77 57 (nxy s.1)) 108 (12 + p) (s.2 (12 + p) + 1) = c2 at *
        refine lpI (E := fun x (u : Cm) => cev 337 8 163 [vR 78, vU, vI n, vI (c 79 4 + 1 + i), vI p, vI x, vU, vU] [] (SH T, u)) (fun x u => (0 ≤ x ∧ x ≤ 12) ∧ RI u (foldI (cn1 F (c 79) (c 79 4 + 1 + i) p) (nxy s.1, udD s.2 (12 + p) (s.2 (12 + p) + 1)) x) ∧ Off [108] [57] c2 u) 12 ?_ ?_ 0 c2 ⟨by omega, R2, Off.rfl⟩
        · intro x u hx hI2 ihx
          obtain ⟨i0, i1, i3⟩ := hI2
          have ou2 : Off [92, 94, 95, 108] [0, 1, 30, 34, 35, 36, 57, 59, 60] c u := o2.trans (i3.mono rfl rfl)
          have eu2 := ou2.row rfl
          have SBx := cnyf_SB (F := F) (R := c 79) (y := c 79 4 + 1 + i) (p := p) (b := x) S0 (by omega)
          have fsx := foldI_succ (f := cn1 F (c 79) (c 79 4 + 1 + i) p) (x := (nxy s.1, udD s.2 (12 + p) (s.2 (12 + p) + 1))) i0.1
          generalize foldI (cn1 F (c 79) (c 79 4 + 1 + i) p) (nxy s.1, udD s.2 (12 + p) (s.2 (12 + p) + 1)) x = w at *
          have t9 := SBx.2.1 x i0.1 hx
          refine W_X12_century_163 ⟨fun _ => ⟨by omega, ?_⟩, fun h => absurd hx h⟩
          rw [i1.2 x i0.1 (by omega)]
          refine QI.of_eq (r_painted (h.off ou2 rfl) (by rw [eu2]; omega) (by omega) (by omega) t9 (by rw [eu2]; exact l2.off i3 rfl)) ?_
          rw [eu2]
          refine QI.of_eq (r_draw (b := 8) (by rw [i1.1]; exact SBx.1) (by omega)) ?_
          rw [i1.1]
          have bb := brs_bd (R := c 79) (p := p) (x := x) (t := w.2 x) (a := lk F (c 79) x (c 79 4 + 1 + i))
          have stp : ∀ v, v = clp (brs (c 79) p x (w.2 x) (lk F (c 79) x (c 79 4 + 1 + i)) + shf (nxy w.1 % 8)) 0 9 → RI (up (up u 77 57 (nxy w.1)) 108 x v) (cn1 F (c 79) (c 79 4 + 1 + i) p x w) := by
            intro v hv
            refine ⟨?_, fun k a b => ?_⟩
            · rw [up_cell (by decide), up_same]; rfl
            · rw [up_at]
              show _ = udD _ _ _ k
              unfold udD
              by_cases e : k = x
              · rw [if_pos e, if_pos e]; exact hv
              · rw [if_neg e, if_neg e, up_cell (by decide)]; exact i1.2 k a b
          refine ⟨fun h6 => ⟨by omega, ihx _ ⟨by omega, ?_, (i3.wr rfl).wr rfl⟩⟩, fun h6 => ⟨fun h7 => ⟨by omega, ihx _ ⟨by omega, ?_, (i3.wr rfl).wr rfl⟩⟩, fun h7 => ⟨by omega, ihx _ ⟨by omega, ?_, (i3.wr rfl).wr rfl⟩⟩⟩⟩
          · rw [fsx]
            refine stp _ ?_
            unfold shf
            rw [if_pos h6]
            rfl
          · rw [fsx]
            refine stp _ ?_
            unfold shf
            rw [if_neg h6, if_pos h7]
          · rw [fsx]
            refine stp _ ?_
            unfold shf
            rw [if_neg h6, if_neg h7, Int.add_zero]
        · intro x u hx hI2
          obtain ⟨i0, i1, i3⟩ := hI2
          have : x = 12 := by omega
          subst this
          refine W_X12_century_163 ⟨fun h => absurd h (by omega), fun _ => ⟨by omega, ?_⟩⟩
          rw [show c 79 4 + 1 + i + 1 = c 79 4 + 1 + (i + 1) from by omega]
          refine ih u ⟨by omega, ?_, by rw [i3.fld rfl]; exact g59, by rw [i3.fld rfl]; exact g60, o2.trans (i3.mono rfl rfl)⟩
          rw [fs]
          show RI u (cny F (c 79) (c 79 4 + 1 + i) s)
          rw [cy]
          exact i1
      · intro i v hi hV
        obtain ⟨v0, v1, v59, v60, ov⟩ := hV
        have : i = n := by omega
        subst this
        rw [← ce] at v1
        refine W_X12_century_110 ?_
        rw [ov.row rfl]
        refine ⟨by omega, fun _ => endc v v1.2 v59 v60 ov, fun h => absurd h (by omega)⟩
    · have ce : cen F (c 79) seed n = (seed, fun i => if i < 12 then c 79 (12 + 12 * c 79 4 + i) else 0) := by unfold cen; rw [if_neg h0]; rfl
      rw [← ce] at R0
      refine W_X12_century_110 ?_
      rw [eu]
      refine ⟨by omega, fun _ => endc u R0.2 u59 u60 ou, fun _ => ⟨fun h => absurd h h0, fun _ => endc u R0.2 u59 u60 ou⟩⟩

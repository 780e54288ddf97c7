theorem chs_rng {F : List Clz} {R : Int → Int} {y : Int} (h6 : 0 ≤ R 6) : -1 ≤ chs F R y ∧ chs F R y < R 6 ∧ (chs F R y ≠ -1 → il F R y (chs F R y) = true) := by
  unfold chs
  rcases chs_spec (F := F) (R := R) (y := y) h6 with ⟨e, h3⟩ | ⟨q, hq, iq, e, h3⟩
  · rw [e]; exact ⟨by decide, by show (-1 : Int) < R 6; omega, fun h => absurd rfl h⟩
  · rw [e]; exact ⟨by show (-1 : Int) ≤ q; omega, hq.2, fun _ => iq⟩
theorem rl_step {F : List Clz} {R : Int → Int} {y : Int} (hy : 0 ≤ y) : rl F R y = if rl F R (y - 1) ≠ -1 ∧ (R (348 + 4 * rl F R (y - 1) + 1) ≤ y ∧ y < R (348 + 4 * rl F R (y - 1) + 2)) then rl F R (y - 1) else chs F R y := by
  unfold rl
  rw [foldI_succ hy, show y - 1 + 1 = y from by omega]
theorem rl_rng {F : List Clz} {R : Int → Int} {y : Int} (h6 : 0 ≤ R 6) (hy : -1 ≤ y) : -1 ≤ rl F R y ∧ rl F R y < R 6 := by
  unfold rl
  refine foldI_ind (fun _ v => -1 ≤ v ∧ v < R 6) (by omega) ?_ (by omega)
  intro i v a b hv
  split
  · exact hv
  · have := chs_rng (F := F) (y := i) h6
    exact ⟨this.1, this.2.1⟩
theorem c_crownTill {T : List Shp} {c : Cm} {R : Int → Int} {F : List Clz} {l : Int} (h : CWd T c R F) (hl : 0 ≤ l ∧ l < 100) : QV T (fun c' => (∀ y, 0 ≤ y → y ≤ l → c' 57 y = rl F R y) ∧ Off [14, 15, 16, 17, 55, 56, 57, 58] [] c c') (ccal 13 [vR 56, vI l] (SH T, c)) := by
  have hR := h.2.1
  have h1 := hR.1
  refine W_X2_crownTill (Q := QV T _) ?_
  refine lpI (E := fun y (s : Int × Cm) => cev 13 6 4 [vR 56, vI l, vI s.1, vI y] [] (SH T, s.2)) (fun y s => (0 ≤ y ∧ y ≤ l + 1) ∧ s.1 = rl F R (y - 1) ∧ (∀ z, 0 ≤ z → z < y → s.2 57 z = rl F R z) ∧ Off [14, 15, 16, 17, 55, 56, 57, 58] [] c s.2) (l + 1) ?_ ?_ 0 (-1, c) ⟨by omega, rfl, fun z a b => by omega, Off.rfl⟩
  · intro y s hy hI ih
    obtain ⟨i0, i1, i2, i3⟩ := hI
    have hs := h.off i3 rfl
    have rr := rl_rng (F := F) (R := R) (y := y - 1) (by omega) (by omega)
    have st := rl_step (F := F) (R := R) (y := y) i0.1
    rw [i1]
    have nxt : ∀ (v : Int) (u : Cm), v = rl F R y → Off [14, 15, 16, 17, 55, 56, 57, 58] [] c u → (∀ z, 0 ≤ z → z < y → u 57 z = rl F R z) → QV T (fun c' => (∀ y, 0 ≤ y → y ≤ l → c' 57 y = rl F R y) ∧ Off [14, 15, 16, 17, 55, 56, 57, 58] [] c c') (cev 13 6 4 [vR 56, vI l, vI v, vI (y + 1)] [] (SH T, up u 57 y v)) := by
      intro v u hv ou hu
      refine ih (v, up u 57 y v) ⟨by omega, ?_, fun z a b => ?_, ou.wr rfl⟩
      · rw [show y + 1 - 1 = y from by omega]; exact hv
      · show up u 57 y v 57 z = _
        rw [up_at]
        by_cases e : z = y
        · rw [if_pos e, e]; exact hv
        · rw [if_neg e]; exact hu z a (by omega)
    have anew : rl F R y = chs F R y → QV T (fun c' => (∀ y, 0 ≤ y → y ≤ l → c' 57 y = rl F R y) ∧ Off [14, 15, 16, 17, 55, 56, 57, 58] [] c c') (cev 13 6 32 [vR 56, vI l, vU, vI y] [] (SH T, s.2)) := by
      intro e
      refine W_X2_crownTill_32 ?_
      refine (c_standInLine hs (y := y) (by omega)).mono fun c1 h2 => ?_
      have o1 : Off [14, 15, 16, 17, 55, 56, 57, 58] [] c c1 := i3.trans (h2.2.mono rfl rfl)
      have hu : ∀ z, 0 ≤ z → z < y → c1 57 z = rl F R z := fun z a b => by rw [h2.2.cell rfl]; exact i2 z a b
      have hf := h2.1.first (by omega)
      refine ⟨fun h3 => ⟨by omega, ?_⟩, fun h3 => ⟨by omega, ?_⟩⟩
      · rw [if_pos h3] at hf
        exact nxt _ c1 (by rw [e, hf]) o1 hu
      · rw [if_neg h3] at hf
        exact nxt _ c1 (by rw [e, hf]) o1 hu
    refine W_X2_crownTill_4 ⟨fun h => absurd h (by omega), fun _ => ⟨fun _ => ⟨fun h2 => anew ?_, fun h2 => ?_⟩, fun h => absurd h (by omega)⟩⟩
    · rw [st, if_neg (fun q => q.1 h2)]
    · have g1 := hs.1.2.2.2.2.2.2 (rl F R (y - 1) * 4 + 1) (by omega) (by omega)
      have g2 := hs.1.2.2.2.2.2.2 (rl F R (y - 1) * 4 + 2) (by omega) (by omega)
      rw [show 348 + (rl F R (y - 1) * 4 + 1) = 348 + 4 * rl F R (y - 1) + 1 from by omega] at g1
      rw [show 348 + (rl F R (y - 1) * 4 + 2) = 348 + 4 * rl F R (y - 1) + 2 from by omega] at g2
      rw [g1, g2]
      refine ⟨by omega, fun h3 => ⟨by omega, nxt _ s.2 ?_ i3 i2⟩, fun h3 => anew ?_⟩
      · rw [st, if_pos ⟨h2, h3⟩]
      · rw [st, if_neg (fun q => h3 q.2)]
  · intro y s hy hI
    refine W_X2_crownTill_4 ⟨fun _ => QV.ret ⟨fun z a b => hI.2.2.1 z a (by omega), hI.2.2.2⟩, fun h => absurd h (by omega)⟩
theorem c_begins {T : List Shp} {c : Cm} {R : Int → Int} {F : List Clz} {y : Int} (h : ∀ y, 0 ≤ y → y < 100 → c 57 y = rl F R y) (hy : 0 ≤ y ∧ y < 100) : ccal 17 [vR 56, vI y] (SH T, c) = some (some (vI (b01 (bgn F R y = true))), (SH T, c)) := by
  generalize hZ : (some (some (vI (b01 (bgn F R y = true))), (SH T, c)) : Res) = Z
  have t : bgn F R y = true → some (some (vI 1), (SH T, c)) = Z := fun q => by rw [← hZ, b01_t q]
  have f : bgn F R y = false → some (some (vI 0), (SH T, c)) = Z := fun q => by rw [← hZ, b01_f (by rw [q]; decide)]
  refine W_X2_begins (Q := fun Y => Y = Z) ⟨by omega, ?_⟩
  rw [h y hy.1 hy.2]
  refine ⟨fun h2 => f ?_, fun h2 => ⟨fun h3 => t ?_, fun h3 => ⟨by omega, ?_⟩⟩⟩
  · exact decide_eq_false (fun q => q.1 h2)
  · exact decide_eq_true ⟨h2, .inl h3⟩
  · rw [h (y - 1) (by omega) (by omega)]
    refine ⟨fun h4 => f ?_, fun h4 => t ?_⟩
    · exact decide_eq_false (fun q => by rcases q.2 with q | q; exact h3 q; exact q h4)
    · exact decide_eq_true ⟨h2, .inr h4⟩
/-- how long: out of where it ends -/
theorem len_of {F : List Clz} {R : Int → Int} {y e : Int} (h : 0 ≤ y ∧ y < e ∧ e ≤ 100) (hs : ∀ z, y ≤ z → z < e → rl F R z = rl F R y) (he : e < 100 → rl F R e ≠ rl F R y) : len F R y = e - y := by
  unfold len
  by_cases e100 : e < 100
  · have : frst (fun k => decide (rl F R (y + k) ≠ rl F R y)) (100 - y) = e - y := by
      refine frst_at (fun k a b => decide_eq_false fun q => q (hs _ (by omega) (by omega))) (by omega) (by omega) ?_
      show decide (rl F R (y + (e - y)) ≠ rl F R y) = true
      rw [show y + (e - y) = e from by omega]
      exact decide_eq_true (he e100)
    rw [this, if_neg (by omega)]
  · have : frst (fun k => decide (rl F R (y + k) ≠ rl F R y)) (100 - y) = -1 := by
      refine frst_none (fun k a b => decide_eq_false fun q => q (hs _ (by omega) (by omega))) (by omega)
    rw [this, if_pos rfl]
    omega
theorem c_lasts {T : List Shp} {c : Cm} {R : Int → Int} {F : List Clz} {y : Int} (h : ∀ y, 0 ≤ y → y < 100 → c 57 y = rl F R y) (hy : 0 ≤ y ∧ y < 100) : ccal 18 [vR 56, vI y] (SH T, c) = some (some (vI (len F R y)), (SH T, c)) := by
  refine W_X2_lasts (Q := fun Z => Z = some (some (vI (len F R y)), (SH T, c))) ?_
  refine lpI (Q := fun Z => Z = some (some (vI (len F R y)), (SH T, c))) (E := fun e (_ : Unit) => cev 18 1 2 [vR 56, vI y, vI e] [] (SH T, c)) (fun e _ => (y ≤ e ∧ e ≤ 100) ∧ ∀ z, y ≤ z → z < e → rl F R z = rl F R y) 100 ?_ ?_ y () ⟨by omega, fun z a b => by omega⟩
  · intro e _ he hI ih
    refine W_X2_lasts_2 (Q := fun Z => Z = some (some (vI (len F R y)), (SH T, c))) ⟨fun _ => ⟨by omega, ?_⟩, fun h => absurd he h⟩
    rw [h e (by omega) he, h y hy.1 hy.2]
    refine ⟨fun h2 => ⟨by omega, ih () ⟨by omega, fun z a b => ?_⟩⟩, fun h2 => ⟨by omega, ?_⟩⟩
    · by_cases q : z = e
      · rw [q]; exact h2
      · exact hI.2 z a (by omega)
    · have hye : y < e := by
        by_cases q : y = e
        · exact absurd (by rw [q]) h2
        · omega
      rw [len_of ⟨hy.1, hye, by omega⟩ hI.2 (fun _ => h2)]
  · intro e _ he hI
    have : e = 100 := by omega
    subst this
    refine W_X2_lasts_2 (Q := fun Z => Z = some (some (vI (len F R y)), (SH T, c))) ⟨fun h => absurd h (by omega), fun _ => ⟨by omega, ?_⟩⟩
    rw [len_of ⟨hy.1, hy.2, by omega⟩ hI.2 (fun q => absurd q (by omega))]
theorem c_reigns {T : List Shp} {c : Cm} {R : Int → Int} {F : List Clz} (h : ∀ y, 0 ≤ y → y < 100 → c 57 y = rl F R y) : ccal 14 [vR 56] (SH T, c) = some (some (vI (cnt (bgn F R) 100)), (SH T, c)) := by
  refine W_X2_reigns (Q := fun Z => Z = some (some (vI (cnt (bgn F R) 100)), (SH T, c))) ?_
  refine lpI (Q := fun Z => Z = some (some (vI (cnt (bgn F R) 100)), (SH T, c))) (E := fun y (n : Int) => cev 14 2 4 [vR 56, vI n, vI y] [] (SH T, c)) (fun y n => (0 ≤ y ∧ y ≤ 100) ∧ n = cnt (bgn F R) y) 100 ?_ ?_ 0 0 ⟨by omega, rfl⟩
  · intro y n hy hI ih
    have cb := cnt_bd (p := bgn F R) (n := y) (by omega)
    refine W_X2_reigns_4 (Q := fun Z => Z = some (some (vI (cnt (bgn F R) 100)), (SH T, c))) ⟨fun _ => QI.of_eq (c_begins h (by omega)) ⟨fun h2 => ⟨by omega, ih _ ⟨by omega, ?_⟩⟩, fun h2 => ⟨by omega, ih _ ⟨by omega, ?_⟩⟩⟩, fun h => absurd hy h⟩
    · rw [cnt_succ (by omega), b01_e0 h2, if_neg (by decide)]; exact hI.2
    · rw [cnt_succ (by omega), if_pos (b01_ne h2), hI.2]
  · intro y n hy hI
    have : y = 100 := by omega
    subst this
    refine W_X2_reigns_4 (Q := fun Z => Z = some (some (vI (cnt (bgn F R) 100)), (SH T, c))) ⟨fun h => absurd h (by omega), fun _ => ?_⟩
    rw [hI.2]
theorem c_reignOf {T : List Shp} {c : Cm} {R : Int → Int} {F : List Clz} {i w : Int} (h : ∀ y, 0 ≤ y → y < 100 → c 57 y = rl F R y) (hi : i ≠ -1) : ccal 15 [vR 56, vI i, vI w] (SH T, c) = some (some (vI (rei F R i w)), (SH T, c)) := by
  generalize hZ : (some (some (vI (rei F R i w)), (SH T, c)) : Res) = Z
  refine W_X2_reignOf (Q := fun Y => Y = Z) ?_
  refine lpI (Q := fun Y => Y = Z) (E := fun y (n : Int) => cev 15 2 5 [vR 56, vI i, vI w, vI n, vI y] [] (SH T, c)) (fun y n => (0 ≤ y ∧ y ≤ 100) ∧ n = cnt (bgn F R) y ∧ ∀ k, 0 ≤ k → k < y → (bgn F R k && decide (cnt (bgn F R) k = i)) = false) 100 ?_ ?_ 0 0 ⟨by omega, rfl, fun k a b => by omega⟩
  · intro y n hy hI ih
    have cb := cnt_bd (p := bgn F R) (n := y) (by omega)
    refine W_X2_reignOf_5 (Q := fun Y => Y = Z) ⟨fun _ => QI.of_eq (c_begins h (by omega)) ⟨fun h2 => ⟨by omega, ih _ ⟨by omega, ?_, fun k a b => ?_⟩⟩, fun h2 => ⟨fun h3 => ?_, fun h3 => ⟨by omega, ih _ ⟨by omega, ?_, fun k a b => ?_⟩⟩⟩⟩, fun h => absurd hy h⟩
    · rw [cnt_succ (by omega), b01_e0 h2, if_neg (by decide)]; exact hI.2.1
    · by_cases e : k = y
      · rw [e, b01_e0 h2, Bool.false_and]
      · exact hI.2.2 k a (by omega)
    · have e : ith (bgn F R) i 100 = y := by
        refine frst_at (fun k a b => hI.2.2 k a b) (by omega) hy ?_
        show (bgn F R y && decide (cnt (bgn F R) y = i)) = true
        rw [b01_ne h2, ← hI.2.1, decide_eq_true h3]
        rfl
      rw [h y (by omega) hy]
      unfold rei at hZ
      rw [if_neg hi, e, if_neg (by omega)] at hZ
      refine ⟨fun h4 => ⟨by omega, ?_⟩, fun h4 => ⟨fun h5 => ?_, fun h5 => QI.of_eq (c_lasts h (by omega)) ?_⟩⟩
      · rw [if_pos h4] at hZ; exact hZ
      · rw [if_neg h4, if_pos h5] at hZ; exact hZ
      · rw [if_neg h4, if_neg h5] at hZ; exact hZ
    · rw [cnt_succ (by omega), if_pos (b01_ne h2), hI.2.1]
    · by_cases e : k = y
      · rw [e, ← hI.2.1, decide_eq_false h3, Bool.and_false]
      · exact hI.2.2 k a (by omega)
  · intro y n hy hI
    have : y = 100 := by omega
    subst this
    have e : ith (bgn F R) i 100 = -1 := frst_none (fun k a b => hI.2.2 k a b) (by omega)
    refine W_X2_reignOf_5 (Q := fun Y => Y = Z) ⟨fun h => absurd h (by omega), fun _ => ?_⟩
    unfold rei at hZ
    rw [if_neg hi, e, if_pos rfl] at hZ
    exact hZ
/-- the class's scratch of its court -/
theorem c_ruler {T : List Shp} {c : Cm} {R : Int → Int} {F : List Clz} {y : Int} (h : CWd T c R F) : QI T (fun r c' => r = (if 0 ≤ y ∧ y < 100 then rl F R y else -1) ∧ Off [14, 15, 16, 17, 55, 56, 57, 58] [] c c') (ccal 161 [vR 1, vI y] (SH T, c)) := by
  refine W_X11_ruler (Q := QI T _) ⟨fun h2 => ?_, fun h2 => QI.ret ⟨?_, Off.rfl⟩⟩
  · refine (c_crownTill h (l := y) (by omega)).mono fun c1 h3 => ⟨by omega, QI.ret ⟨?_, h3.2⟩⟩
    rw [if_pos h2]
    exact h3.1 y h2.1 (Int.le_refl _)
  · rw [if_neg h2]
theorem c_reign {T : List Shp} {c : Cm} {R : Int → Int} {F : List Clz} {i w : Int} (h : CWd T c R F) : QI T (fun r c' => r = (if i < -1 ∨ (i ≠ -1 ∧ ¬ (0 ≤ w ∧ w < 3)) then -1 else rei F R i w) ∧ Off [14, 15, 16, 17, 55, 56, 57, 58] [] c c') (ccal 162 [vR 1, vI i, vI w] (SH T, c)) := by
  have key : ¬ (i < -1 ∨ (i ≠ -1 ∧ ¬ (0 ≤ w ∧ w < 3))) → QI T (fun r c' => r = (if i < -1 ∨ (i ≠ -1 ∧ ¬ (0 ≤ w ∧ w < 3)) then -1 else rei F R i w) ∧ Off [14, 15, 16, 17, 55, 56, 57, 58] [] c c') (cev 162 7 20 [vR 1, vI i, vI w] [] (SH T, c)) := by
    intro hn
    refine W_X11_reign_20 ?_
    refine (c_crownTill h (l := 99) (by omega)).mono fun c1 h3 => ?_
    have h4 : ∀ y, 0 ≤ y → y < 100 → c1 57 y = rl F R y := fun y a b => h3.1 y a (by omega)
    refine ⟨fun h2 => QI.of_eq (c_reigns h4) (QI.ret ⟨?_, h3.2⟩), fun h2 => QI.of_eq (c_reignOf h4 h2) (QI.ret ⟨?_, h3.2⟩)⟩
    · rw [if_neg hn]
      unfold rei
      rw [if_pos h2]
    · rw [if_neg hn]
  refine W_X11_reign (Q := QI T _) ⟨fun h2 => QI.ret ⟨?_, Off.rfl⟩, fun h2 => ⟨fun h3 => key (by omega), fun h3 => ⟨fun h4 => key (by omega), fun h4 => QI.ret ⟨?_, Off.rfl⟩⟩⟩⟩
  · rw [if_pos (.inl h2)]
  · rw [if_pos (.inr ⟨h3, h4⟩)]
theorem c_vacant {T : List Shp} {c : Cm} {R : Int → Int} {F : List Clz} (h : CWd T c R F) : QI T (fun r c' => r = vac F R ∧ Off [14, 15, 16, 17, 55, 56, 57, 58] [] c c') (ccal 163 [vR 1] (SH T, c)) := by
  refine W_X11_vacant (Q := QI T _) ?_
  refine (c_crownTill h (l := 99) (by omega)).mono fun c1 h3 => ?_
  refine lpI (E := fun y (n : Int) => cev 163 7 13 [vR 1, vI n, vI y] [] (SH T, c1)) (fun y n => (0 ≤ y ∧ y ≤ 100) ∧ n = cnt (fun y => decide (rl F R y = -1)) y) 100 ?_ ?_ 0 0 ⟨by omega, rfl⟩
  · intro y n hy hI ih
    have cb := cnt_bd (p := fun y => decide (rl F R y = -1)) (n := y) (by omega)
    refine W_X11_vacant_13 ⟨fun _ => ⟨by omega, ?_⟩, fun h => absurd hy h⟩
    rw [h3.1 y (by omega) (by omega)]
    refine ⟨fun h2 => ⟨by omega, ih _ ⟨by omega, ?_⟩⟩, fun h2 => ⟨by omega, ih _ ⟨by omega, ?_⟩⟩⟩
    · rw [cnt_succ (by omega), if_pos (decide_eq_true h2), hI.2]
    · rw [cnt_succ (by omega), if_neg (fun q => h2 (of_decide_eq_true q))]; exact hI.2
  · intro y n hy hI
    have : y = 100 := by omega
    subst this
    refine W_X11_vacant_13 ⟨fun h => absurd h (by omega), fun _ => QI.ret ⟨hI.2, h3.2⟩⟩
theorem c_line {T : List Shp} {c : Cm} {R : Int → Int} {F : List Clz} {y i : Int} (h : CWd T c R F) : QI T (fun r c' => r = (if 0 ≤ y ∧ y < 100 then lin F R y i else -1) ∧ Off [14, 15, 16, 17, 55, 56, 57, 58] [] c c') (ccal 164 [vR 1, vI y, vI i] (SH T, c)) := by
  have h1 := h.2.1.1
  refine W_X11_line (Q := QI T _) ⟨fun h2 => ⟨fun h3 => QI.ret ⟨?_, Off.rfl⟩, fun h3 => ?_⟩, fun h2 => QI.ret ⟨?_, Off.rfl⟩⟩
  · rw [if_pos h2]
    unfold lin
    rw [if_neg (by omega), frst_none (fun k a b => ?_) (by omega)]
    show (il F R y k && decide (cnt (fun o => il F R y o && bfr F R y o k) (R 6) = i)) = false
    have := (cnt_bd (p := fun o => il F R y o && bfr F R y o k) (n := R 6) (by omega)).1
    rw [decide_eq_false (by omega), Bool.and_false]
  · refine (c_standInLine h (y := y) (by omega)).mono fun c1 h4 => ?_
    have o1 : Off [14, 15, 16, 17, 55, 56, 57, 58] [] c c1 := h4.2.mono rfl rfl
    have s8 := h4.1.1
    refine ⟨fun h5 => QI.ret ⟨?_, o1⟩, fun h5 => ⟨fun h6 => ⟨by omega, QI.ret ⟨?_, o1⟩⟩, fun h6 => QI.ret ⟨?_, o1⟩⟩⟩
    · rw [if_pos h2]
      unfold lin
      rw [if_pos h5, h4.1.num]
    · rw [if_pos h2, h4.1.place (by omega)]
    · rw [if_pos h2, h4.1.behind (by omega) (by omega)]
  · rw [if_neg h2]
/-! the reference's court -/
theorem r_findRulers {T : List Shp} {c : Cm} {F : List Clz} (h : RWd c F) : QV T (fun c' => (∀ y, 0 ≤ y → y < 100 → c' 105 y = rl F (c 79) y) ∧ Off [92, 94, 105] [30, 34, 35, 36] c c') (ccal 321 [vR 78] (SH T, c)) := by
  have h1 := h.1.1
  refine W_X12_findRulers (Q := QV T _) ?_
  refine lpI (E := fun y (s : Cm) => cev 321 7 2 [vR 78, vI y, vU, vU, vU, vU, vU] [] (SH T, s)) (fun y s => (0 ≤ y ∧ y ≤ 100) ∧ (∀ z, 0 ≤ z → z < y → s 105 z = rl F (c 79) z) ∧ Off [92, 94, 105] [30, 34, 35, 36] c s) 100 ?_ ?_ 0 c ⟨by omega, fun z a b => by omega, Off.rfl⟩
  · intro y s hy hI ih
    obtain ⟨i0, i2, i3⟩ := hI
    have es := i3.row rfl
    have rr := rl_rng (F := F) (R := c 79) (y := y - 1) (by omega) (by omega)
    have st := rl_step (F := F) (R := c 79) (y := y) i0.1
    have nxt : ∀ (v : Int) (u : Cm), v = rl F (c 79) y → Off [92, 94, 105] [30, 34, 35, 36] c u → (∀ z, 0 ≤ z → z < y → u 105 z = rl F (c 79) z) → QV T (fun c' => (∀ y, 0 ≤ y → y < 100 → c' 105 y = rl F (c 79) y) ∧ Off [92, 94, 105] [30, 34, 35, 36] c c') (cev 321 7 2 [vR 78, vI (y + 1), vU, vU, vU, vU, vU] [] (SH T, up u 105 y v)) := by
      intro v u hv ou hu
      refine ih (up u 105 y v) ⟨by omega, fun z a b => ?_, ou.wr rfl⟩
      rw [up_at]
      by_cases e : z = y
      · rw [if_pos e, e]; exact hv
      · rw [if_neg e]; exact hu z a (by omega)
    have goeson : ∀ v, v ≠ -1 → v = rl F (c 79) y → QV T (fun c' => (∀ y, 0 ≤ y → y < 100 → c' 105 y = rl F (c 79) y) ∧ Off [92, 94, 105] [30, 34, 35, 36] c c') (cev 321 7 44 [vR 78, vI y, vU, vU, vU, vU, vU] [vI v] (SH T, s)) := by
      intro v hv e
      refine W_X12_findRulers_44 ⟨fun h => absurd h hv, fun _ => ?_⟩
      refine W_X12_findRulers_64 ⟨fun _ => ⟨fun h => absurd h (by decide), fun _ => ⟨by omega, nxt v s e i3 i2⟩⟩, fun _ => ⟨by omega, nxt v s e i3 i2⟩⟩
    have anew : rl F (c 79) y = chs F (c 79) y → QV T (fun c' => (∀ y, 0 ≤ y → y < 100 → c' 105 y = rl F (c 79) y) ∧ Off [92, 94, 105] [30, 34, 35, 36] c c') (cev 321 7 44 [vR 78, vI y, vU, vU, vU, vU, vU] [vI (-1)] (SH T, s)) := by
      intro e
      refine W_X12_findRulers_44 ⟨fun _ => ?_, fun h => absurd rfl h⟩
      refine lpI (E := fun q (u : (Int × Int) × Cm) => cev 321 7 64 [vR 78, vI y, vI u.1.1, vI u.1.2, vI 0, vI q, vU] [] (SH T, u.2)) (fun q u => (0 ≤ q ∧ q ≤ c 79 6) ∧ u.1 = foldI (fun q (s : Int × Int) => if il F (c 79) y q = true ∧ rnk F (c 79) q y < s.2 then (q, rnk F (c 79) q y) else s) (-1, 100000000) q ∧ Off [92, 94] [30, 34, 35, 36] s u.2 ∧ u.1.2 ≤ 100000000) (c 79 6) ?_ ?_ 0 ((-1, 100000000), s) ⟨by omega, rfl, Off.rfl, Int.le_refl _⟩
      · intro q u hq hU ihq
        obtain ⟨u0, u1, u2, u3⟩ := hU
        have ou : Off [92, 94, 105] [30, 34, 35, 36] c u.2 := i3.trans (u2.mono rfl rfl)
        have eu := ou.row rfl
        have rk := rnk_bd (F := F) (R := c 79) (x := q) (y := y)
        have fs := foldI_succ (f := fun q (s : Int × Int) => if il F (c 79) y q = true ∧ rnk F (c 79) q y < s.2 then (q, rnk F (c 79) q y) else s) (x := (-1, 100000000)) (b := q) u0.1
        have out : ∀ v, Off [92, 94] [30, 34, 35, 36] s v → il F (c 79) y q = false → QV T (fun c' => (∀ y, 0 ≤ y → y < 100 → c' 105 y = rl F (c 79) y) ∧ Off [92, 94, 105] [30, 34, 35, 36] c c') (cev 321 7 114 [vR 78, vI y, vI u.1.1, vI u.1.2, vI 0, vI q, vU] [vI 100000000] (SH T, v)) := by
          intro v ov hn
          refine W_X12_findRulers_114 ⟨fun h => absurd h (by omega), fun _ => ?_⟩
          refine W_X12_findRulers_128 ⟨fun h => absurd h (by omega), fun _ => ⟨by omega, ihq (u.1, v) ⟨by omega, ?_, ov, u3⟩⟩⟩
          rw [fs, ← u1, if_neg (fun q => by rw [hn] at q; exact absurd q.1 (by decide))]
        refine W_X12_findRulers_64 ?_
        rw [eu]
        refine ⟨fun _ => ⟨fun _ => ⟨by omega, fun h2 => ?_, fun h2 => out u.2 u2 ?_⟩, fun h => absurd rfl h⟩, fun h => absurd hq h⟩
        · refine (r_isOut (h.off ou rfl) (q := q) (y := y) (by rw [eu]; omega) (by omega)).mono fun r1 c2 h3 => ?_
          rw [eu] at h3
          have o2 := u2.trans h3.2
          have o2' : Off [92, 94, 105] [30, 34, 35, 36] c c2 := i3.trans (o2.mono rfl rfl)
          have e2 := o2'.row rfl
          rw [h3.1]
          refine ⟨fun h4 => ?_, fun h4 => out c2 o2 ?_⟩
          · refine (r_ranks (h.off o2' rfl) (q := q) (y := y) (by rw [e2]; omega) (by omega)).mono fun r3 c4 h5 => ?_
            rw [e2] at h5
            have o4 := o2.trans h5.2
            have hil : il F (c 79) y q = true := il_iff.mpr ⟨h2, b01_e0 h4⟩
            rw [h5.1]
            refine W_X12_findRulers_114 ⟨fun h6 => ?_, fun h6 => ?_⟩
            · refine W_X12_findRulers_128 ⟨fun _ => ⟨by omega, ihq ((q, rnk F (c 79) q y), c4) ⟨by omega, ?_, o4, by show rnk F (c 79) q y ≤ _; omega⟩⟩, fun h => absurd h6 h⟩
              rw [fs, ← u1, if_pos ⟨hil, h6⟩]
            · refine W_X12_findRulers_128 ⟨fun h => absurd h h6, fun _ => ⟨by omega, ihq (u.1, c4) ⟨by omega, ?_, o4, u3⟩⟩⟩
              rw [fs, ← u1, if_neg (fun q => h6 q.2)]
          · cases g : il F (c 79) y q with
            | false => rfl
            | true =>
              have := (il_iff.mp g).2
              rw [b01_ne h4] at this
              exact absurd this (by decide)
        · cases g : il F (c 79) y q with
          | false => rfl
          | true => exact absurd (il_iff.mp g).1 h2
      · intro q u hq hU
        obtain ⟨u0, u1, u2, u3⟩ := hU
        have ou : Off [92, 94, 105] [30, 34, 35, 36] c u.2 := i3.trans (u2.mono rfl rfl)
        have : q = c 79 6 := by omega
        subst this
        have ev : u.1.1 = rl F (c 79) y := by rw [e, u1]; rfl
        refine W_X12_findRulers_64 ?_
        rw [ou.row rfl]
        refine ⟨fun h => absurd h (by omega), fun _ => ⟨by omega, nxt _ u.2 ev ou fun z a b => ?_⟩⟩
        rw [u2.cell (q := 105) rfl]
        exact i2 z a b
    have go24 : ∀ v, v = rl F (c 79) (y - 1) → QV T (fun c' => (∀ y, 0 ≤ y → y < 100 → c' 105 y = rl F (c 79) y) ∧ Off [92, 94, 105] [30, 34, 35, 36] c c') (cev 321 7 24 [vR 78, vI y, vU, vU, vU, vU, vU] [vI v] (SH T, s)) := by
      intro v e
      refine W_X12_findRulers_24 ⟨fun h2 => anew ?_, fun h2 => ⟨by omega, ?_⟩⟩
      · rw [st, if_neg (fun q => q.1 (by rw [← e]; exact h2))]
      · rw [es, e]
        refine ⟨fun h3 => goeson _ (by rw [← e]; exact h2) ?_, fun h3 => anew ?_⟩
        · rw [st, if_pos ⟨by rw [← e]; exact h2, h3⟩]
        · rw [st, if_neg (fun q => h3 q.2)]
    refine W_X12_findRulers_2 ⟨fun _ => ⟨fun h2 => go24 (-1) ?_, fun h2 => ⟨by omega, go24 _ (i2 (y - 1) (by omega) (by omega))⟩⟩, fun h => absurd hy h⟩
    rw [h2]
    rfl
  · intro y s hy hI
    refine W_X12_findRulers_2 ⟨fun h => absurd h (by omega), fun _ => QV.ret ⟨fun z a b => hI.2.1 z a (by omega), hI.2.2⟩⟩
theorem r_ruler {T : List Shp} {c : Cm} {F : List Clz} {y : Int} (h : RWd c F) : QI T (fun r c' => r = (if 0 ≤ y ∧ y < 100 then rl F (c 79) y else -1) ∧ Off [92, 94, 105] [0, 30, 34, 35, 36] c c') (ccal 322 [vR 78, vI y] (SH T, c)) := by
  have o0 : Off [92, 94, 105] [0, 30, 34, 35, 36] c (up c 77 0 0) := Off.rfl.wr rfl
  refine W_X12_ruler (Q := QI T _) ⟨fun h2 => ?_, fun h2 => QI.ret ⟨?_, o0⟩⟩
  · refine (r_findRulers (h.off o0 rfl)).mono fun c1 h3 => ⟨by omega, QI.ret ⟨?_, o0.trans (h3.2.mono rfl rfl)⟩⟩
    rw [if_pos h2, h3.1 y h2.1 h2.2, o0.row rfl]
  · rw [if_neg h2]
theorem r_vacant {T : List Shp} {c : Cm} {F : List Clz} (h : RWd c F) : QI T (fun r c' => r = vac F (c 79) ∧ Off [92, 94, 105] [0, 30, 34, 35, 36] c c') (ccal 324 [vR 78] (SH T, c)) := by
  have o0 : Off [92, 94, 105] [0, 30, 34, 35, 36] c (up c 77 0 0) := Off.rfl.wr rfl
  refine W_X12_vacant (Q := QI T _) ?_
  refine (r_findRulers (h.off o0 rfl)).mono fun c1 h3 => ?_
  rw [o0.row rfl] at h3
  refine lpI (E := fun y (n : Int) => cev 324 8 13 [vR 78, vI n, vI y] [] (SH T, c1)) (fun y n => (0 ≤ y ∧ y ≤ 100) ∧ n = cnt (fun y => decide (rl F (c 79) y = -1)) y) 100 ?_ ?_ 0 0 ⟨by omega, rfl⟩
  · intro y n hy hI ih
    have cb := cnt_bd (p := fun y => decide (rl F (c 79) y = -1)) (n := y) (by omega)
    refine W_X12_vacant_13 ⟨fun _ => ⟨by omega, ?_⟩, fun h => absurd hy h⟩
    rw [h3.1 y (by omega) (by omega)]
    refine ⟨fun h2 => ⟨by omega, ih _ ⟨by omega, ?_⟩⟩, fun h2 => ⟨by omega, ih _ ⟨by omega, ?_⟩⟩⟩
    · rw [cnt_succ (by omega), if_pos (decide_eq_true h2), hI.2]
    · rw [cnt_succ (by omega), if_neg (fun q => h2 (of_decide_eq_true q)), Int.add_zero]; exact hI.2
  · intro y n hy hI
    have : y = 100 := by omega
    subst this
    refine W_X12_vacant_13 ⟨fun h => absurd h (by omega), fun _ => QI.ret ⟨hI.2, o0.trans (h3.2.mono rfl rfl)⟩⟩
theorem r_reign {T : List Shp} {c : Cm} {F : List Clz} {i w : Int} (h : RWd c F) : QI T (fun r c' => r = (if i < -1 ∨ (i ≠ -1 ∧ ¬ (0 ≤ w ∧ w < 3)) then -1 else rei F (c 79) i w) ∧ Off [92, 94, 105] [0, 30, 34, 35, 36] c c') (ccal 323 [vR 78, vI i, vI w] (SH T, c)) := by
  have o0 : Off [92, 94, 105] [0, 30, 34, 35, 36] c (up c 77 0 0) := Off.rfl.wr rfl
  have key : ¬ (i ≠ -1 ∧ ¬ (0 ≤ w ∧ w < 3)) → QI T (fun r c' => r = (if i < -1 ∨ (i ≠ -1 ∧ ¬ (0 ≤ w ∧ w < 3)) then -1 else rei F (c 79) i w) ∧ Off [92, 94, 105] [0, 30, 34, 35, 36] c c') (cev 323 8 24 [vR 78, vI i, vI w, vU, vU, vU] [] (SH T, up c 77 0 0)) := by
    intro hn
    refine W_X12_reign_24 ?_
    refine (r_findRulers (h.off o0 rfl)).mono fun c1 h3 => ?_
    rw [o0.row rfl] at h3
    have o1 : Off [92, 94, 105] [0, 30, 34, 35, 36] c c1 := o0.trans (h3.2.mono rfl rfl)
    have neg : i < -1 → rei F (c 79) i w = -1 := by
      intro hi
      unfold rei
      have e : ith (bgn F (c 79)) i 100 = -1 := by
        refine frst_none (fun k a b => ?_) (by omega)
        show (bgn F (c 79) k && decide (cnt (bgn F (c 79)) k = i)) = false
        have := (cnt_bd (p := bgn F (c 79)) (n := k) a).1
        rw [decide_eq_false (by omega), Bool.and_false]
      rw [if_neg (by omega), e, if_pos rfl]
    have eq : (if i < -1 ∨ (i ≠ -1 ∧ ¬ (0 ≤ w ∧ w < 3)) then -1 else rei F (c 79) i w) = rei F (c 79) i w := by
      by_cases e : i < -1
      · rw [if_pos (.inl e), neg e]
      · rw [if_neg (by omega)]
    rw [eq]
    refine lpN (E := fun (s : Int × Int) => cev 323 8 33 [vR 78, vI i, vI w, vI s.2, vI s.1, vU] [] (SH T, c1)) (fun s => (0 ≤ s.1 ∧ s.1 ≤ 100) ∧ s.2 = cnt (bgn F (c 79)) s.1 ∧ (∀ k, 0 ≤ k → k < s.1 → (bgn F (c 79) k && decide (cnt (bgn F (c 79)) k = i)) = false) ∧ (0 < s.1 → s.1 < 100 → rl F (c 79) (s.1 - 1) ≠ rl F (c 79) s.1)) (fun s => (100 - s.1).toNat) ?_ (0, 0) ⟨(show (0 : Int) ≤ 0 ∧ (0 : Int) ≤ 100 by decide), rfl, fun k a b => absurd a (by show ¬ 0 ≤ k; have : k < 0 := b; omega), fun h => absurd h (by decide)⟩
    rintro ⟨y, n⟩ hI ih
    obtain ⟨i0, i1, i2, i3⟩ := hI
    replace i0 : 0 ≤ y ∧ y ≤ 100 := i0
    replace i1 : n = cnt (bgn F (c 79)) y := i1
    replace i2 : ∀ k, 0 ≤ k → k < y → (bgn F (c 79) k && decide (cnt (bgn F (c 79)) k = i)) = false := i2
    replace i3 : 0 < y → y < 100 → rl F (c 79) (y - 1) ≠ rl F (c 79) y := i3
    have cb := cnt_bd (p := bgn F (c 79)) (n := y) i0.1
    show QI T _ (cev 323 8 33 [vR 78, vI i, vI w, vI n, vI y, vU] [] (SH T, c1))
    refine W_X12_reign_33 ⟨fun hy => ?_, fun hy => ?_⟩
    · have fin : ∀ e, y < e → e ≤ 100 → (∀ z, y ≤ z → z < e → rl F (c 79) z = rl F (c 79) y) → (e < 100 → rl F (c 79) e ≠ rl F (c 79) y) → QI T (fun r c' => r = rei F (c 79) i w ∧ Off [92, 94, 105] [0, 30, 34, 35, 36] c c') (cev 323 8 74 [vR 78, vI i, vI w, vI n, vI y, vI e] [] (SH T, c1)) := by
        intro e e1 e2 e3 e4
        have ln := len_of ⟨i0.1, e1, e2⟩ e3 e4
        have nb : ∀ j, y + 1 ≤ j → j < e → bgn F (c 79) j = false := by
          intro j a b
          refine decide_eq_false fun q => ?_
          rcases q.2 with q | q
          · omega
          · exact q (by rw [e3 j (by omega) b, e3 (j - 1) (by omega) (by omega)])
        have sk := cnt_skip (p := bgn F (c 79)) (a := y + 1) (e - (y + 1)).toNat (by omega) (fun j a b => nb j a (by omega))
        rw [show y + 1 + ((e - (y + 1)).toNat : Int) = e from by omega, cnt_succ i0.1] at sk
        have i3' : 0 < e → e < 100 → rl F (c 79) (e - 1) ≠ rl F (c 79) e := fun _ b q => e4 b (by rw [← q]; exact e3 (e - 1) (by omega) (by omega))
        refine W_X12_reign_74 ⟨by omega, ?_⟩
        rw [h3.1 y i0.1 hy]
        refine ⟨fun h5 => ih (e, n) (by show (100 - e).toNat < (100 - y).toNat; omega) ⟨(show 0 ≤ e ∧ e ≤ 100 by omega), ?_, fun k a b => ?_, i3'⟩, fun h5 => ⟨fun h6 => ?_, fun h6 => ⟨by omega, ih (e, n + 1) (by show (100 - e).toNat < (100 - y).toNat; omega) ⟨(show 0 ≤ e ∧ e ≤ 100 by omega), ?_, fun k a b => ?_, i3'⟩⟩⟩⟩
        · show n = cnt (bgn F (c 79)) e
          rw [sk, if_neg (by rw [show bgn F (c 79) y = false from decide_eq_false (fun q => q.1 h5)]; decide)]
          exact i1
        · replace b : k < e := b
          by_cases g : k < y
          · exact i2 k a g
          · by_cases g2 : k = y
            · rw [g2, show bgn F (c 79) y = false from decide_eq_false (fun q => q.1 h5), Bool.false_and]
            · rw [nb k (by omega) b, Bool.false_and]
        · have bt : bgn F (c 79) y = true := by
            refine decide_eq_true ⟨h5, ?_⟩
            by_cases g : y = 0
            · exact .inl g
            · exact .inr (i3 (by omega) hy)
          have eI : ith (bgn F (c 79)) i 100 = y := by
            refine frst_at (fun k a b => i2 k a b) i0.1 hy ?_
            show (bgn F (c 79) y && decide (cnt (bgn F (c 79)) y = i)) = true
            rw [bt, ← i1, decide_eq_true h6]
            rfl
          have er : rei F (c 79) i w = if w = 0 then rl F (c 79) y else if w = 1 then y else len F (c 79) y := by
            unfold rei
            rw [if_neg (by omega), eI, if_neg (by omega)]
          rw [er]
          refine ⟨fun h7 => ⟨by omega, QI.ret ⟨by rw [if_pos h7], o1⟩⟩, fun h7 => ⟨fun h8 => QI.ret ⟨by rw [if_neg h7, if_pos h8], o1⟩, fun h8 => ⟨by omega, QI.ret ⟨by rw [if_neg h7, if_neg h8, ln], o1⟩⟩⟩⟩
        · show n + 1 = cnt (bgn F (c 79)) e
          have bt : bgn F (c 79) y = true := by
            refine decide_eq_true ⟨h5, ?_⟩
            by_cases g : y = 0
            · exact .inl g
            · exact .inr (i3 (by omega) hy)
          rw [sk, if_pos bt, i1]
        · replace b : k < e := b
          by_cases g : k < y
          · exact i2 k a g
          · by_cases g2 : k = y
            · rw [g2, ← i1, decide_eq_false h6, Bool.and_false]
            · rw [nb k (by omega) b, Bool.false_and]
      refine lpI (E := fun e (_ : Unit) => cev 323 8 44 [vR 78, vI i, vI w, vI n, vI y, vI e] [] (SH T, c1)) (fun e _ => (y ≤ e ∧ e ≤ 100) ∧ ∀ z, y ≤ z → z < e → rl F (c 79) z = rl F (c 79) y) 100 ?_ ?_ y () ⟨by omega, fun z a b => by omega⟩
      · intro e _ he hE ihe
        refine W_X12_reign_44 ⟨fun _ => ⟨by omega, ?_⟩, fun h => absurd he h⟩
        rw [h3.1 e (by omega) he, h3.1 y i0.1 hy]
        refine ⟨fun h5 => ⟨by omega, ihe () ⟨by omega, fun z a b => ?_⟩⟩, fun h5 => fin e ?_ (by omega) hE.2 (fun _ => h5)⟩
        · by_cases q : z = e
          · rw [q]; exact h5
          · exact hE.2 z a (by omega)
        · by_cases q : y = e
          · exact absurd (by rw [q]) h5
          · omega
      · intro e _ he hE
        have : e = 100 := by omega
        subst this
        refine W_X12_reign_44 ⟨fun h => absurd h (by omega), fun _ => fin 100 hy (by omega) hE.2 (fun q => absurd q (by omega))⟩
    · have : y = 100 := by omega
      subst this
      refine ⟨fun h5 => QI.ret ⟨?_, o1⟩, fun h5 => QI.ret ⟨?_, o1⟩⟩
      · unfold rei
        rw [if_pos h5, i1]
      · unfold rei
        rw [if_neg h5, show ith (bgn F (c 79)) i 100 = -1 from frst_none (fun k a b => i2 k a b) (by omega), if_pos rfl]
  refine W_X12_reign (Q := QI T _) ⟨fun h2 => key (by omega), fun h2 => ⟨fun h3 => key (by omega), fun h3 => QI.ret ⟨?_, o0⟩⟩⟩
  rw [if_pos (.inr ⟨h2, by omega⟩)]

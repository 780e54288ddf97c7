/-! THE REFERENCE paints on paper: cell 95 holds what cells look by year, cell 96 pictures. -/
def LK (c : Cm) (F : List Clz) (R : Int → Int) (y : Int) : Prop := ∀ x, 0 ≤ x → x < 12 → c 95 (12 * y + x) = lk F R x y
def PP (c : Cm) (k : Int) (P : Int → Int) : Prop := ∀ x, 0 ≤ x → x < 12 → c 96 (12 * k + x) = P x
theorem LK.off {L : List Nat} {G : List Int} {c c' : Cm} {F : List Clz} {R : Int → Int} {y : Int} (h : LK c F R y) (o : Off L G c c') (hl : L.contains 95 = false) : LK c' F R y := by
  intro x a b
  rw [o.cell (q := 95) (by rw [hl]; rfl)]
  exact h x a b
theorem PP.off {L : List Nat} {G : List Int} {c c' : Cm} {k : Int} {P : Int → Int} (h : PP c k P) (o : Off L G c c') (hl : L.contains 96 = false) : PP c' k P := by
  intro x a b
  rw [o.cell (q := 96) (by rw [hl]; rfl)]
  exact h x a b
theorem PP.keep {c c' : Cm} {k m : Int} {P : Int → Int} (h : PP c k P) (o : ∀ j, (j < 12 * m ∨ 12 * m + 12 ≤ j) → c' 96 j = c 96 j) (hk : k ≠ m) : PP c' k P := by
  intro x a b
  rw [o _ (by omega)]
  exact h x a b
theorem LK.keep {c c' : Cm} {F : List Clz} {R : Int → Int} {k m : Int} (h : LK c F R k) (o : ∀ j, (j < 12 * m ∨ 12 * m + 12 ≤ j) → c' 95 j = c 95 j) (hk : k ≠ m) : LK c' F R k := by
  intro x a b
  rw [o _ (by omega)]
  exact h x a b
theorem r_layLooks {T : List Shp} {c : Cm} {F : List Clz} {y : Int} (h : RWd c F) (hy : 0 ≤ y ∧ y < 100) : QV T (fun c' => LK c' F (c 79) y ∧ (∀ j, (j < 12 * y ∨ 12 * y + 12 ≤ j) → c' 95 j = c 95 j) ∧ Off [92, 94, 95] [30, 34, 35, 36] c c') (ccal 259 [vR 78, vI y] (SH T, c)) := by
  refine W_X12_layLooks (Q := QV T _) ?_
  refine lpI (E := fun i (s : Cm) => cev 259 7 2 [vR 78, vI y, vI i] [] (SH T, s)) (fun i s => (0 ≤ i ∧ i ≤ 12) ∧ Off [92, 94, 95] [30, 34, 35, 36] c s ∧ (∀ x, 0 ≤ x → x < i → s 95 (12 * y + x) = lk F (c 79) x y) ∧ ∀ j, (j < 12 * y ∨ 12 * y + 12 ≤ j) → s 95 j = c 95 j) 12 ?_ ?_ 0 c ⟨by omega, Off.rfl, fun k _ _ => by omega, fun _ _ => rfl⟩
  · intro i s hi hI ih
    refine W_X12_layLooks_2 ⟨fun _ => ⟨by omega, ?_⟩, fun h => absurd hi h⟩
    refine (r_looksOf (h.off hI.2.1 rfl) (x := i) (y := y) (by omega) (by omega)).mono fun r c2 h2 => ?_
    rw [hI.2.1.row rfl] at h2
    refine ⟨by omega, ih _ ⟨by omega, (hI.2.1.trans (h2.2.mono rfl rfl)).wr rfl, fun x a b => ?_, fun j hj => ?_⟩⟩
    · rw [up_at, h2.2.cell (q := 95) rfl]
      by_cases e : x = i
      · rw [if_pos (by omega), e]; exact h2.1
      · rw [if_neg (by omega)]; exact hI.2.2.1 x a (by omega)
    · rw [up_at, h2.2.cell (q := 95) rfl, if_neg (by omega)]; exact hI.2.2.2 j hj
  · intro i s hi hI
    refine W_X12_layLooks_2 ⟨fun h => absurd h (by omega), fun _ => QV.ret ⟨fun x a b => hI.2.2.1 x a (by omega), hI.2.2.2, hI.2.1⟩⟩
theorem r_painted {T : List Shp} {c : Cm} {F : List Clz} {p x y t : Int} (h : RWd c F) (hp : 0 ≤ p ∧ p < c 79 0) (hx : 0 ≤ x ∧ x < 12) (hy : 0 ≤ y ∧ y < 100) (ht : 0 ≤ t ∧ t ≤ 9) (hl : LK c F (c 79) y) : ccal 260 [vR 78, vI p, vI x, vI y, vI t] (SH T, c) = some (some (vI (brs (c 79) p x t (lk F (c 79) x y))), (SH T, c)) := by
  have h1 := h.1.1
  have h2 := h.1.2.2.2.1 p hp.1 hp.2
  have h3 := h.1.2.2.2.2.1 p (x % 3) hp.1 hp.2 (by omega) (by omega)
  have lb := lk_bd (F := F) (x := x) (y := y) h.1
  refine W_X12_painted (Q := fun Z => Z = some (some (vI (brs (c 79) p x t (lk F (c 79) x y))), (SH T, c))) ?_
  rw [hl x hx.1 hx.2]
  have h4 := clp_bd (v := lk F (c 79) x y - t) (lo := -(c 79 (233 + 5 * p))) (hi := c 79 (233 + 5 * p)) (by omega)
  exact ⟨by omega, rfl⟩
theorem pnt_bd {R : Int → Int} {p : Int} {L P : Int → Int} {x : Int} : 0 ≤ pnt R p L P x ∧ pnt R p L P x ≤ 9 := brs_bd
theorem r_paintPaper {T : List Shp} {c : Cm} {F : List Clz} {a b p y : Int} {P : Int → Int} (h : RWd c F) (hp : 0 ≤ p ∧ p < c 79 0) (ha : 0 ≤ a ∧ a < 50) (hb : 0 ≤ b ∧ b < 50) (hab : a ≠ b) (hy : 0 ≤ y ∧ y < 100) (hP : PP c a P) (hP9 : ∀ x, 0 ≤ x → x < 12 → 0 ≤ P x ∧ P x ≤ 9) (hl : LK c F (c 79) y) : QV T (fun c' => PP c' b (pnt (c 79) p (fun x => lk F (c 79) x y) P) ∧ (∀ j, (j < 12 * b ∨ 12 * b + 12 ≤ j) → c' 96 j = c 96 j) ∧ Off [96] [] c c') (ccal 261 [vR 78, vI a, vI b, vI p, vI y] (SH T, c)) := by
  refine W_X12_paintPaper (Q := QV T _) ?_
  refine lpI (E := fun i (s : Cm) => cev 261 3 3 [vR 78, vI a, vI b, vI p, vI y, vI i] [] (SH T, s)) (fun i s => (0 ≤ i ∧ i ≤ 12) ∧ Off [96] [] c s ∧ (∀ x, 0 ≤ x → x < i → s 96 (12 * b + x) = pnt (c 79) p (fun x => lk F (c 79) x y) P x) ∧ ∀ j, (j < 12 * b ∨ 12 * b + 12 ≤ j) → s 96 j = c 96 j) 12 ?_ ?_ 0 c ⟨by omega, Off.rfl, fun k _ _ => by omega, fun _ _ => rfl⟩
  · intro i s hi hI ih
    have ei := hI.2.1.row rfl
    refine W_X12_paintPaper_3 ⟨fun _ => ⟨by omega, ?_⟩, fun h => absurd hi h⟩
    rw [hI.2.2.2 _ (by omega), hP i (by omega) (by omega)]
    refine QI.of_eq (r_painted (h.off hI.2.1 rfl) (by rw [ei]; exact hp) (by omega) hy (hP9 i (by omega) (by omega)) (by rw [ei]; exact hl.off hI.2.1 rfl)) ?_
    rw [ei]
    refine ⟨by omega, ih _ ⟨by omega, hI.2.1.wr rfl, fun x a b => ?_, fun j hj => ?_⟩⟩
    · rw [up_at]
      by_cases e : x = i
      · rw [if_pos (by omega), e]; rfl
      · rw [if_neg (by omega)]; exact hI.2.2.1 x a (by omega)
    · rw [up_at, if_neg (by omega)]; exact hI.2.2.2 j hj
  · intro i s hi hI
    refine W_X12_paintPaper_3 ⟨fun h => absurd h (by omega), fun _ => QV.ret ⟨fun x a b => hI.2.2.1 x a (by omega), hI.2.2.2, hI.2.1⟩⟩
theorem r_loadPaper {T : List Shp} {c : Cm} {a l : Int} (ha : 0 ≤ a ∧ a < 50) (hl : 0 ≤ l ∧ l < 100) : QV T (fun c' => PP c' a (fun x => c 79 (12 + 12 * l + x)) ∧ (∀ j, (j < 12 * a ∨ 12 * a + 12 ≤ j) → c' 96 j = c 96 j) ∧ Off [96] [] c c') (ccal 262 [vR 78, vI a, vI l] (SH T, c)) := by
  refine W_X12_loadPaper (Q := QV T _) ?_
  refine lpI (E := fun i (s : Cm) => cev 262 2 2 [vR 78, vI a, vI l, vI i] [] (SH T, s)) (fun i s => (0 ≤ i ∧ i ≤ 12) ∧ Off [96] [] c s ∧ (∀ x, 0 ≤ x → x < i → s 96 (12 * a + x) = c 79 (12 + 12 * l + x)) ∧ ∀ j, (j < 12 * a ∨ 12 * a + 12 ≤ j) → s 96 j = c 96 j) 12 ?_ ?_ 0 c ⟨by omega, Off.rfl, fun k _ _ => by omega, fun _ _ => rfl⟩
  · intro i s hi hI ih
    refine W_X12_loadPaper_2 ⟨fun _ => ?_, fun h => absurd hi h⟩
    rw [hI.2.1.row rfl]
    refine ⟨by omega, ih _ ⟨by omega, hI.2.1.wr rfl, fun x a b => ?_, fun j hj => ?_⟩⟩
    · rw [up_at]
      by_cases e : x = i
      · rw [if_pos (by omega), e]
      · rw [if_neg (by omega)]; exact hI.2.2.1 x a (by omega)
    · rw [up_at, if_neg (by omega)]; exact hI.2.2.2 j hj
  · intro i s hi hI
    refine W_X12_loadPaper_2 ⟨fun h => absurd h (by omega), fun _ => QV.ret ⟨fun x a b => hI.2.2.1 x a (by omega), hI.2.2.2, hI.2.1⟩⟩
theorem r_unlikePaper {T : List Shp} {c : Cm} {F : List Clz} {R : Int → Int} {a y : Int} {P : Int → Int} (hR : RNG R) (ha : 0 ≤ a ∧ a < 50) (hy : 0 ≤ y ∧ y < 100) (hP : PP c a P) (hP9 : ∀ x, 0 ≤ x → x < 12 → 0 ≤ P x ∧ P x ≤ 9) (hl : LK c F R y) : ccal 263 [vR 78, vI a, vI y] (SH T, c) = some (some (vI (ulk P (fun x => lk F R x y))), (SH T, c)) := by
  refine W_X12_unlikePaper (Q := fun Z => Z = some (some (vI (ulk P (fun x => lk F R x y))), (SH T, c))) ?_
  refine lpI (Q := fun Z => Z = some (some (vI (ulk P (fun x => lk F R x y))), (SH T, c))) (E := fun i (n : Int) => cev 263 2 5 [vR 78, vI a, vI y, vI n, vI i] [] (SH T, c)) (fun i n => (0 ≤ i ∧ i ≤ 12) ∧ n = foldI (fun x n => n + abz (P x - lk F R x y)) 0 i) 12 ?_ ?_ 0 0 ⟨by omega, rfl⟩
  · intro i n hi hI ih
    have b := ulk_bd (P := P) (L := fun x => lk F R x y) (b := i) (by omega) (fun x q1 q2 => hP9 x q1 (by omega)) (fun x _ _ => lk_bd hR)
    rw [← hI.2] at b
    refine W_X12_unlikePaper_5 (Q := fun Z => Z = some (some (vI (ulk P (fun x => lk F R x y))), (SH T, c))) ⟨fun _ => ?_, fun h => absurd hi h⟩
    rw [hP i (by omega) (by omega), hl i (by omega) (by omega)]
    have b1 := hP9 i (by omega) (by omega)
    have b2 := lk_bd (F := F) (x := i) (y := y) hR
    have b3 := abz_bd (v := P i - lk F R i y)
    have b4 := b3.2 (by omega) (by omega)
    refine ⟨by omega, ih _ ⟨by omega, ?_⟩⟩
    rw [foldI_succ (by omega), ← hI.2]
  · intro i n hi hI
    refine W_X12_unlikePaper_5 (Q := fun Z => Z = some (some (vI (ulk P (fun x => lk F R x y))), (SH T, c))) ⟨fun h => absurd h (by omega), fun _ => ?_⟩
    have : i = 12 := by omega
    subst this
    rw [hI.2]
    rfl
theorem r_unlikeOf {T : List Shp} {c : Cm} {F : List Clz} {l : Int} (h : RWd c F) (hl : 0 ≤ l ∧ l ≤ 16) : QI T (fun r c' => r = unl F (c 79) l ∧ Off [92, 94, 95, 96] [30, 34, 35, 36] c c') (ccal 264 [vR 78, vI l] (SH T, c)) := by
  refine W_X12_unlikeOf (Q := QI T _) ?_
  refine (r_layLooks h (y := l) (by omega)).mono fun c1 h1 => ?_
  refine (r_loadPaper (a := 0) (l := l) (by omega) (by omega)).mono fun c2 h2 => ?_
  rw [h1.2.2.row rfl] at h2
  refine QI.of_eq (r_unlikePaper h.1 (by omega) (by omega) h2.1 (fun x a b => h.1.tone hl ⟨a, b⟩) (h1.1.off h2.2.2 rfl)) ?_
  exact QI.ret ⟨rfl, (h1.2.2.mono rfl rfl).trans (h2.2.2.mono rfl rfl)⟩
theorem r_tooFar {T : List Shp} {c : Cm} {F : List Clz} {a y : Int} {P : Int → Int} (h : RWd c F) (ha : 0 ≤ a ∧ a < 50) (hy : 0 ≤ y ∧ y < 100) (hP : PP c a P) (hP9 : ∀ x, 0 ≤ x → x < 12 → 0 ≤ P x ∧ P x ≤ 9) (hl : LK c F (c 79) y) : QI T (fun r c' => r = frc P (fun x => lk F (c 79) x y) (fun x => lt F (c 79) x y) ∧ Off [92, 94] [30, 34, 35, 36] c c') (ccal 270 [vR 78, vI a, vI y] (SH T, c)) := by
  have hR := h.1
  refine W_X12_tooFar (Q := QI T _) ?_
  refine lpI (E := fun i (s : Cm) => cev 270 7 2 [vR 78, vI a, vI y, vI i] [] (SH T, s)) (fun i s => (0 ≤ i ∧ i ≤ 12) ∧ Off [92, 94] [30, 34, 35, 36] c s ∧ ∀ k, 0 ≤ k → k < i → decide (lt F (c 79) k y < abz (P k - lk F (c 79) k y)) = false) 12 ?_ ?_ 0 c ⟨by omega, Off.rfl, fun k _ _ => by omega⟩
  · intro i s hi hI ih
    refine W_X12_tooFar_2 ⟨fun _ => ?_, fun h => absurd hi h⟩
    rw [hI.2.1.cell (q := 95) rfl, hI.2.1.cell (q := 96) rfl, hP i (by omega) (by omega), hl i (by omega) (by omega)]
    have b1 := hP9 i (by omega) (by omega)
    have b2 := lk_bd (F := F) (x := i) (y := y) hR
    refine ⟨by omega, (r_letsOf (h.off hI.2.1 rfl) (x := i) (y := y) (by omega) (by omega)).mono fun r c2 h2 => ?_⟩
    rw [hI.2.1.row rfl] at h2
    have o2 := hI.2.1.trans h2.2
    rw [h2.1]
    refine ⟨fun h5 => QI.ret ⟨?_, o2⟩, fun h5 => ⟨by omega, ih c2 ⟨by omega, o2, fun k a b => ?_⟩⟩⟩
    · exact (frst_at (fun k a b => hI.2.2 k a b) (by omega) (by omega) (decide_eq_true h5)).symm
    · by_cases e : k = i
      · subst e; exact decide_eq_false h5
      · exact hI.2.2 k a (by omega)
  · intro i s hi hI
    refine W_X12_tooFar_2 ⟨fun h => absurd h (by omega), fun _ => QI.ret ⟨?_, hI.2.1⟩⟩
    exact (frst_none (fun k a b => hI.2.2 k a (by omega)) (by omega)).symm
theorem r_tooFarIn {T : List Shp} {c : Cm} {F : List Clz} {l : Int} (h : RWd c F) (hl : 0 ≤ l ∧ l ≤ 16) : QI T (fun r c' => r = far F (c 79) l ∧ Off [92, 94, 95, 96] [30, 34, 35, 36] c c') (ccal 271 [vR 78, vI l] (SH T, c)) := by
  refine W_X12_tooFarIn (Q := QI T _) ?_
  refine (r_layLooks h (y := l) (by omega)).mono fun c1 h1 => ?_
  refine (r_loadPaper (a := 0) (l := l) (by omega) (by omega)).mono fun c2 h2 => ?_
  rw [h1.2.2.row rfl] at h2
  have e2 : c2 79 = c 79 := (h2.2.2.row rfl).trans (h1.2.2.row rfl)
  have w2 := (h.off h1.2.2 rfl).off h2.2.2 rfl
  refine (r_tooFar w2 (a := 0) (y := l) (by omega) (by omega) h2.1 (fun x a b => h.1.tone hl ⟨a, b⟩) (by rw [e2]; exact h1.1.off h2.2.2 rfl)).mono fun r c3 h3 => ?_
  rw [e2] at h3
  exact QI.ret ⟨h3.1, ((h1.2.2.mono rfl rfl).trans (h2.2.2.mono rfl rfl)).trans (h3.2.mono rfl rfl)⟩
theorem r_rests {T : List Shp} {c : Cm} {F : List Clz} {p y : Int} (h : RWd c F) (hy : 0 ≤ y ∧ y ≤ 200) : ccal 265 [vR 78, vI p, vI y] (SH T, c) = some (some (vI (b01 (rst (c 79) p y = true))), (SH T, c)) := by
  have h1 := h.1.1
  refine W_X12_rests (Q := fun Z => Z = some (some (vI (b01 (rst (c 79) p y = true))), (SH T, c))) ?_
  refine lpI (Q := fun Z => Z = some (some (vI (b01 (rst (c 79) p y = true))), (SH T, c))) (E := fun i (r : Int) => cev 265 2 5 [vR 78, vI p, vI y, vI r, vI (i + 1)] [] (SH T, c)) (fun i r => (0 ≤ i ∧ i ≤ c 79 11) ∧ r = b01 (anyI (fun k => decide (1 ≤ y - (k + 1) ∧ y - (k + 1) ≤ c 79 4 ∧ c 79 (216 + (y - (k + 1))) = p)) i = true)) (c 79 11) ?_ ?_ 0 0 ⟨by omega, (b01_f (show ¬ (false = true) by decide)).symm⟩
  · intro i r hi hI ih
    refine W_X12_rests_5 (Q := fun Z => Z = some (some (vI (b01 (rst (c 79) p y = true))), (SH T, c))) ⟨fun h => absurd h (by omega), fun _ => ⟨fun h2 => ?_, fun h2 => ⟨by omega, ih 1 ⟨by omega, ?_⟩⟩⟩⟩
    · rw [hI.2] at h2
      have ha := Bool.eq_false_iff.mpr (b01_eq0.mp h2)
      refine ⟨by omega, fun h3 => ⟨by omega, fun h4 => ⟨by omega, ih 1 ⟨by omega, ?_⟩⟩, fun h4 => ⟨by omega, ih 0 ⟨by omega, ?_⟩⟩⟩, fun h3 => ⟨by omega, ih 0 ⟨by omega, ?_⟩⟩⟩
      · rw [anyI_succ (by omega), b01_t]
        rw [show 216 + y - (i + 1) = 216 + (y - (i + 1)) from by omega] at h4
        rw [decide_eq_true ⟨h3.1, h3.2, h4⟩, Bool.or_true]
      · rw [anyI_succ (by omega), b01_f]
        rw [show 216 + y - (i + 1) = 216 + (y - (i + 1)) from by omega] at h4
        rw [ha, decide_eq_false (fun q => h4 q.2.2)]
        decide
      · rw [anyI_succ (by omega), b01_f]
        rw [ha, decide_eq_false (fun q => h3 ⟨q.1, q.2.1⟩)]
        decide
    · rw [anyI_succ (by omega), b01_t]
      rw [hI.2] at h2
      have : anyI (fun k => decide (1 ≤ y - (k + 1) ∧ y - (k + 1) ≤ c 79 4 ∧ c 79 (216 + (y - (k + 1))) = p)) i = true := by
        cases e : anyI (fun k => decide (1 ≤ y - (k + 1) ∧ y - (k + 1) ≤ c 79 4 ∧ c 79 (216 + (y - (k + 1))) = p)) i with
        | true => rfl
        | false => exact absurd (b01_f (by rw [e]; decide)) h2
      rw [this, Bool.true_or]
  · intro i r hi hI
    have : i = c 79 11 := by omega
    subst this
    refine W_X12_rests_5 (Q := fun Z => Z = some (some (vI (b01 (rst (c 79) p y = true))), (SH T, c))) ⟨fun _ => ⟨by rw [hI.2]; exact b01_or, ?_⟩, fun h => absurd h (by omega)⟩
    rw [hI.2]
    rfl
theorem r_moneyBehind {T : List Shp} {c : Cm} {F : List Clz} {l : Int} (h : RWd c F) (hl : 0 ≤ l ∧ l ≤ c 79 4) : QI T (fun r c' => r = mny F (c 79) l ∧ Off [92, 94] [30, 34, 35, 36] c c') (ccal 274 [vR 78, vI l] (SH T, c)) := by
  have hR := h.1
  have h1 := hR.1
  have hi := inc_bd hR (l := l) (by omega)
  refine W_X12_moneyBehind (Q := QI T _) ⟨by omega, ?_⟩
  refine lpI (E := fun i (s : Int × Cm) => cev 274 7 12 [vR 78, vI l, vI s.1, vI (i + 1)] [] (SH T, s.2)) (fun i s => (0 ≤ i ∧ i ≤ l) ∧ Off [92, 94] [30, 34, 35, 36] c s.2 ∧ s.1 = foldI (fun i m => m - ask F (c 79) (c 79 (216 + (i + 1))) (i + 1)) (c 79 10 * l) i) l ?_ ?_ 0 (c 79 10 * l, c) ⟨by omega, Off.rfl, rfl⟩
  · intro i s hi hI ih
    have b := mny_bd (F := F) (R := c 79) (v := c 79 10 * l) (b := i) (by omega)
    rw [← hI.2.2] at b
    have by' := hR.2.2.1 (i + 1) (by omega) (by omega)
    refine W_X12_moneyBehind_12 ⟨fun h => absurd h (by omega), fun _ => ⟨by omega, ?_⟩⟩
    rw [hI.2.1.row rfl]
    refine (r_asksOf (h.off hI.2.1 rfl) (p := c 79 (216 + (i + 1))) (y := i + 1) (by rw [hI.2.1.row rfl]; exact by') (by omega)).mono fun r c2 h2 => ?_
    rw [hI.2.1.row rfl] at h2
    have a := ask_bd (F := F) (R := c 79) (x := c 79 (216 + (i + 1))) (y := i + 1)
    rw [h2.1]
    refine ⟨by omega, ih (_, c2) ⟨by omega, hI.2.1.trans h2.2, ?_⟩⟩
    rw [foldI_succ (by omega), ← hI.2.2]
  · intro i s hi hI
    refine W_X12_moneyBehind_12 ⟨fun _ => QI.ret ⟨?_, hI.2.1⟩, fun h => absurd h (by omega)⟩
    have : i = l := by omega
    subst this
    exact hI.2.2
theorem r_isSame {T : List Shp} {c : Cm} {a b : Int} {P P' : Int → Int} (ha : 0 ≤ a ∧ a < 50) (hb : 0 ≤ b ∧ b < 50) (hP : PP c a P) (hP' : PP c b P') : ccal 284 [vR 78, vI a, vI b] (SH T, c) = some (some (vI (b01 (same P P' = true))), (SH T, c)) := by
  refine W_X12_isSame (Q := fun Z => Z = some (some (vI (b01 (same P P' = true))), (SH T, c))) ?_
  refine lpI (Q := fun Z => Z = some (some (vI (b01 (same P P' = true))), (SH T, c))) (E := fun i (r : Int) => cev 284 1 5 [vR 78, vI a, vI b, vI r, vI i] [] (SH T, c)) (fun i r => (0 ≤ i ∧ i ≤ 12) ∧ r = b01 (allI (fun x => decide (P x = P' x)) i = true)) 12 ?_ ?_ 0 1 ⟨by omega, (b01_t rfl).symm⟩
  · intro i r hi hI ih
    have as : allI (fun x => decide (P x = P' x)) (i + 1) = (allI (fun x => decide (P x = P' x)) i && decide (P i = P' i)) := foldI_succ (by omega)
    refine W_X12_isSame_5 (Q := fun Z => Z = some (some (vI (b01 (same P P' = true))), (SH T, c))) ⟨fun _ => ⟨fun h2 => ⟨by omega, ih 0 ⟨by omega, ?_⟩⟩, fun h2 => ?_⟩, fun h => absurd hi h⟩
    · rw [hI.2] at h2
      rw [as, b01_f]
      rw [Bool.eq_false_iff.mpr (b01_eq0.mp h2), Bool.false_and]
      decide
    · rw [hI.2] at h2
      have ht : allI (fun x => decide (P x = P' x)) i = true := by
        cases e : allI (fun x => decide (P x = P' x)) i with
        | true => rfl
        | false => exact absurd (b01_f (by rw [e]; decide)) h2
      rw [hP i (by omega) (by omega), hP' i (by omega) (by omega)]
      refine ⟨by omega, fun h3 => ⟨by omega, ih 1 ⟨by omega, ?_⟩⟩, fun h3 => ⟨by omega, ih 0 ⟨by omega, ?_⟩⟩⟩
      · rw [as, b01_t]
        rw [ht, decide_eq_true h3]
        rfl
      · rw [as, b01_f]
        rw [ht, decide_eq_false h3]
        decide
  · intro i r hi hI
    have : i = 12 := by omega
    subst this
    refine W_X12_isSame_5 (Q := fun Z => Z = some (some (vI (b01 (same P P' = true))), (SH T, c))) ⟨fun h => absurd h (by omega), fun _ => ⟨by rw [hI.2]; exact b01_or, ?_⟩⟩
    rw [hI.2]
    rfl
theorem b01_ne {b : Bool} (h : ¬ b01 (b = true) = 0) : b = true := by
  cases b with
  | true => rfl
  | false => exact absurd (b01_f (by decide)) h
theorem b01_e0 {b : Bool} (h : b01 (b = true) = 0) : b = false := Bool.eq_false_iff.mpr (b01_eq0.mp h)
theorem r_whoOf {T : List Shp} {c : Cm} {F : List Clz} {l : Int} (h : RWd c F) (hl : 1 ≤ l ∧ l ≤ c 79 4) : QI T (fun r c' => r = who F (c 79) l ∧ Off [92, 94, 95, 96] [30, 34, 35, 36] c c') (ccal 302 [vR 78, vI l] (SH T, c)) := by
  have h1 := h.1.1
  refine W_X12_whoOf (Q := QI T _) ?_
  refine (r_layLooks h (y := l) (by omega)).mono fun c1 h2 => ⟨by omega, ?_⟩
  refine (r_loadPaper (a := 0) (l := l - 1) (by omega) (by omega)).mono fun c2 h3 => ?_
  refine (r_loadPaper (a := 2) (l := l) (by omega) (by omega)).mono fun c3 h4 => ?_
  have e1 : c1 79 = c 79 := h2.2.2.row rfl
  have e2 : c2 79 = c 79 := (h3.2.2.row rfl).trans e1
  have e3 : c3 79 = c 79 := (h4.2.2.row rfl).trans e2
  rw [e1] at h3
  rw [e2] at h4
  have w3 := ((h.off h2.2.2 rfl).off h3.2.2 rfl).off h4.2.2 rfl
  have o3 : Off [92, 94, 95, 96] [30, 34, 35, 36] c c3 := ((h2.2.2.mono rfl rfl).trans (h3.2.2.mono rfl rfl)).trans (h4.2.2.mono rfl rfl)
  have p0 : PP c3 0 (fun x => c 79 (12 + 12 * (l - 1) + x)) := h3.1.keep h4.2.1 (by omega)
  have lk3 : LK c3 F (c 79) l := (h2.1.off h3.2.2 rfl).off h4.2.2 rfl
  refine lpI (E := fun i (s : Int × Cm) => cev 302 8 23 [vR 78, vI l, vI s.1, vI i] [] (SH T, s.2)) (fun i s => (0 ≤ i ∧ i ≤ c 79 0) ∧ Off [96] [] c3 s.2 ∧ (∀ j, (j < 12 * 1 ∨ 12 * 1 + 12 ≤ j) → s.2 96 j = c3 96 j) ∧ (0 ≤ s.1 ∧ s.1 < 2147483648) ∧ s.1 = sto' (fun p => same (pnt (c 79) p (fun x => lk F (c 79) x l) (fun x => c 79 (12 + 12 * (l - 1) + x))) (fun x => c 79 (12 + 12 * l + x))) i) (c 79 0) ?_ ?_ 0 (0, c3) ⟨by omega, Off.rfl, fun _ _ => rfl, (show (0 : Int) ≤ 0 ∧ (0 : Int) < 2147483648 by decide), rfl⟩
  · intro i s hi hI ih
    have es : s.2 79 = c 79 := (hI.2.1.row rfl).trans e3
    have ws := w3.off hI.2.1 rfl
    refine W_X12_whoOf_23 ?_
    rw [es]
    refine ⟨fun _ => ?_, fun h => absurd hi h⟩
    refine (r_paintPaper ws (a := 0) (b := 1) (p := i) (y := l) (by rw [es]; omega) (by omega) (by omega) (by omega) (by omega) (p0.keep hI.2.2.1 (by omega)) (fun x a b => h.1.tone (by omega) ⟨a, b⟩) (by rw [es]; exact lk3.off hI.2.1 rfl)).mono fun c4 h5 => ?_
    rw [es] at h5
    have o4 : Off [96] [] c3 c4 := hI.2.1.trans h5.2.2
    have k4 : ∀ j, (j < 12 * 1 ∨ 12 * 1 + 12 ≤ j) → c4 96 j = c3 96 j := fun j hj => (h5.2.1 j hj).trans (hI.2.2.1 j hj)
    refine QI.of_eq (r_isSame (by omega) (by omega) h5.1 (h4.1.keep k4 (by omega))) ?_
    have sr := shl_rng (k := i) (n := 31) (by omega) (by omega) (by omega)
    refine ⟨fun h6 => ⟨by omega, ih (ior s.1 0, c4) ⟨by omega, o4, k4, ?_⟩⟩, fun h6 => ⟨by omega, ih (ior s.1 (ishl 1 i), c4) ⟨by omega, o4, k4, ior_rng (n := 31) (by omega) hI.2.2.2.1.1 hI.2.2.2.1.2 sr.1 sr.2, ?_⟩⟩⟩
    · rw [ior_0 hI.2.2.2.1.1 hI.2.2.2.1.2]
      refine ⟨hI.2.2.2.1, ?_⟩
      unfold sto'
      rw [foldI_succ (by omega), if_neg (Bool.eq_false_iff.mp (b01_e0 h6))]
      exact hI.2.2.2.2
    · show ior s.1 (ishl 1 i) = _
      unfold sto'
      rw [foldI_succ (by omega), if_pos (b01_ne h6), hI.2.2.2.2]
      rfl
  · intro i s hi hI
    have es : s.2 79 = c 79 := (hI.2.1.row rfl).trans e3
    have : i = c 79 0 := by omega
    subst this
    refine W_X12_whoOf_23 ?_
    rw [es]
    refine ⟨fun h => absurd h (by omega), fun _ => QI.ret ⟨hI.2.2.2.2, o3.trans (hI.2.1.mono rfl rfl)⟩⟩

/-! AND MORE PLAIN QUESTIONS of both -/
def asq (F : List Clz) (R : Int → Int) (p y w : Int) : Int := if (0 ≤ p ∧ p < R 0) ∧ (0 ≤ y ∧ y < 100) ∧ 0 ≤ w ∧ w ≤ 1 then (if w = 0 then ask F R p y else b01 (brp F R p y = true)) else -1
theorem c_asks {T : List Shp} {c : Cm} {R : Int → Int} {F : List Clz} {p y w : Int} (h : CWd T c R F) : QI T (fun r c' => r = asq F R p y w ∧ Off [14, 15, 16, 17] [] c c') (ccal 131 [vR 1, vI p, vI y, vI w] (SH T, c)) := by
  refine W_X11_asks (Q := QI T _) ?_
  rw [h.1.1.1]
  unfold asq
  refine ⟨fun e => ⟨fun e2 => ⟨fun e3 => ⟨fun e4 => (c_asksOf h.1 h.2.1 h.2.2 e (by omega)).mono fun r c2 h2 => QI.ret ⟨?_, h2.2⟩, fun e4 => (c_barsPainter h.1 h.2.1 h.2.2 e (by omega)).mono fun r c2 h2 => ?_⟩, fun e3 => QI.ret ⟨?_, Off.rfl⟩⟩, fun e2 => QI.ret ⟨?_, Off.rfl⟩⟩, fun e => QI.ret ⟨?_, Off.rfl⟩⟩
  · rw [if_pos ⟨e, e2, by omega⟩, if_pos e4]; exact h2.1
  · rw [h2.1]
    refine QI.of_eq (S_X11_bit T c2 _) (QI.ret ⟨?_, h2.2⟩)
    rw [if_pos ⟨e, e2, by omega⟩, if_neg e4]
  · rw [if_neg (fun z => e3 (by omega))]
  · rw [if_neg (fun z => e2 z.2.1)]
  · rw [if_neg (fun z => e z.1)]
theorem r_asks {T : List Shp} {c : Cm} {F : List Clz} {p y w : Int} (h : RWd c F) : QI T (fun r c' => r = asq F (c 79) p y w ∧ Off [92, 94] [0, 30, 34, 35, 36] c c') (ccal 258 [vR 78, vI p, vI y, vI w] (SH T, c)) := by
  have h1 := h.1.1
  have o0 : Off [92, 94] [0, 30, 34, 35, 36] c (up c 77 0 0) := Off.rfl.wr rfl
  have hw := h.off o0 rfl
  have er : (up c 77 0 0) 79 = c 79 := o0.row rfl
  refine W_X12_asks (Q := QI T _) ?_
  unfold asq
  refine ⟨by omega, fun e => ⟨fun e2 => ⟨fun e3 => ⟨fun e4 => (r_asksOf hw (by rw [er]; exact e) (by omega)).mono fun r c2 h2 => QI.ret ⟨?_, o0.trans (h2.2.mono rfl rfl)⟩, fun e4 => (r_isBarred hw (by rw [er]; exact e) (by omega)).mono fun r c2 h2 => ?_⟩, fun e3 => QI.ret ⟨?_, o0⟩⟩, fun e2 => QI.ret ⟨?_, o0⟩⟩, fun e => QI.ret ⟨?_, o0⟩⟩
  · rw [if_pos ⟨e, e2, e3⟩, if_pos e4, h2.1, er]
  · rw [h2.1, er]
    rw [if_pos ⟨e, e2, e3⟩, if_neg e4]
    refine ⟨fun z => QI.ret ⟨?_, o0.trans (h2.2.mono rfl rfl)⟩, fun z => QI.ret ⟨?_, o0.trans (h2.2.mono rfl rfl)⟩⟩
    · exact z.symm
    · rcases b01_or (p := brp F (c 79) p y = true) with q | q
      · exact absurd q z
      · exact q.symm
  · rw [if_neg (fun z => e3 z.2.2)]
  · rw [if_neg (fun z => e2 z.2.1)]
  · rw [if_neg (fun z => e z.1)]
def brn' (R : Int → Int) (q w : Int) : Int := if (0 ≤ q ∧ q < R 6) ∧ 0 ≤ w ∧ w ≤ 3 then R (348 + 4 * q + w) else -1
theorem c_born {T : List Shp} {c : Cm} {R : Int → Int} {q w : Int} (h : CS c R) (hR : RNG R) : ccal 159 [vR 1, vI q, vI w] (SH T, c) = some (some (vI (brn' R q w)), (SH T, c)) := by
  have h1 := hR.1
  refine W_X11_born (Q := fun Z => Z = some (some (vI (brn' R q w)), (SH T, c))) ?_
  rw [h.1.2.2.2.2.2.2.1]
  unfold brn'
  refine ⟨fun e => ⟨fun e2 => ⟨by omega, ?_⟩, fun e2 => ?_⟩, fun e => ?_⟩
  · rw [if_pos ⟨e, by omega⟩, h.2.2.2.2.2.2 _ (by omega) (by omega), show 348 + (q * 4 + w) = 348 + 4 * q + w from by omega]
  · rw [if_neg (fun z => e2 (by omega))]
  · rw [if_neg (fun z => e z.1)]
theorem r_born {T : List Shp} {c : Cm} {F : List Clz} {q w : Int} (h : RWd c F) : ccal 314 [vR 78, vI q, vI w] (SH T, c) = some (some (vI (brn' (c 79) q w)), (SH T, up c 77 0 0)) := by
  have h1 := h.1.1
  refine W_X12_born (Q := fun Z => Z = some (some (vI (brn' (c 79) q w)), (SH T, up c 77 0 0))) ?_
  unfold brn'
  refine ⟨by omega, fun e => ⟨fun e2 => ⟨by omega, ?_⟩, fun e2 => ?_⟩, fun e => ?_⟩
  · rw [if_pos ⟨e, e2⟩]
  · rw [if_neg (fun z => e2 z.2)]
  · rw [if_neg (fun z => e z.1)]
def stq (F : List Clz) (R : Int → Int) (q y w : Int) : Int := if (0 ≤ q ∧ q < R 6) ∧ (0 ≤ y ∧ y < 100) ∧ 0 ≤ w ∧ w ≤ 3 then (if w = 0 then b01 (R (348 + 4 * q + 1) ≤ y ∧ y < R (348 + 4 * q + 2)) else if w = 1 then rnk F R q y else if w = 2 then b01 (brq F R q y = true) else chd R q y) else -1
theorem c_stands {T : List Shp} {c : Cm} {R : Int → Int} {F : List Clz} {q y w : Int} (h : CWd T c R F) : QI T (fun r c' => r = stq F R q y w ∧ Off [14, 15, 16, 17] [] c c') (ccal 160 [vR 1, vI q, vI y, vI w] (SH T, c)) := by
  have h1 := h.2.1.1
  refine W_X11_stands (Q := QI T _) ?_
  rw [h.1.1.2.2.2.2.2.2.1]
  unfold stq
  refine ⟨fun e => ⟨fun e2 => ⟨fun e3 => ⟨by omega, QI.ret ⟨?_, Off.rfl⟩⟩, fun e3 => (c_ranksOf h.1 h.2.1 h.2.2 e (by omega)).mono fun r c2 h2 => QI.ret ⟨?_, h2.2⟩, fun e3 => (c_barsClaimant h.1 h.2.1 h.2.2 e (by omega)).mono fun r c2 h2 => ?_, fun e3 => QI.of_eq (c_childrenOf h.1 h.2.1) (QI.ret ⟨?_, Off.rfl⟩), fun e3 => QI.ret ⟨?_, Off.rfl⟩⟩, fun e2 => QI.ret ⟨?_, Off.rfl⟩⟩, fun e => QI.ret ⟨?_, Off.rfl⟩⟩
  · rw [if_pos ⟨e, e2, by omega⟩, if_pos e3, h.1.2.2.2.2.2.2 _ (by omega) (by omega), h.1.2.2.2.2.2.2 _ (by omega) (by omega), show 348 + (q * 4 + 1) = 348 + 4 * q + 1 from by omega, show 348 + (q * 4 + 2) = 348 + 4 * q + 2 from by omega]
  · rw [if_pos ⟨e, e2, by omega⟩, if_neg (by omega), if_pos e3]; exact h2.1
  · rw [h2.1]
    refine QI.of_eq (S_X11_bit T c2 _) (QI.ret ⟨?_, h2.2⟩)
    rw [if_pos ⟨e, e2, by omega⟩, if_neg (show ¬ w = 0 by omega), if_neg (show ¬ w = 1 by omega), if_pos e3]
  · rw [if_pos ⟨e, e2, by omega⟩, if_neg (show ¬ w = 0 by omega), if_neg (show ¬ w = 1 by omega), if_neg (show ¬ w = 2 by omega)]
  · rw [if_neg (fun z => e3 (by omega))]
  · rw [if_neg (fun z => e2 z.2.1)]
  · rw [if_neg (fun z => e z.1)]
theorem r_stands {T : List Shp} {c : Cm} {F : List Clz} {q y w : Int} (h : RWd c F) : QI T (fun r c' => r = stq F (c 79) q y w ∧ Off [92, 94] [0, 30, 34, 35, 36] c c') (ccal 320 [vR 78, vI q, vI y, vI w] (SH T, c)) := by
  have h1 := h.1.1
  have o0 : Off [92, 94] [0, 30, 34, 35, 36] c (up c 77 0 0) := Off.rfl.wr rfl
  have hw := h.off o0 rfl
  have er : (up c 77 0 0) 79 = c 79 := o0.row rfl
  refine W_X12_stands (Q := QI T _) ?_
  unfold stq
  refine ⟨by omega, fun e => ⟨fun e2 => ⟨fun e0 => ⟨fun e3 => ⟨by omega, fun z => QI.ret ⟨?_, o0⟩, fun z => QI.ret ⟨?_, o0⟩⟩, fun e3 => (r_ranks hw (by rw [er]; exact e) (by omega)).mono fun r c2 h2 => QI.ret ⟨?_, o0.trans (h2.2.mono rfl rfl)⟩, fun e3 => (r_isOut hw (by rw [er]; exact e) (by omega)).mono fun r c2 h2 => ?_, fun e3 => QI.of_eq (r_childrenOf hw) (QI.ret ⟨?_, o0⟩)⟩, fun e0 => QI.ret ⟨?_, o0⟩⟩, fun e2 => QI.ret ⟨?_, o0⟩⟩, fun e => QI.ret ⟨?_, o0⟩⟩
  · rw [if_pos ⟨e, e2, e0⟩, if_pos e3, b01_t z]
  · rw [if_pos ⟨e, e2, e0⟩, if_pos e3, b01_f z]
  · rw [if_pos ⟨e, e2, e0⟩, if_neg (by omega), if_pos e3, h2.1, er]
  · rw [h2.1, er]
    rw [if_pos ⟨e, e2, e0⟩, if_neg (show ¬ w = 0 by omega), if_neg (show ¬ w = 1 by omega), if_pos e3]
    refine ⟨fun z => QI.ret ⟨z.symm, o0.trans (h2.2.mono rfl rfl)⟩, fun z => QI.ret ⟨?_, o0.trans (h2.2.mono rfl rfl)⟩⟩
    rcases b01_or (p := brq F (c 79) q y = true) with z2 | z2
    · exact absurd z2 z
    · exact z2.symm
  · rw [if_pos ⟨e, e2, e0⟩, if_neg (show ¬ w = 0 by omega), if_neg (show ¬ w = 1 by omega), if_neg (show ¬ w = 2 by omega), er]
  · rw [if_neg (fun z => e0 z.2.2)]
  · rw [if_neg (fun z => e2 z.2.1)]
  · rw [if_neg (fun z => e z.1)]
theorem ith_neg {p : Int → Bool} {i n : Int} (hi : i < 0) (hn : 0 ≤ n) : ith p i n = -1 := by
  unfold ith
  refine frst_none (fun j a b => ?_) hn
  rw [decide_eq_false (by have := cnt_bd (p := p) a; omega), Bool.and_false]
theorem c_undoing {T : List Shp} {c : Cm} {R : Int → Int} {F : List Clz} {i : Int} (h : CWd T c R F) : QI T (fun r c' => r = udo F R i ∧ Off [14, 15, 16, 17, 19, 20] [] c c') (ccal 141 [vR 1, vI i] (SH T, c)) := by
  refine W_X11_undoing (Q := QI T _) ⟨fun e => QI.ret ⟨?_, Off.rfl⟩, fun e => (c_undoingPair h).mono fun r c2 h2 => QI.ret h2⟩
  unfold udo
  rw [ith_neg (by omega) (by omega), if_pos rfl, if_neg (by omega)]

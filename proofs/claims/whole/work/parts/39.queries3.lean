/-! STILL MORE PLAIN QUESTIONS of both -/
def lkq (F : List Clz) (R : Int → Int) (x y w : Int) : Int := if 0 ≤ y ∧ y < 100 then (if x = -1 then ag R y else if (0 ≤ x ∧ x < 12) ∧ 0 ≤ w ∧ w ≤ 1 then (if w = 0 then lk F R x y else lt F R x y) else -1) else -1
theorem c_looks {T : List Shp} {c : Cm} {R : Int → Int} {F : List Clz} {x y w : Int} (h : CWd T c R F) : QI T (fun r c' => r = lkq F R x y w ∧ Off [14, 15, 16, 17] [] c c') (ccal 130 [vR 1, vI x, vI y, vI w] (SH T, c)) := by
  refine W_X11_looks (Q := QI T _) ?_
  unfold lkq
  refine ⟨fun e => ⟨fun e2 => QI.of_eq (c_ageIn h.1 h.2.1 (by omega) (by omega)) (QI.ret ⟨?_, Off.rfl⟩), fun e2 => ⟨fun e3 => ⟨fun e4 => ⟨fun e5 => (c_looksOf h.1 h.2.1 h.2.2 e3 (by omega)).mono fun r c2 h2 => QI.ret ⟨?_, h2.2⟩, fun e5 => (c_letsOf h.1 h.2.1 h.2.2 e3 (by omega)).mono fun r c2 h2 => QI.ret ⟨?_, h2.2⟩⟩, fun e4 => QI.ret ⟨?_, Off.rfl⟩⟩, fun e3 => QI.ret ⟨?_, Off.rfl⟩⟩⟩, fun e => QI.ret ⟨?_, Off.rfl⟩⟩
  · rw [if_pos e, if_pos e2]
  · rw [if_pos e, if_neg e2, if_pos (show (0 ≤ x ∧ x < 12) ∧ 0 ≤ w ∧ w ≤ 1 by omega), if_pos e5]; exact h2.1
  · rw [if_pos e, if_neg e2, if_pos (show (0 ≤ x ∧ x < 12) ∧ 0 ≤ w ∧ w ≤ 1 by omega), if_neg e5]; exact h2.1
  · rw [if_pos e, if_neg e2, if_neg (show ¬ ((0 ≤ x ∧ x < 12) ∧ 0 ≤ w ∧ w ≤ 1) by omega)]
  · rw [if_pos e, if_neg e2, if_neg (show ¬ ((0 ≤ x ∧ x < 12) ∧ 0 ≤ w ∧ w ≤ 1) by omega)]
  · rw [if_neg e]
theorem r_looks {T : List Shp} {c : Cm} {F : List Clz} {x y w : Int} (h : RWd c F) : QI T (fun r c' => r = lkq F (c 79) x y w ∧ Off [92, 94] [0, 30, 34, 35, 36] c c') (ccal 257 [vR 78, vI x, vI y, vI w] (SH T, c)) := by
  have o0 : Off [92, 94] [0, 30, 34, 35, 36] c (up c 77 0 0) := Off.rfl.wr rfl
  have hw := h.off o0 rfl
  have er : (up c 77 0 0) 79 = c 79 := o0.row rfl
  have last : (0 ≤ y ∧ y < 100) → (x = -1 ∨ ((0 ≤ x ∧ x < 12) ∧ 0 ≤ w ∧ w ≤ 1)) → QI T (fun r c' => r = lkq F (c 79) x y w ∧ Off [92, 94] [0, 30, 34, 35, 36] c c') (cev 257 7 36 [vR 78, vI x, vI y, vI w] [] (SH T, up c 77 0 0)) := by
    intro e e1
    unfold lkq
    refine W_X12_looks_36 ⟨fun e2 => QI.of_eq (r_ageIn hw (by omega)) (QI.ret ⟨?_, o0⟩), fun e2 => ⟨fun e5 => (r_looksOf hw (by omega) (by omega)).mono fun r c2 h2 => QI.ret ⟨?_, o0.trans (h2.2.mono rfl rfl)⟩, fun e5 => (r_letsOf hw (by omega) (by omega)).mono fun r c2 h2 => QI.ret ⟨?_, o0.trans (h2.2.mono rfl rfl)⟩⟩⟩
    · rw [if_pos e, if_pos e2, er]
    · rw [if_pos e, if_neg e2, if_pos (show (0 ≤ x ∧ x < 12) ∧ 0 ≤ w ∧ w ≤ 1 by omega), if_pos e5, h2.1, er]
    · rw [if_pos e, if_neg e2, if_pos (show (0 ≤ x ∧ x < 12) ∧ 0 ≤ w ∧ w ≤ 1 by omega), if_neg e5, h2.1, er]
  refine W_X12_looks (Q := QI T _) ⟨fun e => ⟨fun e2 => last e (.inl e2), fun e2 => ⟨fun e3 => ⟨fun e4 => last e (.inr ⟨e3, e4⟩), fun e4 => QI.ret ⟨?_, o0⟩⟩, fun e3 => QI.ret ⟨?_, o0⟩⟩⟩, fun e => QI.ret ⟨?_, o0⟩⟩
  · unfold lkq; rw [if_pos e, if_neg e2, if_neg (fun z => e4 z.2)]
  · unfold lkq; rw [if_pos e, if_neg e2, if_neg (fun z => e3 z.1)]
  · unfold lkq; rw [if_neg e]
def laq (F : List Clz) (R : Int → Int) (l w : Int) : Int := if (0 ≤ l ∧ l ≤ R 4) ∧ 0 ≤ w ∧ w ≤ 3 then (if w = 0 then unl F R l else if w = 1 then (if l = 0 then -1 else R (216 + l)) else if w = 2 then (if l = 0 then 0 else ask F R (R (216 + l)) l) else far F R l) else -1
theorem c_layer {T : List Shp} {c : Cm} {R : Int → Int} {F : List Clz} {l w : Int} (h : CWd T c R F) : QI T (fun r c' => r = laq F R l w ∧ Off [14, 15, 16, 17] [] c c') (ccal 135 [vR 1, vI l, vI w] (SH T, c)) := by
  have h1 := h.2.1.1
  have e8 := h.1.1.2.2.2.2.1
  have by6 : ∀ l, 1 ≤ l → l ≤ R 4 → c 6 l = R (216 + l) := fun l a b => h.1.2.2.2.1 l (by omega) (by omega)
  refine W_X11_layer (Q := QI T _) ?_
  rw [e8]
  unfold laq
  refine ⟨by omega, fun e => ⟨fun e2 => (c_unlikeOf h (by omega)).mono fun r c2 h2 => QI.ret ⟨?_, h2.2⟩, fun e2 => ⟨fun e3 => QI.ret ⟨?_, Off.rfl⟩, fun e3 => ⟨by omega, QI.ret ⟨?_, Off.rfl⟩⟩⟩, fun e2 => ⟨fun e3 => QI.ret ⟨?_, Off.rfl⟩, fun e3 => ⟨by omega, ?_⟩⟩, fun e2 => (c_farCell h (by omega)).mono fun r c2 h2 => QI.ret ⟨?_, h2.2⟩, fun e2 => QI.ret ⟨?_, Off.rfl⟩⟩, fun e => QI.ret ⟨?_, Off.rfl⟩⟩
  · rw [if_pos (by omega), if_pos e2]; exact h2.1
  · rw [if_pos (by omega), if_neg (by omega), if_pos e2, if_pos e3]
  · rw [if_pos (by omega), if_neg (by omega), if_pos e2, if_neg e3]; exact by6 l (by omega) (by omega)
  · rw [if_pos (by omega), if_neg (by omega), if_neg (by omega), if_pos e2, if_pos e3]
  · rw [by6 l (by omega) (by omega)]
    have hb := h.2.1.2.2.1 l (by omega) (by omega)
    refine (c_asksOf h.1 h.2.1 h.2.2 hb (by omega)).mono fun r c2 h2 => QI.ret ⟨?_, h2.2⟩
    rw [if_pos (by omega), if_neg (by omega), if_neg (by omega), if_pos e2, if_neg e3]; exact h2.1
  · rw [if_pos (by omega), if_neg (by omega), if_neg (by omega), if_neg (by omega)]; exact h2.1
  · rw [if_neg (by omega)]
  · rw [if_neg (by omega)]
theorem r_layer {T : List Shp} {c : Cm} {F : List Clz} {l w : Int} (h : RWd c F) : QI T (fun r c' => r = laq F (c 79) l w ∧ Off [92, 94, 95, 96] [0, 30, 34, 35, 36] c c') (ccal 272 [vR 78, vI l, vI w] (SH T, c)) := by
  have h1 := h.1.1
  have o0 : Off [92, 94, 95, 96] [0, 30, 34, 35, 36] c (up c 77 0 0) := Off.rfl.wr rfl
  have hw := h.off o0 rfl
  have er : (up c 77 0 0) 79 = c 79 := o0.row rfl
  refine W_X12_layer (Q := QI T _) ?_
  unfold laq
  refine ⟨fun e => ⟨fun e0 => ⟨fun e2 => (r_unlikeOf hw (by omega)).mono fun r c2 h2 => QI.ret ⟨?_, o0.trans (h2.2.mono rfl rfl)⟩, fun e2 => ⟨fun e3 => QI.ret ⟨?_, o0⟩, fun e3 => ⟨by omega, QI.ret ⟨?_, o0⟩⟩⟩, fun e2 => ⟨fun e3 => QI.ret ⟨?_, o0⟩, fun e3 => ⟨by omega, ?_⟩⟩, fun e2 => (r_tooFarIn hw (by omega)).mono fun r c2 h2 => QI.ret ⟨?_, o0.trans (h2.2.mono rfl rfl)⟩⟩, fun e0 => QI.ret ⟨?_, o0⟩⟩, fun e => QI.ret ⟨?_, o0⟩⟩
  · rw [if_pos ⟨e, e0⟩, if_pos e2, h2.1, er]
  · rw [if_pos ⟨e, e0⟩, if_neg (by omega), if_pos e2, if_pos e3]
  · rw [if_pos ⟨e, e0⟩, if_neg (by omega), if_pos e2, if_neg e3]
  · rw [if_pos ⟨e, e0⟩, if_neg (by omega), if_neg (by omega), if_pos e2, if_pos e3]
  · have hb := h.1.2.2.1 l (by omega) (by omega)
    refine (r_asksOf hw (by rw [er]; exact hb) (by omega)).mono fun r c2 h2 => QI.ret ⟨?_, o0.trans (h2.2.mono rfl rfl)⟩
    rw [if_pos ⟨e, e0⟩, if_neg (by omega), if_neg (by omega), if_pos e2, if_neg e3, h2.1, er]
  · rw [if_pos ⟨e, e0⟩, if_neg (by omega), if_neg (by omega), if_neg (by omega), h2.1, er]
  · rw [if_neg (fun z => e0 z.2)]
  · rw [if_neg (fun z => e z.1)]

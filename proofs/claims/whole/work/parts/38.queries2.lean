/-! MORE PLAIN QUESTIONS of both -/
def ulf (F : List Clz) (R : Int → Int) : Int := frst (fun l => decide (far F R l ≠ -1)) (R 4 + 1)
def brk (F : List Clz) (R : Int → Int) : Int := frst (fun l => decide (mny F R l < 0)) (R 4 + 1)
def skp (F : List Clz) (R : Int → Int) : Int := frst (fun l => decide (1 ≤ l ∧ who F R l = 0)) (R 4 + 1)
theorem c_unlawful {T : List Shp} {c : Cm} {R : Int → Int} {F : List Clz} (h : CWd T c R F) : QI T (fun r c' => r = ulf F R ∧ Off [14, 15, 16, 17] [] c c') (ccal 136 [vR 1] (SH T, c)) := by
  have h1 := h.2.1.1
  refine W_X11_unlawful (Q := QI T _) ?_
  refine lpI (E := fun l (c' : Cm) => cev 136 6 2 [vR 1, vI l] [] (SH T, c')) (fun l c' => (0 ≤ l ∧ l ≤ R 4 + 1) ∧ Off [14, 15, 16, 17] [] c c' ∧ ∀ k, 0 ≤ k → k < l → decide (far F R k ≠ -1) = false) (R 4 + 1) ?_ ?_ 0 c ⟨by omega, Off.rfl, fun k a b => by omega⟩
  · intro l c' hl hI ih
    obtain ⟨hl0, o, hk⟩ := hI
    have hs := h.off o rfl
    refine W_X11_unlawful_2 ?_
    rw [hs.1.1.2.2.2.2.1]
    refine ⟨fun z => absurd z (by omega), fun _ => (c_farCell hs (by omega)).mono fun r c2 h2 => ?_⟩
    rw [h2.1]
    refine ⟨fun e => ⟨by omega, ih c2 ⟨by omega, o.trans h2.2, fun k a b => ?_⟩⟩, fun e => QI.ret ⟨?_, o.trans h2.2⟩⟩
    · by_cases q : k = l
      · rw [q]; exact decide_eq_false (fun z => z e)
      · exact hk k a (by omega)
    · exact (frst_at (fun k a b => hk k a b) hl0.1 hl (decide_eq_true e)).symm
  · intro l c' hl hI
    obtain ⟨hl0, o, hk⟩ := hI
    have hs := h.off o rfl
    refine W_X11_unlawful_2 ?_
    rw [hs.1.1.2.2.2.2.1]
    refine ⟨fun _ => QI.ret ⟨?_, o⟩, fun z => absurd (show R 4 < l by omega) z⟩
    exact (frst_none (fun k a b => hk k a (by omega)) (by omega)).symm
theorem r_unlawful {T : List Shp} {c : Cm} {F : List Clz} (h : RWd c F) : QI T (fun r c' => r = ulf F (c 79) ∧ Off [92, 94, 95, 96] [0, 30, 34, 35, 36] c c') (ccal 273 [vR 78] (SH T, c)) := by
  have h1 := h.1.1
  refine W_X12_unlawful (Q := QI T _) ?_
  refine lpI (E := fun l (c' : Cm) => cev 273 9 7 [vR 78, vI l] [] (SH T, c')) (fun l c' => (0 ≤ l ∧ l ≤ c 79 4 + 1) ∧ Off [92, 94, 95, 96] [0, 30, 34, 35, 36] c c' ∧ ∀ k, 0 ≤ k → k < l → decide (far F (c 79) k ≠ -1) = false) (c 79 4 + 1) ?_ ?_ 0 (up c 77 0 0) ⟨by omega, Off.rfl.wr rfl, fun k a b => by omega⟩
  · intro l c' hl hI ih
    obtain ⟨hl0, o, hk⟩ := hI
    have hs := h.off o rfl
    have er : c' 79 = c 79 := o.row rfl
    refine W_X12_unlawful_7 ?_
    rw [er]
    refine ⟨fun z => absurd z (by omega), fun _ => (r_tooFarIn hs (by omega)).mono fun r c2 h2 => ?_⟩
    rw [h2.1, er]
    have o2 := o.trans (h2.2.mono (L' := [92, 94, 95, 96]) (F' := [0, 30, 34, 35, 36]) rfl rfl)
    refine ⟨fun e => ⟨by omega, ih c2 ⟨by omega, o2, fun k a b => ?_⟩⟩, fun e => QI.ret ⟨?_, o2⟩⟩
    · by_cases q : k = l
      · rw [q]; exact decide_eq_false (fun z => z e)
      · exact hk k a (by omega)
    · exact (frst_at (fun k a b => hk k a b) hl0.1 hl (decide_eq_true e)).symm
  · intro l c' hl hI
    obtain ⟨hl0, o, hk⟩ := hI
    have er : c' 79 = c 79 := o.row rfl
    refine W_X12_unlawful_7 ?_
    rw [er]
    refine ⟨fun _ => QI.ret ⟨?_, o⟩, fun z => absurd (show c 79 4 < l by omega) z⟩
    exact (frst_none (fun k a b => hk k a (by omega)) (by omega)).symm
theorem c_broke {T : List Shp} {c : Cm} {R : Int → Int} {F : List Clz} (h : CWd T c R F) : QI T (fun r c' => r = brk F R ∧ Off [14, 15, 16, 17] [] c c') (ccal 138 [vR 1] (SH T, c)) := by
  have h1 := h.2.1.1
  refine W_X11_broke (Q := QI T _) ?_
  refine lpI (E := fun l (c' : Cm) => cev 138 6 2 [vR 1, vI l] [] (SH T, c')) (fun l c' => (0 ≤ l ∧ l ≤ R 4 + 1) ∧ Off [14, 15, 16, 17] [] c c' ∧ ∀ k, 0 ≤ k → k < l → decide (mny F R k < 0) = false) (R 4 + 1) ?_ ?_ 0 c ⟨by omega, Off.rfl, fun k a b => by omega⟩
  · intro l c' hl hI ih
    obtain ⟨hl0, o, hk⟩ := hI
    have hs := h.off o rfl
    refine W_X11_broke_2 ?_
    rw [hs.1.1.2.2.2.2.1]
    refine ⟨fun z => absurd z (by omega), fun _ => (c_moneyBehind hs (by omega)).mono fun r c2 h2 => ?_⟩
    rw [h2.1]
    refine ⟨fun e => QI.ret ⟨?_, o.trans h2.2⟩, fun e => ⟨by omega, ih c2 ⟨by omega, o.trans h2.2, fun k a b => ?_⟩⟩⟩
    · exact (frst_at (fun k a b => hk k a b) hl0.1 hl (decide_eq_true e)).symm
    · by_cases q : k = l
      · rw [q]; exact decide_eq_false e
      · exact hk k a (by omega)
  · intro l c' hl hI
    obtain ⟨hl0, o, hk⟩ := hI
    have hs := h.off o rfl
    refine W_X11_broke_2 ?_
    rw [hs.1.1.2.2.2.2.1]
    refine ⟨fun _ => QI.ret ⟨?_, o⟩, fun z => absurd (show R 4 < l by omega) z⟩
    exact (frst_none (fun k a b => hk k a (by omega)) (by omega)).symm
theorem r_broke {T : List Shp} {c : Cm} {F : List Clz} (h : RWd c F) : QI T (fun r c' => r = brk F (c 79) ∧ Off [92, 94] [0, 30, 34, 35, 36] c c') (ccal 276 [vR 78] (SH T, c)) := by
  have h1 := h.1.1
  refine W_X12_broke (Q := QI T _) ?_
  refine lpI (E := fun l (c' : Cm) => cev 276 8 7 [vR 78, vI l] [] (SH T, c')) (fun l c' => (0 ≤ l ∧ l ≤ c 79 4 + 1) ∧ Off [92, 94] [0, 30, 34, 35, 36] c c' ∧ ∀ k, 0 ≤ k → k < l → decide (mny F (c 79) k < 0) = false) (c 79 4 + 1) ?_ ?_ 0 (up c 77 0 0) ⟨by omega, Off.rfl.wr rfl, fun k a b => by omega⟩
  · intro l c' hl hI ih
    obtain ⟨hl0, o, hk⟩ := hI
    have hs := h.off o rfl
    have er : c' 79 = c 79 := o.row rfl
    refine W_X12_broke_7 ?_
    rw [er]
    refine ⟨fun z => absurd z (by omega), fun _ => (r_moneyBehind hs (by rw [er]; omega)).mono fun r c2 h2 => ?_⟩
    rw [h2.1, er]
    have o2 := o.trans (h2.2.mono (L' := [92, 94]) (F' := [0, 30, 34, 35, 36]) rfl rfl)
    refine ⟨fun e => QI.ret ⟨?_, o2⟩, fun e => ⟨by omega, ih c2 ⟨by omega, o2, fun k a b => ?_⟩⟩⟩
    · exact (frst_at (fun k a b => hk k a b) hl0.1 hl (decide_eq_true e)).symm
    · by_cases q : k = l
      · rw [q]; exact decide_eq_false e
      · exact hk k a (by omega)
  · intro l c' hl hI
    obtain ⟨hl0, o, hk⟩ := hI
    have er : c' 79 = c 79 := o.row rfl
    refine W_X12_broke_7 ?_
    rw [er]
    refine ⟨fun _ => QI.ret ⟨?_, o⟩, fun z => absurd (show c 79 4 < l by omega) z⟩
    exact (frst_none (fun k a b => hk k a (by omega)) (by omega)).symm
theorem c_skipped {T : List Shp} {c : Cm} {R : Int → Int} {F : List Clz} (h : CWd T c R F) : QI T (fun r c' => r = skp F R ∧ Off [14, 15, 16, 17, 19] [] c c') (ccal 153 [vR 1] (SH T, c)) := by
  have h1 := h.2.1.1
  refine W_X11_skipped (Q := QI T _) ?_
  refine lpI (E := fun l (c' : Cm) => cev 153 7 2 [vR 1, vI l] [] (SH T, c')) (fun l c' => (1 ≤ l ∧ l ≤ R 4 + 1) ∧ Off [14, 15, 16, 17, 19] [] c c' ∧ ∀ k, 0 ≤ k → k < l → decide (1 ≤ k ∧ who F R k = 0) = false) (R 4 + 1) ?_ ?_ 1 c ⟨by omega, Off.rfl, fun k a b => decide_eq_false (by omega)⟩
  · intro l c' hl hI ih
    obtain ⟨hl0, o, hk⟩ := hI
    have hs := h.off o rfl
    refine W_X11_skipped_2 ?_
    rw [hs.1.1.2.2.2.2.1]
    refine ⟨fun z => absurd z (by omega), fun _ => (c_whoCan hs (by omega)).mono fun r c2 h2 => ?_⟩
    rw [h2.1]
    refine ⟨fun e => QI.ret ⟨?_, o.trans h2.2⟩, fun e => ⟨by omega, ih c2 ⟨by omega, o.trans h2.2, fun k a b => ?_⟩⟩⟩
    · exact (frst_at (fun k a b => hk k a b) (by omega) hl (decide_eq_true ⟨hl0.1, e⟩)).symm
    · by_cases q : k = l
      · rw [q]; exact decide_eq_false (fun z => e z.2)
      · exact hk k a (by omega)
  · intro l c' hl hI
    obtain ⟨hl0, o, hk⟩ := hI
    have hs := h.off o rfl
    refine W_X11_skipped_2 ?_
    rw [hs.1.1.2.2.2.2.1]
    refine ⟨fun _ => QI.ret ⟨?_, o⟩, fun z => absurd (show R 4 < l by omega) z⟩
    exact (frst_none (fun k a b => hk k a (by omega)) (by omega)).symm
theorem r_skipped {T : List Shp} {c : Cm} {F : List Clz} (h : RWd c F) : QI T (fun r c' => r = skp F (c 79) ∧ Off [92, 94, 95, 96] [0, 30, 34, 35, 36] c c') (ccal 305 [vR 78] (SH T, c)) := by
  have h1 := h.1.1
  refine W_X12_skipped (Q := QI T _) ?_
  refine lpI (E := fun l (c' : Cm) => cev 305 9 7 [vR 78, vI l] [] (SH T, c')) (fun l c' => (1 ≤ l ∧ l ≤ c 79 4 + 1) ∧ Off [92, 94, 95, 96] [0, 30, 34, 35, 36] c c' ∧ ∀ k, 0 ≤ k → k < l → decide (1 ≤ k ∧ who F (c 79) k = 0) = false) (c 79 4 + 1) ?_ ?_ 1 (up c 77 0 0) ⟨by omega, Off.rfl.wr rfl, fun k a b => decide_eq_false (by omega)⟩
  · intro l c' hl hI ih
    obtain ⟨hl0, o, hk⟩ := hI
    have hs := h.off o rfl
    have er : c' 79 = c 79 := o.row rfl
    refine W_X12_skipped_7 ?_
    rw [er]
    refine ⟨fun z => absurd z (by omega), fun _ => (r_whoOf hs (by rw [er]; omega)).mono fun r c2 h2 => ?_⟩
    rw [h2.1, er]
    have o2 := o.trans (h2.2.mono (L' := [92, 94, 95, 96]) (F' := [0, 30, 34, 35, 36]) rfl rfl)
    refine ⟨fun e => QI.ret ⟨?_, o2⟩, fun e => ⟨by omega, ih c2 ⟨by omega, o2, fun k a b => ?_⟩⟩⟩
    · exact (frst_at (fun k a b => hk k a b) (by omega) hl (decide_eq_true ⟨hl0.1, e⟩)).symm
    · by_cases q : k = l
      · rw [q]; exact decide_eq_false (fun z => e z.2)
      · exact hk k a (by omega)
  · intro l c' hl hI
    obtain ⟨hl0, o, hk⟩ := hI
    have er : c' 79 = c 79 := o.row rfl
    refine W_X12_skipped_7 ?_
    rw [er]
    refine ⟨fun _ => QI.ret ⟨?_, o⟩, fun z => absurd (show c 79 4 < l by omega) z⟩
    exact (frst_none (fun k a b => hk k a (by omega)) (by omega)).symm
def waq (F : List Clz) (R : Int → Int) (x : Int) : Int := if 0 ≤ x ∧ x < 12 then was F R x else -1
theorem c_was {T : List Shp} {c : Cm} {R : Int → Int} {F : List Clz} {x : Int} (h : CWd T c R F) : QI T (fun r c' => r = waq F R x ∧ Off [14, 15, 16, 17] [] c c') (ccal 155 [vR 1, vI x] (SH T, c)) := by
  refine W_X11_was (Q := QI T _) ?_
  unfold waq
  refine ⟨fun e => (c_firstTones h e).mono fun r c2 h2 => QI.ret ⟨?_, h2.2⟩, fun e => QI.ret ⟨?_, Off.rfl⟩⟩
  · rw [if_pos e]; exact h2.1
  · rw [if_neg e]
theorem r_was {T : List Shp} {c : Cm} {F : List Clz} {x : Int} (h : RWd c F) : QI T (fun r c' => r = waq F (c 79) x ∧ Off [92, 94, 95] [0, 30, 34, 35, 36] c c') (ccal 309 [vR 78, vI x] (SH T, c)) := by
  have o0 : Off [92, 94, 95] [0, 30, 34, 35, 36] c (up c 77 0 0) := Off.rfl.wr rfl
  have hw := h.off o0 rfl
  have er : (up c 77 0 0) 79 = c 79 := o0.row rfl
  refine W_X12_was (Q := QI T _) ?_
  unfold waq
  refine ⟨fun e => (r_layAll hw).mono fun c2 h2 => ?_, fun e => QI.ret ⟨?_, o0⟩⟩
  · have o2 := o0.trans (h2.2.mono (L' := [92, 94, 95]) (F' := [0, 30, 34, 35, 36]) rfl rfl)
    have er2 : c2 79 = c 79 := o2.row rfl
    rw [er] at h2
    refine QI.of_eq (r_wasOf (h.off o2 rfl) e (by rw [er2]; exact h2.1)) (QI.ret ⟨?_, o2⟩)
    rw [if_pos e, er2]
  · rw [if_neg e]
def msq (F : List Clz) (R : Int → Int) (l y : Int) : Int := if (1 ≤ l ∧ l ≤ R 4) ∧ 1 ≤ y ∧ y ≤ 2 then mis F R l (y + 1).toNat else -1
theorem c_missing {T : List Shp} {c : Cm} {R : Int → Int} {F : List Clz} {l y : Int} (h : CWd T c R F) : QI T (fun r c' => r = msq F R l y ∧ Off [14, 15, 16, 17, 19] [] c c') (ccal 154 [vR 1, vI l, vI y] (SH T, c)) := by
  have h1 := h.2.1.1
  refine W_X11_missing (Q := QI T _) ?_
  rw [h.1.1.2.2.2.2.1]
  unfold msq
  refine ⟨fun e => QI.ret ⟨by rw [if_neg (by omega)], Off.rfl⟩, fun e => ⟨by omega, fun e2 => ⟨fun e3 => QI.ret ⟨by rw [if_neg (by omega)], Off.rfl⟩, fun e3 => ⟨fun e4 => QI.ret ⟨by rw [if_neg (by omega)], Off.rfl⟩, fun e4 => ⟨by omega, ?_⟩⟩⟩, fun e2 => QI.ret ⟨by rw [if_neg (by omega)], Off.rfl⟩⟩⟩
  have := c_rowsInto (k := (y + 1).toNat) h (l := l) (by omega) (by omega) (by omega)
  rw [Int.toNat_of_nonneg (by omega)] at this
  refine this.mono fun r c2 h2 => QI.ret ⟨?_, h2.2⟩
  rw [if_pos (by omega)]
  exact h2.1
theorem r_missq {T : List Shp} {c : Cm} {F : List Clz} {l y : Int} (h : RWd c F) : QI T (fun r c' => r = msq F (c 79) l y ∧ Off [92, 94, 95, 96] [0, 30, 34, 35, 36] c c') (ccal 306 [vR 78, vI l, vI y] (SH T, c)) := by
  unfold msq
  by_cases e : (1 ≤ l ∧ l ≤ c 79 4) ∧ 1 ≤ y ∧ y ≤ 2
  · rw [if_pos e]
    exact r_missing h e.1 (by omega)
  · rw [if_neg e]
    refine W_X12_missing (Q := QI T _) ⟨fun e1 => ⟨fun e2 => absurd ⟨e1, e2⟩ e, fun _ => QI.ret ⟨rfl, Off.rfl.wr rfl⟩⟩, fun _ => QI.ret ⟨rfl, Off.rfl.wr rfl⟩⟩

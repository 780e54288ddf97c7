/-! THE PLAIN QUESTIONS of both: the same answers -/
def nea (R : Int → Int) (q : Int) : Int := if q = -1 then (her R (R 5)).2 else if 0 ≤ q ∧ q < R 5 then ner R q else -1
theorem c_near {T : List Shp} {c : Cm} {R : Int → Int} {q : Int} (h : CS c R) (hR : RNG R) : ccal 145 [vR 1, vI q] (SH T, c) = some (some (vI (nea R q)), (SH T, c)) := by
  have h1 := hR.1
  have e11 := h.1.2.2.2.2.2.1
  unfold nea
  refine W_X11_near (Q := fun Z => Z = some (some (vI (if q = -1 then (her R (R 5)).2 else if 0 ≤ q ∧ q < R 5 then ner R q else -1)), (SH T, c))) ?_
  rw [e11]
  refine ⟨fun e => ?_, fun e => ⟨fun e2 => ?_, fun e2 => ?_⟩⟩
  · rw [if_pos e]; exact QI.of_eq (c_heirs h hR) rfl
  · rw [if_neg e, if_pos e2]; exact QI.of_eq (c_nearOf h hR (by omega)) rfl
  · rw [if_neg e, if_neg e2]
theorem c_like {T : List Shp} {c : Cm} {R : Int → Int} {a b : Int} (h : CS c R) (hR : RNG R) : ccal 146 [vR 1, vI a, vI b] (SH T, c) = some (some (vI (liq R a b)), (SH T, c)) := by
  have h1 := hR.1
  have e11 := h.1.2.2.2.2.2.1
  unfold liq
  refine W_X11_like (Q := fun Z => Z = some (some (vI (if (a = -1 ∨ 0 ≤ a ∧ a < R 5) ∧ (b = -1 ∨ 0 ≤ b ∧ b < R 5) then lik R (a + 1) (b + 1) else -1)), (SH T, c))) ?_
  rw [e11]
  refine ⟨fun e => ⟨fun e2 => ⟨by omega, ?_⟩, fun e2 => ?_⟩, fun e => ?_⟩
  · rw [if_pos ⟨e, e2⟩]; exact QI.of_eq (c_between h (by omega) (by omega)) rfl
  · rw [if_neg (fun z => e2 z.2)]
  · rw [if_neg (fun z => e z.1)]
def daq (R : Int → Int) (q w : Int) : Int := if (0 ≤ q ∧ q < R 5) ∧ 0 ≤ w ∧ w ≤ 3 then dat R q w else -1
theorem c_dated {T : List Shp} {c : Cm} {R : Int → Int} {q w : Int} (h : CS c R) (hR : RNG R) : ccal 149 [vR 1, vI q, vI w] (SH T, c) = some (some (vI (daq R q w)), (SH T, c)) := by
  have h1 := hR.1
  have e11 := h.1.2.2.2.2.2.1
  unfold daq
  refine W_X11_dated (Q := fun Z => Z = some (some (vI (if (0 ≤ q ∧ q < R 5) ∧ 0 ≤ w ∧ w ≤ 3 then dat R q w else -1)), (SH T, c))) ?_
  rw [e11]
  refine ⟨fun e => ⟨fun e2 => ?_, fun e2 => ?_⟩, fun e => ?_⟩
  · rw [if_pos ⟨e, by omega⟩]; exact QI.of_eq (c_datedBy h hR (by omega)) rfl
  · rw [if_neg (fun z => e2 (by omega))]
  · rw [if_neg (fun z => e z.1)]
def ton (R : Int → Int) (l x : Int) : Int := if (0 ≤ l ∧ l ≤ R 4) ∧ 0 ≤ x ∧ x < 12 then R (12 + 12 * l + x) else -1
theorem c_tone {T : List Shp} {c : Cm} {R : Int → Int} {l x : Int} (h : CS c R) (hR : RNG R) : ccal 134 [vR 1, vI l, vI x] (SH T, c) = some (some (vI (ton R l x)), (SH T, c)) := by
  have h1 := hR.1
  have e8 := h.1.2.2.2.2.1
  unfold ton
  refine W_X11_tone (Q := fun Z => Z = some (some (vI (if (0 ≤ l ∧ l ≤ R 4) ∧ 0 ≤ x ∧ x < 12 then R (12 + 12 * l + x) else -1)), (SH T, c))) ?_
  rw [e8]
  refine ⟨by omega, fun e => ⟨fun e2 => ⟨by omega, ?_⟩, fun e2 => ?_⟩, fun e => ?_⟩
  · rw [if_pos ⟨by omega, e2⟩, h.2.2.2.2.1 _ (by omega) (by omega), show 12 + (l * 12 + x) = 12 + 12 * l + x from by omega]
  · rw [if_neg (fun z => e2 z.2)]
  · rw [if_neg (fun z => e (by omega))]
theorem r_tone {T : List Shp} {c : Cm} {F : List Clz} {l x : Int} (h : RWd c F) : ccal 269 [vR 78, vI l, vI x] (SH T, c) = some (some (vI (ton (c 79) l x)), (SH T, up c 77 0 0)) := by
  have h1 := h.1.1
  unfold ton
  refine W_X12_tone (Q := fun Z => Z = some (some (vI (if (0 ≤ l ∧ l ≤ c 79 4) ∧ 0 ≤ x ∧ x < 12 then c 79 (12 + 12 * l + x) else -1)), (SH T, up c 77 0 0))) ?_
  refine ⟨fun e => ⟨fun e2 => ⟨by omega, ?_⟩, fun e2 => ?_⟩, fun e => ?_⟩
  · rw [if_pos ⟨e, e2⟩]
  · rw [if_neg (fun z => e2 z.2)]
  · rw [if_neg (fun z => e z.1)]
def mnq (F : List Clz) (R : Int → Int) (l : Int) : Int := if 0 ≤ l ∧ l ≤ R 4 then mny F R l else -1000000
theorem c_money {T : List Shp} {c : Cm} {R : Int → Int} {F : List Clz} {l : Int} (h : CWd T c R F) : QI T (fun r c' => r = mnq F R l ∧ Off [14, 15, 16, 17] [] c c') (ccal 137 [vR 1, vI l] (SH T, c)) := by
  have h1 := h.2.1.1
  have e8 := h.1.1.2.2.2.2.1
  refine W_X11_money (Q := QI T _) ?_
  rw [e8]
  unfold mnq
  refine ⟨by omega, fun e => (c_moneyBehind h (by omega)).mono fun r c2 h2 => QI.ret ⟨?_, h2.2⟩, fun e => QI.ret ⟨?_, Off.rfl⟩⟩
  · rw [if_pos (by omega)]; exact h2.1
  · rw [if_neg (by omega)]
theorem r_money {T : List Shp} {c : Cm} {F : List Clz} {l : Int} (h : RWd c F) : QI T (fun r c' => r = mnq F (c 79) l ∧ Off [92, 94] [0, 30, 34, 35, 36] c c') (ccal 275 [vR 78, vI l] (SH T, c)) := by
  have o0 : Off [92, 94] [0, 30, 34, 35, 36] c (up c 77 0 0) := Off.rfl.wr rfl
  have hw := h.off o0 rfl
  have er : (up c 77 0 0) 79 = c 79 := o0.row rfl
  refine W_X12_money (Q := QI T _) ?_
  unfold mnq
  refine ⟨fun e => (r_moneyBehind hw (by rw [er]; exact e)).mono fun r c2 h2 => QI.ret ⟨?_, o0.trans (h2.2.mono rfl rfl)⟩, fun e => QI.ret ⟨?_, o0⟩⟩
  · rw [if_pos e, h2.1, er]
  · rw [if_neg e]
def whq (F : List Clz) (R : Int → Int) (l : Int) : Int := if 1 ≤ l ∧ l ≤ R 4 then who F R l else -1
theorem c_who {T : List Shp} {c : Cm} {R : Int → Int} {F : List Clz} {l : Int} (h : CWd T c R F) : QI T (fun r c' => r = whq F R l ∧ Off [14, 15, 16, 17, 19] [] c c') (ccal 151 [vR 1, vI l] (SH T, c)) := by
  have h1 := h.2.1.1
  have e8 := h.1.1.2.2.2.2.1
  refine W_X11_who (Q := QI T _) ?_
  rw [e8]
  unfold whq
  refine ⟨fun e0 => ⟨by omega, fun e => (c_whoCan h (by omega)).mono fun r c2 h2 => QI.ret ⟨?_, h2.2⟩, fun e => QI.ret ⟨?_, Off.rfl⟩⟩, fun e => QI.ret ⟨?_, Off.rfl⟩⟩
  · rw [if_pos (by omega)]; exact h2.1
  · rw [if_neg (by omega)]
  · rw [if_neg (by omega)]
theorem r_who {T : List Shp} {c : Cm} {F : List Clz} {l : Int} (h : RWd c F) : QI T (fun r c' => r = whq F (c 79) l ∧ Off [92, 94, 95, 96] [0, 30, 34, 35, 36] c c') (ccal 303 [vR 78, vI l] (SH T, c)) := by
  have o0 : Off [92, 94, 95, 96] [0, 30, 34, 35, 36] c (up c 77 0 0) := Off.rfl.wr rfl
  have hw := h.off o0 rfl
  have er : (up c 77 0 0) 79 = c 79 := o0.row rfl
  refine W_X12_who (Q := QI T _) ?_
  unfold whq
  refine ⟨fun e => (r_whoOf hw (by rw [er]; exact e)).mono fun r c2 h2 => QI.ret ⟨?_, o0.trans (h2.2.mono rfl rfl)⟩, fun e => QI.ret ⟨?_, o0⟩⟩
  · rw [if_pos e, h2.1, er]
  · rw [if_neg e]

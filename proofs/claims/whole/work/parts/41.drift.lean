/-! drift, as it is asked -/
def lstI (p : Int → Bool) (b : Int) : Int := foldI (fun t y => if p t = true then t else y) (-1) b
theorem lst_at {p : Int → Bool} {b k : Int} (hk : 0 ≤ k) (hkb : k < b) (hp : p k = true) (h : ∀ j, k < j → j < b → p j = false) : lstI p b = k := by
  have key : ∀ n : Nat, k + 1 + n ≤ b → lstI p (k + 1 + n) = k := by
    intro n
    induction n with
    | zero =>
      intro _
      show lstI p (k + 1 + 0) = k
      rw [Int.add_zero]
      unfold lstI
      rw [foldI_succ hk, if_pos hp]
    | succ n ih =>
      intro hb
      rw [show k + 1 + ((n + 1 : Nat) : Int) = (k + 1 + n) + 1 from by omega]
      unfold lstI at ih ⊢
      rw [foldI_succ (by omega), if_neg (by rw [h _ (by omega) (by omega)]; decide)]
      exact ih (by omega)
  have := key (b - (k + 1)).toNat (by omega)
  rwa [show k + 1 + ((b - (k + 1)).toNat : Int) = b from by omega] at this
theorem c_lowBit {T : List Shp} {c : Cm} {s : Int} (hs : 0 ≤ s ∧ s < 1024) (h0 : s ≠ 0) : ccal 182 [vI s] (SH T, c) = some (some (vI (frst (bt s) 10)), (SH T, c)) := by
  obtain ⟨k, hk, hb⟩ := bt_ne0 hs.1 h0
  have k10 : k < 10 := Classical.byContradiction fun z => by
    rw [bt_big (n := 10) hs.1 hs.2 (by omega)] at hb
    exact absurd hb (by decide)
  refine W_X11_lowestIn (Q := fun Z => Z = some (some (vI (frst (bt s) 10)), (SH T, c))) ?_
  refine lpI (Q := fun Z => Z = some (some (vI (frst (bt s) 10)), (SH T, c))) (E := fun i (_ : Unit) => cev 182 1 2 [vI s, vI i] [] (SH T, c)) (fun i _ => (0 ≤ i ∧ i ≤ k) ∧ ∀ j, 0 ≤ j → j < i → bt s j = false) 31 ?_ ?_ 0 () ⟨by omega, fun j a b => by omega⟩
  · intro i _ hi hI ih
    have bi := bt_iff (s := s) (k := i) (by omega) (by omega) hI.1.1 (by omega)
    refine W_X11_lowestIn_2 (Q := fun Z => Z = some (some (vI (frst (bt s) 10)), (SH T, c))) ⟨fun _ => ⟨fun e => ?_, fun e => ⟨by omega, ih () ⟨?_, fun j a b => ?_⟩⟩⟩, fun z => absurd hi z⟩
    · rw [frst_at hI.2 hI.1.1 (by omega) (bi.mp e)]
    · by_cases q : i = k
      · rw [q] at bi; exact absurd (bi.mpr hb) (by rw [← q]; exact e)
      · omega
    · by_cases q : j = i
      · rw [q]; exact Bool.eq_false_iff.mpr fun z => e (bi.mpr z)
      · exact hI.2 j a (by omega)
  · intro i _ hi hI
    omega
theorem c_highBit {T : List Shp} {c : Cm} {s : Int} (hs : 0 ≤ s ∧ s < 1024) (h0 : s ≠ 0) : ccal 183 [vI s] (SH T, c) = some (some (vI (lstI (bt s) 10)), (SH T, c)) := by
  obtain ⟨k, hk, hb⟩ := bt_ne0 hs.1 h0
  have k10 : k < 10 := Classical.byContradiction fun z => by
    rw [bt_big (n := 10) hs.1 hs.2 (by omega)] at hb
    exact absurd hb (by decide)
  refine W_X11_highestIn (Q := fun Z => Z = some (some (vI (lstI (bt s) 10)), (SH T, c))) ?_
  refine lpD (Q := fun Z => Z = some (some (vI (lstI (bt s) 10)), (SH T, c))) (E := fun i (_ : Unit) => cev 183 1 3 [vI s, vI i] [] (SH T, c)) (fun i _ => (k ≤ i ∧ i ≤ 30) ∧ ∀ j, i < j → j ≤ 30 → bt s j = false) 0 ?_ ?_ 30 () ⟨by omega, fun j a b => by omega⟩
  · intro i _ hi hI ih
    have bi := bt_iff (s := s) (k := i) (by omega) (by omega) hi (by omega)
    refine W_X11_highestIn_3 (Q := fun Z => Z = some (some (vI (lstI (bt s) 10)), (SH T, c))) ⟨fun z => absurd z (by omega), fun _ => ⟨fun e => ?_, fun e => ⟨by omega, ?_⟩⟩⟩
    · have i10 : i < 10 := Classical.byContradiction fun z => by
        have := bi.mp e
        rw [bt_big (n := 10) hs.1 hs.2 (by omega)] at this
        exact absurd this (by decide)
      rw [lst_at hi i10 (bi.mp e) fun j a b => hI.2 j a (by omega)]
    · rw [show i + -1 = i - 1 from by omega]
      refine ih () ⟨?_, fun j a b => ?_⟩
      · by_cases q : i = k
        · rw [q] at bi; exact absurd (bi.mpr hb) (by rw [← q]; exact e)
        · omega
      · by_cases q : j = i
        · rw [q]; exact Bool.eq_false_iff.mpr fun z => e (bi.mpr z)
        · exact hI.2 j (by omega) b
  · intro i _ hi hI
    omega
def drq (F : List Clz) (R : Int → Int) (x n w : Int) : Int := if (0 ≤ x ∧ x < 12) ∧ (0 ≤ n ∧ n ≤ 10) ∧ 0 ≤ w ∧ w ≤ 2 then (if w = 2 then dri F R x n else if w = 1 then lstI (bt (dri F R x n)) 10 else frst (bt (dri F R x n)) 10) else -1
theorem lst_none {p : Int → Bool} {b : Int} (hb : 0 ≤ b) (h : ∀ j, 0 ≤ j → j < b → p j = false) : lstI p b = -1 := by
  refine foldI_ind (fun _ y => y = -1) rfl ?_ hb
  intro i y a1 a2 e
  rw [h i a1 a2, if_neg (by decide)]
  exact e
theorem c_drift {T : List Shp} {c : Cm} {R : Int → Int} {F : List Clz} {x n w : Int} (h : CWd T c R F) : QI T (fun r c' => r = drq F R x n w ∧ Off [14, 15, 16, 17] [] c c') (ccal 140 [vR 1, vI x, vI n, vI w] (SH T, c)) := by
  refine W_X11_drift (Q := QI T _) ?_
  unfold drq
  refine ⟨fun e => ⟨fun e2 => ⟨fun e3 => (c_driftOf h e (by omega)).mono fun r c2 h2 => ?_, fun e3 => QI.ret ⟨?_, Off.rfl⟩⟩, fun e2 => QI.ret ⟨?_, Off.rfl⟩⟩, fun e => QI.ret ⟨?_, Off.rfl⟩⟩
  · have db := dri_bd (F := F) (n := n) h.2.1 e (by omega)
    rw [h2.1, if_pos (show (0 ≤ x ∧ x < 12) ∧ (0 ≤ n ∧ n ≤ 10) ∧ 0 ≤ w ∧ w ≤ 2 by omega)]
    generalize dri F R x n = s at db
    refine ⟨fun e4 => QI.ret ⟨?_, h2.2⟩, fun e4 => ⟨fun e5 => QI.ret ⟨?_, h2.2⟩, fun e5 => ⟨fun e6 => QI.of_eq (c_lowBit db e5) (QI.ret ⟨?_, h2.2⟩), fun e6 => QI.of_eq (c_highBit db e5) (QI.ret ⟨?_, h2.2⟩)⟩⟩⟩
    · rw [if_pos e4]
    · rw [if_neg e4, e5]
      have z : ∀ j, 0 ≤ j → j < 10 → bt 0 j = false := fun j _ _ => bt_0
      rw [lst_none (by omega) z, frst_none z (by omega)]
      split <;> rfl
    · rw [if_neg e4, if_neg (by omega)]
    · rw [if_neg e4, if_pos (by omega)]
  · rw [if_neg (fun z => e3 (by omega))]
  · rw [if_neg (fun z => e2 (by omega))]
  · rw [if_neg (fun z => e z.1)]
theorem r_drift {T : List Shp} {c : Cm} {F : List Clz} {x n w : Int} (h : RWd c F) : QI T (fun r c' => r = drq F (c 79) x n w ∧ Off [92, 94, 95, 96] [0, 30, 34, 35, 36] c c') (ccal 282 [vR 78, vI x, vI n, vI w] (SH T, c)) := by
  have o0 : Off [92, 94, 95, 96] [0, 30, 34, 35, 36] c (up c 77 0 0) := Off.rfl.wr rfl
  have hw := h.off o0 rfl
  have er : (up c 77 0 0) 79 = c 79 := o0.row rfl
  refine W_X12_drift (Q := QI T _) ?_
  unfold drq
  refine ⟨fun e => ⟨fun e2 => ⟨fun e3 => (r_driftOf hw e e2).mono fun r c2 h2 => ?_, fun e3 => QI.ret ⟨?_, o0⟩⟩, fun e2 => QI.ret ⟨?_, o0⟩⟩, fun e => QI.ret ⟨?_, o0⟩⟩
  · have db := dri_bd (F := F) (n := n) h.1 e (by omega)
    have o2 := o0.trans (h2.2.mono (L' := [92, 94, 95, 96]) (F' := [0, 30, 34, 35, 36]) rfl rfl)
    rw [h2.1, er, if_pos ⟨e, e2, e3⟩]
    generalize dri F (c 79) x n = s at db
    refine ⟨fun e4 => QI.ret ⟨?_, o2⟩, fun e4 => ?_⟩
    · rw [if_pos e4]
    · rw [if_neg e4]
      refine lpI (E := fun t (y : Int) => cev 282 9 60 [vU, vU, vU, vI w, vI s, vI y, vI t] [] (SH T, c2)) (fun t y => (0 ≤ t ∧ t ≤ 10) ∧ (-1 ≤ y ∧ y < t) ∧ (w = 1 → y = lstI (bt s) t) ∧ (w = 0 → y = frst (bt s) t)) 10 ?_ ?_ 0 (-1) ⟨by omega, by omega, fun _ => rfl, fun _ => rfl⟩
      · intro t y ht hI ih
        obtain ⟨t0, yb, hl, hf⟩ := hI
        have bi := bt_iff (s := s) (k := t) (by omega) (by omega) t0.1 (by omega)
        have el : lstI (bt s) (t + 1) = if bt s t = true then t else lstI (bt s) t := foldI_succ t0.1
        have ef : frst (bt s) (t + 1) = if frst (bt s) t = -1 then (if bt s t = true then t else -1) else frst (bt s) t := foldI_succ t0.1
        refine W_X12_drift_60 ⟨fun _ => ⟨fun b => ⟨fun q => ⟨by omega, ih t ⟨by omega, by omega, fun w1 => ?_, fun w0 => ?_⟩⟩, fun q => ⟨fun w1 => ⟨by omega, ih t ⟨by omega, by omega, fun _ => ?_, fun w0 => by omega⟩⟩, fun w1 => ⟨by omega, ih y ⟨by omega, by omega, fun z => absurd z w1, fun w0 => ?_⟩⟩⟩⟩, fun b => ⟨by omega, ih y ⟨by omega, by omega, fun w1 => ?_, fun w0 => ?_⟩⟩⟩, fun z => absurd ht z⟩
        · rw [el, if_pos (bi.mp b)]
        · rw [ef, if_pos (by rw [← hf w0]; exact q), if_pos (bi.mp b)]
        · rw [el, if_pos (bi.mp b)]
        · rw [ef, if_neg (by rw [← hf w0]; exact q)]; exact hf w0
        · rw [el, if_neg (fun z => b (bi.mpr z))]; exact hl w1
        · rw [ef, if_neg (fun z => b (bi.mpr z)), hf w0]
          split
          · rename_i q; exact q
          · rfl
      · intro t y ht hI
        obtain ⟨t0, yb, hl, hf⟩ := hI
        have : t = 10 := by omega
        subst this
        refine W_X12_drift_60 ⟨fun z => absurd z (by omega), fun _ => QI.ret ⟨?_, o2⟩⟩
        by_cases w1 : w = 1
        · rw [if_pos w1]; exact hl w1
        · rw [if_neg w1]; exact hf (by omega)
  · rw [if_neg (fun z => e3 z.2.2)]
  · rw [if_neg (fun z => e2 z.2.1)]
  · rw [if_neg (fun z => e z.1)]

/-! ROWS that are equal from 0 on -/
theorem RNG.nn {R R' : Int → Int} (h : RNG R) (e : ∀ j, 0 ≤ j → R' j = R j) : RNG R' := by
  have h1 := h.1
  refine h.keep (fun j a _ _ _ => e j a) (by rw [e 4 (by omega)]; omega) (by rw [e 5 (by omega)]; omega) (fun i a b => by rw [e _ (by omega)]; exact h.2.1 i a b) (fun l a b => ?_) (fun i a b => by rw [e _ (by omega)]; exact h.2.2.2.2.2.2.1 i a b) (fun j a _ => e j (by omega))
  rw [e 4 (by omega)] at b
  rw [e _ (by omega)]
  exact h.2.2.1 l a b
theorem RL.nn {R R' : Int → Int} {F : List Clz} (h : RL R F) (e : ∀ j, 0 ≤ j → R' j = R j) : RL R' F := h.cg (e 1 (by omega)) (e 2 (by omega)) fun j hj => e j (by omega)
theorem CSo.nn {o : Nat} {c : Cm} {R R' : Int → Int} (h : CSo o c R) (e : ∀ j, 0 ≤ j → R' j = R j) : CSo o c R' := by
  obtain ⟨⟨a0, a1, a2, a3, a4, a5, a6, a7, a8, a9, a10, a11⟩, b1, b2, b3, b4, b5, b6⟩ := h
  refine ⟨⟨?_, ?_, ?_, ?_, ?_, ?_, ?_, ?_, ?_, ?_, ?_, ?_⟩, fun i a b => ?_, fun i a b => ?_, fun i a b => ?_, fun i a b => ?_, fun i a b => ?_, fun i a b => ?_⟩
  · rw [e _ (by omega)]; exact a0
  · rw [e _ (by omega)]; exact a1
  · rw [e _ (by omega)]; exact a2
  · rw [e _ (by omega)]; exact a3
  · rw [e _ (by omega)]; exact a4
  · rw [e _ (by omega)]; exact a5
  · rw [e _ (by omega)]; exact a6
  · rw [e _ (by omega)]; exact a7
  · rw [e _ (by omega)]; exact a8
  · rw [e _ (by omega)]; exact a9
  · rw [e _ (by omega)]; exact a10
  · rw [e _ (by omega)]; exact a11
  · rw [e _ (by omega)]; exact b1 i a b
  · rw [e 3 (by omega)] at b
    rw [e _ (by omega)]; exact b2 i a b
  · rw [e _ (by omega)]; exact b3 i a b
  · rw [e _ (by omega)]; exact b4 i a b
  · rw [e _ (by omega)]; exact b5 i a b
  · rw [e _ (by omega)]; exact b6 i a b
theorem CS.nn {c : Cm} {R R' : Int → Int} (h : CS c R) (e : ∀ j, 0 ≤ j → R' j = R j) : CS c R' := CSo.nn (o := 1) h e
theorem CWd.nn {T : List Shp} {c : Cm} {R R' : Int → Int} {F : List Clz} (h : CWd T c R F) (e : ∀ j, 0 ≤ j → R' j = R j) : CWd T c R' F := ⟨h.1.nn e, h.2.1.nn e, h.2.2⟩
theorem RWd.nn {c c' : Cm} {F : List Clz} (h : RWd c F) (e : ∀ j, 0 ≤ j → c' 79 j = c 79 j) (e16 : c' 77 16 = 0) : RWd c' F := ⟨h.1.nn e, h.2.1.nn e, e16⟩

/-! ORDERS: the class's run, copy and all -/
def OLA : List Nat := [1, 2, 3, 4, 5, 6, 7, 8, 9, 14, 15, 16, 17, 21, 22, 23, 24, 25, 26, 27, 28, 59, 60, 61, 62, 63, 64, 65, 66, 67, 68, 69, 70, 71, 72]
theorem CL.back {T : List Shp} {c c' : Cm} {F : List Clz} (h : CL T c F) (h5 : c' 1 5 = c 1 5) (h7 : c' 1 7 = c 1 7) (h6 : c 1 5 ≤ 6) (hx : ∀ x, 0 ≤ x → x < 6 → c' 5 x = c 5 x) (hc : ∀ q, 109 ≤ q → c' q = c q) : CL T c' F := by
  unfold CL
  rw [h5, h7]
  rcases h with h | ⟨a, b, h⟩
  · exact .inl h
  · refine .inr ⟨a, b, ?_⟩
    rw [hx _ a (by omega)]
    exact h.cg hc
theorem c_runAll {T : List Shp} {c : Cm} {R : Int → Int} {F : List Clz} {FO : List Orc} (h : CWd T c R F) (hB : B9 c) (hd : ∀ x, 0 ≤ x → x < 6 → trf (SH T) (c 5 x) 20 = true) (ht : TXT c 1 FO) (hw : ∀ z ∈ FO, wfo z) : QI T (fun r c' => ((¬ (oru F FO 0 R 0).1 < 0 ∧ r = 0 ∧ CWd T c' (oru F FO 0 R 0).2.2.1 F ∧ c' 59 9 = (oru F FO 0 R 0).2.2.2) ∨ ((oru F FO 0 R 0).1 < 0 ∧ r = (oru F FO 0 R 0).1 ∧ CWd T c' R F ∧ c' 59 9 = (oru F FO 0 R 0).2.2.2 ∧ c' 59 8 = (oru F FO 0 R 0).2.1)) ∧ Off OLA [] c c' ∧ (∀ x, 0 ≤ x → x < 6 → c' 5 x = c 5 x) ∧ B9 c') (ccal 6 [vR 60, vR 12] (SH T, c)) := by
  have hR := h.2.1
  have h1 := hR.1
  have e15 : c 1 5 = R 1 := h.1.1.2.2.1
  have e17 : c 1 7 = R 2 := h.1.1.2.2.2.1
  obtain ⟨t1, t2, t3, t4, t5⟩ := ht
  refine W_X1_runAll (Q := QI T _) ?_
  refine (c_takeBn h.1 hR hd).mono fun c1 g => ?_
  obtain ⟨o, k60, k64⟩ := g
  have oA : Off [59, 60, 61, 62, 63, 64, 65, 66, 67, 68] [] c (up (up c1 59 9 0) 59 8 0) := ((o.mono rfl rfl).wr rfl).wr rfl
  have w2 := h.off oA rfl
  have B2 : B9 (up (up c1 59 9 0) 59 8 0) := by unfold B9; rw [oA.cell (q := 71) rfl]; exact hB
  have e60 : ∀ q, 60 ≤ q → (up (up c1 59 9 0) 59 8 0) q = c1 q := fun q hq => by rw [up_cell (by omega), up_cell (by omega)]
  generalize hc2 : (up (up c1 59 9 0) 59 8 0) = c2 at oA w2 B2 e60
  have z9 : c2 59 9 = 0 := by rw [← hc2, up_ne (by decide), up_same]
  have z8 : c2 59 8 = 0 := by rw [← hc2, up_same]
  have e11 : c2 11 = c 11 := oA.cell rfl
  have e12 : c2 12 = c 12 := oA.cell rfl
  have e13 : c2 13 = c 13 := oA.cell rfl
  refine c_oru (c0 := c2) (by rw [e11]; omega) (by rw [e11]; omega) (t5.cong (by rw [e11]) (by rw [e11]) e13) FO c2 0 0 R ?_ (by omega) (by rw [e11]; omega) (by omega) (by omega) w2 z9 z8 ⟨Off.rfl, fun _ _ _ => rfl, B2⟩ (fun c' a t b q9 q8 o' => ?_) (fun c' b w' q9 q8 o' => ?_)
  · intro j z e
    refine ⟨?_, hw z (List.mem_of_getElem? e)⟩
    have := t4 j z e
    rw [show (0 : Int) + (j : Int) = (j : Int) from by omega, e11, e12, e13]
    exact this
  · refine W_X1_runAll_117 (Q := QI T _) ⟨fun e => by omega, fun _ => ?_⟩
    have f : ∀ q, 60 ≤ q → q ≤ 68 → c' q = c1 q := fun q hq hq2 => by
      have : c' q = c2 q := by
        funext j
        exact o'.1 q j (by unfold OLC; simp; omega) (by intro e; omega)
      rw [this, e60 q hq]
    have k60' : CSo 60 c' R := by
      unfold CSo
      rw [f 60 (by omega) (by omega), f (60 + 1) (by omega) (by omega), f (60 + 2) (by omega) (by omega), f (60 + 3) (by omega) (by omega), f (60 + 5) (by omega) (by omega), f (60 + 6) (by omega) (by omega), f (60 + 7) (by omega) (by omega), f (60 + 8) (by omega) (by omega)]
      exact k60
    refine (c_takeNb k60' hR (fun x a1 a2 => by rw [f 64 (by omega) (by omega), k64 x a1 a2]; exact hd x a1 a2)).mono fun c3 g => QI.ret ?_
    obtain ⟨o3, s3, x3⟩ := g
    have oT : Off OLA [] c c3 := ((oA.mono rfl rfl).trans (o'.1.mono rfl rfl)).trans (o3.mono rfl rfl)
    have x5 : ∀ x, 0 ≤ x → x < 6 → c3 5 x = c 5 x := fun x a1 a2 => by rw [x3 x a1 a2, f 64 (by omega) (by omega), k64 x a1 a2]
    have q59 : c3 59 = c' 59 := o3.cell rfl
    have big : ∀ q, 109 ≤ q → c3 q = c q := fun q hq => by
      funext j
      exact oT q j (by unfold OLA; simp; omega) (by intro e; omega)
    refine ⟨.inr ⟨b, rfl, ⟨s3, hR, h.2.2.back (by rw [e15]; exact s3.1.2.2.1) (by rw [e17]; exact s3.1.2.2.2.1) (by omega) x5 big⟩, by rw [q59]; exact q9, by rw [q59]; exact q8⟩, oT, x5, ?_⟩
    unfold B9
    rw [o3.cell (q := 71) rfl]
    exact o'.2.2
  · have x5 : ∀ x, 0 ≤ x → x < 6 → c' 5 x = c 5 x := fun x _ _ => by rw [o'.1.cell (q := 5) rfl, oA.cell (q := 5) rfl]
    exact QI.ret ⟨.inl ⟨b, rfl, w', q9⟩, (oA.mono rfl rfl).trans (o'.1.mono rfl rfl), x5, o'.2.2⟩

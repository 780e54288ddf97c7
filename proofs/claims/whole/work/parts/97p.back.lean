/-! CALLS that change the world: image, back -/
theorem kp_or0 : ∀ a b : Fin 2, ior ((a.val : Int) + 2 * (b.val : Int)) (ishl 1 0) = 1 + 2 * (b.val : Int) := by decide +kernel
theorem kp_or1 : ∀ a b : Fin 2, ior ((a.val : Int) + 2 * (b.val : Int)) (ishl 1 1) = (a.val : Int) + 2 := by decide +kernel
theorem kp_an0 : ∀ a b : Fin 2, iand (ishr ((a.val : Int) + 2 * (b.val : Int)) 0) 1 = (a.val : Int) := by decide +kernel
theorem kp_an1 : ∀ a b : Fin 2, iand (ishr ((a.val : Int) + 2 * (b.val : Int)) 1) 1 = (b.val : Int) := by decide +kernel
theorem fin2 {v : Int} (h : v = 0 ∨ v = 1) : ∃ a : Fin 2, v = (a.val : Int) := by
  rcases h with h | h
  · exact ⟨0, h⟩
  · exact ⟨1, h⟩
section CAL
variable {T : List Shp} {c : Cm} {n : Nat}
theorem r_image23 {Q : Res → Prop} {k : Int} (hk : k = 0 ∨ k = 1) (h : ∀ s : Cm, (∀ q, q ≠ 80 → s q = c q) → (∀ j, s 80 j = if 5780 * k ≤ j ∧ j < 5780 * k + 5780 then c 79 (j - 5780 * k) else c 80 j) → Q (some (some (vI 0), (SH T, up (up s 82 k 1) 77 1 0)))) : Q (cev 192 2 23 [vR 78, vI k, vI 0] [] (SH T, c)) := by
  refine lpI (E := fun i (s : Cm) => cev 192 2 23 [vR 78, vI k, vI i] [] (SH T, s)) (fun i s => (0 ≤ i ∧ i ≤ 5780) ∧ (∀ q, q ≠ 80 → s q = c q) ∧ ∀ j, s 80 j = if 5780 * k ≤ j ∧ j < 5780 * k + i then c 79 (j - 5780 * k) else c 80 j) 5780 ?_ ?_ 0 c ⟨by omega, fun _ _ => rfl, fun j => by rw [if_neg (by omega)]⟩
  · intro i s hi hI ih
    have e79 : s 79 = c 79 := hI.2.1 79 (by decide)
    refine W_X12_image_23 ⟨fun _ => ⟨by omega, ih _ ⟨by omega, fun q hq => (up_cell hq).trans (hI.2.1 q hq), fun j => ?_⟩⟩, fun z => absurd hi z⟩
    rw [up_at, e79]
    by_cases e : j = 5780 * k + i
    · rw [if_pos e, if_pos (by omega), e]
      exact congrArg (c 79) (by omega)
    · rw [if_neg e, hI.2.2]
      by_cases w : 5780 * k ≤ j ∧ j < 5780 * k + i
      · rw [if_pos w, if_pos (by omega)]
      · rw [if_neg w, if_neg (by omega)]
  · intro i s hi hI
    have ei : i = 5780 := by omega
    subst ei
    exact W_X12_image_23 ⟨fun z => absurd z (by decide), fun _ => ⟨by omega, h s hI.2.1 hI.2.2⟩⟩
theorem r_back39 {Q : Res → Prop} {k : Int} (hk : k = 0 ∨ k = 1) (h : ∀ s : Cm, (∀ q, q ≠ 79 → s q = c q) → (∀ j, s 79 j = if 0 ≤ j ∧ j < 5780 then c 80 (5780 * k + j) else c 79 j) → Q (some (some (vI 0), (SH T, up s 77 1 0)))) : Q (cev 193 2 39 [vR 78, vI k, vI 0] [] (SH T, c)) := by
  refine lpI (E := fun i (s : Cm) => cev 193 2 39 [vR 78, vI k, vI i] [] (SH T, s)) (fun i s => (0 ≤ i ∧ i ≤ 5780) ∧ (∀ q, q ≠ 79 → s q = c q) ∧ ∀ j, s 79 j = if 0 ≤ j ∧ j < i then c 80 (5780 * k + j) else c 79 j) 5780 ?_ ?_ 0 c ⟨by omega, fun _ _ => rfl, fun j => by rw [if_neg (by omega)]⟩
  · intro i s hi hI ih
    have e80 : s 80 = c 80 := hI.2.1 80 (by decide)
    refine W_X12_back_39 ⟨fun _ => ⟨by omega, ih _ ⟨by omega, fun q hq => (up_cell hq).trans (hI.2.1 q hq), fun j => ?_⟩⟩, fun z => absurd hi z⟩
    rw [up_at, e80]
    by_cases e : j = i
    · rw [if_pos e, if_pos (by omega), e]
    · rw [if_neg e, hI.2.2]
      by_cases w : 0 ≤ j ∧ j < i
      · rw [if_pos w, if_pos (by omega)]
      · rw [if_neg w, if_neg (by omega)]
  · intro i s hi hI
    have ei : i = 5780 := by omega
    subst ei
    exact W_X12_back_39 ⟨fun z => absurd z (by decide), fun _ => h s hI.2.1 hI.2.2⟩
/-- a portrait of the class beside a row: what was copied stands as what it was copied from -/
theorem LWS.tx {t t' : Int → Int} {R : Int → Int} (h : LWS T t c R) (h6 : R 1 ≤ 6) (e : ∀ x, 0 ≤ x → x < 6 → t' x = t x) : LWS T t' c R := fun i a b => by
  rw [e i a (by omega)]
  exact h i a b
theorem d_im0 : drf (SH T) 31 = some (30, (17, 15, [0, 32, 0, 33, 34, 0, 35, 0, 0, 36, 37, 0, 38, 0, 39])) := rfl
theorem d_im1 : drf (SH T) 40 = some (39, (17, 15, [0, 41, 0, 42, 43, 0, 44, 0, 0, 45, 46, 0, 47, 0, 48])) := rfl
theorem j_image {k : Int} (h : REL T c n) (hn : n < 512) : JN T c n 167 192 [vI k] := by
  have hs := h.cs
  have hR := h.rng
  have r := hR.1
  have rf := h.2.2.2.2.1
  have hP := h.1
  obtain ⟨⟨k1, k2, k3⟩, ⟨k4, k5⟩, k6, k7⟩ := h.2.1
  have m5 := h.2.2.2.1.2.2.2.2
  obtain ⟨f0, hf0⟩ := fin2 k2
  obtain ⟨f1, hf1⟩ := fin2 k3
  by_cases hk : 0 ≤ k ∧ k < 2
  · have hk2 : k = 0 ∨ k = 1 := by omega
    rcases hk2 with hk2 | hk2 <;> subst hk2
    · refine W_X11_image (Q := QI T _) (p1 := 30) (n2 := 15) (f3 := [0, 32, 0, 33, 34, 0, 35, 0, 0, 36, 37, 0, 38, 0, 39]) ⟨fun _ => ⟨⟨by omega, by rw [k4]; exact d_im0⟩, ?_⟩, fun z => absurd hk z⟩
      rw [k4]
      refine (c_takeIn hs hR hP.2.2.2).mono fun c1 q => ?_
      obtain ⟨o, q1, q2⟩ := q
      have e02 : c1 0 2 = c 0 2 := by rw [o.cell rfl]
      rw [e02, k1, hf0, hf1, kp_or0 f0 f1, ← hf1]
      have o1 : Off [0, 30, 31, 32, 33, 34, 35, 36, 37, 38] [] c (up (up c1 0 2 (1 + 2 * c 82 1)) 0 17 0) := ((o.mono rfl rfl).wr rfl).wr rfl
      refine QI.ret ⟨o1.sc rfl, W_X12_image (Q := QI T _) ⟨fun _ => ?_, fun z => absurd (by omega) z⟩⟩
      have o2 : Off [0, 30, 31, 32, 33, 34, 35, 36, 37, 38] [0] c (up (up (up c1 0 2 (1 + 2 * c 82 1)) 0 17 0) 77 0 0) := (o1.mono rfl rfl).wr rfl
      refine r_image23 (.inl rfl) fun s g1 g2 => QI.ret ⟨rfl, ?_, ?_⟩
      · exact (((o2.sc rfl).trans ⟨g1 _ (by decide), g1 _ (by decide)⟩).wr (by decide)).wr (by decide)
      · have e79 : (up (up (up c1 0 2 (1 + 2 * c 82 1)) 0 17 0) 77 0 0) 79 = c 79 := o2.cell rfl
        have e80 : (up (up (up c1 0 2 (1 + 2 * c 82 1)) 0 17 0) 77 0 0) 80 = c 80 := o2.cell rfl
        rw [e79, e80] at g2
        have sq : ∀ q, q ≠ 0 → q < 30 ∨ 38 < q → q ≠ 77 → q ≠ 80 → q ≠ 82 → up (up s 82 0 1) 77 1 0 q = c q := fun q z0 z1 z2 z3 z4 => by
          rw [up_cell z2, up_cell z4, g1 q z3]
          funext j
          exact o2 q j (by simp; omega) fun y => absurd y z2
        have s0 : up (up s 82 0 1) 77 1 0 0 = up (up c1 0 2 (1 + 2 * c 82 1)) 0 17 0 0 := by rw [up_cell (by decide), up_cell (by decide), g1 0 (by decide), up_cell (by decide)]
        have s3 : ∀ q, 30 ≤ q → q ≤ 38 → up (up s 82 0 1) 77 1 0 q = c1 q := fun q a b => by rw [up_cell (by omega), up_cell (by omega), g1 q (by omega), up_cell (by omega), up_cell (by omega), up_cell (by omega)]
        have s82 : up (up s 82 0 1) 77 1 0 82 = rU (c 82) 0 1 := by
          rw [up_cell (by decide), up_rU, g1 82 (by decide)]
          exact congrArg (fun w => rU w 0 1) (o2.cell rfl)
        have s80 : ∀ j, up (up s 82 0 1) 77 1 0 80 j = if 5780 * 0 ≤ j ∧ j < 5780 * 0 + 5780 then c 79 (j - 5780 * 0) else c 80 j := fun j => by
          rw [up_cell (by decide), up_cell (by decide)]; exact g2 j
        have s77 : ∀ j, j ≠ 0 → j ≠ 1 → up (up s 82 0 1) 77 1 0 77 j = c 77 j := fun j a b => by
          rw [up_ne b, up_cell (by decide), g1 77 (by decide), up_ne a]
          exact o1.fld rfl
        have s71 : up (up s 82 0 1) 77 1 0 77 1 = 0 := up_same
        generalize up (up s 82 0 1) 77 1 0 = c2 at sq s0 s3 s82 s80 s77 s71 ⊢
        have e0 : ∀ j, j ≠ 17 → j ≠ 2 → c2 0 j = c 0 j := fun j a b => by
          rw [s0, up_ne a, up_ne b]
          exact congrFun (o.cell rfl) j
        have e79' : c2 79 = c 79 := sq 79 (by decide) (by omega) (by decide) (by decide) (by decide)
        have big : ∀ q, 109 ≤ q → c2 q = c q := fun q a => sq q (by omega) (by omega) (by omega) (by omega) (by omega)
        refine h.gen ?_ ⟨⟨?_, ?_, ?_⟩, ?_, fun _ => ?_, fun w => ?_⟩ (fun q z1 z2 z3 z4 z5 z6 z7 z8 z9 z10 z11 z12 z13 => sq q (by omega) (by omega) z8 z11 z12) e0 (fun j z => s77 j (fun y => by subst y; exact absurd z (by decide)) (fun y => by subst y; exact absurd z (by decide))) ?_ (h.2.2.2.2.2.1.cells (sq 73 (by decide) (by omega) (by decide) (by decide) (by decide)) (sq 74 (by decide) (by omega) (by decide) (by decide) (by decide)) (sq 75 (by decide) (by omega) (by decide) (by decide) (by decide)) (sq 108 (by decide) (by omega) (by decide) (by decide) (by decide)) (s77 59 (by decide) (by decide)) (s77 60 (by decide) (by decide))) (rf.ok ?_ ?_ (sq 76 (by decide) (by omega) (by decide) (by decide) (by decide)) (sq 78 (by decide) (by omega) (by decide) (by decide) (by decide))) (fun j a => by rw [e79']; exact m5 j a)
        · rw [e79']
          exact hP.cells (fun q a b => sq q (by omega) (by omega) (by omega) (by omega) (by omega)) big
        · rw [s82, s0, up_ne (by decide), up_same]; rfl
        · rw [s82]; exact .inr rfl
        · rw [s82]; exact k3
        · rw [sq 29 (by decide) (by omega) (by decide) (by decide) (by decide)]
          exact ⟨k4, k5⟩
        · have p : PT 30 T c2 (c 79) := ⟨q1.cells (s3 _ (by decide) (by decide)) (s3 _ (by decide) (by decide)) (s3 _ (by decide) (by decide)) (s3 _ (by decide) (by decide)) (s3 _ (by decide) (by decide)) (s3 _ (by decide) (by decide)) (s3 _ (by decide) (by decide)) (s3 _ (by decide) (by decide)), hR, (hP.2.2.1.cg big).tx (by omega) (fun x a b => by show c2 34 x = c 5 x; rw [s3 34 (by decide) (by decide)]; exact q2 x a b), fun x a b => by show trf (SH T) (c2 34 x) 20 = true; rw [s3 34 (by decide) (by decide), q2 x a b]; exact hP.2.2.2 x a b⟩
          refine p.nn fun j a => ?_
          unfold IR
          by_cases w : j < 5780
          · rw [if_pos w, s80, if_pos (by omega)]
            exact congrArg (c 79) (by omega)
          · rw [if_neg w, m5 j (by omega)]
        · rw [s82] at w
          refine ((k7 w).cells (fun q a b => sq q (by omega) (by omega) (by omega) (by omega) (by omega)) big).nn fun j a => ?_
          unfold IR
          by_cases w : j < 5780
          · rw [if_pos w, if_pos w, s80, if_neg (by omega)]
          · rw [if_neg w, if_neg w]
        · have ax := h.2.2.2.1.2.1
          unfold AX at ax ⊢
          rw [s77 16 (by decide) (by decide), s77 44 (by decide) (by decide), s77 45 (by decide) (by decide)]
          exact ax
        · rw [s0]; rfl
        · exact s71
    · refine W_X11_image (Q := QI T _) (p1 := 39) (n2 := 15) (f3 := [0, 41, 0, 42, 43, 0, 44, 0, 0, 45, 46, 0, 47, 0, 48]) ⟨fun _ => ⟨⟨by omega, by rw [k5]; exact d_im1⟩, ?_⟩, fun z => absurd hk z⟩
      rw [k5]
      refine (c_takeJn hs hR hP.2.2.2).mono fun c1 q => ?_
      obtain ⟨o, q1, q2⟩ := q
      have e02 : c1 0 2 = c 0 2 := by rw [o.cell rfl]
      rw [e02, k1, hf0, hf1, kp_or1 f0 f1, ← hf0]
      have o1 : Off [0, 39, 40, 41, 42, 43, 44, 45, 46, 47] [] c (up (up c1 0 2 (c 82 0 + 2)) 0 17 0) := ((o.mono rfl rfl).wr rfl).wr rfl
      refine QI.ret ⟨o1.sc rfl, W_X12_image (Q := QI T _) ⟨fun _ => ?_, fun z => absurd (by omega) z⟩⟩
      have o2 : Off [0, 39, 40, 41, 42, 43, 44, 45, 46, 47] [0] c (up (up (up c1 0 2 (c 82 0 + 2)) 0 17 0) 77 0 0) := (o1.mono rfl rfl).wr rfl
      refine r_image23 (.inr rfl) fun s g1 g2 => QI.ret ⟨rfl, ?_, ?_⟩
      · exact (((o2.sc rfl).trans ⟨g1 _ (by decide), g1 _ (by decide)⟩).wr (by decide)).wr (by decide)
      · have e79 : (up (up (up c1 0 2 (c 82 0 + 2)) 0 17 0) 77 0 0) 79 = c 79 := o2.cell rfl
        have e80 : (up (up (up c1 0 2 (c 82 0 + 2)) 0 17 0) 77 0 0) 80 = c 80 := o2.cell rfl
        rw [e79, e80] at g2
        have sq : ∀ q, q ≠ 0 → q < 39 ∨ 47 < q → q ≠ 77 → q ≠ 80 → q ≠ 82 → up (up s 82 1 1) 77 1 0 q = c q := fun q z0 z1 z2 z3 z4 => by
          rw [up_cell z2, up_cell z4, g1 q z3]
          funext j
          exact o2 q j (by simp; omega) fun y => absurd y z2
        have s0 : up (up s 82 1 1) 77 1 0 0 = up (up c1 0 2 (c 82 0 + 2)) 0 17 0 0 := by rw [up_cell (by decide), up_cell (by decide), g1 0 (by decide), up_cell (by decide)]
        have s3 : ∀ q, 39 ≤ q → q ≤ 47 → up (up s 82 1 1) 77 1 0 q = c1 q := fun q a b => by rw [up_cell (by omega), up_cell (by omega), g1 q (by omega), up_cell (by omega), up_cell (by omega), up_cell (by omega)]
        have s82 : up (up s 82 1 1) 77 1 0 82 = rU (c 82) 1 1 := by
          rw [up_cell (by decide), up_rU, g1 82 (by decide)]
          exact congrArg (fun w => rU w 1 1) (o2.cell rfl)
        have s80 : ∀ j, up (up s 82 1 1) 77 1 0 80 j = if 5780 * 1 ≤ j ∧ j < 5780 * 1 + 5780 then c 79 (j - 5780 * 1) else c 80 j := fun j => by
          rw [up_cell (by decide), up_cell (by decide)]; exact g2 j
        have s77 : ∀ j, j ≠ 0 → j ≠ 1 → up (up s 82 1 1) 77 1 0 77 j = c 77 j := fun j a b => by
          rw [up_ne b, up_cell (by decide), g1 77 (by decide), up_ne a]
          exact o1.fld rfl
        have s71 : up (up s 82 1 1) 77 1 0 77 1 = 0 := up_same
        generalize up (up s 82 1 1) 77 1 0 = c2 at sq s0 s3 s82 s80 s77 s71 ⊢
        have e0 : ∀ j, j ≠ 17 → j ≠ 2 → c2 0 j = c 0 j := fun j a b => by
          rw [s0, up_ne a, up_ne b]
          exact congrFun (o.cell rfl) j
        have e79' : c2 79 = c 79 := sq 79 (by decide) (by omega) (by decide) (by decide) (by decide)
        have big : ∀ q, 109 ≤ q → c2 q = c q := fun q a => sq q (by omega) (by omega) (by omega) (by omega) (by omega)
        refine h.gen ?_ ⟨⟨?_, ?_, ?_⟩, ?_, fun w => ?_, fun _ => ?_⟩ (fun q z1 z2 z3 z4 z5 z6 z7 z8 z9 z10 z11 z12 z13 => sq q (by omega) (by omega) z8 z11 z12) e0 (fun j z => s77 j (fun y => by subst y; exact absurd z (by decide)) (fun y => by subst y; exact absurd z (by decide))) ?_ (h.2.2.2.2.2.1.cells (sq 73 (by decide) (by omega) (by decide) (by decide) (by decide)) (sq 74 (by decide) (by omega) (by decide) (by decide) (by decide)) (sq 75 (by decide) (by omega) (by decide) (by decide) (by decide)) (sq 108 (by decide) (by omega) (by decide) (by decide) (by decide)) (s77 59 (by decide) (by decide)) (s77 60 (by decide) (by decide))) (rf.ok ?_ ?_ (sq 76 (by decide) (by omega) (by decide) (by decide) (by decide)) (sq 78 (by decide) (by omega) (by decide) (by decide) (by decide))) (fun j a => by rw [e79']; exact m5 j a)
        · rw [e79']
          exact hP.cells (fun q a b => sq q (by omega) (by omega) (by omega) (by omega) (by omega)) big
        · rw [s82, s0, up_ne (by decide), up_same]; rfl
        · rw [s82]; exact k2
        · rw [s82]; exact .inr rfl
        · rw [sq 29 (by decide) (by omega) (by decide) (by decide) (by decide)]
          exact ⟨k4, k5⟩
        · rw [s82] at w
          refine ((k6 w).cells (fun q a b => sq q (by omega) (by omega) (by omega) (by omega) (by omega)) big).nn fun j a => ?_
          unfold IR
          by_cases w : j < 5780
          · rw [if_pos w, if_pos w, s80, if_neg (by omega)]
          · rw [if_neg w, if_neg w]
        · have p : PT 39 T c2 (c 79) := ⟨q1.cells (s3 _ (by decide) (by decide)) (s3 _ (by decide) (by decide)) (s3 _ (by decide) (by decide)) (s3 _ (by decide) (by decide)) (s3 _ (by decide) (by decide)) (s3 _ (by decide) (by decide)) (s3 _ (by decide) (by decide)) (s3 _ (by decide) (by decide)), hR, (hP.2.2.1.cg big).tx (by omega) (fun x a b => by show c2 43 x = c 5 x; rw [s3 43 (by decide) (by decide)]; exact q2 x a b), fun x a b => by show trf (SH T) (c2 43 x) 20 = true; rw [s3 43 (by decide) (by decide), q2 x a b]; exact hP.2.2.2 x a b⟩
          refine p.nn fun j a => ?_
          unfold IR
          by_cases w : j < 5780
          · rw [if_pos w, s80, if_pos (by omega)]
            exact congrArg (c 79) (by omega)
          · rw [if_neg w, m5 j (by omega)]
        · have ax := h.2.2.2.1.2.1
          unfold AX at ax ⊢
          rw [s77 16 (by decide) (by decide), s77 44 (by decide) (by decide), s77 45 (by decide) (by decide)]
          exact ax
        · rw [s0]; rfl
        · exact s71
  · refine W_X11_image (Q := QI T _) (p1 := 0) (n2 := 0) (f3 := []) ⟨fun z => absurd z hk, fun _ => jr1 h hn fun Q' g => W_X12_image ⟨fun z => by omega, fun _ => g⟩⟩
theorem j_back {k : Int} (h : REL T c n) (hn : n < 512) : JN T c n 168 193 [vI k] := by
  have hs := h.cs
  have hR := h.rng
  have r := hR.1
  have rf := h.2.2.2.2.1
  have hP := h.1
  obtain ⟨⟨k1, k2, k3⟩, ⟨k4, k5⟩, k6, k7⟩ := h.2.1
  have m5 := h.2.2.2.1.2.2.2.2
  obtain ⟨f0, hf0⟩ := fin2 k2
  obtain ⟨f1, hf1⟩ := fin2 k3
  refine W_X11_back (Q := QI T _) ⟨fun hk => ⟨fun a => ?_, fun a => ⟨by omega, ?_⟩⟩, fun hk => jr1 h hn fun Q' g => W_X12_back ⟨fun z => by omega, fun _ => g⟩⟩
  · refine jr2 h hn fun Q' g => W_X12_back ⟨fun _ => ⟨by omega, fun _ => g, fun z => absurd ?_ z⟩, fun z => absurd (by omega) z⟩
    have hk2 : k = 0 ∨ k = 1 := by omega
    rcases hk2 with hk2 | hk2 <;> subst hk2
    · rw [k1, hf0, hf1, kp_an0 f0 f1, ← hf0] at a
      exact a
    · rw [k1, hf0, hf1, kp_an1 f0 f1, ← hf1] at a
      exact a
  · have hk2 : k = 0 ∨ k = 1 := by omega
    rcases hk2 with hk2 | hk2 <;> subst hk2
    · rw [k1, hf0, hf1, kp_an0 f0 f1, ← hf0] at a
      have kk : c 82 0 = 1 := by omega
      have PI := k6 kk
      rw [k4]
      refine (c_takeNi PI.1 PI.2.1 PI.2.2.2).mono fun c1 q => ?_
      obtain ⟨o, q1, q2⟩ := q
      have o1 : Off [0, 1, 2, 3, 4, 5, 6, 7, 8, 9] [] c (up c1 0 17 0) := (o.mono rfl rfl).wr rfl
      have o2 : Off [0, 1, 2, 3, 4, 5, 6, 7, 8, 9] [0] c (up (up c1 0 17 0) 77 0 0) := (o1.mono rfl rfl).wr rfl
      refine QI.ret ⟨o1.sc rfl, W_X12_back (Q := QI T _) ⟨fun _ => ⟨by omega, fun z => ?_, fun _ => ?_⟩, fun z => absurd (by omega) z⟩⟩
      · have e : (up c1 0 17 0) 82 = c 82 := o1.cell rfl
        rw [e] at z
        omega
      · refine r_back39 (.inl rfl) fun s g1 g2 => QI.ret ⟨rfl, ?_, ?_⟩
        · exact ((o2.sc rfl).trans ⟨g1 _ (by decide), g1 _ (by decide)⟩).wr (by decide)
        · have e79 : (up (up c1 0 17 0) 77 0 0) 79 = c 79 := o2.cell rfl
          have e80 : (up (up c1 0 17 0) 77 0 0) 80 = c 80 := o2.cell rfl
          rw [e79, e80] at g2
          have sq : ∀ q, 10 ≤ q → q ≠ 77 → q ≠ 79 → up s 77 1 0 q = c q := fun q z0 z2 z3 => by
            rw [up_cell z2, g1 q z3]
            funext j
            exact o2 q j (by simp; omega) fun y => absurd y z2
          have s9 : ∀ q, 1 ≤ q → q ≤ 9 → up s 77 1 0 q = c1 q := fun q a b => by rw [up_cell (by omega), g1 q (by omega), up_cell (by omega), up_cell (by omega)]
          have s0 : up s 77 1 0 0 = up c1 0 17 0 0 := by rw [up_cell (by decide), g1 0 (by decide), up_cell (by decide)]
          have s79 : ∀ j, 0 ≤ j → up s 77 1 0 79 j = IR c 0 j := fun j a => by
            rw [up_cell (by decide), g2]
            unfold IR
            by_cases w : j < 5780
            · rw [if_pos ⟨a, w⟩, if_pos w]
            · rw [if_neg (fun y => w y.2), if_neg w]
              exact m5 j (by omega)
          have s77 : ∀ j, j ≠ 0 → j ≠ 1 → up s 77 1 0 77 j = c 77 j := fun j a b => by
            rw [up_ne b, g1 77 (by decide), up_ne a]
            exact o1.fld rfl
          have s71 : up s 77 1 0 77 1 = 0 := up_same
          generalize up s 77 1 0 = c2 at sq s0 s9 s79 s77 s71 ⊢
          have e0 : ∀ j, j ≠ 17 → c2 0 j = c 0 j := fun j a => by
            rw [s0, up_ne a]
            exact congrFun (o.cell rfl) j
          have big : ∀ q, 109 ≤ q → c2 q = c q := fun q a => sq q (by omega) (by omega) (by omega)
          refine h.gen ?_ (h.2.1.cells (e0 2 (by decide)) (fun q a b => sq q (by omega) (by omega) (by omega)) (sq 80 (by decide) (by decide) (by decide)) (sq 82 (by decide) (by decide) (by decide)) big) (fun q z1 z2 z3 z4 z5 z6 z7 z8 z9 z10 z11 z12 z13 => sq q z2 z8 z10) (fun j z _ => e0 j z) (fun j z => s77 j (fun y => by subst y; exact absurd z (by decide)) (fun y => by subst y; exact absurd z (by decide))) ?_ (h.2.2.2.2.2.1.cells (sq 73 (by decide) (by decide) (by decide)) (sq 74 (by decide) (by decide) (by decide)) (sq 75 (by decide) (by decide) (by decide)) (sq 108 (by decide) (by decide) (by decide)) (s77 59 (by decide) (by decide)) (s77 60 (by decide) (by decide))) (rf.ok ?_ s71 (sq 76 (by decide) (by decide) (by decide)) (sq 78 (by decide) (by decide) (by decide))) (fun j a => ?_)
          · have p : PT 1 T c2 (IR c 0) := ⟨q1.cells (s9 1 (by decide) (by decide)) (s9 2 (by decide) (by decide)) (s9 3 (by decide) (by decide)) (s9 4 (by decide) (by decide)) (s9 6 (by decide) (by decide)) (s9 7 (by decide) (by decide)) (s9 8 (by decide) (by decide)) (s9 9 (by decide) (by decide)), PI.2.1, (PI.2.2.1.cg big).tx (by have := PI.2.1.1; omega) (fun x a b => by show c2 5 x = c 34 x; rw [s9 5 (by decide) (by decide)]; exact q2 x a b), fun x a b => by show trf (SH T) (c2 5 x) 20 = true; rw [s9 5 (by decide) (by decide), q2 x a b]; exact PI.2.2.2 x a b⟩
            exact p.nn s79
          · have ax := h.2.2.2.1.2.1
            unfold AX at ax ⊢
            rw [s77 16 (by decide) (by decide), s77 44 (by decide) (by decide), s77 45 (by decide) (by decide)]
            exact ax
          · rw [s0]; exact up_same
          · rw [s79 j (by omega)]
            unfold IR
            rw [if_neg (by omega)]
    · rw [k1, hf0, hf1, kp_an1 f0 f1, ← hf1] at a
      have kk : c 82 1 = 1 := by omega
      have PI := k7 kk
      rw [k5]
      refine (c_takeNj PI.1 PI.2.1 PI.2.2.2).mono fun c1 q => ?_
      obtain ⟨o, q1, q2⟩ := q
      have o1 : Off [0, 1, 2, 3, 4, 5, 6, 7, 8, 9] [] c (up c1 0 17 0) := (o.mono rfl rfl).wr rfl
      have o2 : Off [0, 1, 2, 3, 4, 5, 6, 7, 8, 9] [0] c (up (up c1 0 17 0) 77 0 0) := (o1.mono rfl rfl).wr rfl
      refine QI.ret ⟨o1.sc rfl, W_X12_back (Q := QI T _) ⟨fun _ => ⟨by omega, fun z => ?_, fun _ => ?_⟩, fun z => absurd (by omega) z⟩⟩
      · have e : (up c1 0 17 0) 82 = c 82 := o1.cell rfl
        rw [e] at z
        omega
      · refine r_back39 (.inr rfl) fun s g1 g2 => QI.ret ⟨rfl, ?_, ?_⟩
        · exact ((o2.sc rfl).trans ⟨g1 _ (by decide), g1 _ (by decide)⟩).wr (by decide)
        · have e79 : (up (up c1 0 17 0) 77 0 0) 79 = c 79 := o2.cell rfl
          have e80 : (up (up c1 0 17 0) 77 0 0) 80 = c 80 := o2.cell rfl
          rw [e79, e80] at g2
          have sq : ∀ q, 10 ≤ q → q ≠ 77 → q ≠ 79 → up s 77 1 0 q = c q := fun q z0 z2 z3 => by
            rw [up_cell z2, g1 q z3]
            funext j
            exact o2 q j (by simp; omega) fun y => absurd y z2
          have s9 : ∀ q, 1 ≤ q → q ≤ 9 → up s 77 1 0 q = c1 q := fun q a b => by rw [up_cell (by omega), g1 q (by omega), up_cell (by omega), up_cell (by omega)]
          have s0 : up s 77 1 0 0 = up c1 0 17 0 0 := by rw [up_cell (by decide), g1 0 (by decide), up_cell (by decide)]
          have s79 : ∀ j, 0 ≤ j → up s 77 1 0 79 j = IR c 1 j := fun j a => by
            rw [up_cell (by decide), g2]
            unfold IR
            by_cases w : j < 5780
            · rw [if_pos ⟨a, w⟩, if_pos w]
            · rw [if_neg (fun y => w y.2), if_neg w]
              exact m5 j (by omega)
          have s77 : ∀ j, j ≠ 0 → j ≠ 1 → up s 77 1 0 77 j = c 77 j := fun j a b => by
            rw [up_ne b, g1 77 (by decide), up_ne a]
            exact o1.fld rfl
          have s71 : up s 77 1 0 77 1 = 0 := up_same
          generalize up s 77 1 0 = c2 at sq s0 s9 s79 s77 s71 ⊢
          have e0 : ∀ j, j ≠ 17 → c2 0 j = c 0 j := fun j a => by
            rw [s0, up_ne a]
            exact congrFun (o.cell rfl) j
          have big : ∀ q, 109 ≤ q → c2 q = c q := fun q a => sq q (by omega) (by omega) (by omega)
          refine h.gen ?_ (h.2.1.cells (e0 2 (by decide)) (fun q a b => sq q (by omega) (by omega) (by omega)) (sq 80 (by decide) (by decide) (by decide)) (sq 82 (by decide) (by decide) (by decide)) big) (fun q z1 z2 z3 z4 z5 z6 z7 z8 z9 z10 z11 z12 z13 => sq q z2 z8 z10) (fun j z _ => e0 j z) (fun j z => s77 j (fun y => by subst y; exact absurd z (by decide)) (fun y => by subst y; exact absurd z (by decide))) ?_ (h.2.2.2.2.2.1.cells (sq 73 (by decide) (by decide) (by decide)) (sq 74 (by decide) (by decide) (by decide)) (sq 75 (by decide) (by decide) (by decide)) (sq 108 (by decide) (by decide) (by decide)) (s77 59 (by decide) (by decide)) (s77 60 (by decide) (by decide))) (rf.ok ?_ s71 (sq 76 (by decide) (by decide) (by decide)) (sq 78 (by decide) (by decide) (by decide))) (fun j a => ?_)
          · have p : PT 1 T c2 (IR c 1) := ⟨q1.cells (s9 1 (by decide) (by decide)) (s9 2 (by decide) (by decide)) (s9 3 (by decide) (by decide)) (s9 4 (by decide) (by decide)) (s9 6 (by decide) (by decide)) (s9 7 (by decide) (by decide)) (s9 8 (by decide) (by decide)) (s9 9 (by decide) (by decide)), PI.2.1, (PI.2.2.1.cg big).tx (by have := PI.2.1.1; omega) (fun x a b => by show c2 5 x = c 43 x; rw [s9 5 (by decide) (by decide)]; exact q2 x a b), fun x a b => by show trf (SH T) (c2 5 x) 20 = true; rw [s9 5 (by decide) (by decide), q2 x a b]; exact PI.2.2.2 x a b⟩
            exact p.nn s79
          · have ax := h.2.2.2.1.2.1
            unfold AX at ax ⊢
            rw [s77 16 (by decide) (by decide), s77 44 (by decide) (by decide), s77 45 (by decide) (by decide)]
            exact ax
          · rw [s0]; exact up_same
          · rw [s79 j (by omega)]
            unfold IR
            rw [if_neg (by omega)]
end CAL

/-! CALLS that change the world: paint, copy -/
def mq0 (q : Nat) : Bool := (Nat.ble 1 q && Nat.ble q 9 && !Nat.beq q 5) || Nat.beq q 79 || scq q
theorem mq_mt {q : Nat} {j : Int} (h : mq0 q = true) : mt0 q j = true := by
  unfold mq0 at h
  unfold mt0
  rcases (Bool.or_eq_true _ _).mp h with h | h
  · rcases (Bool.or_eq_true _ _).mp h with h | h
    · rw [h]; rfl
    · rw [h, Bool.or_true]; rfl
  · rw [h, Bool.or_true]; rfl
theorem Off.mt {L : List Nat} {G : List Int} {c c' : Cm} (o : Off L G c c') (hl : (L.all fun q => mq0 q) = true) (hg : (G.all fun j => [0, 1, 30, 34, 35, 36, 49, 50].contains j) = true) : Fr (fun q j => mt0 q j = true ∨ q = 76 ∨ q = 78) c c' := by
  intro q j hn
  refine o q j ?_ fun e => ?_
  · cases e : L.contains q with
    | false => exact Eq.refl _
    | true => exact absurd (.inl (mq_mt ((List.all_eq_true.mp hl) q (List.contains_iff_mem.mp e)))) hn
  · cases e2 : G.contains j with
    | false => exact Eq.refl _
    | true =>
      have m := (List.all_eq_true.mp hg) j (List.contains_iff_mem.mp e2)
      refine absurd (.inl ?_) hn
      subst e
      show ((((false || false) || false) || false) || (true && [0, 1, 30, 34, 35, 36, 49, 50].contains j)) = true
      rw [m]
      rfl
theorem Off.mt78 {L : List Nat} {G : List Int} {c c' : Cm} (o : Off L G c c') (hl : (L.all fun q => mq0 q || Nat.beq q 78) = true) (hg : (G.all fun j => [0, 1, 30, 34, 35, 36, 49, 50].contains j) = true) : Fr (fun q j => mt0 q j = true ∨ q = 76 ∨ q = 78) c c' := by
  intro q j hn
  refine o q j ?_ fun e => ?_
  · cases e : L.contains q with
    | false => exact Eq.refl _
    | true =>
      have m := (List.all_eq_true.mp hl) q (List.contains_iff_mem.mp e)
      rcases (Bool.or_eq_true _ _).mp m with m | m
      · exact absurd (.inl (mq_mt m)) hn
      · exact absurd (.inr (.inr (Nat.eq_of_beq_eq_true m))) hn
  · cases e2 : G.contains j with
    | false => exact Eq.refl _
    | true =>
      have m := (List.all_eq_true.mp hg) j (List.contains_iff_mem.mp e2)
      refine absurd (.inl ?_) hn
      subst e
      show ((((false || false) || false) || false) || (true && [0, 1, 30, 34, 35, 36, 49, 50].contains j)) = true
      rw [m]
      rfl
section CAL
variable {T : List Shp} {c : Cm} {n : Nat}
theorem c_paintQ {Q : Res → Prop} {R : Int → Int} {F : List Clz} {x : Int} (h : CWd T c R F) (hb1 : 0 ≤ c 76 1 ∧ c 76 1 ≤ 512) (hb2 : 0 ≤ c 76 2 ∧ c 76 2 ≤ 512) (hb3 : 0 ≤ c 76 3 ∧ c 76 3 ≤ 512) (k2 : ¬ (0 ≤ x ∧ x < R 0) → Q (some (some (vI (-2)), (SH T, up (up c 0 17 (-2)) 76 1 (c 76 1 + 1))))) (k3 : ∀ c4, (0 ≤ x ∧ x < R 0) → (brp F R x (R 4 + 1) = true ∨ rst R x (R 4 + 1) = true) → Off [14, 15, 16, 17] [] c c4 → Q (some (some (vI (-3)), (SH T, up (up c4 0 17 (-3)) 76 2 (c4 76 2 + 1))))) (k5 : ∀ c4, (0 ≤ x ∧ x < R 0) → ¬ (brp F R x (R 4 + 1) = true ∨ rst R x (R 4 + 1) = true) → ¬ R 4 < 16 → Off [14, 15, 16, 17] [] c c4 → Q (some (some (vI (-5)), (SH T, up (up c4 0 17 (-5)) 76 3 (c4 76 3 + 1))))) (kok : ∀ c7, (0 ≤ x ∧ x < R 0) → ¬ (brp F R x (R 4 + 1) = true ∨ rst R x (R 4 + 1) = true) → R 4 < 16 → CS c7 (pRw F R x) → Off [1, 6, 7, 14, 15, 16, 17] [] c c7 → Q (some (some (vI (unl F (pRw F R x) (R 4 + 1))), (SH T, up c7 0 17 0)))) : Q (ccal 132 [vR 1, vI x] (SH T, c)) := by
  have hR := h.2.1
  have h1 := hR.1
  have e8 : c 1 8 = R 4 := h.1.1.2.2.2.2.1
  have e0 : c 1 0 = R 0 := h.1.1.1
  refine W_X11_paint ⟨fun hp => ⟨by omega, ?_⟩, fun hp => ⟨by omega, k2 (by omega)⟩⟩
  rw [e0] at hp
  rw [e8]
  refine (c_barsPainter h.1 hR h.2.2 hp (by omega)).mono fun r c2 h2 => ?_
  have w2 := h.off h2.2 rfl
  have q2 : c2 76 = c 76 := h2.2.cell rfl
  refine ⟨fun e => ?_, fun e => ?_⟩
  · refine QI.of_eq (c_rests (p := x) (y := R 4 + 1) w2.1 hR (by omega)) ?_
    have e8' : c2 1 8 = R 4 := w2.1.1.2.2.2.2.1
    refine ⟨fun e3 => ?_, fun e3 => ?_⟩
    · have n1 : ¬ brp F R x (R 4 + 1) = true := fun z => by rw [h2.1] at e; unfold b01 at e; rw [if_pos z] at e; exact absurd e (by decide)
      have n2 : ¬ rst R x (R 4 + 1) = true := fun z => by unfold b01 at e3; rw [if_pos z] at e3; exact absurd e3 (by decide)
      have nn : ¬ (brp F R x (R 4 + 1) = true ∨ rst R x (R 4 + 1) = true) := fun z => z.elim n1 n2
      refine ⟨fun e4 => ?_, fun e4 => ⟨by rw [q2]; omega, k5 c2 hp nn (by omega) h2.2⟩⟩
      refine (c_paintNext w2 hp (by omega)).mono fun c3 h3 => ?_
      obtain ⟨s3, l3, o3, g3⟩ := h3
      have w3 : CWd T c3 (pRw F R x) F := ⟨s3, pRw_rng hR (by omega) hp, l3⟩
      have e83 : c3 1 8 = R 4 + 1 := s3.1.2.2.2.2.1
      rw [e83]
      refine (c_unlikeOf w3 (by omega)).mono fun r6 c7 h7 => ?_
      rw [h7.1]
      exact kok c7 hp nn (by omega) (s3.off h7.2 rfl) (((h2.2.mono rfl rfl).trans (o3.mono rfl rfl)).trans (h7.2.mono rfl rfl))
    · have y2 : rst R x (R 4 + 1) = true := by
        cases k : rst R x (R 4 + 1) with
        | true => rfl
        | false => rw [k] at e3; exact absurd rfl e3
      exact ⟨by rw [q2]; omega, k3 c2 hp (.inr y2) h2.2⟩
  · have y1 : brp F R x (R 4 + 1) = true := by
      cases k : brp F R x (R 4 + 1) with
      | true => rfl
      | false => rw [h2.1, k] at e; exact absurd rfl e
    exact ⟨by rw [q2]; omega, k3 c2 hp (.inl y1) h2.2⟩
theorem r_paintP {c1 : Cm} {F : List Clz} {x : Int} (h : RWd c1 F) (hp : 0 ≤ x ∧ x < c1 79 0) (b3 : 0 ≤ c1 78 3 ∧ c1 78 3 ≤ 512) (b5 : 0 ≤ c1 78 5 ∧ c1 78 5 ≤ 512) : QI T (fun r c2 => r = pnA F (c1 79) x ∧ c2 79 = pnR F (c1 79) x ∧ ((pnA F (c1 79) x = -3 ∧ c2 77 1 = -3 ∧ c2 78 = rU (c1 78) 3 (c1 78 3 + 1)) ∨ (pnA F (c1 79) x = -5 ∧ c2 77 1 = -5 ∧ c2 78 = rU (c1 78) 5 (c1 78 5 + 1)) ∨ (0 ≤ pnA F (c1 79) x ∧ c2 77 1 = 0 ∧ c2 78 = c1 78)) ∧ Off [78, 79, 92, 94, 95, 96] [0, 1, 30, 34, 35, 36] c1 c2) (ccal 267 [vR 78, vI x] (SH T, c1)) := by
  have r := h.1.1
  refine W_X12_paint (Q := QI T _) ⟨by omega, fun _ => ?_, fun z => absurd hp z⟩
  have o0 : Off [] [0] c1 (up c1 77 0 0) := Off.rfl.wr rfl
  have w0 : RWd (up c1 77 0 0) F := h.off o0 rfl
  have e79 : (up c1 77 0 0) 79 = c1 79 := o0.cell rfl
  refine (r_paintNow (p := x) w0 (by rw [e79]; exact hp)).mono fun v c2 g => ?_
  rw [e79] at g
  obtain ⟨g1, g2, g3⟩ := g
  have e78 : c2 78 = c1 78 := (g3.cell rfl).trans (o0.cell rfl)
  have o : Off [78, 79, 92, 94, 95, 96] [0, 1, 30, 34, 35, 36] c1 c2 := (o0.mono rfl rfl).trans (g3.mono rfl rfl)
  have hv : v = -3 ∨ v = -5 ∨ 0 ≤ v := by
    rw [g1]
    unfold pnA
    split
    · exact .inl rfl
    · split
      · exact .inr (.inl rfl)
      · exact .inr (.inr (unl_bd (F := F) (pRw_rng h.1 (by omega) hp) (by omega)).1)
  rcases hv with z | z | z
  · subst z
    refine QI.of_eq (S_X12_tell_3 T c2 (by rw [e78]; omega)) (QI.ret ⟨g1, ?_, .inl ⟨g1.symm, rfl, ?_⟩, (o.wr rfl).wr rfl⟩)
    · exact g2
    · rw [e78]
      funext j
      show (if j = 3 then c1 78 3 + 1 else c2 78 j) = _
      rw [e78]
      rfl
  · subst z
    refine QI.of_eq (S_X12_tell_5 T c2 (by rw [e78]; omega)) (QI.ret ⟨g1, ?_, .inr (.inl ⟨g1.symm, rfl, ?_⟩), (o.wr rfl).wr rfl⟩)
    · exact g2
    · rw [e78]
      funext j
      show (if j = 5 then c1 78 5 + 1 else c2 78 j) = _
      rw [e78]
      rfl
  · refine QI.of_eq (S_X12_tell T c2 v z) (QI.ret ⟨g1, ?_, .inr (.inr ⟨by rw [← g1]; exact z, rfl, ?_⟩), o.wr rfl⟩)
    · exact g2
    · exact e78
theorem j_paint {x : Int} (h : REL T c n) (hn : n < 512) : JN T c n 132 267 [vI x] := by
  have hs := h.cs
  have hR := h.rng
  have r := hR.1
  have bd := h.bd hn
  have rf := h.2.2.2.2.1
  obtain ⟨F, hc, hr⟩ := h.worlds
  obtain ⟨-, ⟨q1, q2, q3, q5, q6⟩, -⟩ := h.2.2.2.2.1
  refine c_paintQ (Q := QI T (JP T c n 267 [vI x])) hc bd.2.1 bd.2.2.1 bd.2.2.2.1 (fun a => ?_) (fun c4 a b o => ?_) (fun c4 a b d o => ?_) (fun c7 a b d s o => ?_)
  · refine (jr2 h hn fun Q' g => W_X12_paint ⟨?_, fun z => ?_, fun _ => g⟩).2
    · show -9223372036854775808 ≤ c 79 0 - 1 ∧ c 79 0 - 1 < 9223372036854775808
      omega
    · exact absurd z a
  · have o1 : Off [0, 14, 15, 16, 17, 76] [] c (up (up c4 0 17 (-3)) 76 2 (c4 76 2 + 1)) := ((o.mono rfl rfl).wr rfl).wr rfl
    have e78 := o1.cell (q := 78) rfl
    have e79 := o1.cell (q := 79) rfl
    have k := r_paintP (T := T) (x := x) (hr.off o1 rfl) (by rw [e79]; exact a) (by rw [e78]; omega) (by rw [e78]; omega)
    rw [e79, e78] at k
    refine QI.ret ⟨o1.sc rfl, k.mono fun v c2 g => ?_⟩
    obtain ⟨g1, g2, g3, g4⟩ := g
    have eA : pnA F (c 79) x = -3 := if_pos b
    have eR : pnR F (c 79) x = c 79 := if_pos b
    rw [eA] at g1 g3
    rw [eR] at g2
    have g3 : c2 77 1 = -3 ∧ c2 78 = rU (c 78) 3 (c 78 3 + 1) := by
      rcases g3 with z | z | z
      · exact z.2
      · exact absurd z.1 (by decide)
      · exact absurd z.1 (by decide)
    have c0 : c2 0 17 = -3 := by rw [g4.cell rfl]; rfl
    have c76 : c2 76 = rU (c 76) 2 (c 76 2 + 1) := by
      rw [g4.cell rfl]
      have : c4 76 = c 76 := o.cell rfl
      funext j
      show (if j = 2 then c4 76 2 + 1 else c4 76 j) = _
      rw [this]
      rfl
    refine ⟨g1, (o1.sc rfl).trans (g4.sc rfl), h.mut1 (R' := c 79) (((hs.off o rfl).cells (c' := up (up c4 0 17 (-3)) 76 2 (c4 76 2 + 1)) rfl rfl rfl rfl rfl rfl rfl rfl).off g4 rfl) hR g2 rfl (fun _ _ => rfl) ((((o.mt rfl rfl).wr (.inl rfl)).wr (.inr (.inl rfl))).trans (g4.mt78 rfl rfl)) (rf.b3 c0 g3.1 c76 g3.2)⟩
  · have o1 : Off [0, 14, 15, 16, 17, 76] [] c (up (up c4 0 17 (-5)) 76 3 (c4 76 3 + 1)) := ((o.mono rfl rfl).wr rfl).wr rfl
    have e78 := o1.cell (q := 78) rfl
    have e79 := o1.cell (q := 79) rfl
    have k := r_paintP (T := T) (x := x) (hr.off o1 rfl) (by rw [e79]; exact a) (by rw [e78]; omega) (by rw [e78]; omega)
    rw [e79, e78] at k
    refine QI.ret ⟨o1.sc rfl, k.mono fun v c2 g => ?_⟩
    obtain ⟨g1, g2, g3, g4⟩ := g
    have eA : pnA F (c 79) x = -5 := by unfold pnA; rw [if_neg b, if_pos (by omega)]
    have eR : pnR F (c 79) x = c 79 := by unfold pnR; rw [if_neg b, if_pos (by omega)]
    rw [eA] at g1 g3
    rw [eR] at g2
    have g3 : c2 77 1 = -5 ∧ c2 78 = rU (c 78) 5 (c 78 5 + 1) := by
      rcases g3 with z | z | z
      · exact absurd z.1 (by decide)
      · exact z.2
      · exact absurd z.1 (by decide)
    have c0 : c2 0 17 = -5 := by rw [g4.cell rfl]; rfl
    have c76 : c2 76 = rU (c 76) 3 (c 76 3 + 1) := by
      rw [g4.cell rfl]
      have : c4 76 = c 76 := o.cell rfl
      funext j
      show (if j = 3 then c4 76 3 + 1 else c4 76 j) = _
      rw [this]
      rfl
    refine ⟨g1, (o1.sc rfl).trans (g4.sc rfl), h.mut1 (R' := c 79) (((hs.off o rfl).cells (c' := up (up c4 0 17 (-5)) 76 3 (c4 76 3 + 1)) rfl rfl rfl rfl rfl rfl rfl rfl).off g4 rfl) hR g2 rfl (fun _ _ => rfl) ((((o.mt rfl rfl).wr (.inl rfl)).wr (.inr (.inl rfl))).trans (g4.mt78 rfl rfl)) (rf.b5 c0 g3.1 c76 g3.2)⟩
  · have o1 : Off [0, 1, 6, 7, 14, 15, 16, 17] [] c (up c7 0 17 0) := ((o.mono rfl rfl).wr rfl)
    have e78 := o1.cell (q := 78) rfl
    have e79 := o1.cell (q := 79) rfl
    have k := r_paintP (T := T) (x := x) (hr.off o1 rfl) (by rw [e79]; exact a) (by rw [e78]; omega) (by rw [e78]; omega)
    rw [e79, e78] at k
    refine QI.ret ⟨o1.sc rfl, k.mono fun v c2 g => ?_⟩
    obtain ⟨g1, g2, g3, g4⟩ := g
    have eA : pnA F (c 79) x = unl F (pRw F (c 79) x) (c 79 4 + 1) := by unfold pnA; rw [if_neg b, if_neg (by omega)]
    have eR : pnR F (c 79) x = pRw F (c 79) x := by unfold pnR; rw [if_neg b, if_neg (by omega)]
    have ub := (unl_bd (F := F) (l := c 79 4 + 1) (pRw_rng (F := F) hR (by omega) a) (by omega)).1
    rw [eA] at g1 g3
    rw [eR] at g2
    have g3 : c2 77 1 = 0 ∧ c2 78 = c 78 := by
      rcases g3 with z | z | z
      · omega
      · omega
      · exact z.2
    have c0 : c2 0 17 = 0 := by rw [g4.cell rfl]; rfl
    have c76 : c2 76 = c 76 := by
      rw [g4.cell rfl, up_cell (by decide)]
      exact o.cell rfl
    refine ⟨g1, (o1.sc rfl).trans (g4.sc rfl), h.mut1 (R' := pRw F (c 79) x) ((s.cells (c' := up c7 0 17 0) rfl rfl rfl rfl rfl rfl rfl rfl).off g4 rfl) (pRw_rng hR (by omega) a) g2 (pRw_o (by decide) (by omega) (.inl (by omega))) (fun j q => pRw_o (by omega) (by omega) (.inr (by omega))) (((o.mt rfl rfl).wr (.inl rfl)).trans (g4.mt78 rfl rfl)) (rf.ok c0 g3.1 c76 g3.2)⟩
theorem j_copy (h : REL T c n) (hn : n < 512) : JN T c n 142 286 [] := by
  have hs := h.cs
  have hR := h.rng
  have r := hR.1
  have bd := h.bd hn
  have rf := h.2.2.2.2.1
  have e8 := hs.1.2.2.2.2.1
  have e11 := hs.1.2.2.2.2.2.1
  obtain ⟨F, hc, hr⟩ := h.worlds
  obtain ⟨-, ⟨q1, q2, q3, q5, q6⟩, -⟩ := h.2.2.2.2.1
  refine W_X11_copy (Q := QI T _) ⟨fun a => ?_, fun a => ⟨by omega, ?_⟩⟩
  · have g11 : cpy c 7 (c 1 8 * 12) 8 (c 1 11 * 12) 12 1 11 = c 1 11 := by rw [cpy_cell (by decide)]
    refine W_X7_addCopy (Q := QV T _) ⟨⟨by omega, by omega, by omega, by rw [g11]; omega⟩, QV.ret ?_⟩
    rw [g11]
    have s1 := hs.copied hR (by omega)
    rw [← e8, ← e11] at s1
    have o1 : Off [0, 1, 8] [] c (up (up (cpy c 7 (c 1 8 * 12) 8 (c 1 11 * 12) 12) 1 11 (c 1 11 + 1)) 0 17 0) := (((Off.rfl.cp rfl).wr rfl).wr rfl)
    refine ⟨?_, QI.ret ⟨o1.sc rfl, ?_⟩⟩
    · rw [up_same]; omega
    have e79 := o1.cell (q := 79) rfl
    have o2 : Off [0, 1, 8] [0] c (up (up (up (cpy c 7 (c 1 8 * 12) 8 (c 1 11 * 12) 12) 1 11 (c 1 11 + 1)) 0 17 0) 77 0 0) := (o1.mono rfl rfl).wr rfl
    have e79' := o2.cell (q := 79) rfl
    refine W_X12_copy (Q := QI T _) ((r_copyNow (hr.off o2 rfl)).mono fun v c2 g => ?_)
    rw [e79', if_neg (by omega)] at g
    obtain ⟨⟨g1, g2⟩, g3⟩ := g
    subst g1
    refine QI.of_eq (S_X12_tell T c2 (c 79 5) (by omega)) (QI.ret ⟨?_, ?_, ?_⟩)
    · rw [up_same]; omega
    · exact ((o2.sc rfl).trans (g3.sc rfl)).wr (by decide)
    · refine h.mut1 (R' := cpR (c 79)) ((((s1.cells (c' := up (up (up (cpy c 7 (c 1 8 * 12) 8 (c 1 11 * 12) 12) 1 11 (c 1 11 + 1)) 0 17 0) 77 0 0) rfl rfl rfl rfl rfl rfl rfl rfl).off g3 rfl).cells rfl rfl rfl rfl rfl rfl rfl rfl)) (cpR_rng hR (by omega)) g2 (cpR_o (by decide) (by omega)) (fun j q => cpR_o (by omega) (by omega)) ((((show Fr (fun q j => mt0 q j = true ∨ q = 76 ∨ q = 78) c (up (cpy c 7 (c 1 8 * 12) 8 (c 1 11 * 12) 12) 1 11 (c 1 11 + 1)) from ((Off.rfl.cp rfl).wr rfl : Off [1, 8] [] c _).mt rfl rfl).wr (.inl rfl)).wr (.inl rfl)).trans (g3.mt rfl rfl) |>.wr (.inl rfl)) (rf.ok ?_ up_same ?_ ?_)
      · rw [up_cell (by decide), g3.cell rfl]; rfl
      · rw [up_cell (by decide), g3.cell rfl]; exact o2.cell rfl
      · rw [up_cell (by decide), g3.cell rfl]; exact o2.cell rfl
  · have o1 : Off [0, 76] [] c (up (up c 0 17 (-5)) 76 3 (c 76 3 + 1)) := ((Off.rfl.wr rfl).wr rfl)
    have o2 : Off [0, 76] [0] c (up (up (up c 0 17 (-5)) 76 3 (c 76 3 + 1)) 77 0 0) := (o1.mono rfl rfl).wr rfl
    have e79' := o2.cell (q := 79) rfl
    refine QI.ret ⟨o1.sc rfl, W_X12_copy (Q := QI T _) ((r_copyNow (hr.off o2 rfl)).mono fun v c2 g => ?_)⟩
    rw [e79', if_pos (by omega)] at g
    obtain ⟨⟨g1, g2⟩, g3⟩ := g
    subst g1
    subst g2
    refine QI.of_eq (S_X12_tell_5 T _ ?_) (QI.ret ⟨rfl, ?_, h.r5⟩)
    · show -2147483648 ≤ c 78 5 + 1 ∧ c 78 5 + 1 < 2147483648
      omega
    · repeat' (first | exact SC.rfl | refine SC.wr ?_ ?_ | decide)
end CAL

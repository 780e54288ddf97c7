/-! THE REFERENCE READS: not, brackets, and, or -/
theorem isw_len2 {B : Int → Int} {L p v : Int} (h : isw B L p v) (hv : 27 ≤ v) (hp : p ≤ L) : p + 2 ≤ nx B L p := by
  have w := wo_vl (kd_0.mp h.1).1 (kd_0.mp h.1).2
  have sb := sk_bd (B := B) (L := L) (s := en B L p)
  have eb := en_bd (B := B) hp
  by_cases e : en B L p - p = 1
  · have e1 := w.2.2.1 (by omega)
    rw [e] at e1
    have hb := w.2.1 p (Int.le_refl _) (by omega)
    have e2 : vl (fun i => B (p + i)) (1 : Int).toNat = 0 * 32 + B (p + ((0 : Nat) : Int)) - 96 := rfl
    rw [e2, h.2, show p + ((0 : Nat) : Int) = p from by omega] at e1
    omega
  · unfold nx
    omega
theorem r_closeR {T : List Shp} {Q : Res → Prop} {t : Int} {c : Cm} {o : Int} {B : Int → Int} {L p n0 n b q : Int} {P : Pil} {d : Den} (h : OPS 1 c o B L p n0 n (b + 1) q ((30, 0) :: P) d) (hb : 0 ≤ b) (h1 : ¬ isw B L p 1476) (h2 : ¬ isw B L p 498) (kF : ¬ isg B L p 41 → ∀ c' x', Fr RXA c c' → FLT c' p → Q (HX T t x' c')) (kT : isg B L p 41 → ∀ c', RFQ q c c' → OPS 100 c' o B L (nx B L p) n0 n b q P d → Q (HX T t 2 c')) : Q (HX T t 2 c) := by
  obtain ⟨s, hs, hl⟩ := h.st
  have bb := hs.bb
  have pL := hs.1.pL
  have nb := nx_bd (B := B) pL.2.1
  refine hx_test hs.b0 (W_X12_behindTest (Q := QI T _) ⟨fun z => absurd (hs.1.w.mp z) h1, fun _ => ⟨fun z => absurd (hs.1.w.mp z) h2, fun _ => QI.of_eq (r_inner hs.piled hs.pile (by omega)) ?_⟩⟩)
  rw [inn_app fun e he => (hl e he).2]
  refine ⟨fun z => absurd z (by show ¬ (30 : Int) = -1; decide), fun _ => ?_⟩
  by_cases e : isg B L p 41
  · rw [b01_t (hs.1.g.mpr e)]
    refine (r_mustT hs.1 hs.b0 (by decide)).mono fun c3 h3 => ⟨fun _ => ?_, fun z => absurd (hs.next h3.1 h3.2).b0 z⟩
    have h4 := h.next h3.1 h3.2
    refine (r_settleOps h4 (show (0 : Int) < 1 by decide)).mono fun c4 hc => ?_
    obtain ⟨f4, st4, k, hr, hk, hq⟩ := hc
    have e25 := st4.piled
    have e26 := st4.opened
    have bb4 := st4.bb
    rw [len_cons] at e25 bb4
    refine ⟨by omega, QI.ret (kT e _ (((RFQ.nxr h3.1).trans f4 (Int.le_refl _)).trans (q' := q) ⟨(Fr.rfl.wr (by unfold RXA; omega)).wr (by unfold RXA; omega), fun j _ => ⟨?_, ?_⟩⟩ (Int.le_refl _)) ?_)⟩
    · rw [up_cell (by decide), up_cell (by decide)]
    · rw [up_cell (by decide), up_cell (by decide)]
    · have st5 := st4.pop hb
      have g19 : up (up c4 77 25 (c4 77 25 - 1)) 77 26 (c4 77 26 - 1) 77 19 = c4 77 19 := by rw [up_ne (by decide), up_ne (by decide)]
      refine OPS.whole (k := k) ?_ ?_ hk hq
      · rw [g19]; exact st5
      · rw [g19, up_cell (by decide), up_cell (by decide), up_cell (by decide), up_cell (by decide)]
        exact hr
  · rw [b01_f fun z => e (hs.1.g.mp z)]
    refine (r_mustF hs.1 hs.b0).mono fun c3 h3 => ?_
    have f := hs.flt
    rw [← h3] at f
    exact ⟨fun z => absurd (f.1.1.symm.trans z) (by decide), fun _ => QI.ret (kF e c3 2 f.2 f.1)⟩
theorem r_logNext {T : List Shp} {c : Cm} {o : Int} {B : Int → Int} {L p n b q x : Int} {P : Pil} (g : RST c o B L p n b q P) (room : q + (P.length : Int) + 2 ≤ nx B L p) (hx : x = 28 ∨ x = 29) : QV T (fun c6 => RFQ q c c6 ∧ RST c6 o B L (nx B L p) n b (q + 1) ((x, q) :: P) ∧ c6 85 q = x) (ccal 220 [vR 78] (SH T, up (up (up (up (up (up c 87 (c 77 25) x) 88 (c 77 25) (c 77 19)) 77 25 (c 77 25 + 1)) 85 (c 77 19) x) 86 (c 77 19) 0) 77 19 (c 77 19 + 1))) := by
  have e19 := g.code
  have pL := g.1.pL
  have nb := nx_bd (B := B) pL.2.1
  rw [e19]
  generalize hc : up (up (up (up (up (up c 87 (c 77 25) x) 88 (c 77 25) q) 77 25 (c 77 25 + 1)) 85 q x) 86 q 0) 77 19 (q + 1) = c1
  have w1 : ∀ j, ¬ j = 25 → ¬ j = 19 → c1 77 j = c 77 j := fun j e e2 => by rw [← hc, up_ne e2, up_cell (by decide), up_cell (by decide), up_ne e, up_cell (by decide), up_cell (by decide)]
  have g19 : c1 77 19 = q + 1 := by rw [← hc, up_same]
  have g25 : c1 77 25 = c 77 25 + 1 := by rw [← hc, up_ne (by decide), up_cell (by decide), up_cell (by decide), up_same]
  have g85 : ∀ j, c1 85 j = if j = q then x else c 85 j := fun j => by rw [← hc, up_cell (by decide), up_cell (by decide), up_at, up_cell (by decide), up_cell (by decide), up_cell (by decide)]
  have g86 : ∀ j, c1 86 j = if j = q then 0 else c 86 j := fun j => by rw [← hc, up_cell (by decide), up_at, up_cell (by decide), up_cell (by decide), up_cell (by decide), up_cell (by decide)]
  have g87 : ∀ j, c1 87 j = if j = c 77 25 then x else c 87 j := fun j => by rw [← hc, up_cell (by decide), up_cell (by decide), up_cell (by decide), up_cell (by decide), up_cell (by decide), up_at]
  have g88 : ∀ j, c1 88 j = if j = c 77 25 then q else c 88 j := fun j => by rw [← hc, up_cell (by decide), up_cell (by decide), up_cell (by decide), up_cell (by decide), up_at, up_cell (by decide)]
  have gq : ∀ i : Nat, ¬ i = 77 → ¬ i = 85 → ¬ i = 86 → ¬ i = 87 → ¬ i = 88 → c1 i = c i := fun i a1 a2 a3 a4 a5 => by rw [← hc, up_cell a1, up_cell a3, up_cell a2, up_cell a1, up_cell a5, up_cell a4]
  have f1 : Fr RXA c c1 := by
    rw [← hc]
    exact (((((Fr.rfl.wr (by unfold RXA; omega)).wr (by unfold RXA; omega)).wr (by unfold RXA; omega)).wr (by unfold RXA; omega)).wr (by unfold RXA; omega)).wr (by unfold RXA; omega)
  clear hc
  have pe : ER c1 B L p := g.1.cong (fun j a b => w1 j (by omega) (by omega)) (gq 83 (by decide) (by decide) (by decide) (by decide) (by decide))
  refine pe.next.mono fun c6 h6 => ?_
  have n77 : ∀ j, 14 ≤ j → c6 77 j = c1 77 j := fun j a => h6.1 77 j (by unfold NXR; omega)
  have n8 : ∀ i : Nat, ¬ i = 77 → c6 i = c1 i := fun i a => h6.1.cell (q := i) (by intro j; unfold NXR; omega)
  refine ⟨⟨f1.trans (h6.1.mono fun q j a => a.rxa), fun j a => ⟨by rw [n8 85 (by decide), g85, if_neg (by omega)], by rw [n8 86 (by decide), g86, if_neg (by omega)]⟩⟩, ?_, by rw [n8 85 (by decide), g85, if_pos rfl]⟩
  obtain ⟨g1, g2, g3, g4, g5, g6, g7, g8, g9, g10, g11, g12⟩ := g
  have w : ∀ j, ¬ j = 25 → ¬ j = 19 → 14 ≤ j → c6 77 j = c 77 j := fun j a a2 a3 => (n77 j a3).trans (w1 j a a2)
  refine ⟨h6.2, g2.cong ((n8 89 (by decide)).trans (gq 89 (by decide) (by decide) (by decide) (by decide) (by decide))) ((n8 90 (by decide)).trans (gq 90 (by decide) (by decide) (by decide) (by decide) (by decide))) ((n8 91 (by decide)).trans (gq 91 (by decide) (by decide) (by decide) (by decide) (by decide))), (w 16 (by decide) (by decide) (by decide)).trans g3, (w 22 (by decide) (by decide) (by decide)).trans g4, (w 26 (by decide) (by decide) (by decide)).trans g5, (n77 19 (by decide)).trans g19, ?_, ⟨?_, ?_, g8.cong fun j a => ⟨?_, ?_⟩⟩, fun e he => ?_, ⟨(w 15 (by decide) (by decide) (by decide)).trans g10.1, (w 14 (by decide) (by decide) (by decide)).trans g10.2⟩, by rw [len_cons]; omega, g12⟩
  · rw [n77 25 (by decide), g25, g7, len_cons]
  · rw [n8 87 (by decide), g87, if_pos g7.symm]
  · rw [n8 88 (by decide), g88, if_pos g7.symm]
  · rw [n8 87 (by decide), g87, if_neg (by omega)]
  · rw [n8 88 (by decide), g88, if_neg (by omega)]
  · rcases List.mem_cons.mp he with rfl | he
    · exact ⟨⟨by show 20 ≤ x; omega, by show x ≤ 31; omega⟩, fun _ => ⟨by show 0 ≤ q; omega, by show q < 400; omega⟩⟩
    · exact g9 e he
/-- and, or behind a test -/
theorem r_logStep {T : List Shp} {Q : Res → Prop} {t lo x : Int} {c : Cm} {o : Int} {B : Int → Int} {L p n0 n b q : Int} {P : Pil} {d : Den} (h : OPS lo c o B L p n0 n b q P d) (hP : tpb P < lo) (sel : isw B L p 1476 ∧ x = 28 ∧ lo = 2 ∨ isw B L p 498 ∧ x = 29 ∧ lo = 1) (k : ∀ c' q' kk, RFQ q c c' → RST c' o B L (nx B L p) n b (q' + 1) ((x, q') :: P) → RP (NWx o) (c' 85) (c' 86) q q' kk d → c' 85 q' = x → kk ≤ n - n0 → 0 ≤ q → Q (HX T t 0 c')) : Q (HX T t 2 c) := by
  obtain ⟨s, hs, hl⟩ := h.st
  have bb := hs.bb
  have pL := hs.1.pL
  have n2 : p + 2 ≤ nx B L p := by rcases sel with ⟨e, _⟩ | ⟨e, _⟩ <;> exact isw_len2 e (by decide) pL.2.1
  have nb := nx_bd (B := B) pL.2.1
  have k47 : ∀ (c1 : Cm) (x1 : Int), (x1 = 0 → x = 29) → (¬ x1 = 0 → x = 28) → (c1 77 19 + (P.length : Int) ≤ c 77 19 + c 77 25 ∧ RFQ q c c1 ∧ RST c1 o B L p n b (c1 77 19) P ∧ ∃ k, RP (NWx o) (c1 85) (c1 86) q (c1 77 19) k d ∧ k ≤ n - n0 ∧ 0 ≤ q) → QI T (fun r c2 => Q (HX T t r c2)) (cev 239 4 47 [vR 78, vI x1] [vI x, vR 78] (SH T, c1)) := by
    intro c1 x1 e0 e1 ⟨cnt, f1, st, kk, hr, hk, hq⟩
    rw [hs.piled] at cnt
    have e25 := st.piled
    have b1 := st.bb
    have lt := hr.lt
    have fin := fun (c6 : Cm) (h6 : RFQ (c1 77 19) c1 c6 ∧ RST c6 o B L (nx B L p) n b (c1 77 19 + 1) ((x, c1 77 19) :: P) ∧ c6 85 (c1 77 19) = x) => (QI.ret (T := T) (P := fun r c2 => Q (HX T t r c2)) (r := 0) (k c6 (c1 77 19) kk (f1.trans h6.1 (by omega)) h6.2.1 (hr.mv fun j a b => h6.1.2 j b) h6.2.2 hk hq))
    refine W_X12_behindTest_47 ⟨by omega, fun z => ⟨by omega, ?_⟩, fun z => ⟨by omega, ?_⟩⟩
    · have ex := e0 z
      subst ex
      exact (r_logNext st (by omega) (.inr rfl)).mono fin
    · have ex := e1 z
      subst ex
      exact (r_logNext st (by omega) (.inl rfl)).mono fin
  have no : ∀ x y, ¬ x = y → isw B L p x → ¬ isw B L p y := fun x y hxy a b => hxy (a.2.symm.trans b.2)
  refine hx_test hs.b0 ?_
  rcases sel with ⟨e, ex, el⟩ | ⟨e, ex, el⟩
  · subst ex el
    refine W_X12_behindTest (Q := QI T _) ⟨fun z => W_X12_behindTest_22 ⟨fun w => absurd ((b01_t z).symm.trans w) (by decide), fun _ => W_X12_behindTest_32 ((r_settleOps2 h hP).mono fun c1 h1 => ⟨fun w => absurd ((b01_t z).symm.trans w) (by decide), fun w => ?_⟩)⟩, fun z => absurd (hs.1.w.mpr e) z⟩
    exact k47 c1 _ (fun y => absurd y w) (fun _ => rfl) h1
  · subst ex el
    have n1 : ¬ (c 77 12 = 1 ∧ c 77 13 = 1476) := fun z => no _ _ (by decide) e (hs.1.w.mp z)
    refine W_X12_behindTest (Q := QI T _) ⟨fun z => absurd z n1, fun _ => ⟨fun _ => W_X12_behindTest_22 ⟨fun _ => W_X12_behindTest_32 ((r_settleOps2 h hP).mono fun c1 h1 => ⟨fun w => ?_, fun w => absurd (b01_f n1) w⟩), fun w => absurd (b01_f n1) w⟩, fun z => absurd (hs.1.w.mpr e) z⟩⟩
    exact k47 c1 _ (fun _ => rfl) (fun y => absurd w y) h1
theorem one_or {NW : Int} {P A : Int → Int} {q q' k x : Int} {d d1 : Den} (hx : x = 28 ∨ x = 29) (h : RP NW P A q q' k d) (hq : 0 ≤ q) (hp : P q' = x) (k1 : Int) : PXv NW P A [(x, q')] q (q' + 1) k1 d1 (k + k1) (dor (39 - x) d d1) := by
  have lt := h.lt
  exact .inr (.inr ⟨hx, hp, rfl, by show 0 ≤ q'; omega, q, k, d, h, rfl, rfl, rfl⟩)
section PMS
variable {T : List Shp} {o : Int} {B : Int → Int} {L b p n : Int}
theorem cnd_not {t : Int} {P : Pil} (hc : CND 5 t P) : CND 5 t ((27, 0) :: P) := ⟨by show (3 : Int) < 4; decide, fun z => ⟨(hc.2 z).1, by rw [inn_cons (show (27 : Int) < 30 by decide)]; exact (hc.2 z).2⟩⟩
theorem pl_not {Q : Res → Prop} {t : Int} {c : Cm} {q : Int} {P : Pil} (hr : RST c o B L p n b q P) (h0 : isw B L p 14836) (k : ∀ c', RFQ q c c' → RST c' o B L (nx B L p) n b q ((27, 0) :: P) → Q (HX T t 0 c')) : Q (HX T t 0 c) := by
  have bb := hr.bb
  have pL := hr.1.pL
  have e25 := hr.piled
  have nb := (nx_bd (B := B) pL.2.1).2.2 (isw_lt h0)
  have plt := isw_lt h0
  refine hx_plain hr.b0 (W_X12_readPlain (Q := QI T _) ⟨fun _ => ⟨by omega, ?_⟩, fun z => absurd (hr.1.w.mpr h0) z⟩)
  exact (r_pushNext (q0 := q) hr (by omega) (by omega) (by omega)).mono fun c6 h6 => QI.ret (k c6 h6.1 h6.2.1)
theorem rs_pl1 {f : Int} (h0 : isw B L p 14836) (hS : RSN T o B L 5 b (nx B L p) n (.inl f)) : RSN T o B L 5 b p n (.inl f) := by
  intro Q t c P q hr hc k
  exact pl_not hr h0 fun c' f1 st => hS Q t c' _ q st (cnd_not hc) fun c2 x' f2 fl => k c2 x' (f1.1.trans f2) fl
theorem rs_pl2 {p1 n1 : Int} {d : Den} (h0 : isw B L p 14836) (hS : RSN T o B L 5 b (nx B L p) n (.inr (p1, n1, d))) : RSN T o B L 5 b p n (.inr (p1, n1, dnot d)) := by
  intro Q t c P q hr hc k
  have bb := hr.bb
  refine pl_not hr h0 fun c' f1 st => hS Q t c' _ q st (cnd_not hc) fun c2 f2 hO hE td => ?_
  have td' := td (by decide)
  refine k c2 (f1.trans f2 (Int.le_refl _)) ?_ end5 fun _ => TDn.not td'
  exact hO.join (lo := 3) (k := 0) (Int.le_refl _) ⟨by show (3 : Int) ≤ 3; decide, by show (27 : Int) < 30; decide⟩ (fun k1 => .inr (.inl ⟨rfl, td', rfl, by omega, rfl⟩)) (by omega) bb.1.1
theorem rs_pl3 (h0 : isg B L p 40) (h1 : ¬ b < 8) : RSN T o B L 5 b p n (.inl p) := by
  intro Q t c P q hr hc k
  have h2 : ¬ isw B L p 14836 := fun z => absurd (z.1.symm.trans h0.1) (by decide)
  exact hx_plain hr.b0 (W_X12_readPlain (Q := QI T _) ⟨fun z => absurd (hr.1.w.mp z) h2, fun _ => ⟨fun _ => (r_openF hr h1).mono fun c5 h5 => QI.ret (k c5 0 h5.1 h5.2), fun z => absurd (hr.1.g.mpr h0) z⟩⟩)
theorem pl_br {Q : Res → Prop} {t : Int} {c : Cm} {q : Int} {P : Pil} (hr : RST c o B L p n b q P) (h0 : isg B L p 40) (h1 : b < 8) (k : ∀ c', RFQ q c c' → RST c' o B L (nx B L p) n (b + 1) q ((30, 0) :: P) → Q (HX T t 0 c')) : Q (HX T t 0 c) := by
  have h2 : ¬ isw B L p 14836 := fun z => absurd (z.1.symm.trans h0.1) (by decide)
  exact hx_plain hr.b0 (W_X12_readPlain (Q := QI T _) ⟨fun z => absurd (hr.1.w.mp z) h2, fun _ => ⟨fun _ => (r_openT hr h1 (isg_lt h0) (.inl rfl)).mono fun c5 h5 => QI.ret (k c5 h5.1 h5.2), fun z => absurd (hr.1.g.mpr h0) z⟩⟩)
theorem cnd_br {t : Int} {P : Pil} (hc : CND 5 t P) : CND 9 t ((30, 0) :: P) := ⟨by show (0 : Int) < 1; decide, fun _ => ⟨(hc.2 (by decide)).1, by show ¬ (30 : Int) = 31; decide⟩⟩
theorem rs_pl4 {f : Int} (h0 : isg B L p 40) (h1 : b < 8) (hS : RSN T o B L 9 (b + 1) (nx B L p) n (.inl f)) : RSN T o B L 5 b p n (.inl f) := by
  intro Q t c P q hr hc k
  exact pl_br hr h0 h1 fun c' f1 st => hS Q t c' _ q st (cnd_br hc) fun c2 x' f2 fl => k c2 x' (f1.1.trans f2) fl
theorem rs_pl56 {p1 n1 : Int} {d : Den} {out : Out} (h0 : isg B L p 40) (h1 : b < 8) (hS : RSN T o B L 9 (b + 1) (nx B L p) n (.inr (p1, n1, d))) (hF : ¬ isg B L p1 41 → out = .inl p1) (hT : isg B L p1 41 → out = .inr (nx B L p1, n1, d)) : RSN T o B L 5 b p n out := by
  intro Q t c P q hr hc k
  have bb := hr.bb
  refine pl_br hr h0 h1 fun c' f1 st => hS Q t c' _ q st (cnd_br hc) fun c2 f2 hO hE td => ?_
  refine r_closeR (Q := Q) (t := t) hO bb.2.2.1 (hE.2.2.1 (by decide)) (hE.2.2.2 (by decide)) (fun e => ?_) (fun e => ?_)
  · have k' := hF e ▸ k
    exact fun c3 x' f3 fl => k' c3 x' (f1.1.trans (f2.1.trans f3)) fl
  · have k' := hT e ▸ k
    exact fun c3 f3 hO2 => k' c3 ((f1.trans f2 (Int.le_refl _)).trans f3 (Int.le_refl _)) (hO2.lo (by decide)) end5 fun _ => td (by decide)
end PMS
section BOS
variable {T : List Shp} {o : Int} {B : Int → Int} {L b p n : Int}
theorem rs_bo1 {d : Den} (h0 : ¬ isw B L p 1476) : RSL T o B L 6 b p n d (.inr (p, n, d)) := by
  intro Q t c P q n0 hO hn _ hE td hc k
  exact k c RFQ.rfl hO ⟨fun z => absurd z (by decide), fun z => absurd z (by decide), fun _ => h0, fun z => absurd z (by decide)⟩ td
theorem rs_bo2 {f : Int} {d : Den} (h0 : isw B L p 1476) (hS : RSN T o B L 5 b (nx B L p) n (.inl f)) : RSL T o B L 6 b p n d (.inl f) := by
  intro Q t c P q n0 hO hn _ _ _ hc k
  refine r_logStep (Q := Q) (t := t) hO hc.1 (.inl ⟨h0, rfl, rfl⟩) fun c' q' kk f1 st hr h85 hk hq => ?_
  exact hS Q t c' _ (q' + 1) st ⟨by show bnd 28 < lmm 5; decide, fun _ => ⟨(hc.2 (by decide)).1, by rw [inn_cons (show (28 : Int) < 30 by decide)]; exact (hc.2 (by decide)).2⟩⟩ fun c2 x' f2 g2 => k c2 x' (f1.1.trans f2) g2
theorem rs_bo3 {p1 n1 : Int} {d d1 : Den} {out : Out} (h0 : isw B L p 1476) (hS : RSN T o B L 5 b (nx B L p) n (.inr (p1, n1, d1))) (hL : RSL T o B L 6 b p1 n1 (dor 11 d d1) out) : RSL T o B L 6 b p n d out := by
  intro Q t c P q n0 hO hn _ _ td hc k
  refine r_logStep (Q := Q) (t := t) hO hc.1 (.inl ⟨h0, rfl, rfl⟩) fun c' q' kk f1 st hr h85 hk hq => ?_
  refine hS Q t c' _ (q' + 1) st ⟨by show bnd 28 < lmm 5; decide, fun _ => ⟨(hc.2 (by decide)).1, by rw [inn_cons (show (28 : Int) < 30 by decide)]; exact (hc.2 (by decide)).2⟩⟩ fun c2 f2 hO2 hE td2 => ?_
  have lt := hr.lt
  have f12 := f1.trans f2 (show q ≤ q' + 1 by omega)
  have J : OPS 2 c2 o B L p1 n0 n1 b q P (dor 11 d d1) := hO2.join (by decide) ⟨by show (2 : Int) ≤ bnd 28; decide, by show (28 : Int) < 30; decide⟩ (one_or (x := 28) (by decide) (hr.mv fun j a b => f2.2 j (by omega)) hq ((f2.2 q' (by omega)).1.trans h85)) hk hq
  refine hL Q t c2 P q n0 J J.le (fun z => absurd z (by decide)) (fun z => absurd z (by decide)) (fun _ => TDn.or (td (by decide)) (td2 (by decide))) hc ?_
  rcases out with f | ⟨p', n', d'⟩
  · exact fun c3 x' f3 g3 => k c3 x' (f12.1.trans f3) g3
  · exact fun c3 f3 hO3 hE3 ht3 => k c3 (f12.trans f3 (Int.le_refl _)) hO3 hE3 ht3
theorem rs_bo4 {f : Int} (hS : RSN T o B L 5 b p n (.inl f)) : RSN T o B L 7 b p n (.inl f) := by
  intro Q t c P q hr hc k
  exact hS Q t c P q hr ⟨Int.lt_of_lt_of_le hc.1 (by decide), fun _ => hc.2 (by decide)⟩ k
theorem rs_bo5 {p1 n1 : Int} {d1 : Den} {out : Out} (hS : RSN T o B L 5 b p n (.inr (p1, n1, d1))) (hL : RSL T o B L 6 b p1 n1 d1 out) : RSN T o B L 7 b p n out := by
  intro Q t c P q hr hc k
  refine hS Q t c P q hr ⟨Int.lt_of_lt_of_le hc.1 (by decide), fun _ => hc.2 (by decide)⟩ fun c2 f2 hO2 hE td => ?_
  refine hL Q t c2 P q n (OPS.lo hO2 (by decide)) hO2.le (fun z => absurd z (by decide)) (fun z => absurd z (by decide)) (fun _ => td (by decide)) ⟨hc.1, fun _ => hc.2 (by decide)⟩ ?_
  rcases out with f | ⟨p', n', d'⟩
  · exact fun c3 x' f3 g3 => k c3 x' (f2.1.trans f3) g3
  · exact fun c3 f3 hO3 hE3 ht3 => k c3 (f2.trans f3 (Int.le_refl _)) hO3 ⟨fun z => absurd z (by decide), fun z => absurd z (by decide), fun _ => hE3.2.2.1 (by decide), fun z => absurd z (by decide)⟩ fun _ => ht3 (by decide)
end BOS
section TSS
variable {T : List Shp} {o : Int} {B : Int → Int} {L b p n : Int}
theorem rs_ts1 {d : Den} (h0 : ¬ isw B L p 498) : RSL T o B L 8 b p n d (.inr (p, n, d)) := by
  intro Q t c P q n0 hO hn _ hE td hc k
  exact k c RFQ.rfl hO ⟨fun z => absurd z (by decide), fun z => absurd z (by decide), fun _ => (hE rfl).2.2.1 (by decide), fun _ => h0⟩ td
theorem rs_ts2 {f : Int} {d : Den} (h0 : isw B L p 498) (hS : RSN T o B L 7 b (nx B L p) n (.inl f)) : RSL T o B L 8 b p n d (.inl f) := by
  intro Q t c P q n0 hO hn _ _ _ hc k
  refine r_logStep (Q := Q) (t := t) hO hc.1 (.inr ⟨h0, rfl, rfl⟩) fun c' q' kk f1 st hr h85 hk hq => ?_
  exact hS Q t c' _ (q' + 1) st ⟨by show bnd 29 < lmm 7; decide, fun _ => ⟨(hc.2 (by decide)).1, by rw [inn_cons (show (29 : Int) < 30 by decide)]; exact (hc.2 (by decide)).2⟩⟩ fun c2 x' f2 g2 => k c2 x' (f1.1.trans f2) g2
theorem rs_ts3 {p1 n1 : Int} {d d1 : Den} {out : Out} (h0 : isw B L p 498) (hS : RSN T o B L 7 b (nx B L p) n (.inr (p1, n1, d1))) (hL : RSL T o B L 8 b p1 n1 (dor 10 d d1) out) : RSL T o B L 8 b p n d out := by
  intro Q t c P q n0 hO hn _ _ td hc k
  refine r_logStep (Q := Q) (t := t) hO hc.1 (.inr ⟨h0, rfl, rfl⟩) fun c' q' kk f1 st hr h85 hk hq => ?_
  refine hS Q t c' _ (q' + 1) st ⟨by show bnd 29 < lmm 7; decide, fun _ => ⟨(hc.2 (by decide)).1, by rw [inn_cons (show (29 : Int) < 30 by decide)]; exact (hc.2 (by decide)).2⟩⟩ fun c2 f2 hO2 hE td2 => ?_
  have lt := hr.lt
  have f12 := f1.trans f2 (show q ≤ q' + 1 by omega)
  have J : OPS 1 c2 o B L p1 n0 n1 b q P (dor 10 d d1) := hO2.join (by decide) ⟨by show (1 : Int) ≤ bnd 29; decide, by show (29 : Int) < 30; decide⟩ (one_or (x := 29) (by decide) (hr.mv fun j a b => f2.2 j (by omega)) hq ((f2.2 q' (by omega)).1.trans h85)) hk hq
  refine hL Q t c2 P q n0 J J.le (fun z => absurd z (by decide)) (fun _ => hE) (fun _ => TDn.or (td (by decide)) (td2 (by decide))) hc ?_
  rcases out with f | ⟨p', n', d'⟩
  · exact fun c3 x' f3 g3 => k c3 x' (f12.1.trans f3) g3
  · exact fun c3 f3 hO3 hE3 ht3 => k c3 (f12.trans f3 (Int.le_refl _)) hO3 hE3 ht3
theorem rs_ts4 {f : Int} (hS : RSN T o B L 7 b p n (.inl f)) : RSN T o B L 9 b p n (.inl f) := by
  intro Q t c P q hr hc k
  exact hS Q t c P q hr ⟨Int.lt_of_lt_of_le hc.1 (by decide), fun _ => hc.2 (by decide)⟩ k
theorem rs_ts5 {p1 n1 : Int} {d1 : Den} {out : Out} (hS : RSN T o B L 7 b p n (.inr (p1, n1, d1))) (hL : RSL T o B L 8 b p1 n1 d1 out) : RSN T o B L 9 b p n out := by
  intro Q t c P q hr hc k
  refine hS Q t c P q hr ⟨Int.lt_of_lt_of_le hc.1 (by decide), fun _ => hc.2 (by decide)⟩ fun c2 f2 hO2 hE td => ?_
  refine hL Q t c2 P q n (OPS.lo hO2 (by decide)) hO2.le (fun z => absurd z (by decide)) (fun _ => hE) (fun _ => td (by decide)) ⟨hc.1, fun _ => hc.2 (by decide)⟩ ?_
  rcases out with f | ⟨p', n', d'⟩
  · exact fun c3 x' f3 g3 => k c3 x' (f2.1.trans f3) g3
  · exact fun c3 f3 hO3 hE3 ht3 => k c3 (f2.trans f3 (Int.le_refl _)) hO3 ⟨fun z => absurd z (by decide), fun z => absurd z (by decide), fun _ => hE3.2.2.1 (by decide), fun _ => hE3.2.2.2 (by decide)⟩ fun _ => ht3 (by decide)
end TSS

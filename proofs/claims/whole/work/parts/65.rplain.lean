/-! THE REFERENCE READS: a test's smallest parts, their rules -/
theorem r_pushNext {T : List Shp} {c : Cm} {o : Int} {B : Int → Int} {L p n b q q0 x a : Int} {P : Pil} (g : RST c o B L p n b q P) (room : q + (P.length : Int) + 1 ≤ nx B L p) (hx : 20 ≤ x ∧ x ≤ 31) (ha : x = 28 ∨ x = 29 → 0 ≤ a ∧ a < 400) : QV T (fun c6 => RFQ q0 c c6 ∧ RST c6 o B L (nx B L p) n b q ((x, a) :: P) ∧ c6 85 = c 85 ∧ c6 86 = c 86) (ccal 220 [vR 78] (SH T, up (up (up c 87 (c 77 25) x) 88 (c 77 25) a) 77 25 (c 77 25 + 1))) := by
  have pe : ER (up (up (up c 87 (c 77 25) x) 88 (c 77 25) a) 77 25 (c 77 25 + 1)) B L p := g.1.cong (fun j a b => by rw [up_ne (by omega), up_cell (by decide), up_cell (by decide)]) (by rw [up_cell (by decide), up_cell (by decide), up_cell (by decide)])
  refine pe.next.mono fun c6 h6 => ?_
  have e85 : c6 85 = c 85 := (h6.1.cell (q := 85) (by intro j; unfold NXR; omega)).trans (by rw [up_cell (by decide), up_cell (by decide), up_cell (by decide)])
  have e86 : c6 86 = c 86 := (h6.1.cell (q := 86) (by intro j; unfold NXR; omega)).trans (by rw [up_cell (by decide), up_cell (by decide), up_cell (by decide)])
  refine ⟨⟨(((Fr.rfl.wr (by unfold RXA; omega)).wr (by unfold RXA; omega)).wr (by unfold RXA; omega)).trans (h6.1.mono fun q j a => a.rxa), fun j _ => ⟨congrFun e85 j, congrFun e86 j⟩⟩, ?_, e85, e86⟩
  obtain ⟨g1, g2, g3, g4, g5, g6, g7, g8, g9, g10, g11, g12⟩ := g
  rw [g7] at h6
  have w : ∀ j, ¬ j = 25 → 14 ≤ j → c6 77 j = c 77 j := fun j e e2 => (h6.1 77 j (by unfold NXR; omega)).trans (by rw [up_ne e, up_cell (by decide), up_cell (by decide)])
  have w89 : ∀ q, 84 ≤ q → ¬ q = 87 → ¬ q = 88 → c6 q = c q := fun q a b b' => (h6.1.cell (q := q) (by intro j; unfold NXR; omega)).trans (by rw [up_cell (by omega), up_cell b', up_cell b])
  refine ⟨h6.2, g2.cong (w89 89 (by decide) (by decide) (by decide)) (w89 90 (by decide) (by decide) (by decide)) (w89 91 (by decide) (by decide) (by decide)), (w 16 (by decide) (by decide)).trans g3, (w 22 (by decide) (by decide)).trans g4, (w 26 (by decide) (by decide)).trans g5, (w 19 (by decide) (by decide)).trans g6, ?_, ⟨?_, ?_, g8.cong fun j a => ⟨?_, ?_⟩⟩, fun e he => ?_, ⟨(w 15 (by decide) (by decide)).trans g10.1, (w 14 (by decide) (by decide)).trans g10.2⟩, by rw [len_cons]; omega, g12⟩
  · rw [h6.1 77 25 (by unfold NXR; omega), up_same, len_cons]
  · rw [h6.1 87 _ (by unfold NXR; omega), up_cell (by decide), up_cell (by decide), up_same]
  · rw [h6.1 88 _ (by unfold NXR; omega), up_cell (by decide), up_same]
  · rw [h6.1 87 _ (by unfold NXR; omega), up_cell (by decide), up_cell (by decide), up_ne (by omega)]
  · rw [h6.1 88 _ (by unfold NXR; omega), up_cell (by decide), up_ne (by omega), up_cell (by decide)]
  · rcases List.mem_cons.mp he with rfl | he
    · exact ⟨hx, ha⟩
    · exact g9 e he
theorem r_settleOps2 {T : List Shp} {lo : Int} {c : Cm} {o : Int} {B : Int → Int} {L p n0 n b q : Int} {P : Pil} {d : Den} (h : OPS lo c o B L p n0 n b q P d) (hP : tpb P < lo) : QV T (fun c' => c' 77 19 + (P.length : Int) ≤ c 77 19 + c 77 25 ∧ RFQ q c c' ∧ RST c' o B L p n b (c' 77 19) P ∧ ∃ k, RP (NWx o) (c' 85) (c' 86) q (c' 77 19) k d ∧ k ≤ n - n0 ∧ 0 ≤ q) (ccal 229 [vR 78, vI lo] (SH T, c)) := by
  have h' := h
  obtain ⟨s, m, l, x, k, h1, h2, h3, h4, h5, h6⟩ := h'
  have bb := h1.bb
  have pL := h1.1.pL
  have e25 := h1.piled
  obtain ⟨c1, ce1, p1⟩ := r_settleOps (T := T) h hP
  obtain ⟨c2, ce2, p2⟩ := r_settle (T := T) hP s c q m l k x d h2 h3 h4 h1.piled h1.pile h6 (by omega)
  have ce : (ccal 229 [vR 78, vI lo] (SH T, c)) = cev 229 2 0 [vR 78, vI lo] [] (SH T, c) := rfl
  rw [ce, ce2] at ce1
  injection ce1 with ce1
  injection ce1 with _ ce1
  injection ce1 with _ ce1
  subst ce1
  refine ⟨c2, by rw [ce]; exact ce2, ?_, p1⟩
  rw [e25]
  exact p2.2.2.2
theorem cmd_app {s P : Pil} (h : ∀ e, e ∈ s → 20 ≤ e.1 ∧ e.1 ≤ 23) : cmd (s ++ P) = cmd P := by
  induction s with
  | nil => rfl
  | cons e r ih =>
    show (if 20 ≤ e.1 ∧ e.1 ≤ 23 then cmd (r ++ P) else decide (24 ≤ e.1 ∧ e.1 ≤ 26)) = cmd P
    rw [if_pos (h e List.mem_cons_self)]
    exact ih fun x hx => h x (List.mem_cons_of_mem _ hx)
theorem bnd5 {e : Int} (h : 5 ≤ bnd e) : e ≤ 23 := by
  unfold bnd at h
  repeat' split at h
  all_goals omega
theorem cmd_no {P : Pil} (h : tpb P < 4) (hv : PV P) : cmd P = false := by
  cases P with
  | nil => rfl
  | cons e r =>
    have he := hv e List.mem_cons_self
    have h27 : 27 ≤ e.1 := by
      have h' : bnd e.1 < 4 := h
      unfold bnd at h'
      repeat' split at h'
      all_goals omega
    show (if 20 ≤ e.1 ∧ e.1 ≤ 23 then cmd r else decide (24 ≤ e.1 ∧ e.1 ≤ 26)) = false
    rw [if_neg (by omega)]
    exact decide_eq_false (by omega)
/-- behind a sum in a test -/
theorem r_to149 {T : List Shp} {Q : Res → Prop} {c : Cm} {o : Int} {B : Int → Int} {L p n b q : Int} {s P : Pil} (hs : RST c o B L p n b q (s ++ P)) (hl : ∀ e, e ∈ s → 5 ≤ bnd e.1 ∧ e.1 < 30) (hE : ENDT 4 B L p) (hi : ¬ inn P = 31) (k : QI T (fun r c2 => Q (HX T 1 r c2)) (cev 238 4 149 [vR 78, vU, vU, vU] [] (SH T, c))) : Q (HX T 1 3 c) := by
  have bb := hs.bb
  have pL := hs.1.pL
  refine hx_sum hs.b0 (r_sumEnd (Q := QI T _) hs.1 hE (W_X12_behindSum_57 ⟨fun _ => QI.of_eq (r_inner hs.piled hs.pile (by omega)) ?_, fun z => absurd rfl z⟩))
  rw [inn_app fun e he => (hl e he).2]
  exact ⟨fun z => absurd z hi, fun _ => ⟨fun _ => ⟨fun z => absurd z (by decide), fun _ => k⟩, fun _ => k⟩⟩
theorem r_cmpGo {T : List Shp} {Q : Res → Prop} {c : Cm} {o : Int} {B : Int → Int} {L p n0 n b q : Int} {P : Pil} {d : Den} (h : OPS 5 c o B L p n0 n b q P d) (hE : ENDT 4 B L p) (hi : ¬ inn P = 31) (h4 : tpb P < 4) (kF : ¬ isg B L p 60 → ¬ isg B L p 62 → ¬ isg B L p 61 → ∀ c' x', Fr RXA c c' → FLT c' p → Q (HX T 1 x' c')) (kT : ∀ dd, (isg B L p 60 ∧ dd = 6 ∨ isg B L p 62 ∧ dd = 7 ∨ isg B L p 61 ∧ dd = 8) → ∀ c' q' kk, RFQ q c c' → RST c' o B L (nx B L p) n b q' ((dd + 18, 0) :: P) → RP (NWx o) (c' 85) (c' 86) q q' kk d → kk ≤ n - n0 → 0 ≤ q → Q (HX T 1 1 c')) : Q (HX T 1 3 c) := by
  obtain ⟨s, hs, hl⟩ := h.st
  have bb := hs.bb
  have pL := hs.1.pL
  have sv : ∀ e, e ∈ s → 20 ≤ e.1 ∧ e.1 ≤ 23 := fun e he => ⟨(hs.pv e (List.mem_append_left _ he)).1.1, bnd5 (hl e he).1⟩
  have pvP : PV P := fun e he => hs.pv e (List.mem_append_right _ he)
  refine r_to149 hs hl hE hi (W_X12_behindSum_149 (QI.of_eq (r_isCompared hs.piled hs.pile (by omega)) ?_))
  rw [cmd_app sv, cmd_no h4 pvP, if_neg (by decide)]
  have go : ∀ x dd, x = dd + 18 → (isg B L p 60 ∧ dd = 6 ∨ isg B L p 62 ∧ dd = 7 ∨ isg B L p 61 ∧ dd = 8) → QI T (fun r c2 => Q (HX T 1 r c2)) (cev 238 4 210 [vR 78, vU, vI x, vU] [vI 1, vR 78] (SH T, c)) := by
    intro x dd ex sel
    have plt : p < L := by rcases sel with ⟨e, _⟩ | ⟨e, _⟩ | ⟨e, _⟩ <;> exact isg_lt e
    have dd2 : 6 ≤ dd ∧ dd ≤ 8 := by rcases sel with ⟨_, e⟩ | ⟨_, e⟩ | ⟨_, e⟩ <;> omega
    have nb := nx_bd (B := B) pL.2.1
    have nb2 := nb.2.2 plt
    rw [ex]
    refine W_X12_behindSum_210 ((r_mustT hs.1 hs.b0 (by decide)).mono fun c1 h1 => ⟨fun _ => ?_, fun z => absurd (hs.next h1.1 h1.2).b0 z⟩)
    have h2 := h.next h1.1 h1.2
    have e19 : c1 77 19 = c 77 19 := h1.1 77 19 (by unfold NXR; omega)
    have e25 : c1 77 25 = c 77 25 := h1.1 77 25 (by unfold NXR; omega)
    refine (r_settleOps2 h2 (by omega)).mono fun c2 hc => ?_
    obtain ⟨cnt, f2, st2, kk, hr, hk, hq⟩ := hc
    rw [e19, e25, hs.piled] at cnt
    have bb2 := st2.bb
    have e252 := st2.piled
    have room : c2 77 19 + (P.length : Int) + 1 ≤ nx B L p := by omega
    refine ⟨by omega, QI.ret (kT dd sel _ (c2 77 19) kk (((RFQ.nxr h1.1).trans f2 (Int.le_refl _)).trans (q' := q) ⟨((Fr.rfl.wr (by unfold RXA; omega)).wr (by unfold RXA; omega)).wr (by unfold RXA; omega), fun j _ => ⟨?_, ?_⟩⟩ (Int.le_refl _)) (st2.push (x := dd + 18) (a := 0) room (by omega) (by omega)) ?_ hk hq)⟩
    · rw [up_cell (by decide), up_cell (by decide), up_cell (by decide)]
    · rw [up_cell (by decide), up_cell (by decide), up_cell (by decide)]
    · rw [up_cell (q := 85) (by decide), up_cell (q := 85) (by decide), up_cell (q := 85) (by decide), up_cell (q := 86) (by decide), up_cell (q := 86) (by decide), up_cell (q := 86) (by decide)]
      exact hr
  refine ⟨fun _ => ⟨fun z => ?_, fun z => ⟨fun z2 => ?_, fun z2 => ?_⟩⟩, fun z => absurd rfl z⟩
  · exact W_X12_behindSum_188 ⟨fun w => absurd w (by decide), fun _ => go 24 6 rfl (.inl ⟨hs.1.g.mp z, rfl⟩)⟩
  · exact W_X12_behindSum_188 ⟨fun w => absurd w (by decide), fun _ => go 25 7 rfl (.inr (.inl ⟨hs.1.g.mp z2, rfl⟩))⟩
  · refine W_X12_behindSum_188 ⟨fun _ => ⟨fun z3 => go 26 8 rfl (.inr (.inr ⟨hs.1.g.mp z3, rfl⟩)), fun z3 => ?_⟩, fun w => absurd rfl w⟩
    refine W_X12_behindSum_210 ((r_mustF hs.1 hs.b0).mono fun c1 h1 => ?_)
    have f := hs.flt
    rw [← h1] at f
    exact ⟨fun w => absurd (f.1.1.symm.trans w) (by decide), fun _ => QI.ret (kF (fun w => z (hs.1.g.mpr w)) (fun w => z2 (hs.1.g.mpr w)) (fun w => z3 (hs.1.g.mpr w)) c1 1 f.2 f.1)⟩
theorem end5 {B : Int → Int} {L p : Int} : ENDT 5 B L p := ⟨fun z => absurd z (by decide), fun z => absurd z (by decide), fun z => absurd z (by decide), fun z => absurd z (by decide)⟩
theorem inn_cons {e : Int × Int} {P : Pil} (h : e.1 < 30) : inn (e :: P) = inn P := if_neg (by omega)
section PLS
variable {T : List Shp} {o : Int} {B : Int → Int} {L b p n : Int}
theorem cnd5 {t x : Int} {P : Pil} (hc : CND 5 t P) (hx : x = 24 ∨ x = 25 ∨ x = 26) : CND 4 t ((x, 0) :: P) := ⟨by show bnd x < 5; rcases hx with h | h | h <;> rw [h] <;> decide, fun z => absurd z (by decide)⟩
/-- a sum, where a plain begins -/
theorem pl_sum {Q : Res → Prop} {t : Int} {c : Cm} {q : Int} {P : Pil} (hr : RST c o B L p n b q P) (h0 : ¬ isw B L p 14836) (h1 : ¬ isg B L p 40) (k : QI T (fun r c2 => Q (HX T t r c2)) (ccal 236 [vR 78] (SH T, c))) : Q (HX T t 0 c) :=
  hx_plain hr.b0 (W_X12_readPlain (Q := QI T _) ⟨fun z => absurd (hr.1.w.mp z) h0, fun _ => ⟨fun z => absurd (hr.1.g.mp z) h1, fun _ => k.mono fun r c2 h => QI.ret h⟩⟩)
theorem rs_pl7 {f : Int} (h0 : ¬ isw B L p 14836) (h1 : ¬ isg B L p 40) (hS : RSN T o B L 4 b p n (.inl f)) : RSN T o B L 5 b p n (.inl f) := by
  intro Q t c P q hr hc k
  exact pl_sum hr h0 h1 (hS Q t c P q hr ⟨Int.lt_of_lt_of_le hc.1 (by decide), fun z => absurd z (by decide)⟩ k)
theorem rs_pl8 {p1 n1 : Int} {d : Den} (h0 : ¬ isw B L p 14836) (h1 : ¬ isg B L p 40) (hS : RSN T o B L 4 b p n (.inr (p1, n1, d))) (g0 : ¬ isg B L p1 60) (g1 : ¬ isg B L p1 62) (g2 : ¬ isg B L p1 61) : RSN T o B L 5 b p n (.inl p1) := by
  intro Q t c P q hr hc k
  obtain ⟨rfl, hi⟩ := hc.2 (by decide)
  refine pl_sum hr h0 h1 (hS Q 1 c P q hr ⟨Int.lt_of_lt_of_le hc.1 (by decide), fun z => absurd z (by decide)⟩ fun c1 f1 hO hE _ => ?_)
  exact r_cmpGo hO hE hi hc.1 (fun _ _ _ c' x' f2 fl => k c' x' (f1.1.trans f2) fl) fun dd sel => absurd sel (by rintro (⟨e, _⟩ | ⟨e, _⟩ | ⟨e, _⟩); exact g0 e; exact g1 e; exact g2 e)
theorem sel_dd {p1 dd dd2 : Int} (s : isg B L p1 60 ∧ dd = 6 ∨ isg B L p1 62 ∧ dd = 7 ∨ isg B L p1 61 ∧ dd = 8) (s2 : isg B L p1 60 ∧ dd2 = 6 ∨ isg B L p1 62 ∧ dd2 = 7 ∨ isg B L p1 61 ∧ dd2 = 8) : dd2 = dd := by
  unfold isg at s s2
  omega
theorem rs_pl9 {dd p1 n1 f : Int} {d : Den} (h0 : ¬ isw B L p 14836) (h1 : ¬ isg B L p 40) (hS : RSN T o B L 4 b p n (.inr (p1, n1, d))) (sel : isg B L p1 60 ∧ dd = 6 ∨ isg B L p1 62 ∧ dd = 7 ∨ isg B L p1 61 ∧ dd = 8) (hS2 : RSN T o B L 4 b (nx B L p1) n1 (.inl f)) : RSN T o B L 5 b p n (.inl f) := by
  intro Q t c P q hr hc k
  obtain ⟨rfl, hi⟩ := hc.2 (by decide)
  refine pl_sum hr h0 h1 (hS Q 1 c P q hr ⟨Int.lt_of_lt_of_le hc.1 (by decide), fun z => absurd z (by decide)⟩ fun c1 f1 hO hE _ => ?_)
  refine r_cmpGo hO hE hi hc.1 (fun a b' c' => absurd sel (by rintro (⟨e, _⟩ | ⟨e, _⟩ | ⟨e, _⟩); exact a e; exact b' e; exact c' e)) fun dd2 sel2 c' q' kk f2 st hrp hk hq => ?_
  have e := sel_dd sel sel2
  subst e
  exact hx_part st.b0 (hS2 Q 1 c' _ q' st (cnd5 hc (by rcases sel with ⟨_, e⟩ | ⟨_, e⟩ | ⟨_, e⟩ <;> omega)) fun c2 x' f3 fl => k c2 x' (f1.1.trans (f2.1.trans f3)) fl)
theorem rs_pl10 {dd p1 n1 p2 n2 : Int} {d d2 : Den} (h0 : ¬ isw B L p 14836) (h1 : ¬ isg B L p 40) (hS : RSN T o B L 4 b p n (.inr (p1, n1, d))) (sel : isg B L p1 60 ∧ dd = 6 ∨ isg B L p1 62 ∧ dd = 7 ∨ isg B L p1 61 ∧ dd = 8) (hS2 : RSN T o B L 4 b (nx B L p1) n1 (.inr (p2, n2, d2))) : RSN T o B L 5 b p n (.inr (p2, n2, dbin dd d d2)) := by
  intro Q t c P q hr hc k
  obtain ⟨rfl, hi⟩ := hc.2 (by decide)
  have dd2 : 6 ≤ dd ∧ dd ≤ 8 := by rcases sel with ⟨_, e⟩ | ⟨_, e⟩ | ⟨_, e⟩ <;> omega
  refine pl_sum hr h0 h1 (hS Q 1 c P q hr ⟨Int.lt_of_lt_of_le hc.1 (by decide), fun z => absurd z (by decide)⟩ fun c1 f1 hO hE _ => ?_)
  refine r_cmpGo hO hE hi hc.1 (fun a b' c' => absurd sel (by rintro (⟨e, _⟩ | ⟨e, _⟩ | ⟨e, _⟩); exact a e; exact b' e; exact c' e)) fun dd3 sel2 c' q' kk f2 st hrp hk hq => ?_
  have e := sel_dd sel sel2
  subst e
  have b4 : bnd (dd3 + 18) = 4 := by rcases sel with ⟨_, e⟩ | ⟨_, e⟩ | ⟨_, e⟩ <;> rw [e] <;> rfl
  refine hx_part st.b0 (hS2 Q 1 c' _ q' st (cnd5 hc (by omega)) fun c2 f3 hO3 hE3 _ => ?_)
  have lt := hrp.lt
  obtain ⟨s, hs, hl⟩ := hO3.st
  have bb := hs.bb
  have pL := hs.1.pL
  have sv : ∀ e, e ∈ s → 20 ≤ e.1 ∧ e.1 ≤ 23 := fun e he => ⟨(hs.pv e (List.mem_append_left _ he)).1.1, bnd5 (hl e he).1⟩
  refine r_to149 hs hl hE3 (by rw [inn_cons (show dd3 + 18 < 30 by omega)]; exact hi) (W_X12_behindSum_149 (QI.of_eq (r_isCompared hs.piled hs.pile (by omega)) ?_))
  have ec : cmd (s ++ (dd3 + 18, 0) :: P) = true := by
    rw [cmd_app sv]
    show (if 20 ≤ dd3 + 18 ∧ dd3 + 18 ≤ 23 then cmd P else decide (24 ≤ dd3 + 18 ∧ dd3 + 18 ≤ 26)) = true
    rw [if_neg (by omega)]
    exact decide_eq_true (by omega)
  rw [if_pos ec]
  refine ⟨fun z => absurd z (by decide), fun _ => QI.ret (k c2 ((f1.trans f2 (Int.le_refl _)).trans f3 (by omega)) ?_ end5 fun _ => TDn.cmp dd2.1)⟩
  exact hO3.join (lo := 3) (by decide) ⟨by rw [b4]; decide, by show dd3 + 18 < 30; omega⟩ (one_bin (by omega) (hrp.mv fun j a b => f3.2 j b)) hk hq
end PLS

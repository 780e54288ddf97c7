/-! THE REFERENCE READS: numbers and words -/
def itsx (B : Int → Int) (L p o : Int) : Int := if tkw B L p (WSx o) = -1 then -1 else tkw B L p (WSx o) + 1
theorem r_toIts {T : List Shp} {Q : Res → Prop} {c : Cm} {o : Int} {B : Int → Int} {L p n b q : Int} {P : Pil} (h : RST c o B L p n b q P) (h0 : ¬ isg B L p 91) (k : Q (cev 236 5 35 [vR 78, vU, vU, vU] [vI (itsx B L p o)] (SH T, c))) : Q (ccal 236 [vR 78] (SH T, c)) := by
  refine W_X12_readPart ⟨fun z => absurd (h.1.g.mp z) h0, fun _ => ⟨fun z => QI.of_eq (r_partAt h.1 h.2.1) ?_, fun z => QI.of_eq (r_orderPartAt h.1 h.2.1) ?_⟩⟩
  · rw [h.ord] at z
    have e : itsx B L p o = if tkw B L p WS11 = -1 then -1 else tkw B L p WS11 + 1 := by unfold itsx WSx; rw [if_pos z]
    rw [← e]; exact k
  · rw [h.ord] at z
    have e : itsx B L p o = if tkw B L p WS10 = -1 then -1 else tkw B L p WS10 + 1 := by unfold itsx WSx; rw [if_neg z]
    rw [← e]; exact k
theorem tkw_no {B : Int → Int} {L p : Int} {ws : List Int} (h : ¬ kd B L p = 0) : tkw B L p ws = -1 := if_neg h
theorem its_no {B : Int → Int} {L p o : Int} (h : tkw B L p (WSx o) = -1) : itsx B L p o = -1 := if_pos h
theorem its_w {B : Int → Int} {L p o : Int} (h : ¬ tkw B L p (WSx o) = -1) : itsx B L p o = tkw B L p (WSx o) + 1 := if_neg h
/-- a leaf that can't be: the end of it -/
theorem r_99F {T : List Shp} {Q : Res → Prop} {t x1 x y z : Int} {c : Cm} {o : Int} {B : Int → Int} {L p n b q : Int} {P : Pil} (h : RST c o B L p n b q P) (hx : x = 0 ∨ ¬ n < 50) (k : ∀ c' x', Fr RXA c c' → FLT c' p → Q (HX T t x' c')) : QI T (fun r c2 => Q (HX T t r c2)) (cev 236 5 99 [vR 78, vI x1, vU, vU] [vI z, vI y, vI x, vR 78] (SH T, c)) := by
  refine W_X12_readPart_99 ((r_leafF h hx).mono fun c1 h1 => ⟨fun _ => QI.ret (k c1 3 h1.1 h1.2), fun _ => ⟨fun _ => ⟨fun z => absurd (h1.2.1.symm.trans z) (by decide), fun _ => QI.ret (k c1 3 h1.1 h1.2)⟩, fun _ => QI.ret (k c1 3 h1.1 h1.2)⟩⟩)
theorem end0 {B : Int → Int} {L p : Int} : ENDT 0 B L p := ⟨fun z => absurd z (by decide), fun z => absurd z (by decide), fun z => absurd z (by decide), fun z => absurd z (by decide)⟩
section PBS
variable {T : List Shp} {o : Int} {B : Int → Int} {L b p n : Int}
theorem ne2_isg {x : Int} (h : ¬ kd B L p = 2) : ¬ isg B L p x := fun z => h z.1
theorem rs_pa5 (ek : kd B L p = 1) (h0 : 1000 < nc B L p ∨ ¬ n < 50) : RSN T o B L 0 b p n (.inl p) := by
  intro Q t c P q hr hc k
  have e2 := hr.1.d.mpr ek
  have en := hr.1.n ek
  show QI T (fun r c2 => Q (HX T t r c2)) (ccal 236 [vR 78] (SH T, c))
  refine (r_toIts (Q := QI T _) hr (ne2_isg (by omega)) ?_)
  rw [its_no (tkw_no (by omega))]
  refine W_X12_readPart_35 ⟨fun _ => ⟨fun e3 => ?_, fun e3 => ?_⟩, fun z => absurd e2 z⟩
  · exact W_X12_readPart_60 ⟨fun _ => ⟨fun _ => W_X12_readPart_76 ⟨fun _ => W_X12_readPart_86 ⟨fun _ => r_99F hr (.inl rfl) k, fun z => absurd rfl z⟩, fun z => absurd rfl z⟩, fun z => absurd rfl z⟩, fun z => absurd rfl z⟩
  · exact W_X12_readPart_60 ⟨fun _ => ⟨fun z => absurd z (by decide), fun _ => W_X12_readPart_76 ⟨fun _ => W_X12_readPart_86 ⟨fun z => absurd z (by decide), fun _ => r_99F hr (.inr (by omega)) k⟩, fun z => absurd rfl z⟩⟩, fun z => absurd rfl z⟩
theorem rs_pa6 (ek : kd B L p = 1) (h0 : ¬ 1000 < nc B L p) (h1 : n < 50) : RSN T o B L 0 b p n (.inr (nx B L p, n + 1, fun _ => some (nc B L p))) := by
  intro Q t c P q hr hc k
  have e2 := hr.1.d.mpr ek
  have en := hr.1.n ek
  have bb := hr.bb
  show QI T (fun r c2 => Q (HX T t r c2)) (ccal 236 [vR 78] (SH T, c))
  refine (r_toIts (Q := QI T _) hr (ne2_isg (by omega)) ?_)
  rw [its_no (tkw_no (by omega))]
  refine W_X12_readPart_35 ⟨fun _ => ⟨fun e3 => absurd e3 (by omega), fun e3 => ?_⟩, fun z => absurd e2 z⟩
  refine W_X12_readPart_60 ⟨fun _ => ⟨fun z => absurd z (by decide), fun _ => W_X12_readPart_76 ⟨fun _ => W_X12_readPart_86 ⟨fun z => absurd z (by decide), fun _ => ?_⟩, fun z => absurd rfl z⟩⟩, fun z => absurd rfl z⟩
  rw [w32_id (by omega) (by omega)]
  refine W_X12_readPart_99 ((r_leafT hr (by decide) h1 (kd_lt (B := B) (by omega))).mono fun c1 h2 => ?_)
  obtain ⟨f, st, e85, e86⟩ := h2
  have fin : QI T (fun r c2 => Q (HX T t r c2)) (some (some (vI 3), (SH T, c1))) := by
    refine QI.ret (k c1 f (OPS.whole (k := 1) (by rw [st.code]; exact st) ?_ (by omega) bb.1.1) end0 fun z => absurd z (by decide))
    rw [st.code]
    exact RP.num (by omega) (by omega) e85 (by rw [e86]; omega)
  exact ⟨fun _ => fin, fun _ => ⟨fun z => absurd z (by decide), fun _ => fin⟩⟩
theorem rs_pa7 (h91 : ¬ isg B L p 91) (ek : ¬ kd B L p = 1) (h0 : tkw B L p (WSx o) = -1 ∨ ¬ n < 50) : RSN T o B L 0 b p n (.inl p) := by
  intro Q t c P q hr hc k
  have e2 : ¬ c 77 12 = 2 := fun z => ek (hr.1.d.mp z)
  show QI T (fun r c2 => Q (HX T t r c2)) (ccal 236 [vR 78] (SH T, c))
  refine (r_toIts (Q := QI T _) hr h91 (W_X12_readPart_35 ⟨fun z => absurd z e2, fun _ => W_X12_readPart_60 ⟨fun e3 => ⟨fun _ => ?_, fun z => absurd rfl z⟩, fun e3 => ?_⟩⟩))
  · exact W_X12_readPart_76 ⟨fun _ => W_X12_readPart_86 ⟨fun _ => r_99F hr (.inl rfl) k, fun z => absurd rfl z⟩, fun z => absurd e3 z⟩
  · have : ¬ n < 50 := h0.resolve_left fun z => e3 (its_no z)
    exact W_X12_readPart_76 ⟨fun z => absurd z e3, fun _ => W_X12_readPart_86 ⟨fun _ => r_99F hr (.inr this) k, fun z => absurd rfl z⟩⟩
theorem ws_len : ((WSx o).length : Int) = if o = 0 then 10 else 7 := by
  unfold WSx
  split <;> rfl
theorem rs_pa8 {w : Int} (h91 : ¬ isg B L p 91) (ek : ¬ kd B L p = 1) (hw : tkw B L p (WSx o) = w) (hw1 : ¬ w = -1) (h1 : n < 50) (h6 : ¬ (¬ o = 0 ∧ w = 6)) : RSN T o B L 0 b p n (.inr (nx B L p, n + 1, fun W => some (W (w + 1)))) := by
  intro Q t c P q hr hc k
  have e2 : ¬ c 77 12 = 2 := fun z => ek (hr.1.d.mp z)
  have bb := hr.bb
  have tl := tkw_lt (show ¬ tkw B L p (WSx o) = -1 by rw [hw]; exact hw1)
  rw [ws_len, hw] at tl
  have ei : itsx B L p o = w + 1 := by rw [its_w (by rw [hw]; exact hw1), hw]
  show QI T (fun r c2 => Q (HX T t r c2)) (ccal 236 [vR 78] (SH T, c))
  refine (r_toIts (Q := QI T _) hr h91 ?_)
  rw [ei]
  refine W_X12_readPart_35 ⟨fun z => absurd z e2, fun _ => W_X12_readPart_60 ⟨fun z => absurd z (by omega), fun _ => W_X12_readPart_76 ⟨fun z => absurd z (by omega), fun _ => W_X12_readPart_86 ⟨fun _ => ?_, fun z => absurd rfl z⟩⟩⟩⟩
  refine W_X12_readPart_99 ((r_leafT hr (by decide) h1 (kd_lt (B := B) (by omega))).mono fun c1 h2 => ?_)
  obtain ⟨f, st, e85, e86⟩ := h2
  have fin : QI T (fun r c2 => Q (HX T t r c2)) (some (some (vI 3), (SH T, c1))) := by
    refine QI.ret (k c1 f (OPS.whole (k := 1) (by rw [st.code]; exact st) ?_ (by omega) bb.1.1) end0 fun z => absurd z (by decide))
    rw [st.code]
    refine RP.word tl.2.1 ?_ (fun _ => e85) fun z => .inl ⟨?_, e85⟩
    · unfold NWx
      have := tl.2.2
      split at this
      · rw [if_pos (by assumption)]; omega
      · rw [if_neg (by assumption)]; omega
    · have ho : ¬ o = 0 := fun e => z (by unfold NWx; rw [if_pos e])
      have := tl.2.2
      rw [if_neg ho] at this
      omega
  refine ⟨fun _ => fin, fun z => ⟨fun z7 => ?_, fun _ => fin⟩⟩
  rw [st.ord] at z
  exact absurd ⟨z, by omega⟩ h6
theorem rs_pa9 (h91 : ¬ isg B L p 91) (ek : ¬ kd B L p = 1) (hw : tkw B L p (WSx o) = 6) (h1 : n < 50) (ho : ¬ o = 0) (h2 : ¬ kd B L (nx B L p) = 1 ∨ ¬ nc B L (nx B L p) < 12) : RSN T o B L 0 b p n (.inl (nx B L p)) := by
  intro Q t c P q hr hc k
  have e2 : ¬ c 77 12 = 2 := fun z => ek (hr.1.d.mp z)
  have bb := hr.bb
  have tl := tkw_lt (show ¬ tkw B L p (WSx o) = -1 by rw [hw]; decide)
  have ei : itsx B L p o = 7 := by rw [its_w (by rw [hw]; decide), hw]; rfl
  show QI T (fun r c2 => Q (HX T t r c2)) (ccal 236 [vR 78] (SH T, c))
  refine (r_toIts (Q := QI T _) hr h91 ?_)
  rw [ei]
  refine W_X12_readPart_35 ⟨fun z => absurd z e2, fun _ => W_X12_readPart_60 ⟨fun z => absurd z (by decide), fun _ => W_X12_readPart_76 ⟨fun z => absurd z (by decide), fun _ => W_X12_readPart_86 ⟨fun _ => ?_, fun z => absurd rfl z⟩⟩⟩⟩
  refine W_X12_readPart_99 ((r_leafT hr (by decide) h1 (kd_lt (B := B) (by omega))).mono fun c1 h3 => ?_)
  obtain ⟨f, st, e85, e86⟩ := h3
  have pL := st.1.pL
  have bb1 := st.bb
  have e19 := st.code
  refine ⟨fun z => absurd (st.ord ▸ z) ho, fun _ => ⟨fun _ => ⟨fun _ => ⟨by omega, ?_⟩, fun z => absurd st.b0 z⟩, fun z => absurd rfl z⟩⟩
  have k32 : ∀ v, QI T (fun r2 c3 => (0 ≤ c1 77 19 - 1 ∧ c1 77 19 - 1 < 400) ∧ QI T (fun r c2 => Q (HX T t r c2)) (some (some (vI 3), (SH T, (up c3 86 (c1 77 19 - 1) r2))))) (cev 224 4 32 [vU, vU, vU, vU, vU, vI v] [vR 78] (SH T, c1)) := by
    intro v
    refine W_X12_number_32 ((r_mustF st.1 st.b0).mono fun c3 h3 => QI.ret ⟨by omega, QI.ret ?_⟩)
    have fl := st.flt
    rw [← h3] at fl
    obtain ⟨⟨a1, a2, a3, P', a4, a5, a6, a7⟩, a8⟩ := fl
    have g : ∀ i, up c3 86 (c1 77 19 - 1) v 77 i = c3 77 i := fun i => by rw [up_cell (by decide)]
    refine k _ 3 ((f.1.trans a8).wr (by unfold RXA; omega)) ⟨(g 15).trans a1, (g 14).trans a2, by rw [g]; exact a3, P', (g 25).trans a4, a5.cong fun j b => ⟨by rw [up_cell (by decide)], by rw [up_cell (by decide)]⟩, a6, by rw [g]; exact a7⟩
  refine W_X12_number (Q := QI T _) ⟨fun e3 => ⟨fun e4 => ?_, fun _ => k32 _⟩, fun _ => k32 _⟩
  have ek1 := st.1.d.mp e3
  have en := st.1.n ek1
  omega
theorem rs_pa10 (h91 : ¬ isg B L p 91) (ek : ¬ kd B L p = 1) (hw : tkw B L p (WSx o) = 6) (h1 : n < 50) (ho : ¬ o = 0) (h2 : kd B L (nx B L p) = 1) (h3 : nc B L (nx B L p) < 12) : RSN T o B L 0 b p n (.inr (nx B L (nx B L p), n + 1, fun W => some (W (6 + nc B L (nx B L p) + 1)))) := by
  intro Q t c P q hr hc k
  have e2 : ¬ c 77 12 = 2 := fun z => ek (hr.1.d.mp z)
  have bb := hr.bb
  have tl := tkw_lt (show ¬ tkw B L p (WSx o) = -1 by rw [hw]; decide)
  have ei : itsx B L p o = 7 := by rw [its_w (by rw [hw]; decide), hw]; rfl
  show QI T (fun r c2 => Q (HX T t r c2)) (ccal 236 [vR 78] (SH T, c))
  refine (r_toIts (Q := QI T _) hr h91 ?_)
  rw [ei]
  refine W_X12_readPart_35 ⟨fun z => absurd z e2, fun _ => W_X12_readPart_60 ⟨fun z => absurd z (by decide), fun _ => W_X12_readPart_76 ⟨fun z => absurd z (by decide), fun _ => W_X12_readPart_86 ⟨fun _ => ?_, fun z => absurd rfl z⟩⟩⟩⟩
  refine W_X12_readPart_99 ((r_leafT hr (by decide) h1 (kd_lt (B := B) (by omega))).mono fun c1 h4 => ?_)
  obtain ⟨f, st, e85, e86⟩ := h4
  have pL := st.1.pL
  have bb1 := st.bb
  have e19 := st.code
  have e3 := st.1.d.mpr h2
  have en := st.1.n h2
  refine ⟨fun z => absurd (st.ord ▸ z) ho, fun _ => ⟨fun _ => ⟨fun _ => ⟨by omega, ?_⟩, fun z => absurd st.b0 z⟩, fun z => absurd rfl z⟩⟩
  refine W_X12_number (Q := QI T _) ⟨fun _ => ⟨fun e4 => ?_, fun z => absurd (show 0 ≤ c1 77 13 ∧ c1 77 13 ≤ 11 by omega) z⟩, fun z => absurd e3 z⟩
  rw [w32_id (by omega) (by omega)]
  refine (r_mustT st.1 st.b0 (by decide)).mono fun c3 h5 => QI.ret ⟨by omega, QI.ret ?_⟩
  have st3 := st.next h5.1 h5.2
  rw [e19, show q + 1 - 1 = q from by omega]
  have g : ∀ i, up c3 86 q (c1 77 13) 77 i = c3 77 i := fun i => by rw [up_cell (by decide)]
  have e853 : c3 85 q = 7 := (h5.1 85 q (by unfold NXR; omega)).trans e85
  have st4 : RST (up c3 86 q (c1 77 13)) o B L (nx B L (nx B L p)) (n + 1) b (q + 1) P := by
    obtain ⟨g1, g2, g3, g4, g5, g6, g7, g8, g9, g10, g11, g12⟩ := st3
    exact ⟨g1.cong (fun j _ _ => g j) (up_cell (by decide)), g2.cong (up_cell (by decide)) (up_cell (by decide)) (up_cell (by decide)), (g 16).trans g3, (g 22).trans g4, (g 26).trans g5, (g 19).trans g6, (g 25).trans g7, g8.cong fun j b => ⟨by rw [up_cell (by decide)], by rw [up_cell (by decide)]⟩, g9, ⟨(g 15).trans g10.1, (g 14).trans g10.2⟩, g11, g12⟩
  refine k _ ((f.trans (RFQ.nxr h5.1) (Int.le_refl _)).trans (q' := q) ⟨Fr.rfl.wr (by unfold RXA; omega), fun j a => ⟨by rw [up_cell (by decide)], up_ne (by omega)⟩⟩ (Int.le_refl _)) (OPS.whole (k := 1) (by rw [st4.code]; exact st4) ?_ (by omega) bb.1.1) end0 fun z => absurd z (by decide)
  rw [st4.code]
  refine RP.word (w := 6 + nc B L (nx B L p)) (by omega) ?_ (fun z => ?_) fun _ => .inr ⟨by omega, ?_, ?_⟩
  · unfold NWx; rw [if_neg ho]; omega
  · unfold NWx at z; rw [if_neg ho] at z; exact absurd z (by decide)
  · rw [up_cell (by decide)]; exact e853
  · rw [up_same]; omega
end PBS

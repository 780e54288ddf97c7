/-! THE REFERENCE READS: parts, their rules -/
theorem inn_app {s P : Pil} (h : ∀ e, e ∈ s → e.1 < 30) : inn (s ++ P) = inn P := by
  induction s with
  | nil => rfl
  | cons e r ih =>
    have he := h e List.mem_cons_self
    show (if 30 ≤ e.1 then e.1 else inn (r ++ P)) = inn P
    rw [if_neg (by omega)]
    exact ih fun x hx => h x (List.mem_cons_of_mem _ hx)
theorem OPS.next {lo : Int} {c c' : Cm} {o : Int} {B : Int → Int} {L p n0 n b q : Int} {P : Pil} {d : Den} (h : OPS lo c o B L p n0 n b q P d) (f : Fr NXR c c') (e : ER c' B L (nx B L p)) : OPS lo c' o B L (nx B L p) n0 n b q P d := by
  obtain ⟨s, m, l, x, k, h1, h2, h3, h4, h5, h6⟩ := h
  have e19 : c' 77 19 = c 77 19 := f 77 19 (by unfold NXR; omega)
  have e85 : c' 85 = c 85 := f.cell (q := 85) (by intro j; unfold NXR; omega)
  have e86 : c' 86 = c 86 := f.cell (q := 86) (by intro j; unfold NXR; omega)
  exact ⟨s, m, l, x, k, by rw [e19]; exact h1.next f e, h2, by rw [e85, e86]; exact h3, by rw [e85, e86, e19]; exact h4, h5, h6⟩
theorem r_settleOps {T : List Shp} {lo : Int} {c : Cm} {o : Int} {B : Int → Int} {L p n0 n b q : Int} {P : Pil} {d : Den} (h : OPS lo c o B L p n0 n b q P d) (hP : tpb P < lo) : QV T (fun c' => RFQ q c c' ∧ RST c' o B L p n b (c' 77 19) P ∧ ∃ k, RP (NWx o) (c' 85) (c' 86) q (c' 77 19) k d ∧ k ≤ n - n0 ∧ 0 ≤ q) (ccal 229 [vR 78, vI lo] (SH T, c)) := by
  obtain ⟨s, m, l, x, k, h1, h2, h3, h4, h5, h6⟩ := h
  have bb := h1.bb
  have pL := h1.1.pL
  refine (r_settle hP s c q m l k x d h2 h3 h4 h1.piled h1.pile h6 (by omega)).mono fun c' hc => ?_
  obtain ⟨st, e25, hr, hn⟩ := hc
  have f := st.rxa
  have lt := hr.lt
  refine ⟨⟨f, st.2⟩, ?_, k, hr, h5, h6⟩
  obtain ⟨g1, g2, g3, g4, g5, g6, g7, g8, g9, g10, g11, g12⟩ := h1
  have g : ∀ j, ¬ j = 19 → ¬ j = 25 → c' 77 j = c 77 j := fun j e e' => st.1 77 j (by omega)
  have pl : PLm c P := by
    have key : ∀ (s : Pil), PLm c (s ++ P) → PLm c P := by
      intro s
      induction s with
      | nil => intro h; exact h
      | cons a s ih => intro h; exact ih h.2.2
    exact key s g8
  refine ⟨g1.cong (fun j a b => g j (by omega) (by omega)) ?_, g2.nxr f, (g 16 (by decide) (by decide)).trans g3, (g 22 (by decide) (by decide)).trans g4, (g 26 (by decide) (by decide)).trans g5, rfl, e25, pl.cong fun j a => ⟨st.1 87 j (by omega), st.1 88 j (by omega)⟩, fun e he => g9 e (List.mem_append_right _ he), ⟨(g 15 (by decide) (by decide)).trans g10.1, (g 14 (by decide) (by decide)).trans g10.2⟩, by omega, g12⟩
  funext j
  exact st.1 83 j (by omega)
/-- a bracket is taken off -/
theorem RST.pop {c : Cm} {o : Int} {B : Int → Int} {L p n b q : Int} {e : Int × Int} {P : Pil} (h : RST c o B L p n (b + 1) q (e :: P)) (hb : 0 ≤ b) : RST (up (up c 77 25 (c 77 25 - 1)) 77 26 (c 77 26 - 1)) o B L p n b q P := by
  obtain ⟨h1, h2, h3, h4, h5, h6, h7, h8, h9, h10, h11, h12⟩ := h
  have e26 : up c 77 25 (c 77 25 - 1) 77 26 = c 77 26 := up_ne (by decide)
  rw [len_cons] at h7 h11
  have g : ∀ j, ¬ j = 25 → ¬ j = 26 → up (up c 77 25 (c 77 25 - 1)) 77 26 (c 77 26 - 1) 77 j = c 77 j := fun j a a' => by rw [up_ne a', up_ne a]
  refine ⟨h1.cong (fun j a b => g j (by omega) (by omega)) ?_, h2.cong ?_ ?_ ?_, (g 16 (by decide) (by decide)).trans h3, (g 22 (by decide) (by decide)).trans h4, by rw [up_same]; omega, (g 19 (by decide) (by decide)).trans h6, by rw [up_ne (by decide), up_same]; omega, h8.2.2.cong fun j b => ⟨?_, ?_⟩, h9.tail, ⟨(g 15 (by decide) (by decide)).trans h10.1, (g 14 (by decide) (by decide)).trans h10.2⟩, by omega, by omega, by omega⟩
  · rw [up_cell (by decide), up_cell (by decide)]
  · rw [up_cell (by decide), up_cell (by decide)]
  · rw [up_cell (by decide), up_cell (by decide)]
  · rw [up_cell (by decide), up_cell (by decide)]
  · rw [up_cell (by decide), up_cell (by decide)]
  · rw [up_cell (by decide), up_cell (by decide)]
/-- behind a sum, no operator: what stands beneath decides -/
theorem r_sumEnd {T : List Shp} {Q : Res → Prop} {t : Int} {c : Cm} {B : Int → Int} {L p : Int} (he : ER c B L p) (h : ENDT 4 B L p) (k : Q (cev 238 4 57 [vR 78, vI t, vU, vU] [vI (-1)] (SH T, c))) : Q (ccal 238 [vR 78, vI t] (SH T, c)) := by
  have h1 := h.1 (by omega)
  have h2 := h.2.1 (by omega)
  exact W_X12_behindSum ⟨fun z => absurd (he.g.mp z) h2.1, fun _ => ⟨fun z => absurd (he.g.mp z) h2.2, fun _ => ⟨fun z => absurd (he.g.mp z) h1.1, fun _ => ⟨fun z => absurd (he.g.mp z) h1.2, fun _ => k⟩⟩⟩⟩
theorem OPS.st {lo : Int} {c : Cm} {o : Int} {B : Int → Int} {L p n0 n b q : Int} {P : Pil} {d : Den} (h : OPS lo c o B L p n0 n b q P d) : ∃ s, RST c o B L p n b (c 77 19) (s ++ P) ∧ ∀ e, e ∈ s → lo ≤ bnd e.1 ∧ e.1 < 30 := by
  obtain ⟨s, m, l, x, k, h1, h2, _⟩ := h
  exact ⟨s, h1, h2⟩
/-- a square bracket closed -/
theorem r_close {T : List Shp} {Q : Res → Prop} {t : Int} {c : Cm} {o : Int} {B : Int → Int} {L p n0 n b q : Int} {P : Pil} {d : Den} (h : OPS 5 c o B L p n0 n (b + 1) q ((31, 0) :: P) d) (hb : 0 ≤ b) (hE : ENDT 4 B L p) (kF : ¬ isg B L p 93 → ∀ c' x', Fr RXA c c' → FLT c' p → Q (HX T t x' c')) (kT : isg B L p 93 → ∀ c', RFQ q c c' → OPS 100 c' o B L (nx B L p) n0 n b q P d → Q (HX T t 3 c')) : Q (HX T t 3 c) := by
  obtain ⟨s, hs, hl⟩ := h.st
  have bb := hs.bb
  have pL := hs.1.pL
  have nb := nx_bd (B := B) pL.2.1
  refine hx_sum hs.b0 (r_sumEnd (Q := QI T _) hs.1 hE (W_X12_behindSum_57 ⟨fun _ => QI.of_eq (r_inner hs.piled hs.pile (by omega)) ?_, fun z => absurd rfl z⟩))
  rw [inn_app fun e he => (hl e he).2]
  refine ⟨fun _ => ?_, fun z => absurd rfl z⟩
  by_cases e : isg B L p 93
  · rw [b01_t (hs.1.g.mpr e)]
    refine (r_mustT hs.1 hs.b0 (by decide)).mono fun c3 h3 => ⟨fun _ => ?_, fun z => ?_⟩
    · have h4 := h.next h3.1 h3.2
      refine (r_settleOps h4 (show (0 : Int) < 5 by decide)).mono fun c4 hc => ?_
      obtain ⟨f4, st4, k, hr, hk, hq⟩ := hc
      have e25 := st4.piled
      have e26 := st4.opened
      have bb4 := st4.bb
      rw [len_cons] at e25 bb4
      refine ⟨by omega, QI.ret (kT e _ (((RFQ.nxr h3.1).trans f4 (Int.le_refl _)).trans (q' := q) ⟨(Fr.rfl.wr (by unfold RXA; omega)).wr (by unfold RXA; omega), fun j _ => ⟨?_, ?_⟩⟩ (Int.le_refl _)) ?_)⟩
      · rw [up_cell (by decide), up_cell (by decide)]
      · rw [up_cell (by decide), up_cell (by decide)]
      · have st5 := st4.pop hb
        have g19 : up (up c4 77 25 (c4 77 25 - 1)) 77 26 (c4 77 26 - 1) 77 19 = c4 77 19 := by rw [up_ne (by decide), up_ne (by decide)]
        refine OPS.whole (k := k) ?_ ?_ hk hq
        · rw [g19]; exact st5
        · rw [g19, up_cell (by decide), up_cell (by decide), up_cell (by decide), up_cell (by decide)]
          exact hr
    · exact absurd ((hs.next h3.1 h3.2).b0) z
  · rw [b01_f fun z => e (hs.1.g.mp z)]
    refine (r_mustF hs.1 hs.b0).mono fun c3 h3 => ?_
    have f := hs.flt
    rw [← h3] at f
    exact ⟨fun z => absurd (f.1.1.symm.trans z) (by decide), fun _ => QI.ret (kF e c3 3 f.2 f.1)⟩
theorem bnd_lt {e : Int} (h : 100 ≤ bnd e) : False := by
  unfold bnd at h
  repeat' split at h
  all_goals omega
section PAS
variable {T : List Shp} {o : Int} {B : Int → Int} {L b p n : Int}
theorem rs_pa1 (h0 : isg B L p 91) (h1 : ¬ b < 8) : RSN T o B L 0 b p n (.inl p) := by
  intro Q t c P q hr hc k
  show QI T (fun r c2 => Q (HX T t r c2)) (ccal 236 [vR 78] (SH T, c))
  exact (W_X12_readPart (Q := QI T _) ⟨fun _ => (r_openF hr h1).mono fun c5 h5 => QI.ret (k c5 1 h5.1 h5.2), fun z => absurd (hr.1.g.mpr h0) z⟩)
theorem rs_pa2 {f : Int} (h0 : isg B L p 91) (h1 : b < 8) (hS : RSN T o B L 4 (b + 1) (nx B L p) n (.inl f)) : RSN T o B L 0 b p n (.inl f) := by
  intro Q t c P q hr hc k
  show QI T (fun r c2 => Q (HX T t r c2)) (ccal 236 [vR 78] (SH T, c))
  refine (W_X12_readPart (Q := QI T _) ⟨fun _ => (r_openT hr h1 (isg_lt h0) (.inr rfl)).mono fun c5 h5 => QI.ret ?_, fun z => absurd (hr.1.g.mpr h0) z⟩)
  exact hx_part h5.2.b0 (hS Q t c5 ((31, 0) :: P) q h5.2 ⟨by show (0 : Int) < 5; decide, fun z => absurd z (by decide)⟩ fun c' x' f1 f2 => k c' x' (h5.1.1.trans f1) f2)
theorem rs_pa34 {p1 n1 : Int} {d : Den} {out : Out} (h0 : isg B L p 91) (h1 : b < 8) (hS : RSN T o B L 4 (b + 1) (nx B L p) n (.inr (p1, n1, d))) (hF : ¬ isg B L p1 93 → out = .inl p1) (hT : isg B L p1 93 → out = .inr (nx B L p1, n1, d)) : RSN T o B L 0 b p n out := by
  intro Q t c P q hr hc k
  have bb := hr.bb
  show QI T (fun r c2 => Q (HX T t r c2)) (ccal 236 [vR 78] (SH T, c))
  refine (W_X12_readPart (Q := QI T _) ⟨fun _ => (r_openT hr h1 (isg_lt h0) (.inr rfl)).mono fun c5 h5 => QI.ret ?_, fun z => absurd (hr.1.g.mpr h0) z⟩)
  refine hx_part h5.2.b0 (hS Q t c5 ((31, 0) :: P) q h5.2 ⟨by show (0 : Int) < 5; decide, fun z => absurd z (by decide)⟩ fun c1 f1 hO hE _ => ?_)
  refine r_close (Q := Q) (t := t) hO (by omega) hE (fun e => ?_) (fun e => ?_)
  · have k' := hF e ▸ k
    exact fun c' x' f2 f3 => k' c' x' (h5.1.1.trans (f1.1.trans f2)) f3
  · have k' := hT e ▸ k
    exact fun c' f2 hO2 => k' c' ((h5.1.trans f1 (Int.le_refl _)).trans f2 (Int.le_refl _)) hO2 ⟨fun z => absurd z (by decide), fun z => absurd z (by decide), fun z => absurd z (by decide), fun z => absurd z (by decide)⟩ fun z => absurd z (by decide)
end PAS

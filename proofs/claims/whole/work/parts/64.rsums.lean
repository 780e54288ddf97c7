/-! THE REFERENCE READS: sums, their rules -/
theorem OPS.lo {lo lo' : Int} {c : Cm} {o : Int} {B : Int → Int} {L p n0 n b q : Int} {P : Pil} {d : Den} (h : OPS lo' c o B L p n0 n b q P d) (hlo : lo ≤ lo') : OPS lo c o B L p n0 n b q P d := by
  obtain ⟨s, m, l, x, k, h1, h2, h3⟩ := h
  exact ⟨s, m, l, x, k, h1, fun e he => ⟨by have := (h2 e he).1; omega, (h2 e he).2⟩, h3⟩
/-- what stands above an operator is joined with what stands beneath -/
theorem OPS.join {lo lo' : Int} {c : Cm} {o : Int} {B : Int → Int} {L p n0 n n1 b q q' k : Int} {e : Int × Int} {P : Pil} {d1 D : Den} (h : OPS lo' c o B L p n n1 b q' (e :: P) d1) (hlo : lo ≤ lo') (he : lo ≤ bnd e.1 ∧ e.1 < 30) (one : ∀ k1, PXv (NWx o) (c 85) (c 86) [e] q q' k1 d1 (k + k1) D) (hk : k ≤ n - n0) (hq : 0 ≤ q) : OPS lo c o B L p n0 n1 b q P D := by
  obtain ⟨s, m, l, x, k1, h1, h2, h3, h4, h5, h6⟩ := h
  refine ⟨s ++ [e], m, l, x, k + k1, ?_, fun y hy => ?_, h3.app (one k1), h4, by omega, hq⟩
  · rw [List.append_assoc]
    exact h1
  · rcases List.mem_append.mp hy with hy | hy
    · have := h2 y hy
      exact ⟨by omega, this.2⟩
    · rw [List.mem_singleton.mp hy]
      exact he
theorem one_bin {NW : Int} {P A : Int → Int} {q q' k dd a : Int} {d d1 : Den} (hd : 2 ≤ dd ∧ dd ≤ 8) (h : RP NW P A q q' k d) (k1 : Int) : PXv NW P A [(dd + 18, a)] q q' k1 d1 (k + k1) (dbin dd d d1) := by
  refine .inl ⟨by show 20 ≤ dd + 18; omega, by show dd + 18 ≤ 26; omega, q, k, d, h, rfl, rfl, ?_⟩
  show dbin dd d d1 = dbin (dd + 18 - 18) d d1
  rw [show dd + 18 - 18 = dd from by omega]
theorem PXv.kl {NW : Int} {P A : Int → Int} : ∀ {s : Pil} {q0 m l k : Int} {x d : Den}, PXv NW P A s q0 m l x k d → l ≤ k
  | [], _, _, _, _, _, _, h => by have := h.2.1; omega
  | e :: r, q0, m, l, k, x, d, h => by
    rcases h with ⟨_, _, m1, l1, a, h1, h2⟩ | ⟨_, _, h2⟩ | ⟨_, _, h0, _, m1, l1, a, h1, h2⟩
    · have := h2.kl; have := h1.lt; omega
    · exact h2.kl
    · have := h2.kl; have := h1.lt; omega
theorem OPS.le {lo : Int} {c : Cm} {o : Int} {B : Int → Int} {L p n0 n b q : Int} {P : Pil} {d : Den} (h : OPS lo c o B L p n0 n b q P d) : n0 ≤ n := by
  obtain ⟨s, m, l, x, k, h1, h2, h3, h4, h5, h6⟩ := h
  have := h3.kl
  have := h4.lt
  omega
/-- an operator behind an operand -/
theorem r_opStep {T : List Shp} {Q : Res → Prop} {t lo dd : Int} {c : Cm} {o : Int} {B : Int → Int} {L p n0 n b q : Int} {P : Pil} {d : Den} (h : OPS lo c o B L p n0 n b q P d) (hP : tpb P < lo) (hlo : bnd (dd + 18) = lo) (sel : isg B L p 43 ∧ dd = 2 ∨ isg B L p 45 ∧ dd = 3 ∨ isg B L p 42 ∧ dd = 4 ∨ isg B L p 47 ∧ dd = 5) (k : ∀ c' q' kk, RFQ q c c' → RST c' o B L (nx B L p) n b q' ((dd + 18, 0) :: P) → RP (NWx o) (c' 85) (c' 86) q q' kk d → kk ≤ n - n0 → 0 ≤ q → Q (HX T t 1 c')) : Q (HX T t 3 c) := by
  obtain ⟨s, hs, hl⟩ := h.st
  have pL := hs.1.pL
  have plt : p < L := by rcases sel with ⟨e, _⟩ | ⟨e, _⟩ | ⟨e, _⟩ | ⟨e, _⟩ <;> exact isg_lt e
  have nb := nx_bd (B := B) pL.2.1
  have nb2 := nb.2.2 plt
  have k57 : ∀ y, y = dd + 18 → ¬ y = -1 → QI T (fun r c2 => Q (HX T t r c2)) (cev 238 4 57 [vR 78, vI t, vU, vU] [vI y] (SH T, c)) := by
    intro y ey hy
    rw [ey] at hy ⊢
    refine W_X12_behindSum_57 ⟨fun z => absurd z hy, fun _ => ?_⟩
    rw [hlo]
    refine (r_settleOps h hP).mono fun c5 h5 => ?_
    obtain ⟨f5, st5, kk, hr, hk, hq⟩ := h5
    have bb5 := st5.bb
    have e25 := st5.piled
    have sbb := hs.bb
    -- the place that is free
    have room : c5 77 19 + (P.length : Int) + 1 ≤ nx B L p := by omega
    have g : RST c5 o B L p n b (c5 77 19) P := st5
    refine ⟨by omega, ?_⟩
    have pe : ER (up (up (up c5 87 (c5 77 25) (dd + 18)) 88 (c5 77 25) 0) 77 25 (c5 77 25 + 1)) B L p := g.1.cong (fun j a b => by rw [up_ne (by omega), up_cell (by decide), up_cell (by decide)]) (by rw [up_cell (by decide), up_cell (by decide), up_cell (by decide)])
    refine pe.next.mono fun c6 h6 => QI.ret ?_
    -- as if the token had been left first
    have st6 : RST c6 o B L (nx B L p) n b (c5 77 19) ((dd + 18, 0) :: P) := by
      obtain ⟨g1, g2, g3, g4, g5, g6, g7, g8, g9, g10, g11, g12⟩ := g
      rw [g7] at h6
      have w : ∀ j, ¬ j = 25 → 14 ≤ j → c6 77 j = c5 77 j := fun j e e2 => (h6.1 77 j (by unfold NXR; omega)).trans (by rw [up_ne e, up_cell (by decide), up_cell (by decide)])
      have w89 : ∀ q, 84 ≤ q → ¬ q = 87 → ¬ q = 88 → c6 q = c5 q := fun q a b b' => (h6.1.cell (q := q) (by intro j; unfold NXR; omega)).trans (by rw [up_cell (by omega), up_cell b', up_cell b])
      refine ⟨h6.2, g2.cong (w89 89 (by decide) (by decide) (by decide)) (w89 90 (by decide) (by decide) (by decide)) (w89 91 (by decide) (by decide) (by decide)), (w 16 (by decide) (by decide)).trans g3, (w 22 (by decide) (by decide)).trans g4, (w 26 (by decide) (by decide)).trans g5, (w 19 (by decide) (by decide)), ?_, ⟨?_, ?_, g8.cong fun j a => ⟨?_, ?_⟩⟩, fun e he => ?_, ⟨(w 15 (by decide) (by decide)).trans g10.1, (w 14 (by decide) (by decide)).trans g10.2⟩, by rw [len_cons]; omega, g12⟩
      · rw [h6.1 77 25 (by unfold NXR; omega), up_same, len_cons]
      · rw [h6.1 87 _ (by unfold NXR; omega), up_cell (by decide), up_cell (by decide), up_same]
      · rw [h6.1 88 _ (by unfold NXR; omega), up_cell (by decide), up_same]
      · rw [h6.1 87 _ (by unfold NXR; omega), up_cell (by decide), up_cell (by decide), up_ne (by omega)]
      · rw [h6.1 88 _ (by unfold NXR; omega), up_cell (by decide), up_ne (by omega), up_cell (by decide)]
      · rcases List.mem_cons.mp he with rfl | he
        · have : 2 ≤ dd ∧ dd ≤ 5 := by rcases sel with ⟨_, e⟩ | ⟨_, e⟩ | ⟨_, e⟩ | ⟨_, e⟩ <;> omega
          exact ⟨⟨by show 20 ≤ dd + 18; omega, by show dd + 18 ≤ 31; omega⟩, fun z => by have z' : dd + 18 = 28 ∨ dd + 18 = 29 := z; omega⟩
        · exact g9 e he
    have f6 : RFQ q c5 c6 := by
      refine RFQ.trans (b := up (up (up c5 87 (c5 77 25) (dd + 18)) 88 (c5 77 25) 0) 77 25 (c5 77 25 + 1)) ⟨((Fr.rfl.wr (by unfold RXA; omega)).wr (by unfold RXA; omega)).wr (by unfold RXA; omega), fun j _ => ⟨?_, ?_⟩⟩ (RFQ.nxr (q := q) h6.1) (Int.le_refl _)
      · rw [up_cell (by decide), up_cell (by decide), up_cell (by decide)]
      · rw [up_cell (by decide), up_cell (by decide), up_cell (by decide)]
    have e85 : c6 85 = c5 85 := (h6.1.cell (q := 85) (by intro j; unfold NXR; omega)).trans (by rw [up_cell (by decide), up_cell (by decide), up_cell (by decide)])
    have e86 : c6 86 = c5 86 := (h6.1.cell (q := 86) (by intro j; unfold NXR; omega)).trans (by rw [up_cell (by decide), up_cell (by decide), up_cell (by decide)])
    exact k c6 _ kk (f5.trans f6 (Int.le_refl _)) st6 (by rw [e85, e86]; exact hr) hk hq
  have no : ∀ x y, ¬ x = y → isg B L p x → ¬ isg B L p y := fun x y hxy a b => hxy (a.2.symm.trans b.2)
  refine hx_sum hs.b0 ?_
  have ge := hs.1
  rcases sel with ⟨e, e2⟩ | ⟨e, e2⟩ | ⟨e, e2⟩ | ⟨e, e2⟩
  · exact W_X12_behindSum ⟨fun _ => k57 20 (by omega) (by decide), fun z => absurd (ge.g.mpr e) z⟩
  · exact W_X12_behindSum ⟨fun z => absurd (ge.g.mp z) (no _ _ (by decide) e), fun _ => ⟨fun _ => k57 21 (by omega) (by decide), fun z => absurd (ge.g.mpr e) z⟩⟩
  · exact W_X12_behindSum ⟨fun z => absurd (ge.g.mp z) (no _ _ (by decide) e), fun _ => ⟨fun z => absurd (ge.g.mp z) (no _ _ (by decide) e), fun _ => ⟨fun _ => k57 22 (by omega) (by decide), fun z => absurd (ge.g.mpr e) z⟩⟩⟩
  · exact W_X12_behindSum ⟨fun z => absurd (ge.g.mp z) (no _ _ (by decide) e), fun _ => ⟨fun z => absurd (ge.g.mp z) (no _ _ (by decide) e), fun _ => ⟨fun z => absurd (ge.g.mp z) (no _ _ (by decide) e), fun _ => ⟨fun _ => k57 23 (by omega) (by decide), fun z => absurd (ge.g.mpr e) z⟩⟩⟩⟩
section TES
variable {T : List Shp} {o : Int} {B : Int → Int} {L b p n : Int}
theorem rs_te2 {dd f : Int} {d : Den} (h0 : isg B L p 42 ∧ dd = 4 ∨ isg B L p 47 ∧ dd = 5) (hS : RSN T o B L 0 b (nx B L p) n (.inl f)) : RSL T o B L 1 b p n d (.inl f) := by
  intro Q t c P q n0 hO hn _ _ _ hc k
  have hb : bnd (dd + 18) = 6 := by rcases h0 with ⟨_, e⟩ | ⟨_, e⟩ <;> rw [e] <;> rfl
  refine r_opStep (Q := Q) (t := t) hO hc.1 hb (h0.elim (fun z => .inr (.inr (.inl z))) fun z => .inr (.inr (.inr z))) fun c' q' kk f1 st hr hk hq => ?_
  exact hx_part st.b0 (hS Q t c' _ q' st ⟨by show bnd (dd + 18) < lmm 0; rw [hb]; decide, fun z => absurd z (by decide)⟩ fun c2 x' f2 g2 => k c2 x' (f1.1.trans f2) g2)
theorem rs_te3 {dd p1 n1 : Int} {d d1 : Den} {out : Out} (h0 : isg B L p 42 ∧ dd = 4 ∨ isg B L p 47 ∧ dd = 5) (hS : RSN T o B L 0 b (nx B L p) n (.inr (p1, n1, d1))) (hL : RSL T o B L 1 b p1 n1 (dbin dd d d1) out) : RSL T o B L 1 b p n d out := by
  intro Q t c P q n0 hO hn _ _ _ hc k
  have hb : bnd (dd + 18) = 6 := by rcases h0 with ⟨_, e⟩ | ⟨_, e⟩ <;> rw [e] <;> rfl
  have hd : 2 ≤ dd ∧ dd ≤ 8 := by rcases h0 with ⟨_, e⟩ | ⟨_, e⟩ <;> omega
  refine r_opStep (Q := Q) (t := t) hO hc.1 hb (h0.elim (fun z => .inr (.inr (.inl z))) fun z => .inr (.inr (.inr z))) fun c' q' kk f1 st hr hk hq => ?_
  refine hx_part st.b0 (hS Q t c' _ q' st ⟨by show bnd (dd + 18) < lmm 0; rw [hb]; decide, fun z => absurd z (by decide)⟩ fun c2 f2 hO2 hE _ => ?_)
  have lt := hr.lt
  have f12 := f1.trans f2 (show q ≤ q' by omega)
  have J : OPS 6 c2 o B L p1 n0 n1 b q P (dbin dd d d1) := hO2.join (by decide) ⟨by rw [hb]; decide, by show dd + 18 < 30; omega⟩ (one_bin hd (hr.mv fun j a b => f2.2 j b)) hk hq
  refine hL Q t c2 P q n0 J J.le (fun z => absurd z (by decide)) (fun z => absurd z (by decide)) (fun z => absurd z (by decide)) hc ?_
  rcases out with f | ⟨p', n', d'⟩
  · exact fun c3 x' f3 g3 => k c3 x' (f12.1.trans f3) g3
  · exact fun c3 f3 hO3 hE3 ht3 => k c3 (f12.trans f3 (Int.le_refl _)) hO3 hE3 ht3
theorem rs_te1 {d : Den} (h0 : ¬ isg B L p 42) (h1 : ¬ isg B L p 47) : RSL T o B L 1 b p n d (.inr (p, n, d)) := by
  intro Q t c P q n0 hO hn hE _ _ hc k
  exact k c RFQ.rfl hO ⟨fun _ => ⟨h0, h1⟩, fun z => absurd z (by decide), fun z => absurd z (by decide), fun z => absurd z (by decide)⟩ fun z => absurd z (by decide)
theorem rs_te4 {f : Int} (hS : RSN T o B L 0 b p n (.inl f)) : RSN T o B L 2 b p n (.inl f) := by
  intro Q t c P q hr hc k
  exact hS Q t c P q hr ⟨Int.lt_of_lt_of_le hc.1 (by decide), fun z => absurd z (by decide)⟩ k
theorem rs_te5 {p1 n1 : Int} {d1 : Den} {out : Out} (hS : RSN T o B L 0 b p n (.inr (p1, n1, d1))) (hL : RSL T o B L 1 b p1 n1 d1 out) : RSN T o B L 2 b p n out := by
  intro Q t c P q hr hc k
  refine hS Q t c P q hr ⟨Int.lt_of_lt_of_le hc.1 (by decide), fun z => absurd z (by decide)⟩ fun c2 f2 hO2 hE _ => ?_
  refine hL Q t c2 P q n (OPS.lo hO2 (by decide)) hO2.le (fun z => absurd z (by decide)) (fun z => absurd z (by decide)) (fun z => absurd z (by decide)) ⟨hc.1, fun z => absurd z (by decide)⟩ ?_
  rcases out with f | ⟨p', n', d'⟩
  · exact fun c3 x' f3 g3 => k c3 x' (f2.1.trans f3) g3
  · exact fun c3 f3 hO3 hE3 ht3 => k c3 (f2.trans f3 (Int.le_refl _)) hO3 ⟨fun _ => hE3.1 (.inl rfl), fun z => absurd z (by decide), fun z => absurd z (by decide), fun z => absurd z (by decide)⟩ fun z => absurd z (by decide)
end TES
section SUS
variable {T : List Shp} {o : Int} {B : Int → Int} {L b p n : Int}
theorem rs_su2 {dd f : Int} {d : Den} (h0 : isg B L p 43 ∧ dd = 2 ∨ isg B L p 45 ∧ dd = 3) (hS : RSN T o B L 2 b (nx B L p) n (.inl f)) : RSL T o B L 3 b p n d (.inl f) := by
  intro Q t c P q n0 hO hn _ _ _ hc k
  have hb : bnd (dd + 18) = 5 := by rcases h0 with ⟨_, e⟩ | ⟨_, e⟩ <;> rw [e] <;> rfl
  refine r_opStep (Q := Q) (t := t) hO hc.1 hb (h0.elim .inl fun z => .inr (.inl z)) fun c' q' kk f1 st hr hk hq => ?_
  exact hx_part st.b0 (hS Q t c' _ q' st ⟨by show bnd (dd + 18) < lmm 2; rw [hb]; decide, fun z => absurd z (by decide)⟩ fun c2 x' f2 g2 => k c2 x' (f1.1.trans f2) g2)
theorem rs_su3 {dd p1 n1 : Int} {d d1 : Den} {out : Out} (h0 : isg B L p 43 ∧ dd = 2 ∨ isg B L p 45 ∧ dd = 3) (hS : RSN T o B L 2 b (nx B L p) n (.inr (p1, n1, d1))) (hL : RSL T o B L 3 b p1 n1 (dbin dd d d1) out) : RSL T o B L 3 b p n d out := by
  intro Q t c P q n0 hO hn _ _ _ hc k
  have hb : bnd (dd + 18) = 5 := by rcases h0 with ⟨_, e⟩ | ⟨_, e⟩ <;> rw [e] <;> rfl
  have hd : 2 ≤ dd ∧ dd ≤ 8 := by rcases h0 with ⟨_, e⟩ | ⟨_, e⟩ <;> omega
  refine r_opStep (Q := Q) (t := t) hO hc.1 hb (h0.elim .inl fun z => .inr (.inl z)) fun c' q' kk f1 st hr hk hq => ?_
  refine hx_part st.b0 (hS Q t c' _ q' st ⟨by show bnd (dd + 18) < lmm 2; rw [hb]; decide, fun z => absurd z (by decide)⟩ fun c2 f2 hO2 hE _ => ?_)
  have lt := hr.lt
  have f12 := f1.trans f2 (show q ≤ q' by omega)
  have J : OPS 5 c2 o B L p1 n0 n1 b q P (dbin dd d d1) := hO2.join (by decide) ⟨by rw [hb]; decide, by show dd + 18 < 30; omega⟩ (one_bin hd (hr.mv fun j a b => f2.2 j b)) hk hq
  refine hL Q t c2 P q n0 J J.le (fun _ => hE) (fun z => absurd z (by decide)) (fun z => absurd z (by decide)) hc ?_
  rcases out with f | ⟨p', n', d'⟩
  · exact fun c3 x' f3 g3 => k c3 x' (f12.1.trans f3) g3
  · exact fun c3 f3 hO3 hE3 ht3 => k c3 (f12.trans f3 (Int.le_refl _)) hO3 hE3 ht3
theorem rs_su1 {d : Den} (h0 : ¬ isg B L p 43) (h1 : ¬ isg B L p 45) : RSL T o B L 3 b p n d (.inr (p, n, d)) := by
  intro Q t c P q n0 hO hn hE _ _ hc k
  exact k c RFQ.rfl hO ⟨fun _ => (hE rfl).1 (.inr (.inl rfl)), fun _ => ⟨h0, h1⟩, fun z => absurd z (by decide), fun z => absurd z (by decide)⟩ fun z => absurd z (by decide)
theorem rs_su4 {f : Int} (hS : RSN T o B L 2 b p n (.inl f)) : RSN T o B L 4 b p n (.inl f) := by
  intro Q t c P q hr hc k
  exact hS Q t c P q hr ⟨Int.lt_of_lt_of_le hc.1 (by decide), fun z => absurd z (by decide)⟩ k
theorem rs_su5 {p1 n1 : Int} {d1 : Den} {out : Out} (hS : RSN T o B L 2 b p n (.inr (p1, n1, d1))) (hL : RSL T o B L 3 b p1 n1 d1 out) : RSN T o B L 4 b p n out := by
  intro Q t c P q hr hc k
  refine hS Q t c P q hr ⟨Int.lt_of_lt_of_le hc.1 (by decide), fun z => absurd z (by decide)⟩ fun c2 f2 hO2 hE _ => ?_
  refine hL Q t c2 P q n (OPS.lo hO2 (by decide)) hO2.le (fun _ => hE) (fun z => absurd z (by decide)) (fun z => absurd z (by decide)) ⟨hc.1, fun z => absurd z (by decide)⟩ ?_
  rcases out with f | ⟨p', n', d'⟩
  · exact fun c3 x' f3 g3 => k c3 x' (f2.1.trans f3) g3
  · exact fun c3 f3 hO3 hE3 ht3 => k c3 (f2.trans f3 (Int.le_refl _)) hO3 ⟨fun _ => hE3.1 (.inr (.inr (.inl rfl))), fun _ => hE3.2.1 (.inl rfl), fun z => absurd z (by decide), fun z => absurd z (by decide)⟩ fun z => absurd z (by decide)
end SUS

/-! THE REFERENCE READS: a law's clauses -/
theorem EST.cong {c c' : Cm} {o : Int} {B : Int → Int} {L p n q : Int} (h : EST c o B L p n q) (e : ∀ j, (9 ≤ j ∧ j ≤ 16) ∨ j = 19 ∨ j = 22 → c' 77 j = c 77 j) (e83 : c' 83 = c 83) (e89 : c' 89 = c 89) (e90 : c' 90 = c 90) (e91 : c' 91 = c 91) : EST c' o B L p n q := by
  obtain ⟨h1, h2, h3, h4, h5, h6, h7, h8⟩ := h
  exact ⟨h1.cong (fun j a b => e j (by omega)) e83, h2.cong e89 e90 e91, (e 16 (by omega)).trans h3, (e 22 (by omega)).trans h4, (e 19 (by omega)).trans h5, ⟨(e 15 (by omega)).trans h6.1, (e 14 (by omega)).trans h6.2⟩, h7, h8⟩
theorem EST.next {c c' : Cm} {o : Int} {B : Int → Int} {L p n q : Int} (h : EST c o B L p n q) (f : Fr NXR c c') (e : ER c' B L (nx B L p)) : EST c' o B L (nx B L p) n q := by
  obtain ⟨h1, h2, h3, h4, h5, h6, h7, h8⟩ := h
  have g : ∀ j, 14 ≤ j → c' 77 j = c 77 j := fun j a => f 77 j (by unfold NXR; omega)
  have nb := nx_bd (B := B) h1.pL.2.1
  exact ⟨e, h2.nxr (f.mono fun q j a => a.rxa), (g 16 (by decide)).trans h3, (g 22 (by decide)).trans h4, (g 19 (by decide)).trans h5, ⟨(g 15 (by decide)).trans h6.1, (g 14 (by decide)).trans h6.2⟩, by omega, h8⟩
theorem rows_mv {c c' : Cm} {o k q q' : Int} {F : List Orc} (h : ∀ (i : Nat) (z : Orc), F[i]? = some z → ZRx c o i q z) (hF : (F.length : Int) = k) (hw : ∀ j, j < rwid o * k → c' (rcel o) j = c (rcel o) j) (hs : ∀ j, j < q → c' 85 j = c 85 j ∧ c' 86 j = c 86 j) (hq : q ≤ q') : ∀ (i : Nat) (z : Orc), F[i]? = some z → ZRx c' o i q' z := by
  intro i z hz
  have il : i < F.length := by
    by_cases e : i < F.length
    · exact e
    · rw [List.getElem?_eq_none (by omega)] at hz; exact absurd hz (by simp)
  exact (h i z hz).mv (by omega) hw hs hq
theorem rows_push {c : Cm} {o k q : Int} {F : List Orc} {z : Orc} (h : ∀ (i : Nat) (z : Orc), F[i]? = some z → ZRx c o i q z) (hF : (F.length : Int) = k) (hz : ZRx c o k q z) : ∀ (i : Nat) (w : Orc), (F ++ [z])[i]? = some w → ZRx c o i q w := by
  intro i w hw
  by_cases e : i < F.length
  · rw [List.getElem?_append_left e] at hw
    exact h i w hw
  · rw [List.getElem?_append_right (by omega)] at hw
    by_cases e2 : i = F.length
    · rw [show i - F.length = 0 from by omega] at hw
      have : z = w := Option.some.inj hw
      rw [← this, e2, hF]
      exact hz
    · rw [List.getElem?_eq_none (by show 1 ≤ i - F.length; omega)] at hw
      exact absurd hw (by simp)
noncomputable def HL (T : List Shp) (c : Cm) : Res := cev 244 9 37 [vR 78, vU, vU] [] (SH T, c)
noncomputable def E3L (T : List Shp) (k : Int) (c : Cm) : Res := cev 241 8 135 [vR 78, vU, vI (8 * k), vU] [] (SH T, c)
def ZL (c : Cm) (k q : Int) (z : Orc) : Prop := c 84 (8 * k) = z.1 ∧ (match z.2.2.2 with | [] => z.1 = 4 | d :: r => z.1 ≠ 4 ∧ r = [] ∧ PRL 10 (c 85) (c 86) q (c 84 (8 * k + 3)) q d)
def YL (T : List Shp) (B : Int → Int) (L : Int) : GY := YR T 0 B L 241 (HL T) (fun _ _ => none) (E3L T) ZL
theorem ws_injWS0 : ∀ i : Nat, i < 5 → ∀ j : Nat, j < 5 → WS0.getD i 0 = WS0.getD j 0 → i = j := by decide
theorem r_clauseHead {T : List Shp} {Q : Res → Prop} {c : Cm} {B : Int → Int} {L p : Int} (h : ER c B L p) (hk : KW c) (k0 : tkw B L p WS0 = -1 ∨ ¬ c 77 17 < 12 → Q (cev 241 8 54 [vR 78, vI (tkw B L p WS0), vU, vU] [vI 0, vR 78] (SH T, c))) (k1 : ¬ tkw B L p WS0 = -1 → c 77 17 < 12 → Q (cev 241 8 54 [vR 78, vI (tkw B L p WS0), vU, vU] [vI 1, vR 78] (SH T, c))) : Q (ccal 241 [vR 78] (SH T, c)) := by
  have hw := hk.2.2
  refine W_X12_readClause ?_
  refine lpI (Q := Q) (E := fun i (s : Int) => cev 241 8 4 [vR 78, vI s, vI i, vU] [] (SH T, c)) (fun i s => (0 ≤ i ∧ i ≤ 5) ∧ ((s = -1 ∧ ∀ j : Nat, (j : Int) < i → ¬ isw B L p (WS0.getD j 0)) ∨ ∃ j : Nat, (j : Int) < i ∧ s = j ∧ isw B L p (WS0.getD j 0))) 5 ?_ ?_ 0 (-1) ⟨by omega, .inl ⟨rfl, fun j a => absurd a (by omega)⟩⟩
  · rintro i s hi ⟨ib, hs⟩ ih
    obtain ⟨m, rfl⟩ := Int.eq_ofNat_of_zero_le ib.1
    refine W_X12_readClause_4 ⟨fun _ => ⟨by omega, ?_⟩, fun z => absurd hi z⟩
    rw [hw m (by omega) hi, h.w, Int.toNat_natCast]
    refine ⟨fun e => ⟨by omega, ih _ ⟨by omega, .inr ⟨m, by omega, rfl, e⟩⟩⟩, fun e => ⟨by omega, ih _ ⟨by omega, ?_⟩⟩⟩
    rcases hs with ⟨s1, hs⟩ | ⟨j, h1, h2, h3⟩
    · refine .inl ⟨s1, fun j a => ?_⟩
      by_cases ej : j = m
      · rw [ej]; exact e
      · exact hs j (by omega)
    · exact .inr ⟨j, by omega, h2, h3⟩
  · rintro i s hi ⟨ib, hs⟩
    have : s = tkw B L p WS0 := by
      unfold tkw
      by_cases e : kd B L p = 0
      · rw [if_pos e]
        rcases wix_spec WS0 (wo B L p) 0 with ⟨w1, w2⟩ | ⟨j, w1, w2, w3⟩
        · rw [w1]
          rcases hs with ⟨s1, _⟩ | ⟨j, h1, h2, h3⟩
          · exact s1
          · exact absurd h3.2 (w2 j (by show j < 5; omega))
        · rw [w2]
          have w1' : j < 5 := w1
          rcases hs with ⟨s1, hs⟩ | ⟨j2, h1, h2, h3⟩
          · exact absurd ⟨e, w3⟩ (hs j (by omega))
          · have := ws_injWS0 j2 (by omega) j w1' (h3.2.symm.trans w3)
            omega
      · rw [if_neg e]
        rcases hs with ⟨s1, _⟩ | ⟨j, h1, h2, h3⟩
        · exact s1
        · exact absurd h3.1 e
    rw [this]
    exact W_X12_readClause_4 ⟨fun z => absurd z (by omega), fun _ => ⟨fun z => k0 (.inl z), fun z => ⟨fun w => k1 z w, fun w => k0 (.inr w)⟩⟩⟩
section LAS
variable {T : List Shp} {B : Int → Int} {L k p n : Int} {F : List Orc}
theorem yl_bad (h : tkw B L p WS0 = -1 ∨ ¬ k < 12) : YL T B L 0 k p n F zo (.inl p) := by
  intro Q K hh c q hl kk
  obtain ⟨h1, h2, h3, h4, h5⟩ := hl
  have hb := h1.2.2.2.2.2.1
  have k54 : QV T (fun c2 => Q (HL T c2)) (cev 241 8 54 [vR 78, vI (tkw B L p WS0), vU, vU] [vI 0, vR 78] (SH T, c)) := by
    refine W_X12_readClause_54 ((r_mustF h1.1 hb.1).mono fun c1 g1 => ?_)
    have g15 : c1 77 15 = 1 := by rw [g1, up_ne (by decide), up_same]
    refine ⟨fun z => absurd (g15.symm.trans z) (by decide), fun _ => QV.ret (hd_bad hh kk ?_ g15 (by rw [g1, up_same]))⟩
    rw [g1]
    exact (Fr.rfl.wr (by unfold LXB RXA; omega)).wr (by unfold LXB RXA; omega)
  exact r_clauseHead h1.1 h1.2.1 (fun _ => k54) fun e1 e2 => absurd h (by omega)
/-- the head is read -/
theorem yl_head {Q : Res → Prop} {c : Cm} {q : Int} (hl : LSt c 0 B L k p n q F) (hk : k < 12) (e : ¬ tkw B L p WS0 = -1) (kk : ∀ c', Fr LXB c c' → LSu c' 0 B L k (nx B L p) n q F → c' 84 (8 * k) = tkw B L p WS0 → c' 84 (8 * k + 3) = q → (tkw B L p WS0 = 4 → QV T (fun c2 => Q (HL T c2)) (E3L T k c')) ∧ (¬ tkw B L p WS0 = 4 → QV T (fun c1 => QV T (fun c2 => Q (HL T c2)) (E3L T k c1)) (ccal 240 [vR 78, vI 0] (SH T, c')))) : QV T (fun c2 => Q (HL T c2)) (ccal 241 [vR 78] (SH T, c)) := by
  obtain ⟨h1, h2, h3, h4, h5⟩ := hl
  have hb := h1.2.2.2.2.2.1
  refine r_clauseHead (Q := QV T _) h1.1 h1.2.1 (fun z => absurd z (by omega)) fun _ _ => ?_
  refine W_X12_readClause_54 ((r_mustT h1.1 hb.1 (by decide)).mono fun c1 g1 => ?_)
  have h1' := h1.next g1.1 g1.2
  have g17 : c1 77 17 = k := (g1.1 77 17 (by unfold NXR; omega)).trans h2
  have f1 : Fr LXB c c1 := g1.1.mono fun q j a => a.rxa.lxb
  have rows1 := rows_mv (c' := c1) (k := k) (q' := q) h5 h3 (fun j _ => g1.1 84 j (by unfold NXR; omega)) (fun j _ => ⟨g1.1 85 j (by unfold NXR; omega), g1.1 86 j (by unfold NXR; omega)⟩) (Int.le_refl _)
  rw [g17]
  refine ⟨fun _ => ⟨by omega, ?_⟩, fun z => absurd h1'.2.2.2.2.2.1.1 z⟩
  refine lpI (Q := QV T _) (E := fun i (s : Cm) => cev 241 8 75 [vR 78, vI (tkw B L p WS0), vI (8 * k), vI i] [] (SH T, s)) (fun i s => (0 ≤ i ∧ i ≤ 8) ∧ (∀ q j, ¬ (q = 84 ∧ 8 * k ≤ j) → s q j = c1 q j)) 8 ?_ ?_ 0 c1 ⟨by omega, fun _ _ _ => rfl⟩
  · rintro i s hi ⟨ib, f⟩ ih
    refine W_X12_readClause_75 ⟨fun _ => ⟨by omega, ih _ ⟨by omega, fun q j hn => ?_⟩⟩, fun z => absurd hi z⟩
    by_cases e84 : q = 84
    · subst e84
      rw [up_ne (by omega)]
      exact f 84 j hn
    · rw [up_cell e84]
      exact f q j hn
  · rintro i s hi ⟨ib, f⟩
    have s17 : s 77 17 = k := (f 77 17 (by omega)).trans g17
    have s19 : s 77 19 = q := (f 77 19 (by omega)).trans h1'.2.2.2.2.1
    refine W_X12_readClause_75 ⟨fun z => absurd z (by omega), fun _ => ⟨by rw [s17]; omega, ?_⟩⟩
    rw [s17]
    have e19 : up (up s 84 (8 * k) (tkw B L p WS0)) 77 17 (k + 1) 77 19 = q := by rw [up_ne (by decide), up_cell (by decide)]; exact s19
    rw [s19]
    have key := kk (up (up (up s 84 (8 * k) (tkw B L p WS0)) 77 17 (k + 1)) 84 (8 * k + 3) q) ?_ ?_ ?_ ?_
    · exact ⟨fun z => key.1 z, fun z => key.2 z⟩
    · refine Fr.trans f1 ?_
      refine ((Fr.wr (A := LXB) (c' := s) ?_ (by unfold LXB; omega)).wr (by unfold LXB; omega)).wr (by unfold LXB; omega)
      intro q j hn
      exact f q j fun z => hn (by unfold LXB; omega)
    · have w77 : ∀ j, ¬ j = 17 → up (up (up s 84 (8 * k) (tkw B L p WS0)) 77 17 (k + 1)) 84 (8 * k + 3) q 77 j = c1 77 j := fun j a => by rw [up_cell (by decide), up_ne a, up_cell (by decide)]; exact f 77 j (by omega)
      have wq : ∀ i : Nat, ¬ i = 77 → ¬ i = 84 → up (up (up s 84 (8 * k) (tkw B L p WS0)) 77 17 (k + 1)) 84 (8 * k + 3) q i = c1 i := fun i a b => by
        rw [up_cell b, up_cell a, up_cell b]
        funext j
        exact f i j (by omega)
      refine ⟨h1'.cong (fun j a => w77 j (by omega)) (wq 83 (by decide) (by decide)) (wq 89 (by decide) (by decide)) (wq 90 (by decide) (by decide)) (wq 91 (by decide) (by decide)), ?_, h3, hk, ?_⟩
      · rw [up_cell (by decide), up_same]
      · refine rows_mv rows1 h3 (fun j a => ?_) (fun j _ => ⟨congrFun (wq 85 (by decide) (by decide)) j, congrFun (wq 86 (by decide) (by decide)) j⟩) (Int.le_refl _)
        have a' : j < 8 * k := a
        show up (up (up s 84 (8 * k) (tkw B L p WS0)) 77 17 (k + 1)) 84 (8 * k + 3) q 84 j = c1 84 j
        rw [up_ne (by omega), up_cell (by decide), up_ne (by omega)]
        exact f 84 j (by omega)
    · rw [up_ne (by omega), up_cell (by decide), up_same]
    · rw [up_same]
theorem yl_la2 {out : Ou2} (hk : k < 12) (e : tkw B L p WS0 = 4) (hY : YL T B L 3 k (nx B L p) n F (4, 1, none, []) out) : YL T B L 0 k p n F zo out := by
  intro Q K hh c q hl kk
  refine yl_head hl hk (by omega) fun c' f l3 r0 r3 => ⟨fun _ => ?_, fun z => absurd e z⟩
  exact hY Q K hh c' q l3 rfl ⟨r0.trans e, rfl⟩ (fun z => absurd rfl z) (kk.fr f)
theorem yl_la3 {h f : Int} (hk : k < 12) (e : tkw B L p WS0 = h) (e1 : ¬ h = -1) (e4 : ¬ h = 4) (hX : RSN T 0 B L 4 0 (nx B L p) n (.inl f)) : YL T B L 0 k p n F zo (.inl f) := by
  intro Q K hh c q hl kk
  refine yl_head hl hk (by omega) fun c' f' l3 r0 r3 => ⟨fun z => absurd z (by omega), fun _ => ?_⟩
  refine (r_expr0 l3.1 hX).mono fun c1 g => ?_
  have fb : Fr LXB c c1 := f'.trans (g.1.mono fun q j a => a.lxb)
  have b4 := l3.2.2.1
  refine W_X12_readClause_135 (Q := QV T _) ⟨by have := l3.2.2.2.1; omega, fun z => absurd (g.2.1.symm.trans z) (by decide), fun _ => ⟨by have := l3.2.2.2.1; omega, QV.ret (hd_bad hh kk (((fb.wr (by unfold LXB; omega)).wr (by unfold LXB; omega)).wr (by unfold LXB; omega)) ?_ ?_)⟩⟩
  · rw [up_cell (by decide), up_cell (by decide), up_cell (by decide)]; exact g.2.1
  · rw [up_cell (by decide), up_cell (by decide), up_cell (by decide)]; exact g.2.2
theorem yl_la4 {h p1 n1 : Int} {d : Den} {out : Ou2} (hk : k < 12) (e : tkw B L p WS0 = h) (e1 : ¬ h = -1) (e4 : ¬ h = 4) (hX : RSN T 0 B L 4 0 (nx B L p) n (.inr (p1, n1, d))) (hY : YL T B L 3 k p1 n1 F (h, 1, none, [d]) out) : YL T B L 0 k p n F zo out := by
  intro Q K hh c q hl kk
  refine yl_head hl hk (by omega) fun c' f' l3 r0 r3 => ⟨fun z => absurd z (by omega), fun _ => ?_⟩
  refine (r_expr0 l3.1 hX).mono fun c1 g => ?_
  obtain ⟨f1, es, kk1, hr, hkk⟩ := g
  have q0 := l3.1.2.2.2.2.2.2
  have q1 := es.2.2.2.2.2.2
  have lt := hr.lt
  have w : ∀ (i : Nat) (j : Int), ¬ RXA i j → c1 i j = c' i j := fun i j a => f1.1 i j a
  have e84 : c1 84 = c' 84 := f1.1.cell (q := 84) (by intro j; unfold RXA; omega)
  refine hY Q K hh c1 (c1 77 19) ⟨es, (w 77 17 (by unfold RXA; omega)).trans l3.2.1, l3.2.2.1, hk, rows_mv l3.2.2.2.2 l3.2.2.1 (fun j _ => congrFun e84 j) (fun j a => f1.2 j a) (by omega)⟩ rfl ⟨by rw [e84, r0]; exact e, e4, rfl, ?_⟩ (fun z => absurd rfl z) (kk.fr (f'.trans (f1.1.mono fun q j a => a.lxb)))
  rw [e84, r3]
  exact ⟨kk1, hr, q0.1.1, Int.le_refl _, by omega⟩
end LAS

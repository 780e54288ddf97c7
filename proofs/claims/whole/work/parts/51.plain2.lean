/-! THE CLASS READS: a test's smallest part -/
/-- a sign is asked for where the text went wrong -/
theorem c_isSignW {T : List Shp} {c : Cm} {x : Int} (h : c 48 1 ≤ 400) (h5 : 0 ≤ c 48 5) : QI T (fun r c' => c = c') (ccal 57 [vR 49, vI x] (SH T, c)) := by
  refine W_X6_isSign (Q := QI T _) ⟨fun e => ⟨fun e2 => ⟨by omega, fun _ => QI.ret rfl, fun _ => QI.ret rfl⟩, fun _ => QI.ret rfl⟩, fun _ => QI.ret rfl⟩
/-- behind a sum that went on: the sign -/
theorem c_pl117 {T : List Shp} {X : GX} {o : Int} {B : Int → Int} {L b p p0 n q t y p1 n1 : Int} {d1 : Den} {c s : Cm} (hX : GRr o B L X) (hq : 0 ≤ q ∧ q ≤ p + 48) (hn : 0 ≤ n) (hb : 0 ≤ b ∧ b ≤ 8) (h3 : c 48 3 = o) (ht : t = 0 ∧ p ≤ p0 ∨ t = 1 ∧ p < p0) (fs : Fr RDA c s) (hs : CPO c B L (NWx o) p0 n q (.inr (p1, n1, d1)) 1 s) (hp0 : ¬ isw B L p0 14836) (hp1 : ¬ isg B L p0 40) (x1 : X 4 b p0 n dz (.inr (p1, n1, d1))) (hy : (isg B L p1 60 ∧ y = 6) ∨ (¬ isg B L p1 60 ∧ isg B L p1 62 ∧ y = 7) ∨ (¬ isg B L p1 60 ∧ ¬ isg B L p1 62 ∧ y = 8)) (hd : ∀ out out', X 5 b p0 n dz out → (t = 0 → out' = out) → (t = 1 → out' = odn out) → X 5 b p n dz out') : CRT T X o B L 5 b p n q c (cev 52 (10 + 10 * (9 - b).toNat) 117 [vR 49, vI b, vI t, vI 1, vU] [vI y] (SH T, s)) := by
  have es := hs.2.1
  have pL := es.pL
  have nn := hs.2.2.2.2.1
  have qq := hs.2.2.2.2.2.1
  have l450 : 0 ≤ s 11 3 ∧ s 11 3 ≤ 450 := by omega
  unfold CRT
  refine W_X6_readPlain_117 ⟨fun z => absurd z (by decide), fun _ => ⟨by omega, (c_takes (x := 60) es).mono fun r1 s1 h1 => ?_⟩⟩
  by_cases e1 : isg B L p1 60
  · obtain ⟨r1', f1, g1⟩ := h1.1 e1
    have y6 : y = 6 := by rcases hy with h | h | h; exact h.2; exact absurd e1 h.1; exact absurd e1 h.1
    subst y6
    exact ⟨fun z => by omega, fun _ => c_pl150 hX hq hn hb h3 ht fs hs f1 g1 hp0 hp1 x1 (.inl ⟨e1, rfl⟩) hd⟩
  · obtain ⟨r1', rfl⟩ := h1.2 e1
    refine ⟨fun _ => ⟨by omega, (c_takes (x := 62) es).mono fun r3 s3 h4 => ?_⟩, fun z => absurd r1' z⟩
    by_cases e2 : isg B L p1 62
    · obtain ⟨r3', f1, g1⟩ := h4.1 e2
      have y7 : y = 7 := by rcases hy with h | h | h; exact absurd h.1 e1; exact h.2.2; exact absurd e2 h.2.1
      subst y7
      exact ⟨fun z => by omega, fun _ => c_pl150 hX hq hn hb h3 ht fs hs f1 g1 hp0 hp1 x1 (.inr (.inl ⟨e2, rfl⟩)) hd⟩
    · obtain ⟨r3', rfl⟩ := h4.2 e2
      have y8 : y = 8 := by rcases hy with h | h | h; exact absurd h.1 e1; exact absurd h.2.1 e2; exact h.2.2
      subst y8
      refine ⟨fun _ => ⟨by omega, (c_takes (x := 61) es).mono fun r5 s5 h6 => ?_⟩, fun z => absurd r3' z⟩
      by_cases e3 : isg B L p1 61
      · obtain ⟨r5', f1, g1⟩ := h6.1 e3
        exact ⟨fun z => by omega, fun _ => c_pl150 hX hq hn hb h3 ht fs hs f1 g1 hp0 hp1 x1 (.inr (.inr ⟨e3, rfl⟩)) hd⟩
      · obtain ⟨r5', rfl⟩ := h6.2 e3
        exact ⟨fun _ => c_plFail (p0 := p0) hq hb (by omega) ht fs es.2.2.2.2.2.1 l450 pL.1 (fun out' a b' => hd _ out' (hX.pl8 hp0 hp1 x1 e1 e2 e3) a b'), fun z => absurd r5' z⟩
theorem c_pl36 {T : List Shp} {X : GX} {o : Int} {B : Int → Int} {L b p p0 n q t : Int} {c s : Cm} (hX : GRr o B L X) (H : CRH s B L o b p0 n q) (f : Fr NXA c s) (hq : 0 ≤ q ∧ q ≤ p + 48) (hp0 : ¬ isw B L p0 14836) (ht : t = 0 ∧ p ≤ p0 ∨ t = 1 ∧ p < p0) (htest : b < 8 → ∀ c' p' n' q', CRH c' B L o (b + 1) p' n' q' → CRT T X o B L 9 (b + 1) p' n' q' c' (ccal 50 [vR 49, vI (b + 1)] (SH T, c'))) (hd : ∀ out out', X 5 b p0 n dz out → (t = 0 → out' = out) → (t = 1 → out' = odn out) → X 5 b p n dz out') : CRT T X o B L 5 b p n q c (cev 52 (10 + 10 * (9 - b).toNat) 36 [vR 49, vI b, vI t, vU, vU] [] (SH T, s)) := by
  have hh := H
  obtain ⟨h1, h2, h3, h4, h5, h6, h7⟩ := H
  have pL := h1.pL
  have fs : Fr RDA c s := f.mono fun q j a => a.rda
  have e3 : c 48 3 = o := (NXA.keep f).1.symm.trans h2
  have t5 := h1.2.2.2.2.2.1
  have l450 : 0 ≤ s 11 3 ∧ s 11 3 ≤ 450 := by omega
  unfold CRT
  refine W_X6_readPlain_36 ⟨by omega, (c_isSign (x := 40) h1).mono fun r1 c2 hc => ?_⟩
  obtain ⟨rfl, k1, k0⟩ := hc
  by_cases e40 : isg B L p0 40
  · refine ⟨fun z => absurd (k1 e40) (by omega), fun _ => ⟨by omega, (c_opens (b := b) h1).mono fun r9 c10 hc => ?_⟩⟩
    by_cases eb : b < 8
    · obtain ⟨rfl, f6, e6⟩ := hc.1 eb
      refine ⟨fun z => absurd z (by decide), fun _ => ⟨by omega, (htest eb c10 (nx B L p0) n q ((hh.next f6 e6).br eb)).mono fun r11 c12 hc => ?_⟩⟩
      obtain ⟨f8, out, x8, q8, td⟩ := hc
      have f08 : Fr RDA c c12 := fs.trans ((f6.mono fun q j a => a.rda).trans f8)
      have q9 := (CPO.pre q8 f6 pL.2.1).fr f
      rcases out with g | ⟨p1, n1, d⟩
      · have r0 := q8.1
        subst r0
        exact ⟨fun _ => c_pl174 hq ht f08 q9 trivial (fun out' a b' => hd _ out' (hX.pl4 e40 eb x8) a b'), fun z => absurd rfl z⟩
      · have r7 := q8.1
        refine ⟨fun z => by omega, fun _ => ⟨by omega, (c_takes (x := 41) q8.2.1).mono fun r13 c14 hc => ?_⟩⟩
        by_cases e41 : isg B L p1 41
        · obtain ⟨r9', f10, e10⟩ := hc.1 e41
          rw [r7] at q9
          exact ⟨fun z => by omega, fun _ => c_pl174 hq ht (f08.trans (f10.mono fun q j a => a.rda)) (q9.next f10 e10) td (fun out' a b' => hd _ out' (hX.pl6 e40 eb x8 e41) a b')⟩
        · obtain ⟨r9', rfl⟩ := hc.2 e41
          have q83 := q8.2.2.2.2.2.1
          have q8p := q8.2.1.pL
          have nb := nx_bd (B := B) pL.2.1
          exact ⟨fun _ => c_pl174 (out := .inl p1) hq ht f08 ⟨rfl, q8.2.1.2.2.2.2.2.1, by omega, q8p.1⟩ trivial (fun out' a b' => hd _ out' (hX.pl5 e40 eb x8 e41) a b'), fun z => absurd r9' z⟩
    · obtain ⟨rfl, rfl⟩ := hc.2 eb
      exact ⟨fun _ => c_pl174 (out := .inl p0) hq ht fs ⟨rfl, t5, l450, pL.1⟩ trivial (fun out' a b' => hd _ out' (hX.pl3 e40 eb) a b'), fun z => absurd rfl z⟩
  · refine ⟨fun _ => ⟨by omega, (c_sums hX 8 b _ _ _ s (by omega) hh).mono fun r3 c4 hc => ⟨by omega, ?_⟩⟩, fun z => absurd (k0 e40) z⟩
    obtain ⟨f4, out, x4, q4⟩ := hc
    have f04 := fs.trans f4
    rcases out with g | ⟨p1, n1, d⟩
    · obtain ⟨r0, e5, l5, l6⟩ := q4
      subst r0
      have e1 : c4 48 1 ≤ 400 := by
        have := f4 48 1 (by unfold RDA; omega)
        have := h1.1
        omega
      have fail : ∀ y, 0 ≤ y ∧ y < 16 → QI T (fun r c' => Fr RDA c c' ∧ ∃ out, X 5 b p n dz out ∧ CPO c B L (NWx o) p n q out r c' ∧ TDO out) (cev 52 (10 + 10 * (9 - b).toNat) 117 [vR 49, vI b, vI t, vI 0, vU] [vI y] (SH T, c4)) := fun y hy => W_X6_readPlain_117 ⟨fun _ => c_plFail (p0 := p0) hq h7 hy ht f04 e5 l5 l6 (fun out' a b' => hd _ out' (hX.pl7 hp0 e40 x4) a b'), fun z => absurd rfl z⟩
      refine (c_isSignW (x := 60) e1 (by omega)).mono fun r5 c6 hc => ?_
      subst hc
      refine ⟨fun _ => ⟨by omega, (c_isSignW (x := 62) e1 (by omega)).mono fun r7 c8 hc => ?_⟩, fun _ => fail 6 (by decide)⟩
      subst hc
      exact ⟨fun _ => fail 8 (by decide), fun _ => fail 7 (by decide)⟩
    · have r3' := q4.1
      have es := q4.2.1
      have q4' := q4.fr f
      subst r3'
      refine (c_isSign (x := 60) es).mono fun r5 c6 hc => ?_
      obtain ⟨rfl, k5, k6⟩ := hc
      by_cases e60 : isg B L p1 60
      · exact ⟨fun z => absurd (k5 e60) (by omega), fun _ => c_pl117 hX hq h4.1 h7 e3 ht f04 q4' hp0 e40 x4 (.inl ⟨e60, rfl⟩) hd⟩
      · refine ⟨fun _ => ⟨by omega, (c_isSign (x := 62) es).mono fun r7 c8 hc => ?_⟩, fun z => absurd (k6 e60) z⟩
        obtain ⟨rfl, k7, k8⟩ := hc
        by_cases e62 : isg B L p1 62
        · exact ⟨fun z => absurd (k7 e62) (by omega), fun _ => c_pl117 hX hq h4.1 h7 e3 ht f04 q4' hp0 e40 x4 (.inr (.inl ⟨e60, e62, rfl⟩)) hd⟩
        · exact ⟨fun _ => c_pl117 hX hq h4.1 h7 e3 ht f04 q4' hp0 e40 x4 (.inr (.inr ⟨e60, e62, rfl⟩)) hd, fun z => absurd (k8 e62) z⟩
theorem CRH.same {c c' : Cm} {B : Int → Int} {L o b p p' n q : Int} (h : CRH c B L o b p n q) (f : Fr NXA c c') (e : EC c' B L p') (hp : p ≤ p') : CRH c' B L o b p' n q := by
  obtain ⟨h1, h2, h3, h4, h5, h6, h7⟩ := h
  have k := NXA.keep f
  exact ⟨e, k.1.trans h2, k.2.1.trans h3, h4, (congrFun k.2.2.1 3).trans h5, by omega, h7⟩
theorem c_readPlain {T : List Shp} {X : GX} {o : Int} {B : Int → Int} {L b p n q : Int} {c : Cm} (hX : GRr o B L X) (H : CRH c B L o b p n q) (htest : b < 8 → ∀ c' p' n' q', CRH c' B L o (b + 1) p' n' q' → CRT T X o B L 9 (b + 1) p' n' q' c' (ccal 50 [vR 49, vI (b + 1)] (SH T, c'))) : CRT T X o B L 5 b p n q c (ccal 52 [vR 49, vI b] (SH T, c)) := by
  have hq := H.2.2.2.2.2.1
  have hb := H.2.2.2.2.2.2
  have hp0 := H.1.pL
  refine W_X6_readPlain (Q := fun Z => CRT T X o B L 5 b p n q c Z) ?_
  refine lpI (Q := fun Z => CRT T X o B L 5 b p n q c Z) (E := fun i (s : Cm × Int) => cev 52 (10 + 10 * (9 - b).toNat) 4 [vR 49, vI b, vI s.2, vI i, vU] [] (SH T, s.1)) (fun i s => (0 ≤ i ∧ i ≤ 400) ∧ Fr NXA c s.1 ∧ ∃ p0, EC s.1 B L p0 ∧ i ≤ p0 ∧ (s.2 = 0 ∧ p ≤ p0 ∨ s.2 = 1 ∧ p < p0) ∧ (∀ out out', X 5 b p0 n dz out → (s.2 = 0 → out' = out) → (s.2 = 1 → out' = odn out) → X 5 b p n dz out')) 400 ?_ ?_ 0 (c, 0) ⟨by omega, Fr.rfl, p, H.1, by omega, .inl ⟨rfl, Int.le_refl _⟩, fun out out' h a b' => by rw [a rfl]; exact h⟩
  · rintro i ⟨s, t⟩ hi ⟨ib, f, p0, es, ip, ht, hd⟩ ih
    dsimp only at f es ht hd ⊢
    have pp : p ≤ p0 := by omega
    unfold CRT at *
    refine W_X6_readPlain_4 ⟨fun _ => ⟨by omega, (c_word9 es).mono fun r1 s1 hc => ?_⟩, fun z => absurd hi z⟩
    by_cases e : isw B L p0 14836
    · obtain ⟨r1', f1, e1⟩ := hc.1 e
      have nb := nx_bd (B := B) es.pL.2.1
      have nb2 := nb.2.2 (isw_lt e)
      refine ⟨fun z => by omega, fun _ => ⟨fun t0 => ⟨by omega, ih (s1, 1) ⟨by omega, f.trans f1, nx B L p0, e1, by omega, .inr ⟨rfl, by omega⟩, fun out out' h a b' => ?_⟩⟩, fun t0 => ⟨by omega, ih (s1, 0) ⟨by omega, f.trans f1, nx B L p0, e1, by omega, .inl ⟨rfl, by omega⟩, fun out out' h a b' => ?_⟩⟩⟩⟩
      · rw [b' rfl]
        exact hd (odn out) _ (hX.pl12 e h) (fun _ => rfl) (fun z => by omega)
      · rw [a rfl]
        exact hd (odn out) _ (hX.pl12 e h) (fun z => by omega) (fun _ => odn_odn.symm)
    · obtain ⟨r1', rfl⟩ := hc.2 e
      exact ⟨fun _ => c_pl36 hX (H.same f es pp) f hq e ht htest hd, fun z => absurd r1' z⟩
  · rintro i ⟨s, t⟩ hi ⟨ib, f, p0, es, ip, ht, hd⟩
    dsimp only at f es ht hd ⊢
    have pp : p ≤ p0 := by omega
    have pe := es.pL
    have e : ¬ isw B L p0 14836 := fun z => absurd (isw_lt z) (by omega)
    unfold CRT at *
    exact W_X6_readPlain_4 ⟨fun z => absurd z (by omega), fun _ => c_pl36 hX (H.same f es pp) f hq e ht htest hd⟩

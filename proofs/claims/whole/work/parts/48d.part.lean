/-! THE CLASS READS: a part -/
theorem c_readPart {T : List Shp} {X : GX} {o : Int} {B : Int → Int} {L b p n q : Int} {c : Cm} (hX : GRr o B L X) (h : CRH c B L o b p n q) (hs : b < 8 → ∀ c' p' n' q', CRH c' B L o (b + 1) p' n' q' → CRD T X o B L 4 (b + 1) p' n' q' c' (ccal 53 [vR 49, vI (b + 1)] (SH T, c'))) : CRD T X o B L 0 b p n q c (ccal 55 [vR 49, vI b] (SH T, c)) := by
  have hh := h
  obtain ⟨h1, h2, h3, h4, h5, h6, h7⟩ := h
  have pL := h1.pL
  have t4 := h1.2.2.2.2.1
  have t5 := h1.2.2.2.2.2.1
  have t7 := h1.2.2.2.2.2.2.2
  have l450 : 0 ≤ c 11 3 ∧ c 11 3 ≤ 450 := by omega
  unfold CRD
  refine W_X6_readPart (Q := QI T _) ⟨by omega, (c_isSign (x := 91) h1).mono fun r1 c2 hc => ?_⟩
  obtain ⟨rfl, k1, k0⟩ := hc
  by_cases e91 : isg B L p 91
  · refine ⟨fun z => absurd (k1 e91) (by omega), fun _ => ⟨by omega, (c_opens (b := b) h1).mono fun r5 c6 hc => ?_⟩⟩
    by_cases eb : b < 8
    · obtain ⟨rfl, f6, e6⟩ := hc.1 eb
      refine ⟨fun z => absurd z (by decide), fun _ => ⟨by omega, (hs eb c6 (nx B L p) n q ((hh.next f6 e6).br eb)).mono fun r7 c8 hc => ?_⟩⟩
      obtain ⟨f8, out, x8, q8⟩ := hc
      have f08 : Fr RDA c c8 := (f6.mono fun q j a => a.rda).trans f8
      rcases out with f | ⟨p1, n1, d⟩
      · exact ⟨fun _ => QI.ret ⟨f08, .inl f, hX.pa2 e91 eb x8, rfl, (CPO.pre q8 f6 pL.2.1).2⟩, fun z => absurd q8.1 z⟩
      · have r7 := q8.1
        have q9 := CPO.pre q8 f6 pL.2.1
        refine ⟨fun z => by omega, fun _ => ⟨by omega, (c_takes (x := 93) q8.2.1).mono fun r9 c10 hc => ?_⟩⟩
        by_cases e93 : isg B L p1 93
        · obtain ⟨r9', f10, e10⟩ := hc.1 e93
          rw [r7] at q9
          exact ⟨fun z => by omega, fun _ => QI.ret ⟨f08.trans (f10.mono fun q j a => a.rda), .inr (nx B L p1, n1, d), hX.pa4 e91 eb x8 e93, q9.next f10 e10⟩⟩
        · obtain ⟨r9', rfl⟩ := hc.2 e93
          have q83 := q8.2.2.2.2.2.1
          have q8p := q8.2.1.pL
          have nb := nx_bd (B := B) pL.2.1
          exact ⟨fun _ => QI.ret ⟨f08, .inl p1, hX.pa3 e91 eb x8 e93, rfl, q8.2.1.2.2.2.2.2.1, by omega, q8p.1⟩, fun z => absurd r9' z⟩
    · obtain ⟨rfl, rfl⟩ := hc.2 eb
      exact ⟨fun _ => QI.ret ⟨Fr.rfl, .inl p, hX.pa1 e91 eb, rfl, t5, l450, pL.1⟩, fun z => absurd rfl z⟩
  · refine ⟨fun _ => ⟨fun e => ?_, fun e => ?_⟩, fun z => absurd (k0 e91) z⟩
    · rw [t7, h3]
      have ek : kd B L p = 1 := t4.symm.trans e
      refine ⟨fun e2 => QI.ret ⟨Fr.rfl, .inl p, hX.pa5 ek (.inl e2), rfl, t5, l450, pL.1⟩, fun e2 => ⟨fun e3 => ⟨by omega, ?_⟩, fun e3 => QI.ret ⟨Fr.rfl, .inl p, hX.pa5 ek (.inr e3), rfl, t5, l450, pL.1⟩⟩⟩
      exact c_digitStep hX hh ek e2 e3 (Q := QI T _) (by omega) fun c' f w => QI.ret ⟨f, _, hX.pa6 ek e2 e3, w⟩
    · have ek : ¬ kd B L p = 1 := fun z => e (t4.trans z)
      rw [h2]
      refine ⟨fun e2 => c_words hX hh e91 ek ?_, fun e2 => c_words hX hh e91 ek ?_⟩
      · unfold WSx
        rw [if_pos e2]
        exact c_placeIn11 h1
      · unfold WSx
        rw [if_neg e2]
        exact c_placeIn10 h1

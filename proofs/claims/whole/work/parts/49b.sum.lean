/-! THE CLASS READS: sums -/
/-- su: the loop's step behind a sign -/
theorem c_readSumGo {T : List Shp} {X : GX} {o : Int} {B : Int → Int} {L b p n q i p1 n1 dd : Int} {d1 : Den} {c s : Cm} (hX : GRr o B L X) (hb : 0 ≤ b ∧ b ≤ 8) (hq : 0 ≤ q ∧ q ≤ p + 48) (hn : 0 ≤ n) (h3 : c 48 3 = o) (hsub : ∀ c' p' n' q', CRH c' B L o b p' n' q' → CRD T X o B L 2 b p' n' q' c' (ccal 54 [vR 49, vI b] (SH T, c'))) (hi : 0 ≤ i ∧ i < 400) (fs : Fr RDA c s) (hs : CPO c B L (NWx o) p n q (.inr (p1, n1, d1)) 1 s) (hd : ∀ out, X 3 b p1 n1 d1 out → X 4 b p n dz out) (sel : isg B L p1 43 ∧ dd = 2 ∨ isg B L p1 45 ∧ dd = 3) (ih : ∀ s' p2 n2 d2, Fr RDA c s' → CPO c B L (NWx o) p n q (.inr (p2, n2, d2)) 1 s' → i + 1 ≤ p2 → (∀ out, X 3 b p2 n2 d2 out → X 4 b p n dz out) → CRD T X o B L 4 b p n q c (cev 53 (9 + 10 * (9 - b).toNat) 8 [vR 49, vI b, vI 1, vI (i + 1), vU] [] (SH T, s'))) (hip : i ≤ p1) : CRD T X o B L 4 b p n q c (cev 53 (9 + 10 * (9 - b).toNat) 51 [vR 49, vI b, vU, vI i, vU] [vI dd] (SH T, s)) := by
  have hdd : 2 ≤ dd ∧ dd ≤ 8 := by rcases sel with ⟨_, h⟩ | ⟨_, h⟩ <;> omega
  have plt : p1 < L := by rcases sel with ⟨h, _⟩ | ⟨h, _⟩ <;> exact isg_lt h
  have es := hs.2.1
  have pL := es.pL
  have nb := nx_bd (B := B) pL.2.1
  have nb2 := nb.2.2 plt
  have s38 := hs.2.2.2.1
  have nn := hs.2.2.2.2.1
  have qq := hs.2.2.2.2.2.1
  have hp := hs.2.2.1
  have s33 : s 48 3 = o := (fs 48 3 (by unfold RDA; omega)).trans h3
  have H : CRH s B L o b p1 n1 (s 11 3) := ⟨es, s33, s38, by omega, rfl, by omega, hb⟩
  unfold CRD
  refine W_X6_readSum_51 ⟨by omega, es.next.mono fun s0 h0 => ⟨by omega, (hsub s0 _ _ _ (H.next h0.1 h0.2)).mono fun r2 s2 h2 => ⟨by omega, ?_⟩⟩⟩
  obtain ⟨f2, out, x2, q2⟩ := h2
  have f02 : Fr RDA c s2 := fs.trans ((h0.1.mono fun q j a => a.rda).trans f2)
  rcases out with f | ⟨p2, n2, d2⟩
  · obtain ⟨r2', e5, l5, l6⟩ := q2
    refine (c_add (d := dd) (k := 0) l5.1 (by omega) (by omega)).mono fun s4 h4 => ⟨by omega, ?_⟩
    have fr := add_fr h4 l5
    rw [r2']
    refine W_X6_readSum_8 ⟨fun _ => ⟨.inl rfl, QI.ret ⟨f02.trans fr.1, .inl f, hd _ (hX.su2 sel x2), rfl, ?_, fr.2.1, l6⟩⟩, fun z => absurd rfl z⟩
    rw [fr.2.2.1]
    exact e5
  · have q2r := q2.1
    have q2p := q2.2.1.pL
    have q2l := q2.2.2.2.2.2.1
    have q2m := q2.2.2.1
    have bn := hs.bin h0.1 q2 hdd plt hq.2
    refine (c_add (d := dd) (k := 0) (by omega) (by omega) (by omega)).mono fun s4 h4 => ⟨by omega, ?_⟩
    have fr := add_fr h4 (by omega)
    rw [q2r]
    have e4 := h4.1 bn.1
    rw [← e4] at bn
    exact ih s4 p2 n2 _ (f02.trans fr.1) bn.2 (by omega) fun out hout => hd out (hX.su3 sel x2 hout)
theorem c_readSum {T : List Shp} {X : GX} {o : Int} {B : Int → Int} {L b p n q : Int} {c : Cm} (hX : GRr o B L X) (hsub : ∀ c' p' n' q', CRH c' B L o b p' n' q' → CRD T X o B L 2 b p' n' q' c' (ccal 54 [vR 49, vI b] (SH T, c'))) (h : CRH c B L o b p n q) : CRD T X o B L 4 b p n q c (ccal 53 [vR 49, vI b] (SH T, c)) := by
  have hh := h
  obtain ⟨h1, h2, h3, h4, h5, h6, h7⟩ := h
  have pL0 := h1.pL
  unfold CRD
  refine W_X6_readSum (Q := QI T _) ⟨by omega, (hsub c p n q hh).mono fun r c1 hc => ?_⟩
  obtain ⟨f1, out, x1, q1⟩ := hc
  rcases out with f | ⟨p1, n1, d1⟩
  · obtain ⟨r', e5, l5⟩ := q1
    rw [r']
    exact W_X6_readSum_8 ⟨fun _ => ⟨.inl rfl, QI.ret ⟨f1, .inl f, hX.su4 x1, rfl, e5, l5⟩⟩, fun z => absurd rfl z⟩
  · have r' := q1.1
    rw [r'] at q1 ⊢
    refine lpI (Q := QI T _) (E := fun i (s : Cm) => cev 53 (9 + 10 * (9 - b).toNat) 8 [vR 49, vI b, vI 1, vI i, vU] [] (SH T, s)) (fun i s => (0 ≤ i ∧ i ≤ 400) ∧ Fr RDA c s ∧ ∃ p1 n1 d1, CPO c B L (NWx o) p n q (.inr (p1, n1, d1)) 1 s ∧ i ≤ p1 ∧ (∀ out, X 3 b p1 n1 d1 out → X 4 b p n dz out)) 400 ?_ ?_ 0 c1 ⟨by omega, f1, p1, n1, d1, q1, by have := q1.2.1.pL; omega, fun out hout => hX.su5 x1 hout⟩
    · rintro i s hi ⟨ib, fs, p1, n1, d1, qs, ip, hd⟩ ih
      have go : ∀ dd, (isg B L p1 43 ∧ dd = 2 ∨ isg B L p1 45 ∧ dd = 3) → QI T (fun r c' => Fr RDA c c' ∧ ∃ out, X 4 b p n dz out ∧ CPO c B L (NWx o) p n q out r c') (cev 53 (9 + 10 * (9 - b).toNat) 51 [vR 49, vI b, vU, vI i, vU] [vI dd] (SH T, s)) := fun dd sel => c_readSumGo hX h7 h6 h4.1 h2 hsub (by omega) fs qs hd sel (fun s' p2 n2 d2 a b' c' d' => ih s' ⟨by omega, a, p2, n2, d2, b', c', d'⟩) ip
      have es := qs.2.1
      have k37 : (isg B L p1 43 ∨ isg B L p1 45) → QI T (fun r c' => Fr RDA c c' ∧ ∃ out, X 4 b p n dz out ∧ CPO c B L (NWx o) p n q out r c') (cev 53 (9 + 10 * (9 - b).toNat) 37 [vR 49, vI b, vU, vI i, vU] [] (SH T, s)) := by
        intro sg
        refine W_X6_readSum_37 ⟨by omega, (c_isSign (x := 43) es).mono fun r1 c2 hc => ?_⟩
        obtain ⟨rfl, k1, k0⟩ := hc
        by_cases e : isg B L p1 43
        · exact ⟨fun z => absurd (k1 e) (by omega), fun _ => go 2 (.inl ⟨e, rfl⟩)⟩
        · exact ⟨fun _ => go 3 (.inr ⟨sg.resolve_left e, rfl⟩), fun z => absurd (k0 e) z⟩
      refine W_X6_readSum_8 ⟨fun z => absurd z (by decide), fun _ => ⟨fun _ => ⟨by omega, (c_isSign (x := 43) es).mono fun r1 c2 hc => ?_⟩, fun z => absurd hi z⟩⟩
      obtain ⟨rfl, k1, k0⟩ := hc
      by_cases e : isg B L p1 43
      · exact ⟨fun z => absurd (k1 e) (by omega), fun _ => k37 (.inl e)⟩
      · refine ⟨fun _ => ⟨by omega, (c_isSign (x := 45) es).mono fun r3 c4 hc => ?_⟩, fun z => absurd (k0 e) z⟩
        obtain ⟨rfl, k3, k2⟩ := hc
        by_cases e2 : isg B L p1 45
        · exact ⟨fun z => absurd (k3 e2) (by omega), fun _ => k37 (.inr e2)⟩
        · exact ⟨fun _ => ⟨.inr rfl, QI.ret ⟨fs, .inr (p1, n1, d1), hd _ (hX.su1 e e2), qs⟩⟩, fun z => absurd (k2 e2) z⟩
    · rintro i s hi ⟨ib, fs, p1, n1, d1, qs, ip, hd⟩
      have pL := qs.2.1.pL
      have e1 : ∀ x, ¬ isg B L p1 x := fun x z => absurd (isg_lt z) (by omega)
      exact W_X6_readSum_8 ⟨fun z => absurd z (by decide), fun _ => ⟨fun z => absurd z (by omega), fun _ => ⟨.inr rfl, QI.ret ⟨fs, .inr (p1, n1, d1), hd _ (hX.su1 (e1 _) (e1 _)), qs⟩⟩⟩⟩
theorem c_sums {T : List Shp} {X : GX} {o : Int} {B : Int → Int} {L : Int} (hX : GRr o B L X) : ∀ (k : Nat) (b p n q : Int) (c : Cm), 8 - b ≤ k → CRH c B L o b p n q → CRD T X o B L 4 b p n q c (ccal 53 [vR 49, vI b] (SH T, c)) := by
  intro k
  induction k with
  | zero => intro b p n q c hk h; exact c_readSum hX (fun c' p' n' q' h' => c_readTerm hX (fun c2 p2 n2 q2 h2 => c_readPart hX h2 fun z => absurd z (by omega)) h') h
  | succ k ih => intro b p n q c hk h; exact c_readSum hX (fun c' p' n' q' h' => c_readTerm hX (fun c2 p2 n2 q2 h2 => c_readPart hX h2 fun z c3 p3 n3 q3 h3 => ih (b + 1) p3 n3 q3 c3 (by omega) h3) h') h

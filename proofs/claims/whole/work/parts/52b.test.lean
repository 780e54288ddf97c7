/-! THE CLASS READS: tests -/
/-- ts: the loop's step behind the word -/
theorem c_readTestGo {T : List Shp} {X : GX} {o : Int} {B : Int → Int} {L b p n q i p1 n1 : Int} {d1 : Den} {c s s0 : Cm} (hX : GRr o B L X) (hb : 0 ≤ b ∧ b ≤ 8) (hq : 0 ≤ q ∧ q ≤ p + 48) (hn : 0 ≤ n) (h3 : c 48 3 = o) (hsub : ∀ c' p' n' q', CRH c' B L o b p' n' q' → CRT T X o B L 7 b p' n' q' c' (ccal 51 [vR 49, vI b] (SH T, c'))) (hi : 0 ≤ i ∧ i < 400) (fs : Fr RDA c s) (hs : CPO c B L (NWx o) p n q (.inr (p1, n1, d1)) 1 s) (td1 : TDn d1) (hd : ∀ out, X 8 b p1 n1 d1 out → X 9 b p n dz out) (sel : isw B L p1 498) (f0 : Fr NXA s s0) (e0 : EC s0 B L (nx B L p1)) (ih : ∀ s' p2 n2 d2, Fr RDA c s' → CPO c B L (NWx o) p n q (.inr (p2, n2, d2)) 1 s' → TDn d2 → i + 1 ≤ p2 → (∀ out, X 8 b p2 n2 d2 out → X 9 b p n dz out) → CRT T X o B L 9 b p n q c (cev 50 (12 + 10 * (9 - b).toNat) 8 [vR 49, vI b, vI 1, vI (i + 1), vU] [] (SH T, s'))) (hip : i ≤ p1) : QV T (fun c3 => (((11 + 10 * (9 - b).toNat) + 1 ≤ 12 + 10 * (9 - b).toNat) ∧ (QI T (fun r4 c5 => ((1 + 1 ≤ 12 + 10 * (9 - b).toNat) ∧ (QV T (fun c6 => ((-2147483648 ≤ i + 1 ∧ i + 1 < 2147483648) ∧ CRT T X o B L 9 b p n q c (cev 50 (12 + 10 * (9 - b).toNat) 8 [vR 49, vI b, vI r4, vI (i + 1), vU] [] (SH T, c6)))) (ccal 111 [vR 12, vI (s0 11 3)] (SH T, c5))))) (ccal 51 [vR 49, vI b] (SH T, c3))))) (ccal 110 [vR 12, vI 10, vI 0] (SH T, s0)) := by
  have plt : p1 < L := isw_lt sel
  have es := hs.2.1
  have pL := es.pL
  have nb := nx_bd (B := B) pL.2.1
  have nb2 := nb.2.2 plt
  have s38 := hs.2.2.2.1
  have nn := hs.2.2.2.2.1
  have qq := hs.2.2.2.2.2.1
  have hp := hs.2.2.1
  have s33 : s 48 3 = o := (fs 48 3 (by unfold RDA; omega)).trans h3
  have k0 := NXA.keep f0
  have m0 : s0 11 3 = s 11 3 := congrFun k0.2.2.1 3
  refine (c_add (d := 10) (k := 0) (by omega) (by omega) (by omega)).mono fun s1 h1 => ⟨by omega, ?_⟩
  have fr := add_fr h1 (by omega)
  have e1 := h1.1 (by omega)
  have E1 : EC s1 B L (nx B L p1) := e0.cong (congrFun fr.2.2.1 1) (congrFun fr.2.2.1 4) (congrFun fr.2.2.1 5) (congrFun fr.2.2.1 6) (congrFun fr.2.2.1 7) fr.2.2.2
  have m1 : s1 11 3 = s 11 3 + 1 := by rw [e1, up_same, m0]
  have H : CRH s1 B L o b (nx B L p1) n1 (s1 11 3) := ⟨E1, (congrFun fr.2.2.1 3).trans (k0.1.trans s33), (congrFun fr.2.2.1 8).trans (k0.2.1.trans s38), by omega, rfl, by omega, hb⟩
  refine (hsub s1 _ _ _ H).mono fun r2 s2 h2 => ⟨by omega, ?_⟩
  obtain ⟨f2, out, x2, q2, td2⟩ := h2
  have f02 : Fr RDA c s2 := (fs.trans (f0.mono fun q j a => a.rda)).trans (fr.1.trans f2)
  rcases out with f | ⟨p2, n2, d2⟩
  · obtain ⟨r2', e5, l5, l6⟩ := q2
    refine (c_jump (m := s0 11 3) (by omega) l5).mono fun s4 h4 => ⟨by omega, ?_⟩
    have fr4 := jump_fr h4
    rw [r2']
    unfold CRT
    refine W_X6_readTest_8 ⟨fun _ => ⟨.inl rfl, QI.ret ⟨f02.trans fr4.1, .inl f, hd _ (hX.ts2 sel x2), ⟨rfl, ?_, ?_, l6⟩, trivial⟩⟩, fun z => absurd rfl z⟩
    · rw [fr4.2.2.1]
      exact e5
    · rw [fr4.2.1]
      exact l5
  · have q2r := q2.1
    have q2p := q2.2.1.pL
    have q2l := q2.2.2.2.2.2.1
    have q2m := q2.2.2.1
    have bn := CPO.or (dd := 10) hs f0 e1 q2 (.inl rfl) plt hq
    refine (c_jump (m := s0 11 3) (by omega) (by omega)).mono fun s4 h4 => ⟨by omega, ?_⟩
    have fr4 := jump_fr h4
    rw [q2r]
    have e4 := h4.1 (by omega)
    rw [m0] at e4
    rw [← e4] at bn
    exact ih s4 p2 n2 _ (f02.trans fr4.1) bn.2 (TDn.or td1 td2) (by omega) fun out hout => hd out (hX.ts3 sel x2 hout)
theorem c_readTest {T : List Shp} {X : GX} {o : Int} {B : Int → Int} {L b p n q : Int} {c : Cm} (hX : GRr o B L X) (hsub : ∀ c' p' n' q', CRH c' B L o b p' n' q' → CRT T X o B L 7 b p' n' q' c' (ccal 51 [vR 49, vI b] (SH T, c'))) (h : CRH c B L o b p n q) : CRT T X o B L 9 b p n q c (ccal 50 [vR 49, vI b] (SH T, c)) := by
  have hh := h
  obtain ⟨h1, h2, h3, h4, h5, h6, h7⟩ := h
  have pL0 := h1.pL
  unfold CRT
  refine W_X6_readTest (Q := QI T _) ⟨by omega, (hsub c p n q hh).mono fun r c1 hc => ?_⟩
  obtain ⟨f1, out, x1, q1, td⟩ := hc
  rcases out with f | ⟨p1, n1, d1⟩
  · obtain ⟨r', e5, l5⟩ := q1
    rw [r']
    exact W_X6_readTest_8 ⟨fun _ => ⟨.inl rfl, QI.ret ⟨f1, .inl f, hX.ts4 x1, ⟨rfl, e5, l5⟩, trivial⟩⟩, fun z => absurd rfl z⟩
  · have r' := q1.1
    rw [r'] at q1 ⊢
    refine lpI (Q := fun Z => CRT T X o B L 9 b p n q c Z) (E := fun i (s : Cm) => cev 50 (12 + 10 * (9 - b).toNat) 8 [vR 49, vI b, vI 1, vI i, vU] [] (SH T, s)) (fun i s => (0 ≤ i ∧ i ≤ 400) ∧ Fr RDA c s ∧ ∃ p1 n1 d1, CPO c B L (NWx o) p n q (.inr (p1, n1, d1)) 1 s ∧ TDn d1 ∧ i ≤ p1 ∧ (∀ out, X 8 b p1 n1 d1 out → X 9 b p n dz out)) 400 ?_ ?_ 0 c1 ⟨by omega, f1, p1, n1, d1, q1, td, by have := q1.2.1.pL; omega, fun out hout => hX.ts5 x1 hout⟩
    · rintro i s hi ⟨ib, fs, p1, n1, d1, qs, td, ip, hd⟩ ih
      have es := qs.2.1
      unfold CRT
      refine W_X6_readTest_8 ⟨fun z => absurd z (by decide), fun _ => ⟨fun _ => ⟨by omega, (c_word7 es).mono fun r1 s0 hc => ?_⟩, fun z => absurd hi z⟩⟩
      by_cases e : isw B L p1 498
      · obtain ⟨r1', f0, e0⟩ := hc.1 e
        exact ⟨fun z => by omega, fun _ => ⟨by omega, c_readTestGo hX h7 h6 h4.1 h2 hsub (by omega) fs qs td hd e f0 e0 (fun s' p2 n2 d2 a b' t' c' d' => ih s' ⟨by omega, a, p2, n2, d2, b', t', c', d'⟩) ip⟩⟩
      · obtain ⟨r1', rfl⟩ := hc.2 e
        exact ⟨fun _ => ⟨.inr rfl, QI.ret ⟨fs, .inr (p1, n1, d1), hd _ (hX.ts1 e), qs, td⟩⟩, fun z => absurd r1' z⟩
    · rintro i s hi ⟨ib, fs, p1, n1, d1, qs, td, ip, hd⟩
      have pL := qs.2.1.pL
      have e1 : ¬ isw B L p1 498 := fun z => absurd (isw_lt z) (by omega)
      unfold CRT
      exact W_X6_readTest_8 ⟨fun z => absurd z (by decide), fun _ => ⟨fun z => absurd z (by omega), fun _ => ⟨.inr rfl, QI.ret ⟨fs, .inr (p1, n1, d1), hd _ (hX.ts1 e1), qs, td⟩⟩⟩⟩
theorem c_tests {T : List Shp} {X : GX} {o : Int} {B : Int → Int} {L : Int} (hX : GRr o B L X) : ∀ (k : Nat) (b p n q : Int) (c : Cm), 8 - b ≤ k → CRH c B L o b p n q → CRT T X o B L 9 b p n q c (ccal 50 [vR 49, vI b] (SH T, c)) := by
  intro k
  induction k with
  | zero => intro b p n q c hk h; exact c_readTest hX (fun c' p' n' q' h' => c_readBoth hX (fun c2 p2 n2 q2 h2 => c_readPlain hX h2 fun z => absurd z (by omega)) h') h
  | succ k ih => intro b p n q c hk h; exact c_readTest hX (fun c' p' n' q' h' => c_readBoth hX (fun c2 p2 n2 q2 h2 => c_readPlain hX h2 fun z c3 p3 n3 q3 h3 => ih (b + 1) p3 n3 q3 c3 (by omega) h3) h') h

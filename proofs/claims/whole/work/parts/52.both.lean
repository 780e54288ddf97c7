/-! THE CLASS READS: or, and -/
/-- the jump of a step is laid -/
theorem c_jump {T : List Shp} {c : Cm} {m : Int} (hm : 0 ≤ m ∧ m ≤ 450) (hl : 0 ≤ c 11 3 ∧ c 11 3 ≤ 450) : QV T (fun c' => (m < c 11 3 → c' = up c 13 m (iand (c 13 m) 15 + 16 * c 11 3)) ∧ (¬ m < c 11 3 → c' = c)) (ccal 111 [vR 12, vI m] (SH T, c)) := by
  have i15 := iand_15 (x := c 13 m)
  refine W_X10_jumpHere (Q := QV T _) ⟨fun z => absurd z (by omega), fun _ => ⟨fun h => ⟨by omega, QV.ret ⟨fun _ => rfl, fun z => absurd h z⟩⟩, fun h => QV.ret ⟨fun z => absurd z h, fun _ => rfl⟩⟩⟩
theorem jump_fr {c c' : Cm} {m v : Int} (h : (m < c 11 3 → c' = up c 13 m v) ∧ (¬ m < c 11 3 → c' = c)) : Fr RDA c c' ∧ c' 11 = c 11 ∧ c' 48 = c 48 ∧ c' 10 = c 10 := by
  by_cases e : m < c 11 3
  · rw [h.1 e]
    refine ⟨Fr.rfl.wr (by unfold RDA; omega), ?_, ?_, ?_⟩
    · rw [up_cell (by decide)]
    · rw [up_cell (by decide)]
    · rw [up_cell (by decide)]
  · rw [h.2 e]
    exact ⟨Fr.rfl, rfl, rfl, rfl⟩
theorem WI.set {c : Cm} {m v : Int} (h : WI c) (hv : ∀ w, 0 ≤ w → ¬ v = 1 + 16 * w) : WI (up c 13 m v) := by
  refine ⟨by rw [up_cell (by decide)]; exact h.1, fun j w a b a2 b2 e => ?_⟩
  rw [up_cell (by decide)] at b ⊢
  by_cases ej : j = m
  · rw [ej, up_same] at e
    exact absurd e (hv w a2)
  · rw [up_ne ej] at e
    exact h.2 j w a b a2 b2 e
theorem CPO.or {c s s0 s1 s2 : Cm} {B : Int → Int} {L NW p n q p1 n1 p2 n2 dd r r2 : Int} {d1 d2 : Den} (h1 : CPO c B L NW p n q (.inr (p1, n1, d1)) r s) (f0 : Fr NXA s s0) (e1 : s1 = up (up s0 13 (s0 11 3) (dd + 16 * 0)) 11 3 (s0 11 3 + 1)) (h2 : CPO s1 B L NW (nx B L p1) n1 (s1 11 3) (.inr (p2, n2, d2)) r2 s2) (hdd : dd = 10 ∨ dd = 11) (hlt : p1 < L) (hq : 0 ≤ q ∧ q ≤ p + 48) : s 11 3 < s2 11 3 ∧ CPO c B L NW p n q (.inr (p2, n2, dor dd d1 d2)) 1 (up s2 13 (s 11 3) (iand (s2 13 (s 11 3)) 15 + 16 * s2 11 3)) := by
  obtain ⟨a1, a2, a3, a4, a5, a6, a7, a8, a9⟩ := h1
  obtain ⟨b1, b2, b3, b4, b5, b6, b7, b8, b9⟩ := h2
  have k := NXA.keep f0
  have nb := nx_bd (B := B) a2.pL.2.1
  have nb2 := nb.2.2 hlt
  have pb := b2.pL
  have m0 : s0 11 3 = s 11 3 := congrFun k.2.2.1 3
  have m1 : s1 11 3 = s 11 3 + 1 := by rw [e1, up_same, m0]
  have s13 : s1 13 = up s 13 (s 11 3) (dd + 16 * 0) 13 := by
    rw [e1, up_cell (by decide), m0]
    funext j
    by_cases e : j = s 11 3
    · rw [e, up_same, up_same]
    · rw [up_ne e, up_ne e, k.2.2.2]
  rw [m1] at b6 b7 b8
  have em : s2 13 (s 11 3) = dd + 16 * 0 := by rw [b8 _ (by omega), s13, up_same]
  have dd15 := deed_of (d := dd) (k := 0) (by omega) (by decide)
  rw [em, dd15.1]
  refine ⟨by omega, rfl, b2.cong ?_ ?_ ?_ ?_ ?_ ?_, by omega, ?_, by omega, ?_, ?_, fun j a => ?_, fun w => ?_⟩
  · rw [up_cell (by decide)]
  · rw [up_cell (by decide)]
  · rw [up_cell (by decide)]
  · rw [up_cell (by decide)]
  · rw [up_cell (by decide)]
  · rw [up_cell (by decide)]
  · rw [up_cell (by decide)]; exact b4
  · rw [up_cell (by decide)]; omega
  · rw [up_cell (q := 11) (by decide)]
    have q1 : CP NW (up s2 13 (s 11 3) (dd + 16 * s2 11 3) 13) q (s 11 3) (n1 - n) d1 := a7.mv fun j x y => by
      rw [up_ne (by omega), b8 j (by omega), s13, up_ne (by omega)]
    have q2 : CP NW (up s2 13 (s 11 3) (dd + 16 * s2 11 3) 13) (s 11 3 + 1) (s2 11 3) (n2 - n1) d2 := b7.mv fun j x y => by
      rw [up_ne (by omega)]
    have := CP.or (dd := dd) q1 q2 hdd (by rw [up_same])
    rw [show n1 - n + (n2 - n1) = n2 - n from by omega] at this
    exact this
  · rw [up_ne (by omega), b8 j (by omega), s13, up_ne (by omega)]
    exact a8 j a
  · refine (b9 ?_).set fun w a => by omega
    rw [e1]
    exact ((a9 w).cong (congrFun k.2.2.1 3) (congrFun k.2.2.1 4) k.2.2.2).add fun w a => by omega
/-- bo: the loop's step behind the word -/
theorem c_readBothGo {T : List Shp} {X : GX} {o : Int} {B : Int → Int} {L b p n q i p1 n1 : Int} {d1 : Den} {c s s0 : Cm} (hX : GRr o B L X) (hb : 0 ≤ b ∧ b ≤ 8) (hq : 0 ≤ q ∧ q ≤ p + 48) (hn : 0 ≤ n) (h3 : c 48 3 = o) (hsub : ∀ c' p' n' q', CRH c' B L o b p' n' q' → CRT T X o B L 5 b p' n' q' c' (ccal 52 [vR 49, vI b] (SH T, c'))) (hi : 0 ≤ i ∧ i < 400) (fs : Fr RDA c s) (hs : CPO c B L (NWx o) p n q (.inr (p1, n1, d1)) 1 s) (td1 : TDn d1) (hd : ∀ out, X 6 b p1 n1 d1 out → X 7 b p n dz out) (sel : isw B L p1 1476) (f0 : Fr NXA s s0) (e0 : EC s0 B L (nx B L p1)) (ih : ∀ s' p2 n2 d2, Fr RDA c s' → CPO c B L (NWx o) p n q (.inr (p2, n2, d2)) 1 s' → TDn d2 → i + 1 ≤ p2 → (∀ out, X 6 b p2 n2 d2 out → X 7 b p n dz out) → CRT T X o B L 7 b p n q c (cev 51 (11 + 10 * (9 - b).toNat) 8 [vR 49, vI b, vI 1, vI (i + 1), vU] [] (SH T, s'))) (hip : i ≤ p1) : QV T (fun c3 => (((10 + 10 * (9 - b).toNat) + 1 ≤ 11 + 10 * (9 - b).toNat) ∧ (QI T (fun r4 c5 => ((1 + 1 ≤ 11 + 10 * (9 - b).toNat) ∧ (QV T (fun c6 => ((-2147483648 ≤ i + 1 ∧ i + 1 < 2147483648) ∧ CRT T X o B L 7 b p n q c (cev 51 (11 + 10 * (9 - b).toNat) 8 [vR 49, vI b, vI r4, vI (i + 1), vU] [] (SH T, c6)))) (ccal 111 [vR 12, vI (s0 11 3)] (SH T, c5))))) (ccal 52 [vR 49, vI b] (SH T, c3))))) (ccal 110 [vR 12, vI 11, vI 0] (SH T, s0)) := by
  have plt : p1 < L := isw_lt sel
  have es := hs.2.1
  have pL := es.pL
  have nb := nx_bd (B := B) pL.2.1
  have nb2 := nb.2.2 plt
  have s38 := hs.2.2.2.1
  have nn := hs.2.2.2.2.1
  have qq := hs.2.2.2.2.2.1
  have hp := hs.2.2.1
  have s33 : s 48 3 = o := (fs 48 3 (by unfold RDA; omega)).trans h3
  have k0 := NXA.keep f0
  have m0 : s0 11 3 = s 11 3 := congrFun k0.2.2.1 3
  refine (c_add (d := 11) (k := 0) (by omega) (by omega) (by omega)).mono fun s1 h1 => ⟨by omega, ?_⟩
  have fr := add_fr h1 (by omega)
  have e1 := h1.1 (by omega)
  have E1 : EC s1 B L (nx B L p1) := e0.cong (congrFun fr.2.2.1 1) (congrFun fr.2.2.1 4) (congrFun fr.2.2.1 5) (congrFun fr.2.2.1 6) (congrFun fr.2.2.1 7) fr.2.2.2
  have m1 : s1 11 3 = s 11 3 + 1 := by rw [e1, up_same, m0]
  have H : CRH s1 B L o b (nx B L p1) n1 (s1 11 3) := ⟨E1, (congrFun fr.2.2.1 3).trans (k0.1.trans s33), (congrFun fr.2.2.1 8).trans (k0.2.1.trans s38), by omega, rfl, by omega, hb⟩
  refine (hsub s1 _ _ _ H).mono fun r2 s2 h2 => ⟨by omega, ?_⟩
  obtain ⟨f2, out, x2, q2, td2⟩ := h2
  have f02 : Fr RDA c s2 := (fs.trans (f0.mono fun q j a => a.rda)).trans (fr.1.trans f2)
  rcases out with f | ⟨p2, n2, d2⟩
  · obtain ⟨r2', e5, l5, l6⟩ := q2
    refine (c_jump (m := s0 11 3) (by omega) l5).mono fun s4 h4 => ⟨by omega, ?_⟩
    have fr4 := jump_fr h4
    rw [r2']
    unfold CRT
    refine W_X6_readBoth_8 ⟨fun _ => ⟨.inl rfl, QI.ret ⟨f02.trans fr4.1, .inl f, hd _ (hX.bo2 sel x2), ⟨rfl, ?_, ?_, l6⟩, trivial⟩⟩, fun z => absurd rfl z⟩
    · rw [fr4.2.2.1]
      exact e5
    · rw [fr4.2.1]
      exact l5
  · have q2r := q2.1
    have q2p := q2.2.1.pL
    have q2l := q2.2.2.2.2.2.1
    have q2m := q2.2.2.1
    have bn := CPO.or (dd := 11) hs f0 e1 q2 (.inr rfl) plt hq
    refine (c_jump (m := s0 11 3) (by omega) (by omega)).mono fun s4 h4 => ⟨by omega, ?_⟩
    have fr4 := jump_fr h4
    rw [q2r]
    have e4 := h4.1 (by omega)
    rw [m0] at e4
    rw [← e4] at bn
    exact ih s4 p2 n2 _ (f02.trans fr4.1) bn.2 (TDn.or td1 td2) (by omega) fun out hout => hd out (hX.bo3 sel x2 hout)
theorem c_readBoth {T : List Shp} {X : GX} {o : Int} {B : Int → Int} {L b p n q : Int} {c : Cm} (hX : GRr o B L X) (hsub : ∀ c' p' n' q', CRH c' B L o b p' n' q' → CRT T X o B L 5 b p' n' q' c' (ccal 52 [vR 49, vI b] (SH T, c'))) (h : CRH c B L o b p n q) : CRT T X o B L 7 b p n q c (ccal 51 [vR 49, vI b] (SH T, c)) := by
  have hh := h
  obtain ⟨h1, h2, h3, h4, h5, h6, h7⟩ := h
  have pL0 := h1.pL
  unfold CRT
  refine W_X6_readBoth (Q := QI T _) ⟨by omega, (hsub c p n q hh).mono fun r c1 hc => ?_⟩
  obtain ⟨f1, out, x1, q1, td⟩ := hc
  rcases out with f | ⟨p1, n1, d1⟩
  · obtain ⟨r', e5, l5⟩ := q1
    rw [r']
    exact W_X6_readBoth_8 ⟨fun _ => ⟨.inl rfl, QI.ret ⟨f1, .inl f, hX.bo4 x1, ⟨rfl, e5, l5⟩, trivial⟩⟩, fun z => absurd rfl z⟩
  · have r' := q1.1
    rw [r'] at q1 ⊢
    refine lpI (Q := fun Z => CRT T X o B L 7 b p n q c Z) (E := fun i (s : Cm) => cev 51 (11 + 10 * (9 - b).toNat) 8 [vR 49, vI b, vI 1, vI i, vU] [] (SH T, s)) (fun i s => (0 ≤ i ∧ i ≤ 400) ∧ Fr RDA c s ∧ ∃ p1 n1 d1, CPO c B L (NWx o) p n q (.inr (p1, n1, d1)) 1 s ∧ TDn d1 ∧ i ≤ p1 ∧ (∀ out, X 6 b p1 n1 d1 out → X 7 b p n dz out)) 400 ?_ ?_ 0 c1 ⟨by omega, f1, p1, n1, d1, q1, td, by have := q1.2.1.pL; omega, fun out hout => hX.bo5 x1 hout⟩
    · rintro i s hi ⟨ib, fs, p1, n1, d1, qs, td, ip, hd⟩ ih
      have es := qs.2.1
      unfold CRT
      refine W_X6_readBoth_8 ⟨fun z => absurd z (by decide), fun _ => ⟨fun _ => ⟨by omega, (c_word8 es).mono fun r1 s0 hc => ?_⟩, fun z => absurd hi z⟩⟩
      by_cases e : isw B L p1 1476
      · obtain ⟨r1', f0, e0⟩ := hc.1 e
        exact ⟨fun z => by omega, fun _ => ⟨by omega, c_readBothGo hX h7 h6 h4.1 h2 hsub (by omega) fs qs td hd e f0 e0 (fun s' p2 n2 d2 a b' t' c' d' => ih s' ⟨by omega, a, p2, n2, d2, b', t', c', d'⟩) ip⟩⟩
      · obtain ⟨r1', rfl⟩ := hc.2 e
        exact ⟨fun _ => ⟨.inr rfl, QI.ret ⟨fs, .inr (p1, n1, d1), hd _ (hX.bo1 e), qs, td⟩⟩, fun z => absurd r1' z⟩
    · rintro i s hi ⟨ib, fs, p1, n1, d1, qs, td, ip, hd⟩
      have pL := qs.2.1.pL
      have e1 : ¬ isw B L p1 1476 := fun z => absurd (isw_lt z) (by omega)
      unfold CRT
      exact W_X6_readBoth_8 ⟨fun z => absurd z (by decide), fun _ => ⟨fun z => absurd z (by omega), fun _ => ⟨.inr rfl, QI.ret ⟨fs, .inr (p1, n1, d1), hd _ (hX.bo1 e1), qs, td⟩⟩⟩⟩

/-! THE CLASS READS: tests' smallest parts -/
theorem iand_15 {x : Int} : 0 ≤ iand x 15 ∧ iand x 15 ≤ 15 := by
  unfold iand
  have e : (Int32.ofInt x &&& Int32.ofInt 15).toBitVec.toNat = (Int32.ofInt x).toBitVec.toNat &&& 15 := by
    rw [Int32.toBitVec_and, BitVec.toNat_and]
    rfl
  have h : (Int32.ofInt x &&& Int32.ofInt 15).toBitVec.toNat ≤ 15 := by rw [e]; exact Nat.and_le_right
  show 0 ≤ (Int32.ofInt x &&& Int32.ofInt 15).toBitVec.toInt ∧ (Int32.ofInt x &&& Int32.ofInt 15).toBitVec.toInt ≤ 15
  rw [bv_int (by omega)]
  omega
theorem CPO.fr {c c0 c' : Cm} {B : Int → Int} {L NW p n q r : Int} {out : Out} (h : CPO c0 B L NW p n q out r c') (f : Fr NXA c c0) : CPO c B L NW p n q out r c' := by
  have k := NXA.keep f
  unfold CPO at h ⊢
  rcases out with x | ⟨p', n', d⟩
  · exact h
  · obtain ⟨h1, h2, h3, h4, h5, h6, h7, h8, h9⟩ := h
    exact ⟨h1, h2, h3, h4, h5, h6, h7, fun j a => (h8 j a).trans (congrFun k.2.2.2 j), fun w => h9 (w.cong (congrFun k.2.2.1 3) (congrFun k.2.2.1 4) k.2.2.2)⟩
theorem CPO.wk {c c' : Cm} {B : Int → Int} {L NW p p0 n q r : Int} {out : Out} (h : CPO c B L NW p0 n q out r c') (hp : p ≤ p0) : CPO c B L NW p n q out r c' := by
  unfold CPO at h ⊢
  rcases out with x | ⟨p', n', d⟩
  · exact h
  · obtain ⟨h1, h2, h3, h4, h5, h6, h7, h8, h9⟩ := h
    exact ⟨h1, h2, by omega, h4, h5, by omega, h7, h8, h9⟩
def odn (out : Out) : Out := match out with | .inl f => .inl f | .inr (p, n, d) => .inr (p, n, dnot d)
theorem odn_odn {out : Out} : odn (odn out) = out := by
  rcases out with f | ⟨p, n, d⟩
  · rfl
  · show Sum.inr (p, n, dnot (dnot d)) = _
    rw [dnot_not]
/-- the meanings are 0 or 1 -/
def TDO (out : Out) : Prop := match out with | .inl _ => True | .inr (_, _, d) => TDn d
theorem GRr.pl12 {o : Int} {B : Int → Int} {L : Int} {X : GX} (hX : GRr o B L X) {b p n : Int} {out : Out} (h0 : isw B L p 14836) (h1 : X 5 b (nx B L p) n dz out) : X 5 b p n dz (odn out) := by
  rcases out with f | ⟨p1, n1, d⟩
  · exact hX.pl1 h0 h1
  · exact hX.pl2 h0 h1
def CRT (T : List Shp) (X : GX) (o : Int) (B : Int → Int) (L : Int) (m : Nat) (b p n q : Int) (c : Cm) (R : Res) : Prop := QI T (fun r c' => Fr RDA c c' ∧ ∃ out, X m b p n dz out ∧ CPO c B L (NWx o) p n q out r c' ∧ TDO out) R
/-- turned or not -/
theorem c_pl174 {T : List Shp} {X : GX} {o : Int} {B : Int → Int} {L b p p0 n q t r : Int} {out : Out} {c s : Cm} (hq : 0 ≤ q ∧ q ≤ p + 48) (ht : t = 0 ∧ p ≤ p0 ∨ t = 1 ∧ p < p0) (fs : Fr RDA c s) (hs : CPO c B L (NWx o) p0 n q out r s) (htd : TDO out) (hd : ∀ out', (t = 0 → out' = out) → (t = 1 → out' = odn out) → X 5 b p n dz out') : CRT T X o B L 5 b p n q c (cev 52 (10 + 10 * (9 - b).toNat) 174 [vR 49, vU, vI t, vI r, vU] [] (SH T, s)) := by
  unfold CRT
  have hr : r = 0 ∨ r = 1 := by
    rcases out with f | ⟨p1, n1, d⟩
    · exact .inl hs.1
    · exact .inr hs.1
  rcases ht with ⟨t0, hp⟩ | ⟨t1, hp⟩
  · exact W_X6_readPlain_174 ⟨fun _ => ⟨hr, QI.ret ⟨fs, out, hd out (fun _ => rfl) (fun z => by omega), hs.wk hp, htd⟩⟩, fun z => absurd t0 z⟩
  · have hl : 0 ≤ s 11 3 ∧ s 11 3 ≤ 450 := by
      rcases out with f | ⟨p1, n1, d⟩
      · exact hs.2.2.1
      · have := hs.2.1.pL
        have := hs.2.2.2.2.2.1
        omega
    refine W_X6_readPlain_174 ⟨fun z => by omega, fun _ => ⟨by omega, (c_add (d := 9) (k := 0) hl.1 (by omega) (by omega)).mono fun s4 h4 => ⟨hr, QI.ret ⟨?_, odn out, hd _ (fun z => by omega) (fun _ => rfl), ?_⟩⟩⟩⟩
    · exact fs.trans (add_fr h4 hl).1
    · rcases out with f | ⟨p1, n1, d⟩
      · have fr := add_fr h4 hl
        refine ⟨⟨hs.1, ?_, fr.2.1, hs.2.2.2⟩, trivial⟩
        rw [fr.2.2.1]
        exact hs.2.1
      · have r1 := hs.1
        have bn := hs.not htd hp hq.2
        rw [h4.1 bn.1, r1]
        exact ⟨bn.2, TDn.not htd⟩
/-- a comparison that failed -/
theorem c_plFail {T : List Shp} {X : GX} {o : Int} {B : Int → Int} {L b p p0 n q t y f : Int} {c s : Cm} (hq : 0 ≤ q ∧ q ≤ p + 48) (hb : 0 ≤ b ∧ b ≤ 8) (hy : 0 ≤ y ∧ y < 16) (ht : t = 0 ∧ p ≤ p0 ∨ t = 1 ∧ p < p0) (fs : Fr RDA c s) (h5 : s 48 5 = f) (hl : 0 ≤ s 11 3 ∧ s 11 3 ≤ 450) (hf : 0 ≤ f) (hd : ∀ out', (t = 0 → out' = .inl f) → (t = 1 → out' = odn (.inl f)) → X 5 b p n dz out') : CRT T X o B L 5 b p n q c (cev 52 (10 + 10 * (9 - b).toNat) 163 [vR 49, vU, vI t, vU, vI y] [vI 0] (SH T, s)) := by
  unfold CRT
  refine W_X6_readPlain_163 ⟨by omega, (c_add (d := y) (k := 0) hl.1 hy (by omega)).mono fun s4 h4 => ?_⟩
  have fr := add_fr h4 hl
  refine c_pl174 (out := .inl f) hq ht (fs.trans fr.1) ⟨rfl, ?_, fr.2.1, hf⟩ trivial hd
  rw [fr.2.2.1]
  exact h5
/-- behind the sign of a comparison -/
theorem c_pl150 {T : List Shp} {X : GX} {o : Int} {B : Int → Int} {L b p p0 n q t dd p1 n1 : Int} {d1 : Den} {c s s0 : Cm} (hX : GRr o B L X) (hq : 0 ≤ q ∧ q ≤ p + 48) (hn : 0 ≤ n) (hb : 0 ≤ b ∧ b ≤ 8) (h3 : c 48 3 = o) (ht : t = 0 ∧ p ≤ p0 ∨ t = 1 ∧ p < p0) (fs : Fr RDA c s) (hs : CPO c B L (NWx o) p0 n q (.inr (p1, n1, d1)) 1 s) (f0 : Fr NXA s s0) (e0 : EC s0 B L (nx B L p1)) (hp0 : ¬ isw B L p0 14836) (hp1 : ¬ isg B L p0 40) (x1 : X 4 b p0 n dz (.inr (p1, n1, d1))) (sel : (isg B L p1 60 ∧ dd = 6) ∨ (isg B L p1 62 ∧ dd = 7) ∨ (isg B L p1 61 ∧ dd = 8)) (hd : ∀ out out', X 5 b p0 n dz out → (t = 0 → out' = out) → (t = 1 → out' = odn out) → X 5 b p n dz out') : CRT T X o B L 5 b p n q c (cev 52 (10 + 10 * (9 - b).toNat) 150 [vR 49, vI b, vI t, vU, vI dd] [] (SH T, s0)) := by
  have hdd : 6 ≤ dd ∧ dd ≤ 8 := by rcases sel with ⟨_, h⟩ | ⟨_, h⟩ | ⟨_, h⟩ <;> omega
  have plt : p1 < L := by rcases sel with ⟨h, _⟩ | ⟨h, _⟩ | ⟨h, _⟩ <;> exact isg_lt h
  have es := hs.2.1
  have pL := es.pL
  have s38 := hs.2.2.2.1
  have nn := hs.2.2.2.2.1
  have qq := hs.2.2.2.2.2.1
  have hp := hs.2.2.1
  have s33 : s 48 3 = o := (fs 48 3 (by unfold RDA; omega)).trans h3
  have H : CRH s B L o b p1 n1 (s 11 3) := ⟨es, s33, s38, by omega, rfl, by omega, hb⟩
  have f00 : Fr RDA c s0 := fs.trans (f0.mono fun q j a => a.rda)
  unfold CRT
  refine W_X6_readPlain_150 ⟨by omega, (c_sums hX 8 b _ _ _ s0 (by omega) (H.next f0 e0)).mono fun r2 s2 h2 => ?_⟩
  obtain ⟨f2, out, x2, q2⟩ := h2
  rcases out with f | ⟨p2, n2, d2⟩
  · obtain ⟨r2', e5, l5, l6⟩ := q2
    refine ⟨fun _ => c_plFail (p0 := p0) hq hb (by omega) ht (f00.trans f2) e5 l5 l6 (fun out' a b' => hd _ out' (hX.pl9 hp0 hp1 x1 sel x2) a b'), fun z => absurd r2' z⟩
  · have q2r := q2.1
    have bn := hs.bin f0 q2 (dd := dd) (by omega) plt (by omega)
    have q2p := q2.2.1.pL
    have q2l := q2.2.2.2.2.2.1
    refine ⟨fun z => by omega, fun _ => W_X6_readPlain_163 ⟨by omega, (c_add (d := dd) (k := 0) (by omega) (by omega) (by omega)).mono fun s4 h4 => ?_⟩⟩
    have fr := add_fr h4 (by omega)
    have e4 := h4.1 bn.1
    rw [← e4] at bn
    exact c_pl174 hq ht ((f00.trans f2).trans fr.1) bn.2 (TDn.cmp hdd.1) (fun out' a b' => hd _ out' (hX.pl10 hp0 hp1 x1 sel x2) a b')

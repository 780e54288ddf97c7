/-! THE CLASS READS: contracts -/
def RDA (q : Nat) (j : Int) : Prop := (q = 48 ∧ 4 ≤ j ∧ j ≤ 8) ∨ (q = 11 ∧ 3 ≤ j ∧ j ≤ 4) ∨ q = 13
theorem NXA.rda {q : Nat} {j : Int} (h : NXA q j) : RDA q j := by
  unfold NXA at h; unfold RDA; omega
/-- the bits of the words that the steps ask -/
def WI (c : Cm) : Prop := (0 ≤ c 11 4 ∧ c 11 4 < 262144) ∧ ∀ j w, 0 ≤ j → j < c 11 3 → 0 ≤ w → w < 18 → c 13 j = 1 + 16 * w → bt (c 11 4) w = true
theorem WI.cong {c c' : Cm} (h : WI c) (e3 : c' 11 3 = c 11 3) (e4 : c' 11 4 = c 11 4) (e : c' 13 = c 13) : WI c' := by
  unfold WI
  rw [e3, e4, e]
  exact h
/-- a step that asks no word -/
theorem WI.add {c : Cm} {v : Int} (h : WI c) (hv : ∀ w, 0 ≤ w → ¬ v = 1 + 16 * w) : WI (up (up c 13 (c 11 3) v) 11 3 (c 11 3 + 1)) := by
  refine ⟨by rw [up_ne (by decide), up_cell (by decide)]; exact h.1, fun j w a b a2 b2 e => ?_⟩
  rw [up_ne (by decide), up_cell (by decide)]
  rw [up_same] at b
  rw [up_cell (by decide)] at e
  by_cases ej : j = c 11 3
  · rw [ej, up_same] at e
    exact absurd e (hv w a2)
  · rw [up_ne ej] at e
    exact h.2 j w a (by omega) a2 b2 e
theorem EC.cong {c c' : Cm} {B : Int → Int} {L p : Int} (h : EC c B L p) (e1 : c' 48 1 = c 48 1) (e4 : c' 48 4 = c 48 4) (e5 : c' 48 5 = c 48 5) (e6 : c' 48 6 = c 48 6) (e7 : c' 48 7 = c 48 7) (e : c' 10 = c 10) : EC c' B L p := by
  unfold EC TC at h ⊢
  rw [e1, e4, e5, e6, e7, e]
  exact h
def CPO (c : Cm) (B : Int → Int) (L NW p n q : Int) (out : Out) (r : Int) (c' : Cm) : Prop := match out with
  | .inl f => r = 0 ∧ c' 48 5 = f ∧ (0 ≤ c' 11 3 ∧ c' 11 3 ≤ 450) ∧ 0 ≤ f
  | .inr (p', n', d) => r = 1 ∧ EC c' B L p' ∧ p < p' ∧ c' 48 8 = n' ∧ (n ≤ n' ∧ n' ≤ 50) ∧ (q < c' 11 3 ∧ c' 11 3 - q ≤ p' - p) ∧ CP NW (c' 13) q (c' 11 3) (n' - n) d ∧ (∀ j, j < q → c' 13 j = c 13 j) ∧ (WI c → WI c')
/-- as it stands when a part, a sum, a test is to be read -/
def CRH (c : Cm) (B : Int → Int) (L o b p n q : Int) : Prop := EC c B L p ∧ c 48 3 = o ∧ c 48 8 = n ∧ (0 ≤ n ∧ n ≤ 50) ∧ c 11 3 = q ∧ (0 ≤ q ∧ q ≤ p + 48) ∧ (0 ≤ b ∧ b ≤ 8)
def CRD (T : List Shp) (X : GX) (o : Int) (B : Int → Int) (L : Int) (m : Nat) (b p n q : Int) (c : Cm) (R : Res) : Prop := QI T (fun r c' => Fr RDA c c' ∧ ∃ out, X m b p n dz out ∧ CPO c B L (NWx o) p n q out r c') R
theorem NXA.keep {c c' : Cm} (f : Fr NXA c c') : c' 48 3 = c 48 3 ∧ c' 48 8 = c 48 8 ∧ c' 11 = c 11 ∧ c' 13 = c 13 :=
  ⟨f 48 3 (by unfold NXA; omega), f 48 8 (by unfold NXA; omega), f.cell (q := 11) (by intro j; unfold NXA; omega), f.cell (q := 13) (by intro j; unfold NXA; omega)⟩
theorem isg_lt {B : Int → Int} {L p x : Int} (h : isg B L p x) : p < L := kd_lt (by rw [h.1]; decide)
theorem isw_lt {B : Int → Int} {L p x : Int} (h : isw B L p x) : p < L := kd_lt (by rw [h.1]; decide)
theorem EC.pL {c : Cm} {B : Int → Int} {L p : Int} (h : EC c B L p) : 0 ≤ p ∧ p ≤ L ∧ L ≤ 400 := ⟨h.2.2.2.1.1, h.2.2.2.1.2, h.2.2.1.1.2⟩
/-- a token further -/
theorem CRH.next {c c' : Cm} {B : Int → Int} {L o b p n q : Int} (h : CRH c B L o b p n q) (f : Fr NXA c c') (e : EC c' B L (nx B L p)) : CRH c' B L o b (nx B L p) n q := by
  obtain ⟨h1, h2, h3, h4, h5, h6, h7⟩ := h
  have k := NXA.keep f
  have nb := nx_bd (B := B) h1.pL.2.1
  exact ⟨e, k.1.trans h2, k.2.1.trans h3, h4, (congrFun k.2.2.1 3).trans h5, by omega, h7⟩
/-- a bracket further -/
theorem CRH.br {c : Cm} {B : Int → Int} {L o b p n q : Int} (h : CRH c B L o b p n q) (hb : b < 8) : CRH c B L o (b + 1) p n q := ⟨h.1, h.2.1, h.2.2.1, h.2.2.2.1, h.2.2.2.2.1, h.2.2.2.2.2.1, by have := h.2.2.2.2.2.2; omega⟩
/-- what was read after a token -/
theorem CPO.pre {c c0 c' : Cm} {B : Int → Int} {L NW p n q r : Int} {out : Out} (h : CPO c0 B L NW (nx B L p) n q out r c') (f : Fr NXA c c0) (hp : p ≤ L) : CPO c B L NW p n q out r c' := by
  have k := NXA.keep f
  have nb := nx_bd (B := B) hp
  unfold CPO at h ⊢
  rcases out with x | ⟨p', n', d⟩
  · exact h
  · obtain ⟨h1, h2, h3, h4, h5, h6, h7, h8, h9⟩ := h
    refine ⟨h1, h2, by omega, h4, h5, by omega, h7, fun j a => (h8 j a).trans (congrFun k.2.2.2 j), fun w => h9 (w.cong (congrFun k.2.2.1 3) (congrFun k.2.2.1 4) k.2.2.2)⟩
/-- a token behind -/
theorem CPO.next {c c1 c2 : Cm} {B : Int → Int} {L NW p n q r p1 n1 : Int} {d : Den} (h : CPO c B L NW p n q (.inr (p1, n1, d)) r c1) (f : Fr NXA c1 c2) (e : EC c2 B L (nx B L p1)) : CPO c B L NW p n q (.inr (nx B L p1, n1, d)) r c2 := by
  obtain ⟨h1, h2, h3, h4, h5, h6, h7, h8, h9⟩ := h
  have k := NXA.keep f
  have nb := nx_bd (B := B) h2.pL.2.1
  have e3 := congrFun k.2.2.1 3
  refine ⟨h1, e, by omega, k.2.1.trans h4, h5, by rw [e3]; omega, by rw [k.2.2.2, e3]; exact h7, fun j a => by rw [k.2.2.2]; exact h8 j a, fun w => (h9 w).cong e3 (congrFun k.2.2.1 4) k.2.2.2⟩
/-- a step is added -/
theorem c_add {T : List Shp} {c : Cm} {d k : Int} (h0 : 0 ≤ c 11 3) (hd : 0 ≤ d ∧ d < 16) (hk : 0 ≤ k ∧ k ≤ 10000) : QV T (fun c' => (c 11 3 < 450 → c' = up (up c 13 (c 11 3) (d + 16 * k)) 11 3 (c 11 3 + 1)) ∧ (¬ c 11 3 < 450 → c' = c)) (ccal 110 [vR 12, vI d, vI k] (SH T, c)) := by
  refine W_X10_add (Q := QV T _) ⟨fun h => ⟨by omega, QV.ret ⟨fun _ => rfl, fun z => absurd h z⟩⟩, fun h => QV.ret ⟨fun z => absurd z h, fun _ => rfl⟩⟩
theorem add_fr {c c' : Cm} {v : Int} (h : (c 11 3 < 450 → c' = up (up c 13 (c 11 3) v) 11 3 (c 11 3 + 1)) ∧ (¬ c 11 3 < 450 → c' = c)) (hl : 0 ≤ c 11 3 ∧ c 11 3 ≤ 450) : Fr RDA c c' ∧ (0 ≤ c' 11 3 ∧ c' 11 3 ≤ 450) ∧ c' 48 = c 48 ∧ c' 10 = c 10 := by
  by_cases e : c 11 3 < 450
  · rw [h.1 e]
    refine ⟨(Fr.rfl.wr (by unfold RDA; omega)).wr (by unfold RDA; omega), by rw [up_same]; omega, ?_, ?_⟩
    · rw [up_cell (by decide), up_cell (by decide)]
    · rw [up_cell (by decide), up_cell (by decide)]
  · rw [h.2 e]
    exact ⟨Fr.rfl, hl, rfl, rfl⟩
/-- two pieces joined -/
theorem CPO.bin {c s s0 s2 : Cm} {B : Int → Int} {L NW p n q p1 n1 p2 n2 dd r r2 : Int} {d1 d2 : Den} (h1 : CPO c B L NW p n q (.inr (p1, n1, d1)) r s) (f0 : Fr NXA s s0) (h2 : CPO s0 B L NW (nx B L p1) n1 (s 11 3) (.inr (p2, n2, d2)) r2 s2) (hdd : 2 ≤ dd ∧ dd ≤ 8) (hlt : p1 < L) (hq : q ≤ p + 48) : s2 11 3 < 450 ∧ CPO c B L NW p n q (.inr (p2, n2, dbin dd d1 d2)) 1 (up (up s2 13 (s2 11 3) (dd + 16 * 0)) 11 3 (s2 11 3 + 1)) := by
  obtain ⟨a1, a2, a3, a4, a5, a6, a7, a8, a9⟩ := h1
  obtain ⟨b1, b2, b3, b4, b5, b6, b7, b8, b9⟩ := h2
  have k := NXA.keep f0
  have nb := nx_bd (B := B) a2.pL.2.1
  have nb2 := nb.2.2 hlt
  have pb := b2.pL
  refine ⟨by omega, rfl, b2.cong ?_ ?_ ?_ ?_ ?_ ?_, by omega, ?_, by omega, by rw [up_same]; omega, ?_, fun j a => ?_, fun w => ?_⟩
  · rw [up_cell (by decide), up_cell (by decide)]
  · rw [up_cell (by decide), up_cell (by decide)]
  · rw [up_cell (by decide), up_cell (by decide)]
  · rw [up_cell (by decide), up_cell (by decide)]
  · rw [up_cell (by decide), up_cell (by decide)]
  · rw [up_cell (by decide), up_cell (by decide)]
  · rw [up_cell (by decide), up_cell (by decide)]; exact b4
  · rw [up_same, up_cell (by decide)]
    have q1 : CP NW (up s2 13 (s2 11 3) (dd + 16 * 0) 13) q (s 11 3) (n1 - n) d1 := a7.mv fun j x y => by
      rw [up_ne (by omega), b8 j y, k.2.2.2]
    have q2 : CP NW (up s2 13 (s2 11 3) (dd + 16 * 0) 13) (s 11 3) (s2 11 3) (n2 - n1) d2 := b7.mv fun j x y => by
      rw [up_ne (by omega)]
    have := CP.bin (dd := dd) q1 q2 hdd.1 hdd.2 (by rw [up_same]; omega)
    rw [show n1 - n + (n2 - n1) = n2 - n from by omega] at this
    exact this
  · rw [up_cell (by decide), up_ne (by omega), b8 j (by omega), k.2.2.2]
    exact a8 j a
  · refine (b9 ((a9 w).cong (congrFun k.2.2.1 3) (congrFun k.2.2.1 4) k.2.2.2)).add fun w a => by omega
/-- not -/
theorem CPO.not {c s : Cm} {B : Int → Int} {L NW p p0 n q p1 n1 r : Int} {d1 : Den} (h1 : CPO c B L NW p0 n q (.inr (p1, n1, d1)) r s) (ht : TDn d1) (hp : p < p0) (hq : q ≤ p + 48) : s 11 3 < 450 ∧ CPO c B L NW p n q (.inr (p1, n1, dnot d1)) 1 (up (up s 13 (s 11 3) (9 + 16 * 0)) 11 3 (s 11 3 + 1)) := by
  obtain ⟨a1, a2, a3, a4, a5, a6, a7, a8, a9⟩ := h1
  have pb := a2.pL
  refine ⟨by omega, rfl, a2.cong ?_ ?_ ?_ ?_ ?_ ?_, by omega, ?_, by omega, by rw [up_same]; omega, ?_, fun j a => ?_, fun w => ?_⟩
  · rw [up_cell (by decide), up_cell (by decide)]
  · rw [up_cell (by decide), up_cell (by decide)]
  · rw [up_cell (by decide), up_cell (by decide)]
  · rw [up_cell (by decide), up_cell (by decide)]
  · rw [up_cell (by decide), up_cell (by decide)]
  · rw [up_cell (by decide), up_cell (by decide)]
  · rw [up_cell (by decide), up_cell (by decide)]; exact a4
  · rw [up_same, up_cell (by decide)]
    have q1 : CP NW (up s 13 (s 11 3) (9 + 16 * 0) 13) q (s 11 3) (n1 - n) d1 := a7.mv fun j x y => by
      rw [up_ne (by omega)]
    exact CP.not q1 ht (by rw [up_same]; rfl)
  · rw [up_cell (by decide), up_ne (by omega)]
    exact a8 j a
  · exact (a9 w).add fun w a => by omega

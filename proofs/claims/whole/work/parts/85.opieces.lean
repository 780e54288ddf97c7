/-! THE REFERENCE's code of orders: pieces (as a law's) -/
/-- what the words say: 1 to 6 as they were set, from 7 on the tones that are seen -/
def STO (c : Cm) (W : Int → Int) : Prop := ¬ c 77 16 = 0 ∧ (0 ≤ c 79 4 ∧ c 79 4 ≤ 16) ∧ (∀ i, 1 ≤ i → i ≤ 6 → c 93 i = W i) ∧ ∀ x, 0 ≤ x → x < 12 → c 79 (12 + 12 * c 79 4 + x) = W (7 + x)
theorem STO.off {c c' : Cm} {W : Int → Int} (h : STO c W) (o : Off [94] [34, 35] c c') : STO c' W := by
  unfold STO
  rw [o.fld (j := 16) rfl, o.cell (q := 79) rfl, o.cell (q := 93) rfl]
  exact h
def PCO (T : List Shp) (P A W : Int → Int) (need p q : Int) (o : Option Int) : Prop := ∀ (Q : Res → Prop) (c : Cm) (l h : Int), STO c W → (c 85 = P ∧ c 86 = A) → c 77 34 = 0 → 0 ≤ h → h + need ≤ 400 → q ≤ l → l ≤ 400 → (o = none → ∀ c', Off [94] [34, 35] c c' → c' 77 34 = 1 → Q (some (none, (SH T, c')))) → (∀ y, o = some y → ∀ c', Off [94] [34, 35] c c' → c' 77 34 = 0 → c' 94 h = y → (∀ j, 0 ≤ j → j < h → c' 94 j = c 94 j) → Q (HDR T l (h + 1) q c')) → Q (HDR T l h p c)
theorem PCO_num {T : List Shp} {P A W : Int → Int} {k p : Int} (hp : 0 ≤ p) (hop : P p = 0) (har : A p = k) : PCO T P A W 1 p (p + 1) (some k) := by
  intro Q c l h hst hR hb h0 hneed hq hl _ hok
  obtain ⟨s1, s3, s4, s5⟩ := hst
  refine W_X12_reckonAll_10 ⟨fun _ => ⟨fun _ => ⟨fun z => absurd z s1, fun _ => ?_⟩, fun z => absurd hb z⟩, fun z => absurd (show p < l by omega) z⟩
  rw [hR.1, hop]
  refine ⟨by omega, W_X12_reckonAll_57 ⟨fun z => absurd z s1, fun _ => ?_⟩⟩
  rw [hR.2, har]
  refine ⟨by omega, W_X12_reckonAll_95 ⟨by omega, fun _ => ⟨fun _ => ⟨by omega, ?_⟩, fun z => absurd rfl z⟩, fun z => absurd (show (0 : Int) < 20 by decide) z⟩⟩
  refine hok k rfl _ (Off.rfl.wr rfl) ?_ up_same (fun j a b => ?_)
  · rw [up_cell (by decide)]; exact hb
  · rw [up_ne (by omega)]
theorem PCO_word {T : List Shp} {P A W : Int → Int} {k p : Int} (hp : 0 ≤ p) (hk : 0 ≤ k ∧ k < 18) (hop : (k < 6 ∧ P p = k + 1) ∨ (6 ≤ k ∧ P p = 7 ∧ A p = k - 6)) : PCO T P A W 1 p (p + 1) (some (W (k + 1))) := by
  intro Q c l h hst hR hb h0 hneed hq hl _ hok
  obtain ⟨s1, s3, s4, s5⟩ := hst
  refine W_X12_reckonAll_10 ⟨fun _ => ⟨fun _ => ⟨fun z => absurd z s1, fun _ => ?_⟩, fun z => absurd hb z⟩, fun z => absurd (show p < l by omega) z⟩
  rw [hR.1]
  refine ⟨by omega, W_X12_reckonAll_57 ⟨fun z => absurd z s1, fun _ => ?_⟩⟩
  rw [hR.2]
  have fin : ∀ v, v = W (k + 1) → Q (cev 247 3 10 [vR 78, vU, vI l, vI (h + 1), vI (p + 1), vU, vU] [] (SH T, up c 94 h v)) := by
    intro v ev
    refine hok (W (k + 1)) rfl _ (Off.rfl.wr rfl) ?_ (by rw [up_same]; exact ev) (fun j a b => ?_)
    · rw [up_cell (by decide)]; exact hb
    · rw [up_ne (by omega)]
  refine ⟨by omega, W_X12_reckonAll_95 ⟨by omega, fun _ => ⟨fun z => absurd z (by omega), fun _ => ⟨fun z => absurd z s1, fun _ => ⟨fun z => ?_, fun z => ?_⟩⟩⟩, fun z => absurd (show P p < 20 by omega) z⟩⟩
  · rcases hop with ⟨a1, a2⟩ | ⟨a1, a2, a3⟩
    · omega
    · refine ⟨by omega, fin _ ?_⟩
      rw [s5 (A p) (by omega) (by omega), a3, show 7 + (k - 6) = k + 1 from by omega]
  · rcases hop with ⟨a1, a2⟩ | ⟨a1, a2, a3⟩
    · refine ⟨by omega, fin _ ?_⟩
      rw [a2]
      exact s4 _ (by omega) (by omega)
    · exact absurd a2 z
theorem PCO_not {T : List Shp} {P A W : Int → Int} {p q need : Int} {o : Option Int} (hpq : 0 ≤ p ∧ p ≤ q) (hn : 1 ≤ need) (h1 : PCO T P A W need p q o) (hb : ∀ y, o = some y → -1000000000 ≤ y ∧ y ≤ 1000000000) (hop : P q = 27) : PCO T P A W need p (q + 1) (o.map fun y => 1 - y) := by
  intro Q c l h hst hR hbr h0 hneed hq hl hno hok
  refine h1 Q c l h hst hR hbr h0 hneed (by omega) hl (fun e => hno (by rw [e]; rfl)) fun y ey c1 o1 k1 k2 k3 => ?_
  have st := hst.off o1
  have yb := hb y ey
  have R1 : c1 85 = P ∧ c1 86 = A := ⟨(o1.cell (q := 85) rfl).trans hR.1, (o1.cell (q := 86) rfl).trans hR.2⟩
  obtain ⟨s1, s3, s4, s5⟩ := st
  refine W_X12_reckonAll_10 ⟨fun _ => ⟨fun _ => ⟨fun z => absurd z s1, fun _ => ?_⟩, fun z => absurd k1 z⟩, fun z => absurd (show q < l by omega) z⟩
  rw [R1.1, hop]
  refine ⟨by omega, W_X12_reckonAll_57 ⟨fun z => absurd z s1, fun _ => ?_⟩⟩
  rw [R1.2]
  refine ⟨by omega, W_X12_reckonAll_95 ⟨by omega, fun z => absurd z (by decide), fun _ => ⟨fun z => absurd z (by decide), fun _ => ⟨fun _ => ?_, fun z => absurd rfl z⟩⟩⟩⟩
  rw [show h + 1 - 1 = h from by omega, k2]
  by_cases hh : h < 400
  · refine ⟨by omega, hok (1 - y) (by rw [ey]; rfl) _ (o1.wr rfl) ?_ up_same (fun j a b => ?_)⟩
    · rw [up_cell (by decide)]; exact k1
    · rw [up_ne (by omega)]; exact k3 j a b
  · exact absurd (show h < 400 by omega) hh
theorem PCO_or {T : List Shp} {P A W : Int → Int} {p m q d n1 n2 : Int} {o1 o2 : Option Int} (hpq : 0 ≤ p ∧ p ≤ m ∧ m + 1 ≤ q) (hd : d = 28 ∨ d = 29) (hn1 : 1 ≤ n1) (h1 : PCO T P A W n1 p m o1) (h2 : PCO T P A W n2 (m + 1) q o2) (hop : P m = d) (har : A m = q) : PCO T P A W (if n1 < n2 then n2 else n1) p q (o1.bind fun a => if a = (if d = 29 then 1 else 0) then some a else o2) := by
  intro Q c l h hst hR hbr h0 hneed hq hl hno hok
  have nb : h + n1 ≤ 400 ∧ h + n2 ≤ 400 := by split at hneed <;> omega
  refine h1 Q c l h hst hR hbr h0 nb.1 (by omega) hl (fun e => hno (by rw [e]; rfl)) fun a ea c1 q1 k1 k2 k3 => ?_
  have st := hst.off q1
  have R1 : c1 85 = P ∧ c1 86 = A := ⟨(q1.cell (q := 85) rfl).trans hR.1, (q1.cell (q := 86) rfl).trans hR.2⟩
  have eo : (o1.bind fun a => if a = (if d = 29 then 1 else 0) then some a else o2) = if a = (if d = 29 then 1 else 0) then some a else o2 := by rw [ea]; rfl
  rw [eo] at hno hok
  have last : ∀ y0 : Int, y0 = (if d = 29 then 1 else 0) → Q (cev 247 3 296 [vR 78, vU, vI l, vI (h + 1), vI (m + 1), vU, vI q] [vL y0, vL a] (SH T, c1)) := by
    intro y0 ey
    rw [← ey] at hno hok
    refine W_X12_reckonAll_296 ⟨fun e => ?_, fun e => ⟨by omega, ?_⟩⟩
    · rw [if_pos e] at hok
      exact hok a rfl c1 q1 k1 k2 k3
    · rw [if_neg e] at hno hok
      rw [show h + 1 + -1 = h from by omega]
      refine h2 Q c1 l h st R1 k1 h0 nb.2 hq hl (fun e c' oc => hno e c' (q1.trans oc)) fun b eb c2 q2 j1 j2 j3 => ?_
      exact hok b eb c2 (q1.trans q2) j1 j2 fun j a' b' => (j3 j a' b').trans (k3 j a' b')
  obtain ⟨s1, s3, s4, s5⟩ := st
  refine W_X12_reckonAll_10 ⟨fun _ => ⟨fun _ => ⟨fun z => absurd z s1, fun _ => ?_⟩, fun z => absurd k1 z⟩, fun z => absurd (show m < l by omega) z⟩
  rw [R1.1, hop]
  refine ⟨by omega, W_X12_reckonAll_57 ⟨fun z => absurd z s1, fun _ => ?_⟩⟩
  rw [R1.2, har]
  refine ⟨by omega, W_X12_reckonAll_95 ⟨by omega, fun z => absurd z (by omega), fun _ => ⟨fun z => absurd z (by omega), fun _ => ⟨fun z => absurd z (by omega), fun _ => ?_⟩⟩⟩⟩
  rw [show h + 1 - 1 = h from by omega, k2]
  refine ⟨by omega, fun z => last 0 (by rw [if_neg (by omega)]), fun z => last 1 (by rw [if_pos (by omega)])⟩
theorem PCO_bin {T : List Shp} {P A W : Int → Int} {p m q d n1 n2 : Int} {o1 o2 : Option Int} (hpq : 0 ≤ p ∧ p ≤ m ∧ m ≤ q) (hd : 2 ≤ d ∧ d ≤ 8) (hn1 : 1 ≤ n1) (hn2 : 1 ≤ n2) (h1 : PCO T P A W n1 p m o1) (h2 : PCO T P A W n2 m q o2) (b1 : ∀ y, o1 = some y → -1000000000 ≤ y ∧ y ≤ 1000000000) (b2 : ∀ y, o2 = some y → -1000000000 ≤ y ∧ y ≤ 1000000000) (hop : P q = d + 18) : PCO T P A W (if n1 < n2 + 1 then n2 + 1 else n1) p (q + 1) (o1.bind fun a => o2.bind fun b => bin d a b) := by
  intro Q c l h hst hR hbr h0 hneed hq hl hno hok
  have nb : h + n1 ≤ 400 ∧ h + 1 + n2 ≤ 400 := by split at hneed <;> omega
  refine h1 Q c l h hst hR hbr h0 nb.1 (by omega) hl (fun e => hno (by rw [e]; rfl)) fun a ea c1 q1 k1 k2 k3 => ?_
  have st := hst.off q1
  have R1 : c1 85 = P ∧ c1 86 = A := ⟨(q1.cell (q := 85) rfl).trans hR.1, (q1.cell (q := 86) rfl).trans hR.2⟩
  refine h2 Q c1 l (h + 1) st R1 k1 (by omega) nb.2 (by omega) hl (fun e c' oc => hno (by rw [ea, e]; rfl) c' (q1.trans oc)) fun b eb c2 q2 j1 j2 j3 => ?_
  have st2 := st.off q2
  have R2 : c2 85 = P ∧ c2 86 = A := ⟨(q2.cell (q := 85) rfl).trans R1.1, (q2.cell (q := 86) rfl).trans R1.2⟩
  have o12 := q1.trans q2
  have ka : c2 94 h = a := (j3 h h0 (by omega)).trans k2
  have ab := b1 a ea
  have bb := b2 b eb
  have eo : (o1.bind fun a => o2.bind fun b => bin d a b) = bin d a b := by rw [ea, eb]; rfl
  rw [eo] at hno hok
  obtain ⟨s1, s3, s4, s5⟩ := st2
  refine W_X12_reckonAll_10 ⟨fun _ => ⟨fun _ => ⟨fun z => absurd z s1, fun _ => ?_⟩, fun z => absurd j1 z⟩, fun z => absurd (show q < l by omega) z⟩
  rw [R2.1, hop]
  refine ⟨by omega, W_X12_reckonAll_57 ⟨fun z => absurd z s1, fun _ => ?_⟩⟩
  rw [R2.2]
  refine ⟨by omega, W_X12_reckonAll_95 ⟨by omega, fun z => absurd z (by omega), fun _ => ⟨fun _ => ?_, fun z => absurd (show d + 18 < 27 by omega) z⟩⟩⟩
  rw [show h + 1 + 1 + -1 = h + 1 from by omega, show h + 1 - 1 = h from by omega, ka, j2]
  refine ⟨by omega, (r_reckon hd ab bb j1).mono fun r c3 h3 => ?_⟩
  obtain ⟨o3, z5, n5⟩ := h3
  have o13 : Off [94] [34, 35] c c3 := o12.trans (o3.mono rfl rfl)
  have c94 : c3 94 = c2 94 := o3.cell rfl
  rw [up_same]
  have low : ∀ j, 0 ≤ j → j < h → c3 94 j = c 94 j := fun j a' b' => by rw [c94, j3 j a' (by omega)]; exact k3 j a' b'
  have stop : ∀ (c4 : Cm) (k : Int), Off [94] [34, 35] c c4 → c4 77 34 = 1 → bin d a b = none → Q (cev 247 3 10 [vR 78, vU, vI l, vI k, vI (q + 1), vU, vU] [] (SH T, c4)) := by
    intro c4 k o4 e4 en
    have fin : Q (cev 247 3 313 [vR 78, vU, vU, vI k, vU, vU, vU] [] (SH T, c4)) := by
      refine W_X12_reckonAll_313 ⟨fun _ => hno en _ (o4.wr rfl) ?_, fun _ => hno en _ (o4.wr rfl) ?_⟩
      · rw [up_ne (by decide)]; exact e4
      · rw [up_ne (by decide)]; exact e4
    exact W_X12_reckonAll_10 ⟨fun _ => ⟨fun z => absurd z (by omega), fun _ => fin⟩, fun _ => fin⟩
  by_cases e5 : d = 5 ∧ b = 0
  · have en : bin d a b = none := by unfold bin; rw [if_pos e5]
    have b34 := z5 e5
    refine ⟨by omega, fun z => absurd z (by omega), fun _ => stop _ _ ((o13.wr rfl).wr rfl) up_same en⟩
  · have nr := n5 e5
    have eb2 : bin d a b = if 1000000000 < r ∨ r < -1000000000 then none else some r := by unfold bin; rw [if_neg e5, ← nr.2]
    refine ⟨by omega, fun _ => ⟨by omega, fun z => ?_, fun z => ?_⟩, fun z => absurd nr.1 z⟩
    · rw [if_neg (by omega)] at eb2
      refine hok r eb2 _ ((o13.wr rfl).wr rfl) up_same ?_ (fun j a' b' => ?_)
      · rw [up_cell (by decide), up_same]
      · rw [up_cell (by decide), up_ne (by omega)]; exact low j a' b'
    · rw [if_pos (by omega)] at eb2
      exact stop _ _ ((o13.wr rfl).wr rfl) up_same eb2
theorem r_reckonOrd {T : List Shp} {c : Cm} {P A W : Int → Int} {p q need : Int} {o : Option Int} (hpq : 0 ≤ p ∧ p ≤ q ∧ q ≤ 400) (hneed : need ≤ 400) (h1 : PCO T P A W need p q o) (hst : STO c W) (hR : c 85 = P ∧ c 86 = A) : QV T (fun c' => (o = none → c' 77 34 = 1) ∧ (∀ y, o = some y → c' 77 34 = 0 ∧ c' 77 35 = y) ∧ Off [94] [34, 35] c c') (ccal 247 [vR 78, vI p, vI q] (SH T, c)) := by
  have o0 : Off [94] [34, 35] c (up c 77 34 0) := Off.rfl.wr rfl
  refine W_X12_reckonAll (Q := QV T _) ?_
  refine h1 (QV T _) (up c 77 34 0) q 0 (hst.off o0) ⟨(o0.cell (q := 85) rfl).trans hR.1, (o0.cell (q := 86) rfl).trans hR.2⟩ up_same (by omega) (by omega) (by omega) hpq.2.2 (fun e c' oc e34 => QV.ret ⟨fun _ => e34, fun y ey => ?_, o0.trans oc⟩) fun y ey c1 q1 k1 k2 k3 => ?_
  · rw [e] at ey; exact absurd ey (by simp)
  · refine W_X12_reckonAll_10 ⟨fun z => absurd z (by omega), fun _ => W_X12_reckonAll_313 ⟨fun _ => QV.ret ⟨fun en => ?_, fun y' ey' => ⟨?_, ?_⟩, (o0.trans q1).wr rfl⟩, fun z => absurd (show (0 : Int) < 0 + 1 by decide) z⟩⟩
    · rw [ey] at en; exact absurd en (by simp)
    · rw [up_ne (by decide)]; exact k1
    · rw [up_same, k2]
      rw [ey] at ey'
      exact Option.some.inj ey'

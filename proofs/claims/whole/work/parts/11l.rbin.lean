theorem PCR_bin {T : List Shp} {R : Int → Int} {A p m q d n1 n2 : Int} {W : Int → Int} {o1 o2 : Option Int} (hpq : 0 ≤ p ∧ p ≤ m ∧ m ≤ q) (hd : 2 ≤ d ∧ d ≤ 8) (hn1 : 1 ≤ n1) (hn2 : 1 ≤ n2) (h1 : PCR T R A W n1 p m o1) (h2 : PCR T R A W n2 m q o2) (b1 : ∀ y, o1 = some y → -1000000000 ≤ y ∧ y ≤ 1000000000) (b2 : ∀ y, o2 = some y → -1000000000 ≤ y ∧ y ≤ 1000000000) (hop : R (A + 98 + 2 * q) = d + 18) : PCR T R A W (if n1 < n2 + 1 then n2 + 1 else n1) p (q + 1) (o1.bind fun a => o2.bind fun b => bin d a b) := by
  intro Q c l h hst hR hbr h0 hneed hq hl hno hok
  have nb : h + n1 ≤ 400 ∧ h + 1 + n2 ≤ 400 := by split at hneed <;> omega
  refine h1 Q c l h hst hR hbr h0 nb.1 (by omega) hl (fun e => hno (by rw [e]; rfl)) fun a ea c1 q1 k1 k2 k3 => ?_
  have st := hst.off q1
  have R1 : c1 79 = R := (q1.cell (q := 79) rfl).trans hR
  refine h2 Q c1 l (h + 1) st R1 k1 (by omega) nb.2 (by omega) hl (fun e c' oc => hno (by rw [ea, e]; rfl) c' (q1.trans oc)) fun b eb c2 q2 j1 j2 j3 => ?_
  have st2 := st.off q2
  have R2 : c2 79 = R := (q2.cell (q := 79) rfl).trans R1
  have o12 := q1.trans q2
  have ka : c2 94 h = a := (j3 h h0 (by omega)).trans k2
  have ab := b1 a ea
  have bb := b2 b eb
  have eo : (o1.bind fun a => o2.bind fun b => bin d a b) = bin d a b := by rw [ea, eb]; rfl
  rw [eo] at hno hok
  obtain ⟨s1, s2, s3, s4⟩ := st2
  refine W_X12_reckonAll_10 ⟨fun _ => ⟨fun _ => ⟨fun _ => ?_, fun z => absurd s1 z⟩, fun z => absurd j1 z⟩, fun z => absurd (show q < l by omega) z⟩
  rw [s2, R2, hop]
  refine ⟨by omega, W_X12_reckonAll_57 ⟨fun _ => ?_, fun z => absurd s1 z⟩⟩
  rw [s2, R2]
  refine ⟨by omega, W_X12_reckonAll_95 ⟨by omega, fun z => absurd z (by omega), fun _ => ⟨fun _ => ?_, fun z => absurd (show d + 18 < 27 by omega) z⟩⟩⟩
  rw [show h + 1 + 1 + -1 = h + 1 from by omega, show h + 1 - 1 = h from by omega, ka, j2]
  refine ⟨by omega, (r_reckon hd ab bb j1).mono fun r c3 h3 => ?_⟩
  obtain ⟨o3, z5, n5⟩ := h3
  have o13 : Off [94] [34, 35] c c3 := o12.trans (o3.mono rfl rfl)
  have c94 : c3 94 = c2 94 := o3.cell rfl
  rw [up_same]
  have low : ∀ j, 0 ≤ j → j < h → c3 94 j = c 94 j := fun j a' b' => by rw [c94, j3 j a' (by omega)]; exact k3 j a' b'
  have stop : ∀ (c4 : Cm) (k : Int), Off [94] [34, 35] c c4 → c4 77 34 = 1 → bin d a b = none → Q (cev 247 3 10 [vR 78, vU, vI l, vI k, vI (q + 1), vU, vU] [] (SH T, c4)) := by
    intro c4 k o4 e4 en
    have fin : Q (cev 247 3 313 [vR 78, vU, vU, vI k, vU, vU, vU] [] (SH T, c4)) := by
      refine W_X12_reckonAll_313 ⟨fun _ => hno en _ (o4.wr rfl) ?_, fun _ => hno en _ (o4.wr rfl) ?_⟩
      · rw [up_ne (by decide)]; exact e4
      · rw [up_ne (by decide)]; exact e4
    exact W_X12_reckonAll_10 ⟨fun _ => ⟨fun z => absurd z (by omega), fun _ => fin⟩, fun _ => fin⟩
  by_cases e5 : d = 5 ∧ b = 0
  · have en : bin d a b = none := by unfold bin; rw [if_pos e5]
    have b34 := z5 e5
    refine ⟨by omega, fun z => absurd z (by omega), fun _ => stop _ _ ((o13.wr rfl).wr rfl) up_same en⟩
  · have nr := n5 e5
    have eb2 : bin d a b = if 1000000000 < r ∨ r < -1000000000 then none else some r := by unfold bin; rw [if_neg e5, ← nr.2]
    refine ⟨by omega, fun _ => ⟨by omega, fun z => ?_, fun z => ?_⟩, fun z => absurd nr.1 z⟩
    · rw [if_neg (by omega)] at eb2
      refine hok r eb2 _ ((o13.wr rfl).wr rfl) up_same ?_ (fun j a' b' => ?_)
      · rw [up_cell (by decide), up_same]
      · rw [up_cell (by decide), up_ne (by omega)]; exact low j a' b'
    · rw [if_pos (by omega)] at eb2
      exact stop _ _ ((o13.wr rfl).wr rfl) up_same eb2

/-! PIECES: the reference's not, or, and -/
theorem PCR_not {T : List Shp} {R : Int → Int} {A p q need : Int} {W : Int → Int} {o : Option Int} (hpq : 0 ≤ p ∧ p ≤ q) (hn : 1 ≤ need) (h1 : PCR T R A W need p q o) (hb : ∀ y, o = some y → -1000000000 ≤ y ∧ y ≤ 1000000000) (hop : R (A + 98 + 2 * q) = 27) : PCR T R A W need p (q + 1) (o.map fun y => 1 - y) := by
  intro Q c l h hst hR hbr h0 hneed hq hl hno hok
  refine h1 Q c l h hst hR hbr h0 hneed (by omega) hl (fun e => hno (by rw [e]; rfl)) fun y ey c1 o1 k1 k2 k3 => ?_
  have st := hst.off o1
  have yb := hb y ey
  have R1 : c1 79 = R := (o1.cell (q := 79) rfl).trans hR
  obtain ⟨s1, s2, s3, s4⟩ := st
  refine W_X12_reckonAll_10 ⟨fun _ => ⟨fun _ => ⟨fun _ => ?_, fun z => absurd s1 z⟩, fun z => absurd k1 z⟩, fun z => absurd (show q < l by omega) z⟩
  rw [s2, R1, hop]
  refine ⟨by omega, W_X12_reckonAll_57 ⟨fun _ => ?_, fun z => absurd s1 z⟩⟩
  rw [s2, R1]
  refine ⟨by omega, W_X12_reckonAll_95 ⟨by omega, fun z => absurd z (by decide), fun _ => ⟨fun z => absurd z (by decide), fun _ => ⟨fun _ => ?_, fun z => absurd rfl z⟩⟩⟩⟩
  rw [show h + 1 - 1 = h from by omega, k2]
  by_cases hh : h < 400
  · refine ⟨by omega, hok (1 - y) (by rw [ey]; rfl) _ (o1.wr rfl) ?_ up_same (fun j a b => ?_)⟩
    · rw [up_cell (by decide)]; exact k1
    · rw [up_ne (by omega)]; exact k3 j a b
  · exact absurd (show h < 400 by omega) hh

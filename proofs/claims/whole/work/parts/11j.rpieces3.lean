theorem PCR_or {T : List Shp} {R : Int → Int} {A p m q d n1 n2 : Int} {W : Int → Int} {o1 o2 : Option Int} (hpq : 0 ≤ p ∧ p ≤ m ∧ m + 1 ≤ q) (hd : d = 28 ∨ d = 29) (hn1 : 1 ≤ n1) (h1 : PCR T R A W n1 p m o1) (h2 : PCR T R A W n2 (m + 1) q o2) (hop : R (A + 98 + 2 * m) = d) (har : R (A + 98 + 2 * m + 1) = q) : PCR T R A W (if n1 < n2 then n2 else n1) p q (o1.bind fun a => if a = (if d = 29 then 1 else 0) then some a else o2) := by
  intro Q c l h hst hR hbr h0 hneed hq hl hno hok
  have nb : h + n1 ≤ 400 ∧ h + n2 ≤ 400 := by split at hneed <;> omega
  refine h1 Q c l h hst hR hbr h0 nb.1 (by omega) hl (fun e => hno (by rw [e]; rfl)) fun a ea c1 q1 k1 k2 k3 => ?_
  have st := hst.off q1
  have R1 : c1 79 = R := (q1.cell (q := 79) rfl).trans hR
  have eo : (o1.bind fun a => if a = (if d = 29 then 1 else 0) then some a else o2) = if a = (if d = 29 then 1 else 0) then some a else o2 := by rw [ea]; rfl
  rw [eo] at hno hok
  have last : ∀ y0 : Int, y0 = (if d = 29 then 1 else 0) → Q (cev 247 3 296 [vR 78, vU, vI l, vI (h + 1), vI (m + 1), vU, vI q] [vL y0, vL a] (SH T, c1)) := by
    intro y0 ey
    rw [← ey] at hno hok
    refine W_X12_reckonAll_296 ⟨fun e => ?_, fun e => ⟨by omega, ?_⟩⟩
    · rw [if_pos e] at hok
      exact hok a rfl c1 q1 k1 k2 k3
    · rw [if_neg e] at hno hok
      rw [show h + 1 + -1 = h from by omega]
      refine h2 Q c1 l h st R1 k1 h0 nb.2 hq hl (fun e c' oc => hno e c' (q1.trans oc)) fun b eb c2 q2 j1 j2 j3 => ?_
      exact hok b eb c2 (q1.trans q2) j1 j2 fun j a' b' => (j3 j a' b').trans (k3 j a' b')
  obtain ⟨s1, s2, s3, s4⟩ := st
  refine W_X12_reckonAll_10 ⟨fun _ => ⟨fun _ => ⟨fun _ => ?_, fun z => absurd s1 z⟩, fun z => absurd k1 z⟩, fun z => absurd (show m < l by omega) z⟩
  rw [s2, R1, hop]
  refine ⟨by omega, W_X12_reckonAll_57 ⟨fun _ => ?_, fun z => absurd s1 z⟩⟩
  rw [s2, R1, har]
  refine ⟨by omega, W_X12_reckonAll_95 ⟨by omega, fun z => absurd z (by omega), fun _ => ⟨fun z => absurd z (by omega), fun _ => ⟨fun z => absurd z (by omega), fun _ => ?_⟩⟩⟩⟩
  rw [show h + 1 - 1 = h from by omega, k2]
  refine ⟨by omega, fun z => last 0 (by rw [if_neg (by omega)]), fun z => last 1 (by rw [if_pos (by omega)])⟩

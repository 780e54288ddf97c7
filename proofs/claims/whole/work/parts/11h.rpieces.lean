/-! PIECES: the reference's code (a law's) and what it works out -/
noncomputable def HDR (T : List Shp) (l h k : Int) (c : Cm) : Res := cev 247 3 10 [vR 78, vU, vI l, vI h, vI k, vU, vU] [] (SH T, c)
/-- the law's code: op and arg of step k -/
def STR0 (c : Cm) (A : Int) (W : Int → Int) : Prop := c 77 16 = 0 ∧ c 77 30 = A ∧ (380 ≤ A ∧ A ≤ 4880) ∧ ∀ i, 1 ≤ i → i ≤ 10 → c 92 i = W i
theorem STR0.off {c c' : Cm} {A : Int} {W : Int → Int} (h : STR0 c A W) (o : Off [94] [34, 35] c c') : STR0 c' A W := by
  unfold STR0
  rw [o.fld (j := 16) rfl, o.fld (j := 30) rfl, o.cell (q := 92) rfl]
  exact h
def PCR (T : List Shp) (R : Int → Int) (A : Int) (W : Int → Int) (need p q : Int) (o : Option Int) : Prop := ∀ (Q : Res → Prop) (c : Cm) (l h : Int), STR0 c A W → c 79 = R → c 77 34 = 0 → 0 ≤ h → h + need ≤ 400 → q ≤ l → l ≤ 400 → (o = none → ∀ c', Off [94] [34, 35] c c' → c' 77 34 = 1 → Q (some (none, (SH T, c')))) → (∀ y, o = some y → ∀ c', Off [94] [34, 35] c c' → c' 77 34 = 0 → c' 94 h = y → (∀ j, 0 ≤ j → j < h → c' 94 j = c 94 j) → Q (HDR T l (h + 1) q c')) → Q (HDR T l h p c)
theorem PCR_num {T : List Shp} {R : Int → Int} {A k p : Int} {W : Int → Int} (hp : 0 ≤ p) (hop : R (A + 98 + 2 * p) = 0) (har : R (A + 98 + 2 * p + 1) = k) : PCR T R A W 1 p (p + 1) (some k) := by
  intro Q c l h hst hR hb h0 hneed hq hl _ hok
  obtain ⟨s1, s2, s3, s4⟩ := hst
  refine W_X12_reckonAll_10 ⟨fun _ => ⟨fun _ => ⟨fun _ => ?_, fun z => absurd s1 z⟩, fun z => absurd hb z⟩, fun z => absurd (show p < l by omega) z⟩
  rw [s2, hR, hop]
  refine ⟨by omega, W_X12_reckonAll_57 ⟨fun _ => ?_, fun z => absurd s1 z⟩⟩
  rw [s2, hR, har]
  refine ⟨by omega, W_X12_reckonAll_95 ⟨by omega, fun _ => ⟨fun _ => ⟨by omega, ?_⟩, fun z => absurd rfl z⟩, fun z => absurd (show (0 : Int) < 20 by decide) z⟩⟩
  refine hok k rfl _ (Off.rfl.wr rfl) ?_ up_same (fun j a b => ?_)
  · rw [up_cell (by decide)]; exact hb
  · rw [up_ne (by omega)]
theorem PCR_word {T : List Shp} {R : Int → Int} {A k p : Int} {W : Int → Int} (hp : 0 ≤ p) (hk : 1 ≤ k ∧ k ≤ 10) (hop : R (A + 98 + 2 * p) = k) : PCR T R A W 1 p (p + 1) (some (W k)) := by
  intro Q c l h hst hR hb h0 hneed hq hl _ hok
  obtain ⟨s1, s2, s3, s4⟩ := hst
  refine W_X12_reckonAll_10 ⟨fun _ => ⟨fun _ => ⟨fun _ => ?_, fun z => absurd s1 z⟩, fun z => absurd hb z⟩, fun z => absurd (show p < l by omega) z⟩
  rw [s2, hR, hop]
  refine ⟨by omega, W_X12_reckonAll_57 ⟨fun _ => ?_, fun z => absurd s1 z⟩⟩
  rw [s2, hR]
  refine ⟨by omega, W_X12_reckonAll_95 ⟨by omega, fun _ => ⟨fun z => absurd z (by omega), fun _ => ⟨fun _ => ⟨by omega, ?_⟩, fun z => absurd s1 z⟩⟩, fun z => absurd (show k < 20 by omega) z⟩⟩
  rw [s4 k hk.1 hk.2]
  refine hok (W k) rfl _ (Off.rfl.wr rfl) ?_ up_same (fun j a b => ?_)
  · rw [up_cell (by decide)]; exact hb
  · rw [up_ne (by omega)]

/-! THE REFERENCE's law() -/
def clz (z : Orc) : Clz := (z.1, z.2.2.1, z.2.2.2.head?)
/-- heads and sums of a law's clauses -/
def KLF (F : List Orc) : Prop := ∀ (i : Nat) (z : Orc), F[i]? = some z → (z.2.2.2 = [] ∧ z.1 = 4) ∨ ∃ d, z.2.2.2 = [d] ∧ z.1 ≠ 4
theorem RTD.klf {c : Cm} {F : List Orc} (h : RTD c 0 F) : KLF F := by
  intro i z hz
  have h1 := (h.2.2.2 i z hz).1
  unfold ZRa at h1
  rw [if_pos rfl] at h1
  have h2 := h1.2
  cases e : z.2.2.2 with
  | nil => rw [e] at h2; exact .inl ⟨rfl, h2⟩
  | cons d r => rw [e] at h2; exact .inr ⟨d, by rw [h2.2.1], h2.1⟩
def BTX (q : Nat) (j : Int) : Prop := q = 77 ∧ ((10 ≤ j ∧ j ≤ 17) ∨ j = 19 ∨ j = 22)
theorem r_beginText {T : List Shp} {c : Cm} {o : Int} {B : Int → Int} {L : Int} (ho : o = 0 ∨ o = 1) (hL : c 77 9 = L) (hB : ∀ j, 0 ≤ j → j < L → c 83 j = B j) (hbl : BLt B L) (hk : KW c) : QV T (fun c' => Fr BTX c c' ∧ LSt c' o B L 0 (sk B L 0) 0 0 []) (ccal 242 [vR 78, vI o] (SH T, c)) := by
  refine W_X12_beginText (Q := QV T _) ⟨ho, W_X12_begin (Q := QV T _) ?_⟩
  generalize hs : up (up (up (up c 77 16 o) 77 11 0) 77 15 0) 77 14 (-1) = s
  have g9 : s 77 9 = L := by rw [← hs]; exact hL
  have g11 : s 77 11 = 0 := by rw [← hs]; rfl
  have g14 : s 77 14 = -1 := by rw [← hs]; rfl
  have g15 : s 77 15 = 0 := by rw [← hs]; rfl
  have g16 : s 77 16 = o := by rw [← hs]; rfl
  have gq : ∀ q : Nat, ¬ q = 77 → s q = c q := fun q a => by rw [← hs, up_cell a, up_cell a, up_cell a, up_cell a]
  have f0 : Fr BTX c s := by
    rw [← hs]
    exact (((Fr.rfl.wr (by unfold BTX; omega)).wr (by unfold BTX; omega)).wr (by unfold BTX; omega)).wr (by unfold BTX; omega)
  clear hs
  have hL2 := hbl.1
  refine (r_next g9 (fun j a b => by rw [gq 83 (by decide)]; exact hB j a b) hbl (by omega)).mono fun c1 h1 => QV.ret (QV.ret ⟨?_, ?_⟩)
  · exact (((f0.trans (h1.1.mono fun q j a => by unfold NXR at a; unfold BTX; omega)).wr (by unfold BTX; omega)).wr (by unfold BTX; omega)).wr (by unfold BTX; omega)
  · rw [g11] at h1
    have sb := sk_bd (B := B) (L := L) (s := 0)
    have w : ∀ q : Nat, ¬ q = 77 → up (up (up c1 77 17 0) 77 19 0) 77 22 0 q = c q := fun q a => by rw [up_cell a, up_cell a, up_cell a, h1.1.cell (q := q) (by intro j; unfold NXR; omega), gq q a]
    have w77 : ∀ j, ¬ j = 17 → ¬ j = 19 → ¬ j = 22 → up (up (up c1 77 17 0) 77 19 0) 77 22 0 77 j = c1 77 j := fun j a a2 a3 => by rw [up_ne a3, up_ne a2, up_ne a]
    have n14 : ∀ j, 14 ≤ j → c1 77 j = s 77 j := fun j a => h1.1 77 j (by unfold NXR; omega)
    have er : ER c1 B L (sk B L 0) := ⟨(h1.1 77 9 (by unfold NXR; omega)).trans g9, fun j a b => by rw [h1.1.cell (q := 83) (by intro j; unfold NXR; omega), gq 83 (by decide)]; exact hB j a b, hbl, by omega, h1.2⟩
    refine ⟨⟨er.cong (fun j a b => w77 j (by omega) (by omega) (by omega)) ((w 83 (by decide)).trans ((h1.1.cell (q := 83) (by intro j; unfold NXR; omega)).trans (gq 83 (by decide))).symm), hk.cong (w 89 (by decide)) (w 90 (by decide)) (w 91 (by decide)), ?_, up_same, ?_, ⟨?_, ?_⟩, by omega, by omega⟩, ?_, rfl, by omega, fun i z hz => absurd hz (by simp)⟩
    · rw [w77 16 (by decide) (by decide) (by decide), n14 16 (by decide)]; exact g16
    · rw [up_ne (by decide), up_same]
    · rw [w77 15 (by decide) (by decide) (by decide), n14 15 (by decide)]; exact g15
    · rw [w77 14 (by decide) (by decide) (by decide), n14 14 (by decide)]; exact g14
    · rw [up_ne (by decide), up_ne (by decide), up_same]
/-- clauses and code are copied to the row -/
theorem r_lawCopy {T : List Shp} {c : Cm} {A : Int} {F : List Orc} (hA : A = 380 + 900 * c 79 1) (h1 : 0 ≤ c 79 1 ∧ c 79 1 < 6) (hF : RTD c 0 F) (hAF : c 79 (A + 1) = c 77 17) : QI T (fun r c' => r = c 79 1 ∧ c' 77 1 = 0 ∧ (∀ q j, ¬ (q = 77 ∧ j = 1) → ¬ q = 79 → c' q j = c q j) ∧ c' 79 1 = c 79 1 + 1 ∧ (∀ j, ¬ j = 1 → ¬ (A ≤ j ∧ j < A + 900) → c' 79 j = c 79 j) ∧ RTX (c' 79) A (F.map clz)) (cev 244 9 111 [vR 78, vI A, vI 0] [] (SH T, c)) := by
  obtain ⟨f1, f2, f3, f4⟩ := hF
  -- the code
  have k146 : ∀ s : Cm, (∀ q j, ¬ q = 79 → s q j = c q j) → (∀ j, ¬ (A + 2 ≤ j ∧ j < A + 98) → s 79 j = c 79 j) → (∀ j, 0 ≤ j → j < 8 * c 77 17 → s 79 (A + 2 + j) = c 84 j) → QI T (fun r c' => r = c 79 1 ∧ c' 77 1 = 0 ∧ (∀ q j, ¬ (q = 77 ∧ j = 1) → ¬ q = 79 → c' q j = c q j) ∧ c' 79 1 = c 79 1 + 1 ∧ (∀ j, ¬ j = 1 → ¬ (A ≤ j ∧ j < A + 900) → c' 79 j = c 79 j) ∧ RTX (c' 79) A (F.map clz)) (cev 244 9 146 [vR 78, vI A, vI 0] [] (SH T, s)) := by
    intro s s1 s2 s3
    refine lpI (Q := QI T _) (E := fun i (s : Cm) => cev 244 9 146 [vR 78, vI A, vI i] [] (SH T, s)) (fun i s => (0 ≤ i ∧ i ≤ c 77 19) ∧ (∀ q j, ¬ q = 79 → s q j = c q j) ∧ (∀ j, ¬ (A + 2 ≤ j ∧ j < A + 98) → ¬ (A + 98 ≤ j ∧ j < A + 900) → s 79 j = c 79 j) ∧ (∀ j, 0 ≤ j → j < 8 * c 77 17 → s 79 (A + 2 + j) = c 84 j) ∧ ∀ j, 0 ≤ j → j < i → s 79 (A + 98 + 2 * j) = c 85 j ∧ s 79 (A + 98 + 2 * j + 1) = c 86 j) (c 77 19) ?_ ?_ 0 s ⟨by omega, s1, fun j a _ => s2 j a, s3, fun j a b => by omega⟩
    · rintro i s hi ⟨ib, s1, s2, s3, s4⟩ ih
      refine W_X12_law_146 ⟨fun _ => ⟨by omega, ih _ ⟨by omega, fun q j a => ?_, fun j a b => ?_, fun j a b => ?_, fun j a b => ?_⟩⟩, fun z => absurd (show i < s 77 19 by rw [s1 77 19 (by decide)]; exact hi) z⟩
      · rw [up_cell a, up_cell a]; exact s1 q j a
      · rw [up_ne (by omega), up_ne (by omega)]; exact s2 j a b
      · rw [up_ne (by omega), up_ne (by omega)]; exact s3 j a b
      · by_cases e : j = i
        · subst e
          rw [up_ne (by omega), up_same, up_same, s1 85 j (by decide)]
          exact ⟨rfl, s1 86 j (by decide)⟩
        · rw [up_ne (by omega), up_ne (by omega), up_ne (by omega), up_ne (by omega)]
          exact s4 j a (by omega)
    · rintro i s hi ⟨ib, s1, s2, s3, s4⟩
      have e19 : s 77 19 = c 77 19 := s1 77 19 (by decide)
      have e1 : s 79 1 = c 79 1 := s2 1 (by omega) (by omega)
      have ei : i = c 77 19 := by omega
      refine W_X12_law_146 ⟨fun z => absurd z (by omega), fun _ => ⟨by omega, QI.ret ⟨by omega, up_same, fun q j a b => ?_, ?_, fun j a b => ?_, ?_⟩⟩⟩
      · rw [e1]
        by_cases e77 : q = 77
        · subst e77
          rw [up_ne (by omega), up_cell (by decide)]
          exact s1 77 j (by decide)
        · rw [up_cell e77, up_cell b]
          exact s1 q j b
      · rw [up_cell (by decide), up_same, e1]
      · rw [up_cell (by decide), up_ne a]
        exact s2 j (by omega) (by omega)
      · have R : ∀ j, ¬ j = 1 → up (up s 79 1 (s 79 1 + 1)) 77 1 0 79 j = s 79 j := fun j a => by rw [up_cell (by decide), up_ne a]
        refine ⟨?_, by rw [List.length_map]; exact f2, fun x y hy => ?_⟩
        · rw [R _ (by omega), s2 _ (by omega) (by omega), List.length_map]
          omega
        · rw [List.getElem?_map] at hy
          cases e : F[x]? with
          | none => rw [e] at hy; exact absurd hy (by simp)
          | some z =>
            rw [e] at hy
            have hyz : clz z = y := Option.some.inj hy
            subst hyz
            have xl : x < F.length := by
              by_cases w : x < F.length
              · exact w
              · rw [List.getElem?_eq_none (by omega)] at e; exact absurd e (by simp)
            obtain ⟨za, zt⟩ := f4 x z e
            have rc : rcel 0 = 84 ∧ rwid 0 = 8 ∧ rtst 0 = 5 := ⟨rfl, rfl, rfl⟩
            rw [rc.1, rc.2.1] at za zt
            rw [rc.2.2] at zt
            unfold ZRa at za
            rw [if_pos rfl] at za
            have row : ∀ j, 0 ≤ j → j < 8 → up (up s 79 1 (s 79 1 + 1)) 77 1 0 79 (A + 2 + 8 * (x : Int) + j) = c 84 (8 * (x : Int) + j) := fun j a b => by
              rw [R _ (by omega), ← s3 (8 * (x : Int) + j) (by omega) (by omega)]
              exact congrArg (s 79) (by omega)
            have code : ∀ {p q l : Int} {d : Den}, RP 10 (c 85) (c 86) p q l d → 0 ≤ p → q ≤ c 77 19 → RP 10 (RO (up (up s 79 1 (s 79 1 + 1)) 77 1 0 79) A) (RA (up (up s 79 1 (s 79 1 + 1)) 77 1 0 79) A) p q l d := fun h a b => h.mv fun j a2 b2 => by
              unfold RO RA
              rw [R _ (by omega), R _ (by omega)]
              exact s4 j (by omega) (by omega)
            have row0 := row 0 (by omega) (by omega)
            rw [Int.add_zero, Int.add_zero] at row0
            refine ⟨row0.trans za.1, ?_, ?_⟩
            · rw [row 5 (by omega) (by omega), row 6 (by omega) (by omega)]
              unfold ZRt at zt
              rw [show 8 * (x : Int) + 5 + 1 = 8 * (x : Int) + 6 from by omega] at zt
              show match z.2.2.1 with | none => _ | some d => _
              cases e2 : z.2.2.1 with
              | none => rw [e2] at zt; exact zt
              | some d =>
                rw [e2] at zt
                obtain ⟨⟨l, p1, p2, p3, p4⟩, td⟩ := zt
                exact ⟨⟨l, code p1 p2 p3, p2, by omega, p4⟩, td⟩
            · rw [row 3 (by omega) (by omega), row 4 (by omega) (by omega)]
              have z2 := za.2
              show match z.2.2.2.head? with | none => _ | some d => _
              cases e2 : z.2.2.2 with
              | nil => rw [e2] at z2; exact z2
              | cons d r =>
                rw [e2] at z2
                obtain ⟨z3, z4, l, p1, p2, p3, p4⟩ := z2
                exact ⟨z3, l, code p1 p2 p3, p2, by omega, p4⟩
  refine lpI (Q := QI T _) (E := fun i (s : Cm) => cev 244 9 111 [vR 78, vI A, vI i] [] (SH T, s)) (fun i s => (0 ≤ i ∧ i ≤ 8 * c 77 17) ∧ (∀ q j, ¬ q = 79 → s q j = c q j) ∧ (∀ j, ¬ (A + 2 ≤ j ∧ j < A + 98) → s 79 j = c 79 j) ∧ ∀ j, 0 ≤ j → j < i → s 79 (A + 2 + j) = c 84 j) (8 * c 77 17) ?_ ?_ 0 c ⟨by omega, fun _ _ _ => rfl, fun _ _ => rfl, fun j a b => by omega⟩
  · rintro i s hi ⟨ib, s1, s2, s3⟩ ih
    have e17 : s 77 17 = c 77 17 := s1 77 17 (by decide)
    refine W_X12_law_111 ⟨by omega, fun _ => ⟨by omega, ih _ ⟨by omega, fun q j a => ?_, fun j a => ?_, fun j a b => ?_⟩⟩, fun z => absurd (show i < 8 * s 77 17 by omega) z⟩
    · rw [up_cell a]; exact s1 q j a
    · rw [up_ne (by omega)]; exact s2 j a
    · by_cases e : j = i
      · subst e
        rw [up_same]; exact s1 84 j (by decide)
      · rw [up_ne (by omega)]; exact s3 j a (by omega)
  · rintro i s hi ⟨ib, s1, s2, s3⟩
    have e17 : s 77 17 = c 77 17 := s1 77 17 (by decide)
    exact W_X12_law_111 ⟨by omega, fun z => absurd z (by omega), fun _ => k146 s s1 s2 fun j a b => s3 j a (by omega)⟩

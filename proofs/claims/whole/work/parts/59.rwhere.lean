/-! THE REFERENCE READS: where it stands -/
def ER (c : Cm) (B : Int → Int) (L p : Int) : Prop := c 77 9 = L ∧ (∀ j, 0 ≤ j → j < L → c 83 j = B j) ∧ BLt B L ∧ (0 ≤ p ∧ p ≤ L) ∧ TR c B L p
theorem ER.pL {c : Cm} {B : Int → Int} {L p : Int} (h : ER c B L p) : 0 ≤ p ∧ p ≤ L ∧ L ≤ 400 := ⟨h.2.2.2.1.1, h.2.2.2.1.2, h.2.2.1.1.2⟩
theorem ER.next {T : List Shp} {c : Cm} {B : Int → Int} {L p : Int} (h : ER c B L p) : QV T (fun c' => Fr NXR c c' ∧ ER c' B L (nx B L p)) (ccal 220 [vR 78] (SH T, c)) := by
  obtain ⟨h1, h2, h3, h4, h5⟩ := h
  have eb := en_bd (B := B) h4.2
  have nb := nx_bd (B := B) h4.2
  have e11 := h5.2.2.1
  refine (r_next h1 h2 h3 (by omega)).mono fun c' hc => ?_
  rw [e11] at hc
  exact ⟨hc.1, (hc.1 77 9 (by unfold NXR; omega)).trans h1, fun j a b => by rw [hc.1.cell (q := 83) (by intro j; unfold NXR; omega)]; exact h2 j a b, h3, by omega, hc.2⟩
theorem ER.cong {c c' : Cm} {B : Int → Int} {L p : Int} (h : ER c B L p) (e : ∀ j, 9 ≤ j → j ≤ 13 → c' 77 j = c 77 j) (e83 : c' 83 = c 83) : ER c' B L p := by
  unfold ER TR at h ⊢
  rw [e 9 (by decide) (by decide), e 10 (by decide) (by decide), e 11 (by decide) (by decide), e 12 (by decide) (by decide), e 13 (by decide) (by decide), e83]
  exact h
theorem kd_or {B : Int → Int} {L p : Int} : kd B L p = 0 ∨ kd B L p = 1 ∨ kd B L p = 2 ∨ kd B L p = 3 := by
  unfold kd
  by_cases h : p < L
  · rw [if_pos h]
    have := kof_or (x := B p)
    omega
  · rw [if_neg h]; omega
theorem srt_iff {B : Int → Int} {L p k : Int} (hk : k = 0 ∨ k = 1 ∨ k = 2) : srt (kd B L p) = k + 1 ↔ kd B L p = k := by
  have := kd_or (B := B) (L := L) (p := p)
  unfold srt
  by_cases e : kd B L p = 3
  · rw [if_pos e]; omega
  · rw [if_neg e]; omega
theorem ER.w {c : Cm} {B : Int → Int} {L p v : Int} (h : ER c B L p) : (c 77 12 = 1 ∧ c 77 13 = v) ↔ isw B L p v := by
  obtain ⟨t2, t0, t1, t3⟩ := h.2.2.2.2
  rw [t2, t3]
  unfold isw
  rw [show (1 : Int) = 0 + 1 from rfl, srt_iff (.inl rfl)]
theorem ER.d {c : Cm} {B : Int → Int} {L p : Int} (h : ER c B L p) : c 77 12 = 2 ↔ kd B L p = 1 := by
  obtain ⟨t2, t0, t1, t3⟩ := h.2.2.2.2
  rw [t2, show (2 : Int) = 1 + 1 from rfl, srt_iff (.inr (.inl rfl))]
theorem ER.g {c : Cm} {B : Int → Int} {L p x : Int} (h : ER c B L p) : (c 77 12 = 3 ∧ c 77 13 = x) ↔ isg B L p x := by
  obtain ⟨t2, t0, t1, t3⟩ := h.2.2.2.2
  rw [t2, t3]
  unfold isg
  rw [show (3 : Int) = 2 + 1 from rfl, srt_iff (.inr (.inr rfl))]
  refine and_congr_right fun e => ?_
  have plt : p < L := kd_lt (B := B) (by omega)
  have ek : kof (B p) = 2 := by
    unfold kd at e
    rw [if_pos plt] at e
    exact e
  unfold wo
  rw [if_pos plt, if_pos ek]
theorem ER.e {c : Cm} {B : Int → Int} {L p : Int} (h : ER c B L p) : c 77 12 = 0 ↔ kd B L p = 3 := by
  obtain ⟨t2, t0, t1, t3⟩ := h.2.2.2.2
  have := kd_or (B := B) (L := L) (p := p)
  rw [t2]
  unfold srt
  by_cases e : kd B L p = 3
  · rw [if_pos e]; omega
  · rw [if_neg e]; omega
/-- a number's worth -/
theorem ER.n {c : Cm} {B : Int → Int} {L p : Int} (h : ER c B L p) (e : kd B L p = 1) : (0 ≤ nc B L p ∧ nc B L p ≤ 10000) ∧ ((nc B L p = c 77 13 ∧ nc B L p < 10000) ∨ (nc B L p = 10000 ∧ 10000 ≤ c 77 13)) ∧ c 77 13 ≤ 10000009 := by
  have plt : p < L := kd_lt (B := B) (by omega)
  have ek : kof (B p) = 1 := by
    unfold kd at e
    rw [if_pos plt] at e
    exact e
  rw [h.2.2.2.2.2.2.2]
  exact num_two h.2.2.1 h.pL.1 plt ek
/-- the words' worths -/
def KW (c : Cm) : Prop := (∀ k : Int, 0 ≤ k → k < 10 → c 89 k = WS11.getD k.toNat 0) ∧ (∀ k : Int, 0 ≤ k → k < 7 → c 90 k = WS10.getD k.toNat 0) ∧ (∀ k : Int, 0 ≤ k → k < 5 → c 91 k = WS0.getD k.toNat 0)
theorem KW.cong {c c' : Cm} (h : KW c) (e : c' 89 = c 89) (e2 : c' 90 = c 90) (e3 : c' 91 = c 91) : KW c' := by
  unfold KW
  rw [e, e2, e3]
  exact h
theorem wix_spec : ∀ (ws : List Int) (v k : Int), (wix ws v k = -1 ∧ ∀ j : Nat, j < ws.length → ¬ v = ws.getD j 0) ∨ (∃ j : Nat, j < ws.length ∧ wix ws v k = k + j ∧ v = ws.getD j 0)
  | [], v, k => .inl ⟨rfl, fun j a => absurd a (by simp)⟩
  | w :: ws, v, k => by
    by_cases e : v = w
    · exact .inr ⟨0, by simp, by show (if v = w then k else wix ws v (k + 1)) = _; rw [if_pos e]; omega, e⟩
    · have ew : wix (w :: ws) v k = wix ws v (k + 1) := if_neg e
      rw [ew]
      rcases wix_spec ws v (k + 1) with ⟨h1, h2⟩ | ⟨j, h1, h2, h3⟩
      · refine .inl ⟨h1, fun j a => ?_⟩
        cases j with
        | zero => exact e
        | succ j => exact h2 j (by simp at a; omega)
      · exact .inr ⟨j + 1, by simp; omega, by rw [h2]; omega, h3⟩
theorem ws_injWS11 : ∀ i : Nat, i < 10 → ∀ j : Nat, j < 10 → WS11.getD i 0 = WS11.getD j 0 → i = j := by decide
theorem r_partAt {T : List Shp} {c : Cm} {B : Int → Int} {L p : Int} (h : ER c B L p) (hk : KW c) : ccal 232 [vR 78] (SH T, c) = some (some (vI (if tkw B L p WS11 = -1 then -1 else tkw B L p WS11 + 1)), (SH T, c)) := by
  have hw := hk.1
  refine W_X12_partAt (Q := fun Z => Z = some (some (vI (if tkw B L p WS11 = -1 then -1 else tkw B L p WS11 + 1)), (SH T, c))) ?_
  refine lpI (Q := fun Z => Z = some (some (vI (if tkw B L p WS11 = -1 then -1 else tkw B L p WS11 + 1)), (SH T, c))) (E := fun i (s : Int) => cev 232 2 4 [vR 78, vI s, vI i] [] (SH T, c)) (fun i s => (0 ≤ i ∧ i ≤ 10) ∧ ((s = -1 ∧ ∀ j : Nat, (j : Int) < i → ¬ isw B L p (WS11.getD j 0)) ∨ ∃ j : Nat, (j : Int) < i ∧ s = j + 1 ∧ isw B L p (WS11.getD j 0))) 10 ?_ ?_ 0 (-1) ⟨by omega, .inl ⟨rfl, fun j a => absurd a (by omega)⟩⟩
  · rintro i s hi ⟨ib, hs⟩ ih
    obtain ⟨m, rfl⟩ := Int.eq_ofNat_of_zero_le ib.1
    refine W_X12_partAt_4 (Q := fun Z => Z = _) ⟨fun _ => ⟨by omega, ?_⟩, fun z => absurd hi z⟩
    rw [hw m (by omega) hi, h.w, Int.toNat_natCast]
    refine ⟨fun e => ⟨by omega, ih _ ⟨by omega, .inr ⟨m, by omega, rfl, e⟩⟩⟩, fun e => ⟨by omega, ih _ ⟨by omega, ?_⟩⟩⟩
    rcases hs with ⟨s1, hs⟩ | ⟨j, h1, h2, h3⟩
    · refine .inl ⟨s1, fun j a => ?_⟩
      by_cases ej : j = m
      · rw [ej]; exact e
      · exact hs j (by omega)
    · exact .inr ⟨j, by omega, h2, h3⟩
  · rintro i s hi ⟨ib, hs⟩
    refine W_X12_partAt_4 (Q := fun Z => Z = _) ⟨fun z => absurd z (by omega), fun _ => ?_⟩
    have : s = if tkw B L p WS11 = -1 then -1 else tkw B L p WS11 + 1 := by
      unfold tkw
      by_cases e : kd B L p = 0
      · rw [if_pos e]
        rcases wix_spec WS11 (wo B L p) 0 with ⟨w1, w2⟩ | ⟨j, w1, w2, w3⟩
        · rw [if_pos w1]
          rcases hs with ⟨s1, _⟩ | ⟨j, h1, h2, h3⟩
          · exact s1
          · exact absurd h3.2 (w2 j (by show j < 10; omega))
        · rw [if_neg (by omega), w2]
          have w1' : j < 10 := w1
          rcases hs with ⟨s1, hs⟩ | ⟨j2, h1, h2, h3⟩
          · exact absurd ⟨e, w3⟩ (hs j (by omega))
          · have := ws_injWS11 j2 (by omega) j w1' (h3.2.symm.trans w3)
            omega
      · rw [if_neg e, if_pos rfl]
        rcases hs with ⟨s1, _⟩ | ⟨j, h1, h2, h3⟩
        · exact s1
        · exact absurd h3.1 e
    rw [this]
theorem ws_injWS10 : ∀ i : Nat, i < 7 → ∀ j : Nat, j < 7 → WS10.getD i 0 = WS10.getD j 0 → i = j := by decide
theorem r_orderPartAt {T : List Shp} {c : Cm} {B : Int → Int} {L p : Int} (h : ER c B L p) (hk : KW c) : ccal 233 [vR 78] (SH T, c) = some (some (vI (if tkw B L p WS10 = -1 then -1 else tkw B L p WS10 + 1)), (SH T, c)) := by
  have hw := hk.2.1
  refine W_X12_orderPartAt (Q := fun Z => Z = some (some (vI (if tkw B L p WS10 = -1 then -1 else tkw B L p WS10 + 1)), (SH T, c))) ?_
  refine lpI (Q := fun Z => Z = some (some (vI (if tkw B L p WS10 = -1 then -1 else tkw B L p WS10 + 1)), (SH T, c))) (E := fun i (s : Int) => cev 233 2 4 [vR 78, vI s, vI i] [] (SH T, c)) (fun i s => (0 ≤ i ∧ i ≤ 7) ∧ ((s = -1 ∧ ∀ j : Nat, (j : Int) < i → ¬ isw B L p (WS10.getD j 0)) ∨ ∃ j : Nat, (j : Int) < i ∧ s = j + 1 ∧ isw B L p (WS10.getD j 0))) 7 ?_ ?_ 0 (-1) ⟨by omega, .inl ⟨rfl, fun j a => absurd a (by omega)⟩⟩
  · rintro i s hi ⟨ib, hs⟩ ih
    obtain ⟨m, rfl⟩ := Int.eq_ofNat_of_zero_le ib.1
    refine W_X12_orderPartAt_4 (Q := fun Z => Z = _) ⟨fun _ => ⟨by omega, ?_⟩, fun z => absurd hi z⟩
    rw [hw m (by omega) hi, h.w, Int.toNat_natCast]
    refine ⟨fun e => ⟨by omega, ih _ ⟨by omega, .inr ⟨m, by omega, rfl, e⟩⟩⟩, fun e => ⟨by omega, ih _ ⟨by omega, ?_⟩⟩⟩
    rcases hs with ⟨s1, hs⟩ | ⟨j, h1, h2, h3⟩
    · refine .inl ⟨s1, fun j a => ?_⟩
      by_cases ej : j = m
      · rw [ej]; exact e
      · exact hs j (by omega)
    · exact .inr ⟨j, by omega, h2, h3⟩
  · rintro i s hi ⟨ib, hs⟩
    refine W_X12_orderPartAt_4 (Q := fun Z => Z = _) ⟨fun z => absurd z (by omega), fun _ => ?_⟩
    have : s = if tkw B L p WS10 = -1 then -1 else tkw B L p WS10 + 1 := by
      unfold tkw
      by_cases e : kd B L p = 0
      · rw [if_pos e]
        rcases wix_spec WS10 (wo B L p) 0 with ⟨w1, w2⟩ | ⟨j, w1, w2, w3⟩
        · rw [if_pos w1]
          rcases hs with ⟨s1, _⟩ | ⟨j, h1, h2, h3⟩
          · exact s1
          · exact absurd h3.2 (w2 j (by show j < 7; omega))
        · rw [if_neg (by omega), w2]
          have w1' : j < 7 := w1
          rcases hs with ⟨s1, hs⟩ | ⟨j2, h1, h2, h3⟩
          · exact absurd ⟨e, w3⟩ (hs j (by omega))
          · have := ws_injWS10 j2 (by omega) j w1' (h3.2.symm.trans w3)
            omega
      · rw [if_neg e, if_pos rfl]
        rcases hs with ⟨s1, _⟩ | ⟨j, h1, h2, h3⟩
        · exact s1
        · exact absurd h3.1 e
    rw [this]

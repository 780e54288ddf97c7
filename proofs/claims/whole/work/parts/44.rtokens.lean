/-! THE REFERENCE's tokens -/
def NXR (q : Nat) (j : Int) : Prop := q = 77 ∧ 10 ≤ j ∧ j ≤ 13
def srt (k : Int) : Int := if k = 3 then 0 else k + 1
def TR (c : Cm) (B : Int → Int) (L p : Int) : Prop := c 77 12 = srt (kd B L p) ∧ c 77 10 = p ∧ c 77 11 = en B L p ∧ c 77 13 = wo B L p
/-- a word's worth by its letters so far -/
def wbd (d v : Int) : Prop := (10 < d → v = -1) ∧ (d ≤ 10 → 0 ≤ v ∧ v < 32 ^ d.toNat)
theorem pow_32 : ∀ n : Nat, n < 11 → (32 : Int) ^ n ≤ 1125899906842624 := by decide +kernel
theorem wbd_step {d v x : Int} (hd : 0 ≤ d) (h : wbd d v) (hx : 97 ≤ x ∧ x ≤ 122) : wbd (d + 1) (if d < 10 then v * 32 + x - 96 else -1) := by
  unfold wbd at h ⊢
  by_cases e : d < 10
  · rw [if_pos e]
    have h2 := h.2 (by omega)
    refine ⟨fun z => by omega, fun _ => ?_⟩
    rw [show (d + 1).toNat = d.toNat + 1 from by omega, Int.pow_succ]
    generalize (32 : Int) ^ d.toNat = y at h2 ⊢
    omega
  · rw [if_neg e]
    exact ⟨fun _ => rfl, fun z => by omega⟩
theorem wbd_lt {d v : Int} (hd : 0 ≤ d) (h : wbd d v) : -1 ≤ v ∧ v ≤ 1125899906842624 := by
  unfold wbd at h
  by_cases e : d ≤ 10
  · have h2 := h.2 e
    have h3 := pow_32 d.toNat (by omega)
    generalize (32 : Int) ^ d.toNat = y at h2 h3
    omega
  · have h2 := h.1 (by omega)
    omega
theorem kof_0 {x : Int} : kof x = 0 ↔ 97 ≤ x ∧ x ≤ 122 := by
  unfold kof
  by_cases h : 97 ≤ x ∧ x ≤ 122
  · rw [if_pos h]; exact ⟨fun _ => h, fun _ => rfl⟩
  · rw [if_neg h]
    refine ⟨fun e => ?_, fun e => absurd e h⟩
    by_cases h2 : 48 ≤ x ∧ x ≤ 57
    · rw [if_pos h2] at e; omega
    · rw [if_neg h2] at e; omega
theorem kof_1 {x : Int} : kof x = 1 ↔ 48 ≤ x ∧ x ≤ 57 := by
  unfold kof
  by_cases h : 97 ≤ x ∧ x ≤ 122
  · rw [if_pos h]; omega
  · rw [if_neg h]
    by_cases h2 : 48 ≤ x ∧ x ≤ 57
    · rw [if_pos h2]; exact ⟨fun _ => h2, fun _ => rfl⟩
    · rw [if_neg h2]; omega
theorem r_next {T : List Shp} {c : Cm} {B : Int → Int} {L : Int} (hL : c 77 9 = L) (hB : ∀ j, 0 ≤ j → j < L → c 83 j = B j) (hbl : BLt B L) (h6 : 0 ≤ c 77 11 ∧ c 77 11 ≤ L) : QV T (fun c' => Fr NXR c c' ∧ TR c' B L (sk B L (c 77 11))) (ccal 220 [vR 78] (SH T, c)) := by
  have hLb := hbl.1
  have st : ∀ s : Cm, Fr NXR c s → s 77 9 = L ∧ ∀ j, 0 ≤ j → j < L → s 83 j = B j := fun s o => ⟨(o 77 9 (by unfold NXR; omega)).trans hL, fun j a b => by rw [o.cell (q := 83) (by intro j; unfold NXR; omega)]; exact hB j a b⟩
  -- digits
  have digs : ∀ (s : Cm) (p : Int), Fr NXR c s → 0 ≤ p → p < L → kof (B p) = 1 → s 77 12 = 2 → s 77 10 = p → s 77 11 = p → s 77 13 = 0 → p = sk B L (c 77 11) → QV T (fun c' => Fr NXR c c' ∧ TR c' B L (sk B L (c 77 11))) (cev 220 2 243 [vR 78] [] (SH T, s)) := by
    intro s p o p0 pL ek k2 k0 k1 k3 ep
    have fin : ∀ (s : Cm) (i : Int), Fr NXR c s → s 77 12 = 2 → s 77 10 = p → s 77 11 = i → whl L (okd B 1) (dgr B) p 0 = (i, s 77 13) → TR s B L (sk B L (c 77 11)) := by
      intro s i o k2 k0 k1 ew
      rw [← ep]
      unfold TR kd en wo
      rw [if_pos pL, if_pos pL, if_pos pL, if_neg (by omega), if_neg (by omega), if_neg (by omega), ek]
      refine ⟨k2, k0, ?_, ?_⟩
      · rw [whl_fst (g := dgr B) (b := (0 : Int)), ew]
        exact k1
      · rw [ew]
    refine lpI (Q := QV T _) (E := fun i (s : Cm) => cev 220 2 243 [vR 78] [] (SH T, s)) (fun i s => (p ≤ i ∧ i ≤ L) ∧ Fr NXR c s ∧ s 77 12 = 2 ∧ s 77 10 = p ∧ s 77 11 = i ∧ (0 ≤ s 77 13 ∧ s 77 13 ≤ 10000009) ∧ whl L (okd B 1) (dgr B) i (s 77 13) = whl L (okd B 1) (dgr B) p 0) L ?_ ?_ p s ⟨by omega, o, k2, k0, k1, by omega, by rw [k3]⟩
    · rintro i s hi ⟨ib, o, q2, q0, q1, q3, q9⟩ ih
      have hs := st s o
      have hbi := hs.2 i (by omega) hi
      have hb2 := hbl.2 i (by omega) (by omega)
      refine W_X12_next_243 ⟨fun _ => ⟨fun _ => ⟨by omega, fun e => ?_, fun e => QV.ret ⟨o, fin s i o q2 q0 q1 ?_⟩⟩, fun z => absurd (show s 77 11 < s 77 9 by omega) z⟩, fun z => absurd q2 z⟩
      · rw [q1, hbi] at e
        have ep2 : okd B 1 i = true := by unfold okd; rw [kof_1.mpr e]; rfl
        rw [whl_go hi ep2] at q9
        rw [q1, hbi]
        refine ⟨fun e1 => ⟨by omega, ih _ ⟨by omega, (o.wr (by unfold NXR; omega)).wr (by unfold NXR; omega), ?_, ?_, up_same, ?_, ?_⟩⟩, fun e1 => ⟨by omega, ih _ ⟨by omega, (o.wr (by unfold NXR; omega)).wr (by unfold NXR; omega), ?_, ?_, up_same, ?_, ?_⟩⟩⟩
        · rw [up_ne (by decide), up_ne (by decide)]; exact q2
        · rw [up_ne (by decide), up_ne (by decide)]; exact q0
        · rw [up_ne (by decide), up_same]; exact q3
        · rw [up_ne (by decide), up_same, ← q9, show dgr B i (s 77 13) = s 77 13 from if_pos e1]
        · rw [up_ne (by decide), up_ne (by decide)]; exact q2
        · rw [up_ne (by decide), up_ne (by decide)]; exact q0
        · rw [up_ne (by decide), up_same]; omega
        · rw [up_ne (by decide), up_same, ← q9, show dgr B i (s 77 13) = s 77 13 * 10 + B i - 48 from if_neg e1]
      · rw [q1, hbi] at e
        rw [← q9, whl_stop]
        unfold okd
        exact beq_eq_false_iff_ne.mpr fun k => e (kof_1.mp k)
    · rintro i s hi ⟨ib, o, q2, q0, q1, q3, q9⟩
      have hs := st s o
      refine W_X12_next_243 ⟨fun _ => ⟨fun z => absurd z (by omega), fun _ => QV.ret ⟨o, fin s i o q2 q0 q1 ?_⟩⟩, fun z => absurd q2 z⟩
      rw [← q9, whl_end (by omega)]
  -- letters
  have lets : ∀ (s : Cm) (p : Int), Fr NXR c s → 0 ≤ p → p < L → kof (B p) = 0 → s 77 12 = 1 → s 77 10 = p → s 77 11 = p → s 77 13 = 0 → p = sk B L (c 77 11) → QV T (fun c' => Fr NXR c c' ∧ TR c' B L (sk B L (c 77 11))) (cev 220 2 149 [vR 78] [] (SH T, s)) := by
    intro s p o p0 pL ek k2 k0 k1 k3 ep
    have fin : ∀ (s : Cm) (i : Int), Fr NXR c s → s 77 12 = 1 → s 77 10 = p → s 77 11 = i → whl L (okd B 0) (wdr B p) p 0 = (i, s 77 13) → QV T (fun c' => Fr NXR c c' ∧ TR c' B L (sk B L (c 77 11))) (cev 220 2 243 [vR 78] [] (SH T, s)) := by
      intro s i o k2 k0 k1 ew
      refine W_X12_next_243 ⟨fun z => absurd z (by omega), fun _ => QV.ret ⟨o, ?_⟩⟩
      rw [← ep]
      unfold TR kd en wo
      rw [if_pos pL, if_pos pL, if_pos pL, if_neg (by omega), if_neg (by omega), if_pos ek, ek]
      refine ⟨k2, k0, ?_, ?_⟩
      · rw [whl_fst (g := wdr B p) (b := (0 : Int)), ew]
        exact k1
      · rw [ew]
    refine lpI (Q := QV T _) (E := fun i (s : Cm) => cev 220 2 149 [vR 78] [] (SH T, s)) (fun i s => (p ≤ i ∧ i ≤ L) ∧ Fr NXR c s ∧ s 77 12 = 1 ∧ s 77 10 = p ∧ s 77 11 = i ∧ wbd (i - p) (s 77 13) ∧ whl L (okd B 0) (wdr B p) i (s 77 13) = whl L (okd B 0) (wdr B p) p 0) L ?_ ?_ p s ⟨by omega, o, k2, k0, k1, by rw [k3, show p - p = 0 from by omega]; exact ⟨fun z => absurd z (by decide), fun _ => by decide⟩, by rw [k3]⟩
    · rintro i s hi ⟨ib, o, q2, q0, q1, q3, q9⟩ ih
      have hs := st s o
      have hbi := hs.2 i (by omega) hi
      have hb2 := hbl.2 i (by omega) (by omega)
      have wl := wbd_lt (by omega) q3
      refine W_X12_next_149 ⟨fun _ => ⟨fun _ => ⟨by omega, fun e => ?_, fun e => fin s i o q2 q0 q1 ?_⟩, fun z => absurd (show s 77 11 < s 77 9 by omega) z⟩, fun z => absurd q2 z⟩
      · rw [q1, hbi] at e
        have ep2 : okd B 0 i = true := by unfold okd; rw [kof_0.mpr e]; rfl
        rw [whl_go hi ep2] at q9
        have ws := wbd_step (by omega) q3 e
        rw [show i - p + 1 = i + 1 - p from by omega] at ws
        rw [q1, q0, hbi]
        refine ⟨by omega, fun e1 => ⟨by omega, ih _ ⟨by omega, (o.wr (by unfold NXR; omega)).wr (by unfold NXR; omega), ?_, ?_, up_same, ?_, ?_⟩⟩, fun e1 => ⟨by omega, ih _ ⟨by omega, (o.wr (by unfold NXR; omega)).wr (by unfold NXR; omega), ?_, ?_, up_same, ?_, ?_⟩⟩⟩
        · rw [up_ne (by decide), up_ne (by decide)]; exact q2
        · rw [up_ne (by decide), up_ne (by decide)]; exact q0
        · rw [up_ne (by decide), up_same]; rw [if_pos e1] at ws; exact ws
        · rw [up_ne (by decide), up_same, ← q9, show wdr B p i (s 77 13) = s 77 13 * 32 + B i - 96 from if_pos e1]
        · rw [up_ne (by decide), up_ne (by decide)]; exact q2
        · rw [up_ne (by decide), up_ne (by decide)]; exact q0
        · rw [up_ne (by decide), up_same]; rw [if_neg e1] at ws; exact ws
        · rw [up_ne (by decide), up_same, ← q9, show wdr B p i (s 77 13) = -1 from if_neg e1]
      · rw [q1, hbi] at e
        rw [← q9, whl_stop]
        unfold okd
        exact beq_eq_false_iff_ne.mpr fun k => e (kof_0.mp k)
    · rintro i s hi ⟨ib, o, q2, q0, q1, q3, q9⟩
      have hs := st s o
      refine W_X12_next_149 ⟨fun _ => ⟨fun z => absurd z (by omega), fun _ => fin s i o q2 q0 q1 ?_⟩, fun z => absurd q2 z⟩
      rw [← q9, whl_end (by omega)]
  -- a sign, the end
  have k149 : ∀ (s : Cm) (p : Int), Fr NXR c s → (s 77 12 = 0 ∨ s 77 12 = 3) → TR s B L p → p = sk B L (c 77 11) → QV T (fun c' => Fr NXR c c' ∧ TR c' B L (sk B L (c 77 11))) (cev 220 2 149 [vR 78] [] (SH T, s)) := by
    intro s p o h ht ep
    refine W_X12_next_149 ⟨fun z => by omega, fun _ => W_X12_next_243 ⟨fun z => by omega, fun _ => QV.ret ⟨o, ?_⟩⟩⟩
    rw [← ep]
    exact ht
  have k46 : ∀ (s : Cm) (p : Int), Fr NXR c s → 0 ≤ p → p ≤ L → s 77 10 = p → p = sk B L (c 77 11) → QV T (fun c' => Fr NXR c c' ∧ TR c' B L (sk B L (c 77 11))) (cev 220 2 46 [vR 78] [] (SH T, s)) := by
    intro s p o p0 pL k5 ep
    have hs := st s o
    have o2 : Fr NXR c (up (up s 77 11 (s 77 10)) 77 13 0) := (o.wr (by unfold NXR; omega)).wr (by unfold NXR; omega)
    have f10 : ∀ y, up (up (up s 77 11 (s 77 10)) 77 13 0) 77 12 y 77 10 = p := fun y => by rw [up_ne (by decide), up_ne (by decide), up_ne (by decide)]; exact k5
    have f11 : ∀ y, up (up (up s 77 11 (s 77 10)) 77 13 0) 77 12 y 77 11 = p := fun y => by rw [up_ne (by decide), up_ne (by decide), up_same]; exact k5
    have f13 : ∀ y, up (up (up s 77 11 (s 77 10)) 77 13 0) 77 12 y 77 13 = 0 := fun y => by rw [up_ne (by decide), up_same]
    refine W_X12_next_46 ⟨fun h => ?_, fun h => ⟨by omega, ?_⟩⟩
    · have eL : p = L := by omega
      refine W_X12_next_114 ⟨fun z => absurd z (by decide), fun _ => k149 _ p (o2.wr (by unfold NXR; omega)) (.inl up_same) ?_ ep⟩
      unfold TR kd en wo
      rw [if_neg (by omega), if_neg (by omega), if_neg (by omega)]
      exact ⟨up_same, f10 _, f11 _, f13 _⟩
    · have pL2 : p < L := by omega
      rw [k5, hs.2 p p0 pL2]
      rw [k5] at o2 f10 f11 f13
      refine ⟨fun e => ?_, fun e => ⟨by omega, fun e2 => ?_, fun e2 => ?_⟩⟩
      · exact W_X12_next_114 ⟨fun z => absurd z (by decide), fun _ => lets _ p (o2.wr (by unfold NXR; omega)) p0 pL2 (kof_0.mpr e) up_same (f10 _) (f11 _) (f13 _) ep⟩
      · exact W_X12_next_114 ⟨fun z => absurd z (by decide), fun _ => W_X12_next_149 ⟨fun z => absurd ((show (2 : Int) = 1 from (up_same (c := up (up s 77 11 p) 77 13 0) (k := 77) (i := 12) (v := 2)).symm.trans z)) (by decide), fun _ => digs _ p (o2.wr (by unfold NXR; omega)) p0 pL2 (kof_1.mpr e2) up_same (f10 _) (f11 _) (f13 _) ep⟩⟩
      · have ek : kof (B p) = 2 := by
          have := kof_or (x := B p)
          have a := kof_0 (x := B p)
          have b := kof_1 (x := B p)
          omega
        refine W_X12_next_114 ⟨fun _ => ⟨⟨?_, ?_⟩, ?_⟩, fun z => absurd rfl z⟩
        · rw [up_ne (by decide), up_ne (by decide)]; omega
        · rw [up_ne (by decide), up_same]; omega
        · refine k149 _ p (((o2.wr (by unfold NXR; omega)).wr (by unfold NXR; omega)).wr (by unfold NXR; omega)) (.inr ?_) ?_ ep
          · rw [up_ne (by decide), up_ne (by decide), up_same]
          · unfold TR kd en wo
            rw [if_pos pL2, if_pos pL2, if_pos pL2, if_pos ek, if_pos ek, ek]
            refine ⟨?_, ?_, ?_, ?_⟩
            · rw [up_ne (by decide), up_ne (by decide), up_same]; rfl
            · rw [up_ne (by decide), up_ne (by decide)]; exact f10 _
            · rw [up_same, up_ne (by decide), up_same]
            · rw [up_ne (by decide), up_same, show up (up s 77 11 p) 77 13 0 77 10 = p from by rw [up_ne (by decide), up_ne (by decide)]; exact k5, up_cell (by decide), up_cell (by decide)]
              exact hs.2 p p0 pL2
  refine W_X12_next (Q := QV T _) ?_
  refine lpI (Q := QV T _) (E := fun i (s : Cm) => cev 220 2 8 [vR 78] [] (SH T, s)) (fun i s => (0 ≤ i ∧ i ≤ L) ∧ Fr NXR c s ∧ s 77 10 = i ∧ sk B L i = sk B L (c 77 11)) L ?_ ?_ (c 77 11) _ ⟨by omega, Fr.rfl.wr (by unfold NXR; omega), up_same, rfl⟩
  · rintro i s hi ⟨ib, o, q5, q9⟩ ih
    have hs := st s o
    refine W_X12_next_8 ⟨fun _ => ⟨by omega, fun e => ?_, fun e => k46 s i o (by omega) (by omega) q5 ?_⟩, fun z => absurd (show s 77 10 < s 77 9 by omega) z⟩
    · rw [q5, hs.2 i (by omega) hi] at e
      rw [q5]
      refine ⟨by omega, ih _ ⟨by omega, o.wr (by unfold NXR; omega), up_same, ?_⟩⟩
      rw [← q9]
      unfold sk
      rw [whl_go (s := i) hi (by rw [e]; rfl)]
    · rw [q5, hs.2 i (by omega) hi] at e
      rw [← q9]
      unfold sk
      rw [whl_stop (p := fun j => B j == 32) (beq_eq_false_iff_ne.mpr e)]
  · rintro i s hi ⟨ib, o, q5, q9⟩
    have hs := st s o
    refine W_X12_next_8 ⟨fun z => absurd z (by omega), fun _ => k46 s i o (by omega) (by omega) q5 ?_⟩
    rw [← q9]
    unfold sk
    rw [whl_end (by omega)]

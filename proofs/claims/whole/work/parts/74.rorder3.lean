/-! THE REFERENCE READS: an order's head -/
theorem tk1 {B : Int → Int} {L p : Int} : tkw B L p WS1 = if kd B L p = 0 then (if wo B L p = 16819668 then 0 else if wo B L p = 641271301 then 1 else if wo B L p = 114201 then 2 else if wo B L p = 21484648 then 3 else -1) else -1 := rfl
theorem tk2 {B : Int → Int} {L p : Int} : tkw B L p WS2 = if kd B L p = 0 then (if wo B L p = 412456564 then 0 else if wo B L p = 111838500468 then 1 else if wo B L p = 89 then 2 else -1) else -1 := rfl
theorem tk1_iff {B : Int → Int} {L p : Int} : (isw B L p 16819668 ↔ tkw B L p WS1 = 0) ∧ (isw B L p 641271301 ↔ tkw B L p WS1 = 1) ∧ (isw B L p 114201 ↔ tkw B L p WS1 = 2) ∧ (isw B L p 21484648 ↔ tkw B L p WS1 = 3) := by
  rw [tk1]
  unfold isw
  by_cases e : kd B L p = 0
  · rw [if_pos e]
    repeat' split
    all_goals omega
  · rw [if_neg e]; omega
theorem tk2_iff {B : Int → Int} {L p : Int} : (isw B L p 412456564 ↔ tkw B L p WS2 = 0) ∧ (isw B L p 111838500468 ↔ tkw B L p WS2 = 1) ∧ (isw B L p 89 ↔ tkw B L p WS2 = 2) := by
  rw [tk2]
  unfold isw
  by_cases e : kd B L p = 0
  · rw [if_pos e]
    repeat' split
    all_goals omega
  · rw [if_neg e]; omega
section OHS
variable {T : List Shp} {o : Int} {B : Int → Int} {L k p n q : Int} {F : List Orc} {c : Cm} {Ps : Int → Cm → Prop}
/-- must, that is not, in a text -/
theorem must_bad {c1 : Cm} {p1 : Int} (h : ER c1 B L p1) (hb : c1 77 15 = 0) (k : ∀ c', Fr LXB c1 c' → c' 77 15 = 1 → c' 77 14 = p1 → ∀ r, Ps r c') (r : Int) : QV T (fun c2 => Ps r c2) (ccal 223 [vR 78, vI 0] (SH T, c1)) := by
  refine (r_mustF h hb).mono fun c3 h3 => k c3 ?_ ?_ ?_ r
  · rw [h3]
    exact (Fr.rfl.wr (by unfold LXB RXA; omega)).wr (by unfold LXB RXA; omega)
  · rw [h3, up_ne (by decide), up_same]
  · rw [h3, up_same]
theorem oh_bad (hl : LSt c o B L k p n q F) (h : tkw B L p WS1 = -1 ∨ ¬ k < 12) (kk : ∀ c', Fr LXB c c' → c' 77 15 = 1 → c' 77 14 = p → ∀ r, Ps r c') : QI T Ps (ccal 327 [vR 78] (SH T, c)) := by
  have t := tk1_iff (B := B) (L := L) (p := p)
  have hb := hl.1.2.2.2.2.2.1
  have h2 := hl.2.1
  have h4 := hl.2.2.2.1
  have e := hl.1.1
  have k76 : ∀ x1 x2, QI T Ps (cev 327 4 76 [vR 78, vI x1, vI x2] [vI 0, vR 78] (SH T, c)) := fun x1 x2 => W_X12_readHead_76 ((must_bad (Ps := fun r c' => c' 77 15 = 1 ∧ Ps r c') e hb.1 (fun c' f a b r => ⟨a, kk c' f a b r⟩) x2).mono fun c1 g => ⟨fun z => absurd (g.1.symm.trans z) (by decide), fun _ => QI.ret g.2⟩)
  have k62 : ¬ tkw B L p WS1 = -1 → ∀ x1 x2, QI T Ps (cev 327 4 62 [vR 78, vI x1, vI x2] [vR 78] (SH T, c)) := fun h' x1 x2 => W_X12_readHead_62 ⟨fun z => absurd z (by omega), fun _ => k76 x1 x2⟩
  have k51 : ∀ y, (y = -1 → ¬ tkw B L p WS1 = 1 ∧ ¬ tkw B L p WS1 = 2 ∧ ¬ tkw B L p WS1 = 3) → (¬ y = -1 → ¬ tkw B L p WS1 = -1) → QI T Ps (cev 327 4 51 [vR 78, vI (b01 ((c 77 12) = 1 ∧ (c 77 13) = 16819668)), vU] [vI y] (SH T, c)) := by
    intro y hy hy2
    refine W_X12_readHead_51 ⟨fun _ => ⟨fun _ => k76 _ _, fun z => k62 (hy2 z) _ _⟩, fun z => k62 ?_ _ _⟩
    intro z2
    refine z (b01_f fun w => ?_)
    have := t.1.mp (e.w.mp w)
    omega
  refine W_X12_readHead (Q := QI T _) ⟨fun z => k51 3 (fun w => absurd w (by decide)) fun _ => ?_, fun z1 => ⟨fun z => k51 4 (fun w => absurd w (by decide)) fun _ => ?_, fun z2 => ⟨fun z => k51 5 (fun w => absurd w (by decide)) fun _ => ?_, fun z3 => k51 (-1) (fun _ => ⟨fun w => z1 (e.w.mpr (t.2.1.mpr w)), fun w => z2 (e.w.mpr (t.2.2.1.mpr w)), fun w => z3 (e.w.mpr (t.2.2.2.mpr w))⟩) fun w => absurd rfl w⟩⟩⟩
  · have := t.2.1.mp (e.w.mp z); omega
  · have := t.2.2.1.mp (e.w.mp z); omega
  · have := t.2.2.2.mp (e.w.mp z); omega
theorem oh_other (hl : LSt c o B L k p n q F) (hk : k < 12) (h : tkw B L p WS1 = 1 ∨ tkw B L p WS1 = 2 ∨ tkw B L p WS1 = 3) (kk : ∀ c', Fr NXR c c' → ER c' B L (nx B L p) → Ps (tkw B L p WS1 + 2) c') : QI T Ps (ccal 327 [vR 78] (SH T, c)) := by
  have t := tk1_iff (B := B) (L := L) (p := p)
  have hb := hl.1.2.2.2.2.2.1
  have h2 := hl.2.1
  have e := hl.1.1
  have n0 : ¬ (c 77 12 = 1 ∧ c 77 13 = 16819668) := fun w => by have := t.1.mp (e.w.mp w); omega
  have k51 : ∀ y, y = tkw B L p WS1 + 2 → QI T Ps (cev 327 4 51 [vR 78, vI (b01 ((c 77 12) = 1 ∧ (c 77 13) = 16819668)), vU] [vI y] (SH T, c)) := by
    intro y hy
    rw [b01_f n0]
    refine W_X12_readHead_51 ⟨fun _ => ⟨fun z => absurd z (by omega), fun _ => W_X12_readHead_62 ⟨fun _ => W_X12_readHead_76 ((r_mustT e hb.1 (by decide)).mono fun c1 g => ?_), fun z => absurd z (by omega)⟩⟩, fun z => absurd rfl z⟩
    have hb1 : c1 77 15 = 0 := (g.1 77 15 (by unfold NXR; omega)).trans hb.1
    exact ⟨fun _ => ⟨fun _ => QI.ret (hy ▸ kk c1 g.1 g.2), fun z => absurd rfl z⟩, fun z => absurd hb1 z⟩
  refine W_X12_readHead (Q := QI T _) ⟨fun z => k51 3 ?_, fun z1 => ⟨fun z => k51 4 ?_, fun z2 => ⟨fun z => k51 5 ?_, fun z3 => ?_⟩⟩⟩
  · have := t.2.1.mp (e.w.mp z); omega
  · have := t.2.2.1.mp (e.w.mp z); omega
  · have := t.2.2.2.mp (e.w.mp z); omega
  · have a1 := fun w => z1 (e.w.mpr (t.2.1.mpr w))
    have a2 := fun w => z2 (e.w.mpr (t.2.2.1.mpr w))
    have a3 := fun w => z3 (e.w.mpr (t.2.2.2.mpr w))
    rcases h with h | h | h
    · exact absurd h a1
    · exact absurd h a2
    · exact absurd h a3
theorem oh_paint (hl : LSt c o B L k p n q F) (hk : k < 12) (h : tkw B L p WS1 = 0) (kk : ∀ c1, Fr NXR c c1 → ER c1 B L (nx B L p) → c1 77 15 = 0 → (tkw B L (nx B L p) WS2 = -1 → ∀ c', Fr LXB c1 c' → c' 77 15 = 1 → c' 77 14 = nx B L p → ∀ r, Ps r c') ∧ (¬ tkw B L (nx B L p) WS2 = -1 → ∀ c', Fr NXR c1 c' → ER c' B L (nx B L (nx B L p)) → Ps (tkw B L (nx B L p) WS2) c')) : QI T Ps (ccal 327 [vR 78] (SH T, c)) := by
  have t := tk1_iff (B := B) (L := L) (p := p)
  have hb := hl.1.2.2.2.2.2.1
  have h2 := hl.2.1
  have e := hl.1.1
  have n0 : c 77 12 = 1 ∧ c 77 13 = 16819668 := e.w.mpr (t.1.mpr h)
  have k51 : QI T Ps (cev 327 4 51 [vR 78, vI (b01 ((c 77 12) = 1 ∧ (c 77 13) = 16819668)), vU] [vI (-1)] (SH T, c)) := by
    rw [b01_t n0]
    refine W_X12_readHead_51 ⟨fun z => absurd z (by decide), fun _ => W_X12_readHead_62 ⟨fun _ => W_X12_readHead_76 ((r_mustT e hb.1 (by decide)).mono fun c1 g => ?_), fun z => absurd z (by omega)⟩⟩
    have hb1 : c1 77 15 = 0 := (g.1 77 15 (by unfold NXR; omega)).trans hb.1
    have e1 := g.2
    have t2 := tk2_iff (B := B) (L := L) (p := nx B L p)
    have kk' := kk c1 g.1 g.2 hb1
    have ok : ∀ y, y = tkw B L (nx B L p) WS2 → ¬ y = -1 → QI T Ps (cev 327 4 135 [vR 78, vU, vU] [vI y] (SH T, c1)) := by
      intro y hy hy2
      exact W_X12_readHead_135 ⟨fun z => absurd z hy2, fun _ => (r_mustT e1 hb1 (by decide)).mono fun c3 g3 => QI.ret (hy ▸ kk'.2 (hy ▸ hy2) c3 g3.1 g3.2)⟩
    refine ⟨fun _ => ⟨fun z => absurd z (by decide), fun _ => ⟨fun z => ok 0 (t2.1.mp (e1.w.mp z)).symm (by decide), fun z1 => ⟨fun z => ok 1 (t2.2.1.mp (e1.w.mp z)).symm (by decide), fun z2 => ⟨fun z => ok 2 (t2.2.2.mp (e1.w.mp z)).symm (by decide), fun z3 => ?_⟩⟩⟩⟩, fun z => absurd hb1 z⟩
    have no : tkw B L (nx B L p) WS2 = -1 := by
      have a1 : ¬ tkw B L (nx B L p) WS2 = 0 := fun w => z1 (e1.w.mpr (t2.1.mpr w))
      have a2 : ¬ tkw B L (nx B L p) WS2 = 1 := fun w => z2 (e1.w.mpr (t2.2.1.mpr w))
      have a3 : ¬ tkw B L (nx B L p) WS2 = 2 := fun w => z3 (e1.w.mpr (t2.2.2.mpr w))
      have h3 := tk2 (B := B) (L := L) (p := nx B L p)
      by_cases ee : tkw B L (nx B L p) WS2 = -1
      · exact ee
      · have l := tkw_lt ee
        have l2 : tkw B L (nx B L p) WS2 < 3 := l.2.2
        omega
    exact W_X12_readHead_135 ⟨fun _ => (must_bad e1 hb1 (kk'.1 no) (-1)).mono fun c3 g3 => QI.ret g3, fun z => absurd rfl z⟩
  have n1 : ¬ (c 77 12 = 1 ∧ c 77 13 = 641271301) := fun w => by have := t.2.1.mp (e.w.mp w); omega
  have n2 : ¬ (c 77 12 = 1 ∧ c 77 13 = 114201) := fun w => by have := t.2.2.1.mp (e.w.mp w); omega
  have n3 : ¬ (c 77 12 = 1 ∧ c 77 13 = 21484648) := fun w => by have := t.2.2.2.mp (e.w.mp w); omega
  exact W_X12_readHead (Q := QI T _) ⟨fun z => absurd z n1, fun _ => ⟨fun z => absurd z n2, fun _ => ⟨fun z => absurd z n3, fun _ => k51⟩⟩⟩
end OHS

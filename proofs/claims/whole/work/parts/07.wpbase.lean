/-! WEAKEST PRECONDITIONS over the clean interpreter: rows for the printed W_.. (own work). -/
abbrev Cm : Type := Nat → Int → Int
def QI (T : List Shp) (P : Int → Cm → Prop) (R : Res) : Prop := ∃ r c', R = some (some (vI r), (SH T, c')) ∧ P r c'
def QL (T : List Shp) (P : Int → Cm → Prop) (R : Res) : Prop := ∃ r c', R = some (some (vL r), (SH T, c')) ∧ P r c'
def QR (T : List Shp) (P : Int → Cm → Prop) (R : Res) : Prop := ∃ r c', R = some (some (vR r), (SH T, c')) ∧ P r c'
def QV (T : List Shp) (P : Cm → Prop) (R : Res) : Prop := ∃ c', R = some (none, (SH T, c')) ∧ P c'
def b01 (p : Prop) [Decidable p] : Int := if p then 1 else 0
def clp (v lo hi : Int) : Int := if v < lo then lo else if hi < v then hi else v
def abz (v : Int) : Int := if 0 ≤ v then v else -v
theorem b01_or {p : Prop} [Decidable p] : b01 p = 0 ∨ b01 p = 1 := by
  unfold b01
  by_cases h : p
  · rw [if_pos h]; exact .inr rfl
  · rw [if_neg h]; exact .inl rfl
theorem b01_congr {p q : Prop} [Decidable p] [Decidable q] (h : p ↔ q) : b01 p = b01 q := by
  unfold b01
  by_cases a : p
  · rw [if_pos a, if_pos (h.mp a)]
  · rw [if_neg a, if_neg (fun b => a (h.mpr b))]
theorem b01_t {p : Prop} [Decidable p] (h : p) : b01 p = 1 := if_pos h
theorem b01_f {p : Prop} [Decidable p] (h : ¬ p) : b01 p = 0 := if_neg h
section WQ
variable {Q : Res → Prop}
theorem of_cev {m nd pc : Nat} {ls st : List V} {M : Mem} (k : Q (crunL (fun pc' ls' st' M' => cev m nd pc' (msk (blk m pc').1 ls') st' M') (fun f args M' => bif Nat.ble (need f args + 1) nd then ccal f args M' else none) (blk m pc).2 ls st M)) : Q (cev m nd pc ls st M) := by
  rw [cev_eq]
  exact k
theorem wq_pos {p : Prop} {d : Decidable p} {a b : Res} (h : p) (k : Q a) : Q (@ite _ p d a b) := by rw [if_pos h]; exact k
theorem wq_ite {p : Prop} {d : Decidable p} {a b : Res} (k1 : p → Q a) (k2 : ¬ p → Q b) : Q (@ite _ p d a b) := by
  by_cases h : p
  · rw [if_pos h]; exact k1 h
  · rw [if_neg h]; exact k2 h
theorem wq_b01 {p : Prop} {d : Decidable p} {d2 : Decidable (@b01 p d = 0)} {a b : Res} (k1 : ¬ p → Q a) (k2 : p → Q b) : Q (@ite _ (@b01 p d = 0) d2 a b) := by
  by_cases h : p
  · rw [if_neg (by rw [b01_t h]; decide)]; exact k2 h
  · rw [if_pos (b01_f h)]; exact k1 h
theorem wq_bif {b : Bool} {a z : Res} (h : b = true) (k : Q a) : Q (bif b then a else z) := by rw [h]; exact k
theorem wq_el {γ : Type} {o : Option γ} {q : γ} {Z : Res} {g : γ → Res} (h : o = some q) (k : Q (g q)) : Q (o.elim Z g) := by rw [h]; exact k
theorem wq_sum {b : Bool} {o : Res} {q : Option V × Mem} {g : Option V × Mem → Res} (hb : b = true) (h : o = some q) (k : Q (g q)) : Q ((bif b then o else none).elim none g) := by rw [hb, h]; exact k
theorem wq_callI {b : Bool} {o : Res} {T : List Shp} {P : Int → Cm → Prop} {g : Option V × Mem → Res} (hb : b = true) (h : QI T P o) (k : ∀ r c', P r c' → Q (g (some (vI r), (SH T, c')))) : Q ((bif b then o else none).elim none g) := by
  obtain ⟨r, c', e, hp⟩ := h
  rw [hb, e]; exact k r c' hp
theorem wq_callL {b : Bool} {o : Res} {T : List Shp} {P : Int → Cm → Prop} {g : Option V × Mem → Res} (hb : b = true) (h : QL T P o) (k : ∀ r c', P r c' → Q (g (some (vL r), (SH T, c')))) : Q ((bif b then o else none).elim none g) := by
  obtain ⟨r, c', e, hp⟩ := h
  rw [hb, e]; exact k r c' hp
theorem wq_callR {b : Bool} {o : Res} {T : List Shp} {P : Int → Cm → Prop} {g : Option V × Mem → Res} (hb : b = true) (h : QR T P o) (k : ∀ r c', P r c' → Q (g (some (vR r), (SH T, c')))) : Q ((bif b then o else none).elim none g) := by
  obtain ⟨r, c', e, hp⟩ := h
  rw [hb, e]; exact k r c' hp
theorem wq_callV {b : Bool} {o : Res} {T : List Shp} {P : Cm → Prop} {g : Option V × Mem → Res} (hb : b = true) (h : QV T P o) (k : ∀ c', P c' → Q (g (none, (SH T, c')))) : Q ((bif b then o else none).elim none g) := by
  obtain ⟨c', e, hp⟩ := h
  rw [hb, e]; exact k c' hp
/-! comparisons of longs: x < y: -1, x = y: 0, else 1 -/
theorem wq_lc {x y : Int} {g : Int → Res} (k1 : x < y → Q (g (-1))) (k2 : x = y → Q (g 0)) (k3 : y < x → Q (g 1)) : Q (if x < y then g (-1) else if x = y then g 0 else g 1) := by
  by_cases h : x < y
  · rw [if_pos h]; exact k1 h
  · rw [if_neg h]
    by_cases h2 : x = y
    · rw [if_pos h2]; exact k2 h2
    · rw [if_neg h2]; exact k3 (by omega)
theorem wq_lc0 {x y : Int} {t e : Res} (k1 : x = y → Q t) (k2 : ¬ x = y → Q e) : Q (if x < y then (if (-1 : Int) = 0 then t else e) else if x = y then (if (0 : Int) = 0 then t else e) else (if (1 : Int) = 0 then t else e)) :=
  wq_lc (g := fun v => if v = 0 then t else e) (fun h => k2 (by omega)) (fun h => k1 h) (fun h => k2 (by omega))
theorem wq_lc1 {x y : Int} {t e : Res} (k1 : x = y → Q t) (k2 : ¬ x = y → Q e) : Q (if x < y then (if (-1 : Int) = 0 then t else e) else if x = y then (if (0 : Int) = 0 then t else e) else (if (1 : Int) = 0 then t else e)) := wq_lc0 k1 k2
theorem wq_lc2 {x y : Int} {t e : Res} (k1 : x < y → Q t) (k2 : ¬ x < y → Q e) : Q (if x < y then (if (-1 : Int) < 0 then t else e) else if x = y then (if (0 : Int) < 0 then t else e) else (if (1 : Int) < 0 then t else e)) :=
  wq_lc (g := fun v => if v < 0 then t else e) (fun h => k1 h) (fun h => k2 (by omega)) (fun h => k2 (by omega))
theorem wq_lc3 {x y : Int} {t e : Res} (k1 : x < y → Q t) (k2 : ¬ x < y → Q e) : Q (if x < y then (if (-1 : Int) < 0 then t else e) else if x = y then (if (0 : Int) < 0 then t else e) else (if (1 : Int) < 0 then t else e)) := wq_lc2 k1 k2
theorem wq_lc4 {x y : Int} {t e : Res} (k1 : y < x → Q t) (k2 : ¬ y < x → Q e) : Q (if x < y then (if (0 : Int) < -1 then t else e) else if x = y then (if (0 : Int) < 0 then t else e) else (if (0 : Int) < 1 then t else e)) :=
  wq_lc (g := fun v => if 0 < v then t else e) (fun h => k2 (by omega)) (fun h => k2 (by omega)) (fun h => k1 h)
theorem wq_lc5 {x y : Int} {t e : Res} (k1 : y < x → Q t) (k2 : ¬ y < x → Q e) : Q (if x < y then (if (0 : Int) < -1 then t else e) else if x = y then (if (0 : Int) < 0 then t else e) else (if (0 : Int) < 1 then t else e)) := wq_lc4 k1 k2
end WQ

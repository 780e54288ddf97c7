/-! GENERAL: folds, loops, memory (own work). -/
def fold {α : Type} (f : Int → α → α) (x : α) : Nat → α
  | 0 => x
  | n + 1 => f (n : Int) (fold f x n)
def foldI {α : Type} (f : Int → α → α) (x : α) (b : Int) : α := fold f x b.toNat
theorem foldI_zero {α : Type} {f : Int → α → α} {x : α} : foldI f x 0 = x := rfl
theorem foldI_succ {α : Type} {f : Int → α → α} {x : α} {b : Int} (h : 0 ≤ b) : foldI f x (b + 1) = f b (foldI f x b) := by
  unfold foldI
  have e : (b + 1).toNat = b.toNat + 1 := by omega
  rw [e]
  show f ((b.toNat : Nat) : Int) _ = _
  rw [Int.toNat_of_nonneg h]
theorem foldI_ind {α : Type} {f : Int → α → α} {x : α} {b : Int} (P : Int → α → Prop) (h0 : P 0 x) (hs : ∀ i y, 0 ≤ i → i < b → P i y → P (i + 1) (f i y)) (hb : 0 ≤ b) : P b (foldI f x b) := by
  have key : ∀ n : Nat, (n : Int) ≤ b → P n (fold f x n) := by
    intro n
    induction n with
    | zero => intro _; exact h0
    | succ n ih =>
      intro h
      have := hs n _ (by omega) (by omega) (ih (by omega))
      show P ((n + 1 : Nat) : Int) (f n (fold f x n))
      rw [show ((n + 1 : Nat) : Int) = (n : Int) + 1 from by omega]
      exact this
  have := key b.toNat (by omega)
  rw [Int.toNat_of_nonneg hb] at this
  exact this
theorem foldI_congr {α : Type} {f g : Int → α → α} {x : α} {b : Int} (h : ∀ i y, 0 ≤ i → i < b → f i y = g i y) : foldI f x b = foldI g x b := by
  unfold foldI
  have key : ∀ n : Nat, (n : Int) ≤ b ∨ n = 0 → fold f x n = fold g x n := by
    intro n
    induction n with
    | zero => intro _; rfl
    | succ n ih =>
      intro hn
      show f n (fold f x n) = g n (fold g x n)
      rw [ih (by omega), h _ _ (by omega) (by omega)]
  exact key _ (by omega)
/-- the first i below b at which p is so; -1: none -/
def frst (p : Int → Bool) (b : Int) : Int := foldI (fun i y => if y = -1 then (if p i then i else -1) else y) (-1) b
theorem frst_none {p : Int → Bool} {b : Int} (h : ∀ i, 0 ≤ i → i < b → p i = false) (hb : 0 ≤ b) : frst p b = -1 := by
  refine foldI_ind (fun _ y => y = -1) rfl ?_ hb
  intro i y h1 h2 h3
  rw [if_pos h3, if_neg (by rw [h i h1 h2]; decide)]
theorem frst_at {p : Int → Bool} {b k : Int} (h : ∀ i, 0 ≤ i → i < k → p i = false) (hk : 0 ≤ k) (hkb : k < b) (hp : p k = true) : frst p b = k := by
  have key : ∀ n : Nat, frst p (k + 1 + n) = k := by
    intro n
    induction n with
    | zero =>
      show frst p (k + 1 + 0) = k
      rw [Int.add_zero]
      unfold frst
      rw [foldI_succ hk, show foldI (fun i y => if y = -1 then (if p i then i else -1) else y) (-1) k = -1 from frst_none h hk, if_pos rfl, if_pos hp]
    | succ n ih =>
      rw [show k + 1 + ((n + 1 : Nat) : Int) = (k + 1 + n) + 1 from by omega]
      unfold frst at ih ⊢
      rw [foldI_succ (by omega), ih]
      by_cases e : k = -1
      · omega
      · rw [if_neg e]
  have := key (b - (k + 1)).toNat
  rwa [show k + 1 + ((b - (k + 1)).toNat : Int) = b from by omega] at this
/-- a loop with a counter -/
theorem lpI {σ : Type} {E : Int → σ → Res} {Q : Res → Prop} (I : Int → σ → Prop) (b : Int) (hs : ∀ i s, i < b → I i s → (∀ s', I (i + 1) s' → Q (E (i + 1) s')) → Q (E i s)) (he : ∀ i s, b ≤ i → I i s → Q (E i s)) : ∀ i s, I i s → Q (E i s) := by
  have key : ∀ n : Nat, ∀ i s, b - i ≤ (n : Int) → I i s → Q (E i s) := by
    intro n
    induction n with
    | zero => intro i s h1 h2; exact he i s (by omega) h2
    | succ n ih =>
      intro i s h1 h2
      by_cases h : i < b
      · exact hs i s h h2 fun s' h3 => ih (i + 1) s' (by omega) h3
      · exact he i s (by omega) h2
  intro i s h
  exact key (b - i).toNat i s (by omega) h
/-- a loop that counts down to a (through a - 1) -/
theorem lpD {σ : Type} {E : Int → σ → Res} {Q : Res → Prop} (I : Int → σ → Prop) (a : Int) (hs : ∀ i s, a ≤ i → I i s → (∀ s', I (i - 1) s' → Q (E (i - 1) s')) → Q (E i s)) (he : ∀ i s, i < a → I i s → Q (E i s)) : ∀ i s, I i s → Q (E i s) := by
  have key : ∀ n : Nat, ∀ i s, i - a < (n : Int) → I i s → Q (E i s) := by
    intro n
    induction n with
    | zero => intro i s h1 h2; exact he i s (by omega) h2
    | succ n ih =>
      intro i s h1 h2
      by_cases h : a ≤ i
      · exact hs i s h h2 fun s' h3 => ih (i - 1) s' (by omega) h3
      · exact he i s (by omega) h2
  intro i s h
  exact key (i - a + 1).toNat i s (by omega) h
/-- a loop with a measure -/
theorem lpN {σ : Type} {E : σ → Res} {Q : Res → Prop} (I : σ → Prop) (m : σ → Nat) (hs : ∀ s, I s → (∀ s', m s' < m s → I s' → Q (E s')) → Q (E s)) : ∀ s, I s → Q (E s) := by
  have key : ∀ n : Nat, ∀ s, m s ≤ n → I s → Q (E s) := by
    intro n
    induction n with
    | zero => intro s h1 h2; exact hs s h2 fun s' h3 _ => absurd h3 (by omega)
    | succ n ih => intro s h1 h2; exact hs s h2 fun s' h3 h4 => ih s' (by omega) h4
  intro s h
  exact key (m s) s (Nat.le_refl _) h
theorem QI.mono {T : List Shp} {P P' : Int → Cm → Prop} {R : Res} (h : QI T P R) (k : ∀ r c, P r c → P' r c) : QI T P' R := by
  obtain ⟨r, c, e, p⟩ := h
  exact ⟨r, c, e, k r c p⟩
theorem QL.mono {T : List Shp} {P P' : Int → Cm → Prop} {R : Res} (h : QL T P R) (k : ∀ r c, P r c → P' r c) : QL T P' R := by
  obtain ⟨r, c, e, p⟩ := h
  exact ⟨r, c, e, k r c p⟩
theorem QV.mono {T : List Shp} {P P' : Cm → Prop} {R : Res} (h : QV T P R) (k : ∀ c, P c → P' c) : QV T P' R := by
  obtain ⟨c, e, p⟩ := h
  exact ⟨c, e, k c p⟩
/-- an int is answered, nothing is written -/
theorem QI.of_eq {T : List Shp} {P : Int → Cm → Prop} {R : Res} {r : Int} {c : Cm} (e : R = some (some (vI r), (SH T, c))) (h : P r c) : QI T P R := ⟨r, c, e, h⟩
theorem QI.ret {T : List Shp} {P : Int → Cm → Prop} {r : Int} {c : Cm} (h : P r c) : QI T P (some (some (vI r), (SH T, c))) := ⟨r, c, rfl, h⟩
theorem QL.ret {T : List Shp} {P : Int → Cm → Prop} {r : Int} {c : Cm} (h : P r c) : QL T P (some (some (vL r), (SH T, c))) := ⟨r, c, rfl, h⟩
theorem QV.ret {T : List Shp} {P : Cm → Prop} {c : Cm} (h : P c) : QV T P (some (none, (SH T, c))) := ⟨c, rfl, h⟩
theorem trf_of {L : List Shp} {r : Int} {p b : Nat} {n : Int} {f : List Int} (h : drf L r = some (p, (b, n, f))) : trf L r b = true := by
  unfold trf
  rw [h]
  show (decide (r = 0) || Nat.beq b b) = true
  rw [Nat.beq_refl, Bool.or_true]
theorem trf_0 {L : List Shp} {b : Nat} : trf L 0 b = true := rfl
/-! memory -/
theorem up_same {c : Cm} {k : Nat} {i v : Int} : up c k i v k i = v := by unfold up; rw [if_pos rfl, if_pos rfl]
theorem up_cell {c : Cm} {k q : Nat} {i v : Int} (h : q ≠ k) : up c k i v q = c q := by funext j; unfold up; rw [if_neg h]
theorem up_ne {c : Cm} {k q : Nat} {i j v : Int} (h : j ≠ i) : up c k i v q j = c q j := by
  unfold up
  by_cases e : q = k
  · rw [if_pos e, if_neg h]
  · rw [if_neg e]
theorem up_at {c : Cm} {k : Nat} {i j v : Int} : up c k i v k j = if j = i then v else c k j := by unfold up; rw [if_pos rfl]
/-- all but the cells of L (and, of the reference's own cell, the fields of F) is as it was -/
def Off (L : List Nat) (F : List Int) (c c' : Cm) : Prop := ∀ q j, L.contains q = false → (q = 77 → F.contains j = false) → c' q j = c q j
theorem Off.rfl {L : List Nat} {F : List Int} {c : Cm} : Off L F c c := fun _ _ _ _ => Eq.refl _
theorem Off.trans {L : List Nat} {F : List Int} {a b c : Cm} (h1 : Off L F a b) (h2 : Off L F b c) : Off L F a c := fun q j h h' => (h2 q j h h').trans (h1 q j h h')
theorem Off.cell {L : List Nat} {F : List Int} {c c' : Cm} (h : Off L F c c') {q : Nat} (hq : (L.contains q || Nat.beq q 77) = false) : c' q = c q := by
  funext j
  refine h q j ?_ ?_
  · cases e : L.contains q with
    | true => rw [e] at hq; exact absurd hq (by simp)
    | false => exact Eq.refl _
  · intro e
    rw [e] at hq
    have : Nat.beq 77 77 = true := by decide
    rw [this, Bool.or_true] at hq
    exact absurd hq (by decide)
theorem Off.fld {L : List Nat} {F : List Int} {c c' : Cm} (h : Off L F c c') {j : Int} (hq : (L.contains 77 || F.contains j) = false) : c' 77 j = c 77 j := by
  refine h 77 j ?_ fun _ => ?_
  · cases e : L.contains 77 with
    | true => rw [e] at hq; exact absurd hq (by simp)
    | false => exact Eq.refl _
  · cases e : F.contains j with
    | true => rw [e, Bool.or_true] at hq; exact absurd hq (by simp)
    | false => exact Eq.refl _
theorem Off.wr {L : List Nat} {F : List Int} {c c' : Cm} (h : Off L F c c') {q : Nat} {i v : Int} (hq : (L.contains q || (Nat.beq q 77 && F.contains i)) = true) : Off L F c (up c' q i v) := by
  intro a j ha hj
  by_cases e : a = q
  · subst e
    rw [ha, Bool.false_or] at hq
    have h2 := (Bool.and_eq_true _ _).mp hq
    have h77 : a = 77 := Nat.eq_of_beq_eq_true h2.1
    have hne : j ≠ i := by
      intro e2
      subst e2
      rw [hj h77] at h2
      exact absurd h2.2 (by decide)
    rw [up_ne hne]
    exact h a j ha hj
  · rw [up_cell e]
    exact h a j ha hj
theorem Off.cp {L : List Nat} {F : List Int} {c c' : Cm} (h : Off L F c c') {s q : Nat} {sp dp n : Int} (hq : L.contains q = true) : Off L F c (cpy c' s sp q dp n) := by
  intro a j ha hj
  unfold cpy
  by_cases e : a = q
  · rw [e] at ha; rw [ha] at hq; exact absurd hq (by decide)
  · rw [if_neg e]; exact h a j ha hj
theorem Off.mono {L L' : List Nat} {F F' : List Int} {c c' : Cm} (h : Off L F c c') (hl : (L.all fun q => L'.contains q) = true) (hf : (F.all fun j => F'.contains j || L'.contains 77) = true) : Off L' F' c c' := by
  intro q j hq hj
  refine h q j ?_ ?_
  · cases e : L.contains q with
    | false => exact Eq.refl _
    | true =>
      have := (List.all_eq_true.mp hl) q (List.contains_iff_mem.mp e)
      rw [hq] at this
      exact absurd this (by decide)
  · intro e
    cases e2 : F.contains j with
    | false => exact Eq.refl _
    | true =>
      have := (List.all_eq_true.mp hf) j (List.contains_iff_mem.mp e2)
      rw [hj e, Bool.false_or, ← e, hq] at this
      exact absurd this (by decide)
/-- from place dp on, n numbers -/
theorem cpy_at {c : Cm} {s d : Nat} {sp dp n j : Int} (h : dp ≤ j ∧ j < dp + n) : cpy c s sp d dp n d j = c s (sp + (j - dp)) := by unfold cpy; rw [if_pos rfl, if_pos h]
theorem cpy_out {c : Cm} {s d : Nat} {sp dp n j : Int} (h : ¬ (dp ≤ j ∧ j < dp + n)) : cpy c s sp d dp n d j = c d j := by unfold cpy; rw [if_pos rfl, if_neg h]
theorem cpy_cell {c : Cm} {s d q : Nat} {sp dp n : Int} (h : q ≠ d) : cpy c s sp d dp n q = c q := by funext j; unfold cpy; rw [if_neg h]
theorem b01_eq1 {p : Prop} {d : Decidable p} : @b01 p d = 1 ↔ p := by
  unfold b01
  by_cases h : p
  · rw [if_pos h]; exact ⟨fun _ => h, fun _ => rfl⟩
  · rw [if_neg h]; exact ⟨fun e => absurd e (by decide), fun q => absurd q h⟩
theorem b01_eq0 {p : Prop} {d : Decidable p} : @b01 p d = 0 ↔ ¬ p := by
  unfold b01
  by_cases h : p
  · rw [if_pos h]; exact ⟨fun e => absurd e (by decide), fun q => absurd h q⟩
  · rw [if_neg h]; exact ⟨fun _ => h, fun _ => rfl⟩

/-! TEXTS: pieces of code by their numbers alone. The class's steps S (NW: how many words there are), the reference's op and arg. A piece goes from place p to place q, has l leaves, and means d. -/
def dbin (dd : Int) (d1 d2 : Den) : Den := fun W => (d1 W).bind fun a => (d2 W).bind fun b => bin dd a b
def dnot (d1 : Den) : Den := fun W => (d1 W).map fun y => 1 - y
def dor (dd : Int) (d1 d2 : Den) : Den := fun W => (d1 W).bind fun a => if a = (if dd = 10 then 1 else 0) then some a else d2 W
/-- TEST: 0 or 1 alone -/
def TDn (d : Den) : Prop := ∀ W y, d W = some y → y = 0 ∨ y = 1
def CPR (NW : Int) (S : Int → Int) (X : Int → Int → Int → Den → Prop) : Prop :=
  (∀ p v, 0 ≤ v → v ≤ 1000 → S p = 16 * v → X p (p + 1) 1 (fun _ => some v)) ∧
  (∀ p w, 0 ≤ w → w < NW → S p = 1 + 16 * w → X p (p + 1) 1 (fun W => some (W (w + 1)))) ∧
  (∀ p m q dd l1 l2 d1 d2, X p m l1 d1 → X m q l2 d2 → 2 ≤ dd → dd ≤ 8 → S q = dd → X p (q + 1) (l1 + l2) (dbin dd d1 d2)) ∧
  (∀ p q l d1, X p q l d1 → TDn d1 → S q = 9 → X p (q + 1) l (dnot d1)) ∧
  (∀ p m q dd l1 l2 d1 d2, X p m l1 d1 → X (m + 1) q l2 d2 → (dd = 10 ∨ dd = 11) → S m = dd + 16 * q → X p q (l1 + l2) (dor dd d1 d2))
def CP (NW : Int) (S : Int → Int) (p q l : Int) (d : Den) : Prop := ∀ X : Int → Int → Int → Den → Prop, CPR NW S X → X p q l d
section CPS
variable {NW : Int} {S : Int → Int}
theorem CP.rules : CPR NW S (CP NW S) := by
  refine ⟨fun p v h1 h2 h3 X hX => hX.1 p v h1 h2 h3, fun p w h1 h2 h3 X hX => hX.2.1 p w h1 h2 h3, fun p m q dd l1 l2 d1 d2 h1 h2 h3 h4 h5 X hX => hX.2.2.1 p m q dd l1 l2 d1 d2 (h1 X hX) (h2 X hX) h3 h4 h5, fun p q l d1 h1 h0 h2 X hX => hX.2.2.2.1 p q l d1 (h1 X hX) h0 h2, fun p m q dd l1 l2 d1 d2 h1 h2 h3 h4 X hX => hX.2.2.2.2 p m q dd l1 l2 d1 d2 (h1 X hX) (h2 X hX) h3 h4⟩
theorem CP.num {p v : Int} (h1 : 0 ≤ v) (h2 : v ≤ 1000) (h3 : S p = 16 * v) : CP NW S p (p + 1) 1 (fun _ => some v) := CP.rules.1 p v h1 h2 h3
theorem CP.word {p w : Int} (h1 : 0 ≤ w) (h2 : w < NW) (h3 : S p = 1 + 16 * w) : CP NW S p (p + 1) 1 (fun W => some (W (w + 1))) := CP.rules.2.1 p w h1 h2 h3
theorem CP.bin {p m q dd l1 l2 : Int} {d1 d2 : Den} (h1 : CP NW S p m l1 d1) (h2 : CP NW S m q l2 d2) (h3 : 2 ≤ dd) (h4 : dd ≤ 8) (h5 : S q = dd) : CP NW S p (q + 1) (l1 + l2) (dbin dd d1 d2) := CP.rules.2.2.1 p m q dd l1 l2 d1 d2 h1 h2 h3 h4 h5
theorem CP.not {p q l : Int} {d1 : Den} (h1 : CP NW S p q l d1) (h0 : TDn d1) (h2 : S q = 9) : CP NW S p (q + 1) l (dnot d1) := CP.rules.2.2.2.1 p q l d1 h1 h0 h2
theorem CP.or {p m q dd l1 l2 : Int} {d1 d2 : Den} (h1 : CP NW S p m l1 d1) (h2 : CP NW S (m + 1) q l2 d2) (h3 : dd = 10 ∨ dd = 11) (h4 : S m = dd + 16 * q) : CP NW S p q (l1 + l2) (dor dd d1 d2) := CP.rules.2.2.2.2 p m q dd l1 l2 d1 d2 h1 h2 h3 h4
theorem CP.lt {p q l : Int} {d : Den} (h : CP NW S p q l d) : p < q ∧ 1 ≤ l := by
  refine h (fun p q l _ => p < q ∧ 1 ≤ l) ⟨?_, ?_, ?_, ?_, ?_⟩
  · intros; omega
  · intros; omega
  · intro p m q dd l1 l2 d1 d2 h1 h2 _ _ _; omega
  · intro p q l d1 h1 _ _; omega
  · intro p m q dd l1 l2 d1 d2 h1 h2 _ _; omega
/-- a piece stands on its own places alone -/
theorem CP.mv {S' : Int → Int} {p q l : Int} {d : Den} (h : CP NW S p q l d) (hs : ∀ j, p ≤ j → j < q → S' j = S j) : CP NW S' p q l d := by
  refine (h (fun p q l d => p < q ∧ ((∀ j, p ≤ j → j < q → S' j = S j) → CP NW S' p q l d)) ⟨?_, ?_, ?_, ?_, ?_⟩).2 hs
  · intro p v h1 h2 h3
    exact ⟨by omega, fun k => CP.num h1 h2 (by rw [k p (by omega) (by omega)]; exact h3)⟩
  · intro p w h1 h2 h3
    exact ⟨by omega, fun k => CP.word h1 h2 (by rw [k p (by omega) (by omega)]; exact h3)⟩
  · intro p m q dd l1 l2 d1 d2 h1 h2 h3 h4 h5
    exact ⟨by omega, fun k => CP.bin (h1.2 fun j a b => k j a (by omega)) (h2.2 fun j a b => k j (by omega) (by omega)) h3 h4 (by rw [k q (by omega) (by omega)]; exact h5)⟩
  · intro p q l d1 h1 h0 h2
    exact ⟨by omega, fun k => CP.not (h1.2 fun j a b => k j a (by omega)) h0 (by rw [k q (by omega) (by omega)]; exact h2)⟩
  · intro p m q dd l1 l2 d1 d2 h1 h2 h3 h4
    exact ⟨by omega, fun k => CP.or (h1.2 fun j a b => k j a (by omega)) (h2.2 fun j a b => k j (by omega) b) h3 (by rw [k m (by omega) (by omega)]; exact h4)⟩
end CPS
/-- what can be worked out lies within the bounds, if the words do -/
def WRn (NW : Int) (W : Int → Int) : Prop := ∀ i, 1 ≤ i → i ≤ NW → -1000000000 ≤ W i ∧ W i ≤ 1000000000
theorem dor_some {dd : Int} {d1 d2 : Den} {W : Int → Int} {y : Int} (h : dor dd d1 d2 W = some y) : d1 W = some y ∨ d2 W = some y := by
  unfold dor at h
  cases e : d1 W with
  | none => rw [e] at h; exact absurd h (by simp)
  | some a =>
    rw [e] at h
    replace h : (if a = (if dd = 10 then 1 else 0) then some a else d2 W) = some y := h
    by_cases e2 : a = (if dd = 10 then 1 else 0)
    · rw [if_pos e2] at h; exact .inl h
    · rw [if_neg e2] at h; exact .inr h
theorem dnot_some {d1 : Den} {W : Int → Int} {y : Int} (h : dnot d1 W = some y) : d1 W = some (1 - y) := by
  unfold dnot at h
  cases e : d1 W with
  | none => rw [e] at h; exact absurd h (by simp)
  | some a =>
    rw [e] at h
    have := Option.some.inj (show some (1 - a) = some y from h)
    rw [show a = 1 - y from by omega]
theorem dbin_some {dd : Int} {d1 d2 : Den} {W : Int → Int} {y : Int} (h : dbin dd d1 d2 W = some y) : -1000000000 ≤ y ∧ y ≤ 1000000000 := by
  unfold dbin at h
  cases e : d1 W with
  | none => rw [e] at h; exact absurd h (by simp)
  | some a =>
    rw [e] at h
    replace h : ((d2 W).bind fun b => bin dd a b) = some y := h
    cases e2 : d2 W with
    | none => rw [e2] at h; exact absurd h (by simp)
    | some b => rw [e2] at h; exact bin_bd h
theorem TDn.cmp {dd : Int} {d1 d2 : Den} (h : 6 ≤ dd) : TDn (dbin dd d1 d2) := by
  intro W y h2
  unfold dbin at h2
  cases e : d1 W with
  | none => rw [e] at h2; exact absurd h2 (by simp)
  | some a =>
    rw [e] at h2
    replace h2 : ((d2 W).bind fun b => bin dd a b) = some y := h2
    cases e2 : d2 W with
    | none => rw [e2] at h2; exact absurd h2 (by simp)
    | some b =>
      rw [e2] at h2
      replace h2 : bin dd a b = some y := h2
      unfold bin at h2
      rw [if_neg (by omega)] at h2
      have hb : bnr dd a b = 0 ∨ bnr dd a b = 1 := by
        unfold bnr
        rw [if_neg (by omega), if_neg (by omega), if_neg (by omega), if_neg (by omega)]
        repeat' split
        all_goals omega
      rw [if_neg (by omega)] at h2
      have := Option.some.inj h2
      omega
theorem TDn.not {d1 : Den} (h : TDn d1) : TDn (dnot d1) := fun W y h2 => by
  have := h W _ (dnot_some h2)
  omega
theorem TDn.or {dd : Int} {d1 d2 : Den} (h1 : TDn d1) (h2 : TDn d2) : TDn (dor dd d1 d2) := fun W y h3 => by
  rcases dor_some h3 with h | h
  · exact h1 W y h
  · exact h2 W y h
theorem dnot_not {d : Den} : dnot (dnot d) = d := by
  funext W
  unfold dnot
  cases d W with
  | none => rfl
  | some y =>
    show some (1 - (1 - y)) = some y
    rw [show 1 - (1 - y) = y from by omega]
theorem CP.bd {NW : Int} {S : Int → Int} {p q l : Int} {d : Den} {W : Int → Int} (h : CP NW S p q l d) (hW : WRn NW W) : ∀ y, d W = some y → -1000000000 ≤ y ∧ y ≤ 1000000000 := by
  refine (h (fun p q l d => ∀ y, d W = some y → -1000000000 ≤ y ∧ y ≤ 1000000000) ⟨?_, ?_, ?_, ?_, ?_⟩)
  · intro p v h1 h2 _
    intro y e
    have := Option.some.inj e
    omega
  · intro p w h1 h2 _
    intro y e
    have := Option.some.inj e
    have := hW (w + 1) (by omega) (by omega)
    omega
  · intro p m q dd l1 l2 d1 d2 _ _ _ _ _
    exact fun y e => dbin_some e
  · intro p q l d1 h1 h0 _
    intro y e
    have := h0 _ _ (dnot_some e)
    omega
  · intro p m q dd l1 l2 d1 d2 h1 h2 _ _
    intro y e
    rcases dor_some e with h | h
    · exact h1 y h
    · exact h2 y h

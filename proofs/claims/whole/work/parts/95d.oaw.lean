/-! ORDERS: what an order does; the class does it -/
def sv (W : Int → Int) (z : Orc) (j : Nat) : Option Int := (z.2.2.2[j]?).bind fun d => d W
def oaw (F : List Clz) (R W : Int → Int) (z : Orc) : Int × (Int → Int) := if z.1 = 2 then (sv W z 0).elim (-3, R) (fun y => oac F R 2 fun _ => y) else if z.1 = 5 then (sv W z 0).elim (-3, R) (fun a => (sv W z 1).elim (-3, R) fun b => (sv W z 2).elim (-3, R) fun t => tch F R a b t) else oac F R z.1 fun _ => 0
theorem oac_p {F : List Clz} {R P P' : Int → Int} {k : Int} (h2 : k ≠ 2) (h5 : k ≠ 5) : oac F R k P = oac F R k P' := by
  unfold oac
  simp only [if_neg h2, if_neg h5]
theorem swk_1 {F : List Clz} {R W P : Int → Int} {z : Orc} (hz : wfo z) (h : ∀ j : Nat, j < 3 → ∀ d, z.2.2.2[j]? = some d → d W = some (P (j : Int))) : oaw F R W z = oac F R z.1 P := by
  obtain ⟨k, n, t, l⟩ := z
  obtain ⟨h1, h2, h3⟩ := hz
  have e : ∀ j : Nat, j < 3 → j < l.length → sv W (k, n, t, l) j = some (P (j : Int)) := fun j a b => by
    have q : l[j]? = some l[j] := List.getElem?_eq_getElem b
    have w := h j a l[j] q
    unfold sv
    show (l[j]?).bind _ = _
    rw [q]
    exact w
  have h3' : l.length = (if k = 2 then 1 else if k = 5 then 3 else 0) := h3
  show (if k = 2 then _ else _) = _
  by_cases e2 : k = 2
  · rw [if_pos e2] at h3'
    rw [if_pos e2, e 0 (by omega) (by omega)]
    show oac F R 2 (fun _ => P 0) = oac F R k P
    rw [e2]
    rfl
  · by_cases e5 : k = 5
    · rw [if_neg e2, if_pos e5] at h3'
      rw [if_neg e2]
      show (if k = 5 then _ else _) = _
      rw [if_pos e5, e 0 (by omega) (by omega), e 1 (by omega) (by omega), e 2 (by omega) (by omega)]
      show tch F R (P 0) (P 1) (P 2) = oac F R k P
      rw [e5]
      rfl
    · rw [if_neg e2]
      show (if k = 5 then _ else _) = _
      rw [if_neg e5]
      exact oac_p e2 e5
theorem swk_0 {F : List Clz} {R W : Int → Int} {z : Orc} (hz : wfo z) {j : Nat} {d : Den} (hj : z.2.2.2[j]? = some d) (hd : d W = none) : oaw F R W z = (-3, R) := by
  obtain ⟨k, n, t, l⟩ := z
  obtain ⟨h1, h2, h3⟩ := hz
  have h3' : l.length = (if k = 2 then 1 else if k = 5 then 3 else 0) := h3
  have hj' : l[j]? = some d := hj
  have jl : j < l.length := (List.getElem?_eq_some_iff.mp hj').1
  have e : sv W (k, n, t, l) j = none := by
    unfold sv
    show (l[j]?).bind _ = _
    rw [hj']
    exact hd
  show (if k = 2 then _ else _) = _
  by_cases e2 : k = 2
  · rw [if_pos e2] at h3'
    have j0 : j = 0 := by omega
    subst j0
    rw [if_pos e2, e]
    rfl
  · by_cases e5 : k = 5
    · rw [if_neg e2, if_pos e5] at h3'
      rw [if_neg e2]
      show (if k = 5 then _ else _) = _
      rw [if_pos e5]
      have hj3 : j = 0 ∨ j = 1 ∨ j = 2 := by omega
      rcases hj3 with e0 | e0 | e0
      · subst e0; rw [e]; rfl
      · subst e0
        cases sv W (k, n, t, l) 0 with
        | none => rfl
        | some a => show (sv W (k, n, t, l) 1).elim _ _ = _; rw [e]; rfl
      · subst e0
        cases sv W (k, n, t, l) 0 with
        | none => rfl
        | some a =>
          show (sv W (k, n, t, l) 1).elim _ _ = _
          cases sv W (k, n, t, l) 1 with
          | none => rfl
          | some b => show (sv W (k, n, t, l) 2).elim _ _ = _; rw [e]; rfl
    · rw [if_neg e2, if_neg e5] at h3'
      omega

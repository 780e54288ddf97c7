/-! THE CLASS's first row of parents -/
theorem find_app {p : Nat → Bool} {a b : List Nat} : (a ++ b).find? p = (a.find? p).or (b.find? p) := List.find?_append
def HitN (R : Int → Int) (n : Nat) (L : Int) : Nat → Bool := fun u => decide (csN R u n = L)
def dfq (n f k v : Nat) : Nat → List Nat := fun q => bif cfN v k 7 q then [] else dfS n f (k + 1) (nxN v q k)
theorem find_range {p : Nat → Bool} {f : Nat → List Nat} {k : Nat} (h : ((List.range k).flatMap f).find? p = none) : ((List.range (k + 1)).flatMap f).find? p = (f k).find? p := by
  rw [List.range_succ, List.flatMap_append, find_app, h]
  show (f k ++ []).find? p = _
  rw [List.append_nil]
theorem find_more {p : Nat → Bool} {f : Nat → List Nat} {k m u : Nat} (hk : k ≤ m) (h : ((List.range k).flatMap f).find? p = some u) : ((List.range m).flatMap f).find? p = some u := by
  obtain ⟨d, rfl⟩ := Nat.le.dest hk
  clear hk
  induction d with
  | zero => exact h
  | succ d ih => rw [show k + (d + 1) = (k + d) + 1 from by omega, List.range_succ, List.flatMap_append, find_app, ih]; rfl
/-- what a search leaves -/
def FitP (c c' : Cm) (n v k : Nat) (o : Option Nat) (r : Int) : Prop := Off [53] [] c c' ∧ match o with | some u => r = 1 ∧ ∀ j : Nat, 1 ≤ j → j ≤ n → c' 53 (j : Int) = ((dgN u j : Nat) : Int) | none => r = 0 ∧ PSt c' v k
theorem c_fits {T : List Shp} {R : Int → Int} {n : Nat} {L : Int} (hn : n ≤ 6) : ∀ (f k v : Nat) (c : Cm), k + f = n + 1 → 1 ≤ k → v < 8 ^ k → (∀ j, 1 ≤ j → j < k → dgN v j ≤ n) → SMt c R (n + 1) → c 51 ((2 ^ (n + 1) - 1 : Nat) : Int) = L → PSt c v k → QI T (fun r c' => FitP c c' n v k ((dfS n f k v).find? (HitN R n L)) r) (ccal 91 [vR 50, vI (k : Int), vI (csN R v (k - 1))] (SH T, c)) := by
  intro f
  induction f with
  | zero =>
    intro k v c hk h1 hv hd hm hL hp
    refine W_X8_fits (Q := QI T _) ?_
    rw [hm.1]
    refine ⟨fun z => absurd z (by omega), fun _ => ⟨by omega, QI.of_eq (c_changed hn hm.1) ?_⟩⟩
    rw [hL, show k - 1 = n from by omega]
    refine ⟨fun e => QI.ret ⟨Off.rfl, ?_⟩, fun e => QI.ret ⟨Off.rfl, ?_⟩⟩
    · have : (dfS n 0 k v).find? (HitN R n L) = some v := by
        show (match HitN R n L v with | true => some v | false => ([] : List Nat).find? _) = _
        rw [show HitN R n L v = true from decide_eq_true e]
      rw [this]
      exact ⟨rfl, fun j a b => hp.2.1 j a (by omega)⟩
    · have : (dfS n 0 k v).find? (HitN R n L) = none := by
        show (match HitN R n L v with | true => some v | false => ([] : List Nat).find? _) = _
        rw [show HitN R n L v = false from decide_eq_false e]
        rfl
      rw [this]
      exact ⟨rfl, hp⟩
  | succ f ih =>
    intro k v c hk h1 hv hd hm hL hp
    have cb := cs_bd (R := R) (u := v) (k - 1)
    refine W_X8_fits (Q := QI T _) ?_
    rw [hm.1]
    refine ⟨fun _ => ⟨by omega, (c_leastFrom hn hm ⟨h1, by omega⟩).mono fun r1 c2 h2 => ?_⟩, fun z => absurd (show (k : Int) < ((n + 1 : Nat) : Int) by omega) z⟩
    obtain ⟨rfl, hr, hu⟩ := h2
    refine ⟨by omega, QI.of_eq (c_changed hn hm.1) ?_⟩
    rw [hL]
    refine ⟨fun e => QI.ret ⟨Off.rfl, ?_⟩, fun e => ?_⟩
    · have : (dfS n (f + 1) k v).find? (HitN R n L) = none := by
        refine List.find?_eq_none.mpr fun u hm' => ?_
        have m := dfS_mem hn (f + 1) k v u h1 hv hm'
        have a := hu u fun j b d => m.2.2 j b (by omega)
        have e2 := cs_cg (R := R) (u := u) (v := v) (k - 1) fun a b d => m.2.1 a (by omega)
        intro z
        have := of_decide_eq_true z
        omega
      rw [this]
      exact ⟨rfl, hp⟩
    · refine lpI (E := fun q (c' : Cm) => cev 91 (2 + 2 * (8 - (k : Int)).toNat) 40 [vR 50, vI (k : Int), vI (csN R v (k - 1)), vI q] [] (SH T, c')) (fun q c' => (0 ≤ q ∧ q ≤ ((n + 1 : Nat) : Int)) ∧ Off [53] [] c2 c' ∧ PSt c' v k ∧ ((List.range q.toNat).flatMap (dfq n f k v)).find? (HitN R n L) = none) ((n + 1 : Nat) : Int) ?_ ?_ 0 c2 ⟨by omega, Off.rfl, hp, rfl⟩
      · intro q c' hi hI ih2
        obtain ⟨hq, o, hp', hf⟩ := hI
        obtain ⟨x, rfl⟩ := Int.eq_ofNat_of_zero_le hq.1
        rw [Int.toNat_natCast] at hf
        have nxy := find_range hf
        have hm' : SMt c' R (n + 1) := by
          unfold SMt
          rw [o.cell (q := 49) rfl, o.cell (q := 50) rfl]
          exact hm
        have whole : ∀ u, (dfq n f k v x).find? (HitN R n L) = some u → (dfS n (f + 1) k v).find? (HitN R n L) = some u := fun u e => find_more (k := x + 1) (m := n + 1) (by omega) (nxy.trans e)
        refine W_X8_fits_40 ?_
        rw [hm'.1]
        refine ⟨fun _ => ⟨by omega, QI.of_eq (c_comesFrom hp' ⟨h1, by omega⟩ (fun j a b => by have := hd j a b; omega) (by omega)) ?_⟩, fun z => absurd hi z⟩
        cases ec : cfN v k 7 x with
        | true =>
          rw [b01_t rfl]
          refine ⟨fun z => absurd z (by decide), fun _ => ⟨by omega, ih2 c' ⟨by omega, o, hp', ?_⟩⟩⟩
          rw [show ((x : Int) + 1).toNat = x + 1 from by omega, nxy]
          unfold dfq
          rw [ec]
          rfl
        | false =>
          rw [b01_f (by decide)]
          have eq : dfq n f k v x = dfS n f (k + 1) (nxN v x k) := by unfold dfq; rw [ec]; rfl
          rw [show (k : Int) * 7 + (x : Int) = 7 * (k : Int) + (x : Int) from by omega, hm'.2 k x (by omega) (by omega)]
          have lb := lik_bd (R := R) (a := (k : Int)) (b := (x : Int))
          have es : csN R (nxN v x k) (k + 1 - 1) = csN R v (k - 1) + lik R (k : Int) (x : Int) := by
            obtain ⟨w, ew⟩ : ∃ w, k = w + 1 := ⟨k - 1, by omega⟩
            rw [show k + 1 - 1 = w + 1 from by omega, show k - 1 = w from by omega]
            show csN R (nxN v x k) w + lik R ((dgN (nxN v x k) (w + 1) : Nat) : Int) ((w + 1 : Nat) : Int) = _
            rw [← ew, dg_here hv (by omega), lik_sym, cs_cg (v := v) w fun a b d => dg_low (by omega)]
          have eo : ∀ c2 : Cm, Off [53] [] c' (up c2 53 (k : Int) (x : Int)) → True := fun _ _ => trivial
          have pn : PSt (up c' 53 (k : Int) (x : Int)) (nxN v x k) (k + 1) := by
            refine ⟨?_, fun j a b => ?_, fun j a b => ?_⟩
            · rw [up_ne (by omega)]; exact hp'.1
            · by_cases ej : j = k
              · rw [ej, up_same, dg_here hv (by omega)]
              · rw [up_ne (by omega), dg_low (by omega)]; exact hp'.2.1 j a (by omega)
            · rw [up_ne (by omega)]; exact hp'.2.2 j (by omega) b
          have on : Off [53] [] c' (up c' 53 (k : Int) (x : Int)) := Off.rfl.wr rfl
          have hmn : SMt (up c' 53 (k : Int) (x : Int)) R (n + 1) := by
            unfold SMt
            rw [on.cell (q := 49) rfl, on.cell (q := 50) rfl]
            exact hm'
          refine ⟨fun _ => ⟨by omega, ?_⟩, fun z => absurd rfl z⟩
          have rcl := ih (k + 1) (nxN v x k) (up c' 53 (k : Int) (x : Int)) (by omega) (by omega) (nx_lt hv (by omega)) (fun j a b => by
            by_cases ej : j = k
            · rw [ej, dg_here hv (by omega)]; omega
            · rw [dg_low (by omega)]; exact hd j a (by omega)) hmn (by rw [(o.trans on).cell (q := 51) rfl]; exact hL) pn
          rw [es] at rcl
          refine rcl.mono fun r3 c4 h4 => ?_
          obtain ⟨o4, h5⟩ := h4
          have o5 : Off [53] [] c2 c4 := (o.trans on).trans o4
          cases ef : (dfS n f (k + 1) (nxN v x k)).find? (HitN R n L) with
          | some u =>
            rw [ef] at h5
            have h6 : r3 = 1 ∧ ∀ j : Nat, 1 ≤ j → j ≤ n → c4 53 (j : Int) = ((dgN u j : Nat) : Int) := h5
            refine ⟨fun z => absurd z (by omega), fun _ => QI.ret ⟨o5, ?_⟩⟩
            rw [whole u (by rw [eq]; exact ef)]
            exact ⟨rfl, h6.2⟩
          | none =>
            rw [ef] at h5
            have h6 : r3 = 0 ∧ PSt c4 (nxN v x k) (k + 1) := h5
            refine ⟨fun _ => ⟨by omega, ih2 _ ⟨by omega, o5.wr rfl, ⟨?_, fun j a b => ?_, fun j a b => ?_⟩, ?_⟩⟩, fun z => absurd h6.1 z⟩
            · rw [up_ne (by omega)]; exact h6.2.1
            · rw [up_ne (by omega), h6.2.2.1 j a (by omega), dg_low b]
            · by_cases ej : j = k
              · rw [ej, up_same]
              · rw [up_ne (by omega)]; exact h6.2.2.2 j (by omega) b
            · rw [show ((x : Int) + 1).toNat = x + 1 from by omega, nxy, eq]
              exact ef
      · intro q c' hi hI
        obtain ⟨hq, o, hp', hf⟩ := hI
        have e : q = ((n + 1 : Nat) : Int) := by omega
        subst e
        rw [Int.toNat_natCast] at hf
        refine W_X8_fits_40 ?_
        rw [o.cell (q := 49) rfl, hm.1]
        refine ⟨fun z => absurd z (by omega), fun _ => QI.ret ⟨o, ?_⟩⟩
        rw [show (dfS n (f + 1) k v).find? (HitN R n L) = none from hf]
        exact ⟨rfl, hp'⟩
theorem c_parentOf {T : List Shp} {c : Cm} {R : Int → Int} {n u : Nat} {L : Int} {x : Nat} (hn : n ≤ 6) (hm : SMt c R (n + 1)) (hL : c 51 ((2 ^ (n + 1) - 1 : Nat) : Int) = L) (hu : (dfS n n 1 0).find? (HitN R n L) = some u) (hx : 1 ≤ x ∧ x ≤ n) : QI T (fun r c' => r = ((dgN u x : Nat) : Int) ∧ Off [53] [] c c') (ccal 82 [vR 50, vI (x : Int)] (SH T, c)) := by
  refine W_X8_parentOf (Q := QI T _) ?_
  refine lpI (E := fun i (c' : Cm) => cev 82 19 2 [vR 50, vI (x : Int), vI i] [] (SH T, c')) (fun i c' => (0 ≤ i ∧ i ≤ 7) ∧ Off [53] [] c c' ∧ ∀ j : Int, 0 ≤ j → j < i → c' 53 j = -1) 7 ?_ ?_ 0 c ⟨by omega, Off.rfl, fun j a b => by omega⟩
  · intro i c' hi hI ih
    obtain ⟨hi0, o, hj⟩ := hI
    refine W_X8_parentOf_2 ⟨fun _ => ⟨by omega, ih _ ⟨by omega, o.wr rfl, fun j a b => ?_⟩⟩, fun z => absurd hi z⟩
    rw [up_at]
    by_cases e : j = i
    · rw [if_pos e]
    · rw [if_neg e]; exact hj j a (by omega)
  · intro i c' hi hI
    obtain ⟨hi0, o, hj⟩ := hI
    have e7 : i = 7 := by omega
    subst e7
    have hm' : SMt c' R (n + 1) := by
      unfold SMt
      rw [o.cell (q := 49) rfl, o.cell (q := 50) rfl]
      exact hm
    refine W_X8_parentOf_2 ⟨fun z => absurd z (by decide), fun _ => ?_⟩
    have := c_fits (T := T) (R := R) (L := L) hn n 1 0 c' (by omega) (by omega) (by decide) (fun j a b => by omega) hm' (by rw [o.cell (q := 51) rfl]; exact hL) ⟨hj 0 (by omega) (by omega), fun j a b => by omega, fun j a b => hj j (by omega) (by omega)⟩
    rw [hu] at this
    refine (show QI T _ (ccal 91 [vR 50, vI 1, vI 0] (SH T, c')) from this).mono fun r1 c2 h2 => ?_
    obtain ⟨o2, h3, h4⟩ := h2
    refine ⟨fun z => absurd z (by omega), fun _ => ⟨by omega, QI.ret ⟨h4 x hx.1 hx.2, o.trans o2⟩⟩⟩

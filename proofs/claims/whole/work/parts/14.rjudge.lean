/-! THE REFERENCE'S plain questions. Its row is c 79. -/
/-- the clauses of the text that begins at place a of the row -/
def RO (R : Int → Int) (A : Int) : Int → Int := fun j => R (A + 98 + 2 * j)
def RA (R : Int → Int) (A : Int) : Int → Int := fun j => R (A + 98 + 2 * j + 1)
def ZR (R : Int → Int) (A a : Int) (z : Clz) : Prop := R a = z.1 ∧ (match z.2.1 with | none => R (a + 6) ≤ R (a + 5) | some d => (∃ l, RP 10 (RO R A) (RA R A) (R (a + 5)) (R (a + 6)) l d ∧ 0 ≤ R (a + 5) ∧ R (a + 6) ≤ 400 ∧ l ≤ 50) ∧ TDn d) ∧ (match z.2.2 with | none => z.1 = 4 | some d => z.1 ≠ 4 ∧ ∃ l, RP 10 (RO R A) (RA R A) (R (a + 3)) (R (a + 4)) l d ∧ 0 ≤ R (a + 3) ∧ R (a + 4) ≤ 400 ∧ l ≤ 50)
def RTX (R : Int → Int) (a : Int) (F : List Clz) : Prop := R (a + 1) = (F.length : Int) ∧ F.length ≤ 12 ∧ ∀ (i : Nat) (z : Clz), F[i]? = some z → ZR R a (a + 2 + 8 * (i : Int)) z
theorem ZR.cg {R R' : Int → Int} {A a : Int} {z : Clz} (h : ZR R A a z) (hA : 380 ≤ A) (ha : 380 ≤ a) (hc : ∀ j, 380 ≤ j → R' j = R j) : ZR R' A a z := by
  have mv : ∀ {p q l : Int} {d : Den}, RP 10 (RO R A) (RA R A) p q l d → 0 ≤ p → RP 10 (RO R' A) (RA R' A) p q l d := fun h0 hp => h0.mv fun j a b => ⟨hc _ (by omega), hc _ (by omega)⟩
  unfold ZR
  rw [hc a (by omega), hc (a + 3) (by omega), hc (a + 4) (by omega), hc (a + 5) (by omega), hc (a + 6) (by omega)]
  obtain ⟨h1, h2, h3⟩ := h
  refine ⟨h1, ?_, ?_⟩
  · cases e : z.2.1 with
    | none => rw [e] at h2; exact h2
    | some d =>
      rw [e] at h2
      obtain ⟨⟨l, p1, p2, p3, p4⟩, p5⟩ := h2
      exact ⟨⟨l, mv p1 p2, p2, p3, p4⟩, p5⟩
  · cases e : z.2.2 with
    | none => rw [e] at h3; exact h3
    | some d =>
      rw [e] at h3
      obtain ⟨p0, l, p1, p2, p3, p4⟩ := h3
      exact ⟨p0, l, mv p1 p2, p2, p3, p4⟩
theorem RTX.cg {R R' : Int → Int} {a : Int} {F : List Clz} (h : RTX R a F) (ha : 380 ≤ a) (hc : ∀ j, 380 ≤ j → R' j = R j) : RTX R' a F := by
  obtain ⟨h1, h2, h3⟩ := h
  exact ⟨by rw [hc _ (by omega)]; exact h1, h2, fun i z hz => (h3 i z hz).cg ha (by omega) hc⟩
def RL (R : Int → Int) (F : List Clz) : Prop := (R 2 = -1 ∧ F = []) ∨ (0 ≤ R 2 ∧ R 2 < R 1 ∧ RTX R (380 + 900 * R 2) F)
theorem RL.cg {R R' : Int → Int} {F : List Clz} (h : RL R F) (h1 : R' 1 = R 1) (h2 : R' 2 = R 2) (hc : ∀ j, 380 ≤ j → R' j = R j) : RL R' F := by
  unfold RL
  rw [h1, h2]
  rcases h with h | ⟨a, b, h⟩
  · exact .inl h
  · exact .inr ⟨a, b, h.cg (by omega) hc⟩
def RWd (c : Cm) (F : List Clz) : Prop := RNG (c 79) ∧ RL (c 79) F ∧ c 77 16 = 0
theorem RWd.off {L : List Nat} {G : List Int} {c c' : Cm} {F : List Clz} (h : RWd c F) (o : Off L G c c') (hl : (L.contains 79 || L.contains 77 || G.contains 16) = false) : RWd c' F := by
  have h2 := (Bool.or_eq_false_iff.mp hl)
  have h3 := (Bool.or_eq_false_iff.mp h2.1)
  unfold RWd
  rw [o.cell (q := 79) (by rw [h3.1]; rfl), o.fld (by rw [h3.2, h2.2]; rfl)]
  exact h
theorem Off.row {L : List Nat} {G : List Int} {c c' : Cm} (o : Off L G c c') (hl : L.contains 79 = false) : c' 79 = c 79 := o.cell (by rw [hl]; rfl)
/-- the words of a question: cell 92, places 1 .. 10 -/
def WE (c : Cm) (W : Int → Int) : Prop := ∀ i, 1 ≤ i → i ≤ 10 → c 92 i = W i
theorem r_isSo {T : List Shp} {c : Cm} {R W : Int → Int} {A a : Int} {z : Clz} (hz : ZR R A a z) (hst : STR0 c A W) (hR : c 79 = R) (hr : WRn 10 W) (ha : 380 ≤ a ∧ a ≤ 5700) : QI T (fun r c' => (clt W z = none → r = 0) ∧ (∀ v, clt W z = some v → r = 1 ∧ (z.1 ≠ 4 → c' 77 36 = v)) ∧ Off [94] [34, 35, 36] c c') (ccal 248 [vR 78, vI a] (SH T, c)) := by
  obtain ⟨z1, z2, z3⟩ := hz
  have last : ∀ s' : Cm, Off [94] [34, 35] c s' → (clt W z = match z.2.2 with | none => some 0 | some s => s W) → QI T (fun r c' => (clt W z = none → r = 0) ∧ (∀ v, clt W z = some v → r = 1 ∧ (z.1 ≠ 4 → c' 77 36 = v)) ∧ Off [94] [34, 35, 36] c c') (cev 248 4 59 [vR 78, vI a] [] (SH T, s')) := by
    intro s' o ec
    have e79 : s' 79 = R := (o.cell (q := 79) rfl).trans hR
    refine W_X12_isSo_59 ⟨by omega, ?_⟩
    rw [e79, z1, ec]
    cases e2 : z.2.2 with
    | none =>
      rw [e2] at z3
      exact ⟨fun _ => QI.ret ⟨fun e => absurd e (by simp), fun v e => ⟨rfl, fun k => absurd z3 k⟩, o.mono rfl rfl⟩, fun k => absurd z3 k⟩
    | some d =>
      rw [e2] at z3
      obtain ⟨p0, l, p1, p2, p3, p4⟩ := z3
      have lt := p1.lt
      refine ⟨fun k => absurd k p0, fun _ => ⟨by omega, ?_⟩⟩
      refine (r_reckonAll (R := R) (A := A) (W := W) (o := d W) (need := l) (by omega) (by omega) (PCR_of hr p1 p2) (hst.off o) e79).mono fun c' hp => ?_
      obtain ⟨q0, q1, q2⟩ := hp
      have o2 : Off [94] [34, 35, 36] c c' := (o.trans q2).mono rfl rfl
      cases ed : d W with
      | none =>
        have := q0 ed
        exact ⟨fun k => by omega, fun _ => QI.ret ⟨fun _ => rfl, fun v e => absurd e (by rw [show (match some d with | none => some 0 | some s => s W) = d W from rfl, ed]; simp), o2.wr rfl⟩⟩
      | some y =>
        have := q1 y ed
        refine ⟨fun _ => QI.ret ⟨fun e => absurd e (by rw [show (match some d with | none => some 0 | some s => s W) = d W from rfl, ed]; simp), fun v e => ⟨rfl, fun _ => ?_⟩, o2.wr rfl⟩, fun k => absurd this.1 k⟩
        rw [show (match some d with | none => some 0 | some s => s W) = d W from rfl, ed] at e
        rw [up_same, this.2]
        exact Option.some.inj e
  refine W_X12_isSo (Q := QI T _) ⟨by omega, ?_⟩
  rw [hR]
  cases e1 : z.2.1 with
  | none =>
    rw [e1] at z2
    refine ⟨fun k => absurd z2 (by omega), fun _ => last c Off.rfl ?_⟩
    unfold clt
    rw [e1]
    rfl
  | some d =>
    rw [e1] at z2
    obtain ⟨⟨l, p1, p2, p3, p4⟩, p5⟩ := z2
    have lt := p1.lt
    have ec : clt W z = if (d W == some 1) = true then (match z.2.2 with | none => some 0 | some s => s W) else none := by
      unfold clt
      rw [e1]
      rfl
    refine ⟨fun _ => ⟨by omega, ?_⟩, fun k => absurd lt.1 k⟩
    refine (r_reckonAll (R := R) (A := A) (W := W) (o := d W) (need := l) (by omega) (by omega) (PCR_of hr p1 p2) hst hR).mono fun c' hp => ?_
    obtain ⟨q0, q1, q2⟩ := hp
    have o2 : Off [94] [34, 35, 36] c c' := q2.mono rfl rfl
    cases ed : d W with
    | none =>
      have := q0 ed
      refine ⟨fun k => by omega, fun _ => QI.ret ⟨fun _ => rfl, fun v e => ?_, o2⟩⟩
      rw [ec, ed] at e
      exact absurd e (by simp)
    | some y =>
      have h1 := q1 y ed
      have h2 := p5 W y ed
      refine ⟨fun _ => ⟨fun k => QI.ret ⟨fun _ => rfl, fun v e => ?_, o2⟩, fun k => last c' q2 ?_⟩, fun k => absurd h1.1 k⟩
      · rw [ec, ed, if_neg (by simp; omega)] at e
        exact absurd e (by simp)
      · rw [ec, ed, if_pos (by simp; omega)]
theorem r_tells {T : List Shp} {c : Cm} {F : List Clz} {W : Int → Int} {k w : Int} (h : RWd c F) (hW : WE c W) (hr : WR W) (hk : 0 ≤ k ∧ k < 5) : QL T (fun r c' => r = (tl F k W).elim w (fun v => if k = 4 then 1 else v) ∧ Off [94] [30, 34, 35, 36] c c') (ccal 249 [vR 78, vI k, vL w] (SH T, c)) := by
  have h1 := h.1.1
  refine W_X12_tells (Q := QL T _) ?_
  rcases h.2.1 with ⟨hm, hF⟩ | ⟨ha, hb, hc⟩
  · refine ⟨fun _ => QL.ret ⟨?_, Off.rfl⟩, fun z => absurd hm z⟩
    rw [hF]
    rfl
  · refine ⟨fun z => by omega, fun _ => ⟨by omega, ?_⟩⟩
    generalize hA : 380 + 900 * c 79 2 = A at hc ⊢
    have hAb : 380 ≤ A ∧ A ≤ 4880 := by omega
    obtain ⟨h2, h3, h4⟩ := hc
    have o0 : Off [94] [30, 34, 35, 36] c (up c 77 30 A) := Off.rfl.wr rfl
    refine lpI (Q := QL T _) (E := fun i (s : Cm × Int) => cev 249 5 36 [vR 78, vI k, vU, vU, vL s.2, vU, vI i, vU] [] (SH T, s.1)) (fun i s => (0 ≤ i ∧ i ≤ F.length) ∧ Off [94] [34, 35, 36] (up c 77 30 A) s.1 ∧ s.2 = (tl (F.take i.toNat) k W).elim w (fun v => if k = 4 then 1 else v)) (F.length : Int) ?_ ?_ 0 (up c 77 30 A, w) ⟨by omega, Off.rfl, rfl⟩
    · rintro i ⟨s, t⟩ hi ⟨hib, o, ht⟩ ih
      dsimp only at o ht ⊢
      have e79 : s 79 = c 79 := (o.cell (q := 79) rfl).trans (up_cell (by decide))
      have e30 : s 77 30 = A := (o.fld (j := 30) rfl).trans up_same
      have e16 : s 77 16 = 0 := (o.fld (j := 16) rfl).trans ((up_ne (by decide)).trans h.2.2)
      have e92 : s 92 = c 92 := (o.cell (q := 92) rfl).trans (up_cell (by decide))
      have st : STR0 s A W := ⟨e16, e30, hAb, fun i a b => by rw [e92]; exact hW i a b⟩
      obtain ⟨j, rfl⟩ := Int.eq_ofNat_of_zero_le hib.1
      obtain ⟨z, hz⟩ : ∃ z, F[j]? = some z := ⟨F[j]'(by omega), List.getElem?_eq_getElem (by omega)⟩
      have z5 := h4 j z hz
      have tt := tl_take (k := k) (W := W) hz
      rw [show ((j : Nat) : Int).toNat = j from by omega] at ht
      have nxt : ∀ (s' : Cm) (t' : Int), Off [94] [34, 35, 36] (up c 77 30 A) s' → t' = (tl (F.take (j + 1)) k W).elim w (fun v => if k = 4 then 1 else v) → QL T (fun r c' => r = (tl F k W).elim w (fun v => if k = 4 then 1 else v) ∧ Off [94] [30, 34, 35, 36] c c') (cev 249 5 36 [vR 78, vI k, vU, vU, vL t', vU, vI ((j : Int) + 1), vU] [] (SH T, s')) := by
        intro s' t' o' e'
        refine ih (s', t') ⟨by omega, o', ?_⟩
        rw [show ((j : Int) + 1).toNat = j + 1 from by omega]
        exact e'
      refine W_X12_tells_36 ⟨by omega, fun _ => ⟨by omega, ?_⟩, fun z => absurd (show (j : Int) < s 79 (s 77 30 + 1) by rw [e79, e30, h2]; omega) z⟩
      rw [e79, e30, z5.1]
      refine ⟨fun ek => ?_, fun ek => ⟨by omega, nxt s t o ?_⟩⟩
      · rw [if_pos ek] at tt
        refine (r_isSo z5 st e79 hr.n (by omega)).mono fun r c2 hp => ?_
        obtain ⟨p0, p1, p2⟩ := hp
        have o2 := o.trans p2
        cases ec : clt W z with
        | none =>
          rw [ec] at tt
          refine ⟨fun _ => ⟨by omega, nxt c2 t o2 ?_⟩, fun z => absurd (p0 ec) z⟩
          rw [tt]
          exact ht
        | some v =>
          rw [ec] at tt
          have p1' := p1 v ec
          refine ⟨fun z => by omega, fun _ => ⟨fun e4 => ⟨by omega, nxt c2 1 o2 ?_⟩, fun e4 => ⟨by omega, nxt c2 _ o2 ?_⟩⟩⟩
          · rw [tt]
            show 1 = if k = 4 then 1 else v
            rw [if_pos e4]
          · rw [tt]
            show c2 77 36 = if k = 4 then 1 else v
            rw [if_neg e4]
            exact p1'.2 (by omega)
      · rw [tt, if_neg ek]
        exact ht
    · rintro i ⟨s, t⟩ hi ⟨hib, o, ht⟩
      dsimp only at o ht ⊢
      have e79 : s 79 = c 79 := (o.cell (q := 79) rfl).trans (up_cell (by decide))
      have e30 : s 77 30 = A := (o.fld (j := 30) rfl).trans up_same
      have ei : i = F.length := by omega
      refine W_X12_tells_36 ⟨by omega, fun z => absurd (show ¬ i < s 79 (s 77 30 + 1) by rw [e79, e30, h2]; omega) (fun k => k z), fun _ => QL.ret ⟨?_, o0.trans (o.mono rfl rfl)⟩⟩
      rw [ht, ei, show ((F.length : Nat) : Int).toNat = F.length from by omega, List.take_length]
theorem r_ageIn {T : List Shp} {c : Cm} {F : List Clz} {y : Int} (h : RWd c F) (hy : 0 ≤ y ∧ y ≤ 200) : ccal 251 [vR 78, vI y] (SH T, c) = some (some (vI (ag (c 79) y)), (SH T, c)) := by
  have h1 := h.1.1
  have hm := pace_mul (a := c 79 8 - 2) (y := y) (by omega) (by omega) hy.1 hy.2
  refine W_X12_ageIn (Q := fun Z => Z = some (some (vI (ag (c 79) y)), (SH T, c))) ⟨?_, rfl⟩
  generalize (c 79 8 - 2) * y = z at hm ⊢
  omega
theorem r_setNone {T : List Shp} {c : Cm} {y : Int} : QV T (fun c' => Off [92] [] c c' ∧ ∀ i, 0 ≤ i → i < 13 → c' 92 i = if i = 3 then y else if i = 6 then c 79 9 else -1) (ccal 250 [vR 78, vI y] (SH T, c)) := by
  refine W_X12_setNone (Q := QV T _) ?_
  refine lpI (E := fun i (s : Cm) => cev 250 1 2 [vR 78, vI y, vI i] [] (SH T, s)) (fun i s => (0 ≤ i ∧ i ≤ 13) ∧ Off [92] [] c s ∧ ∀ k, 0 ≤ k → k < i → s 92 k = -1) 13 ?_ ?_ 0 c ⟨by omega, Off.rfl, fun k _ _ => by omega⟩
  · intro i s hi hI ih
    refine W_X12_setNone_2 ⟨fun _ => ⟨by omega, ih _ ⟨by omega, hI.2.1.wr rfl, fun k a b => ?_⟩⟩, fun h => absurd hi h⟩
    rw [up_at]
    by_cases e : k = i
    · rw [if_pos e]
    · rw [if_neg e]; exact hI.2.2 k a (by omega)
  · intro i s hi hI
    refine W_X12_setNone_2 ⟨fun h => absurd h (by omega), fun _ => QV.ret ⟨(hI.2.1.wr rfl).wr rfl, fun k a b => ?_⟩⟩
    rw [up_at, up_at, hI.2.1.cell (q := 79) rfl]
    by_cases e6 : k = 6
    · rw [if_pos e6, if_neg (show ¬ k = 3 by omega), if_pos e6]
    · rw [if_neg e6]
      by_cases e3 : k = 3
      · rw [if_pos e3, if_pos e3]
      · rw [if_neg e3, if_neg e3, if_neg e6]; exact hI.2.2 k a (by omega)
/-- behind setNone and the age -/
theorem WE_B {c : Cm} {R : Int → Int} {y : Int} (h : ∀ i, 0 ≤ i → i < 13 → c 92 i = if i = 3 then y else if i = 6 then R 9 else -1) : WE (up c 92 2 (ag R y)) (wB R y) := by
  intro i a b
  rw [up_at]
  unfold wB
  by_cases e : i = 2
  · rw [if_pos e, if_pos e]
  · rw [if_neg e, if_neg e]; exact h i (by omega) (by omega)
theorem WE_C {c : Cm} {R : Int → Int} {x y : Int} (h : ∀ i, 0 ≤ i → i < 13 → c 92 i = if i = 3 then y else if i = 6 then R 9 else -1) : WE (up (up c 92 1 x) 92 2 (ag R y)) (wC R x y) := by
  intro i a b
  rw [up_at, up_at]
  unfold wC wB
  by_cases e : i = 2
  · rw [if_pos e, if_neg (show ¬ i = 1 by omega), if_pos e]
  · rw [if_neg e]
    by_cases e1 : i = 1
    · rw [if_pos e1, if_pos e1]
    · rw [if_neg e1, if_neg e1, if_neg e]; exact h i (by omega) (by omega)
theorem r_looksOf {T : List Shp} {c : Cm} {F : List Clz} {x y : Int} (h : RWd c F) (hx : 0 ≤ x ∧ x < 12) (hy : 0 ≤ y ∧ y ≤ 200) : QI T (fun r c' => r = lk F (c 79) x y ∧ Off [92, 94] [30, 34, 35, 36] c c') (ccal 252 [vR 78, vI x, vI y] (SH T, c)) := by
  have h1 := h.1.1
  refine W_X12_looksOf (Q := QI T _) ?_
  refine lpI (E := fun i (s : Int × Int) => cev 252 6 8 [vR 78, vI x, vI y, vI s.2, vI s.1, vI i, vU] [] (SH T, c)) (fun i s => (0 ≤ i ∧ i ≤ c 79 3) ∧ s = foldI (fun k p => if c 79 (258 + 3 * k) = x ∧ c 79 (258 + 3 * k + 1) ≤ y ∧ p.1 ≤ c 79 (258 + 3 * k + 1) then (c 79 (258 + 3 * k + 1), c 79 (258 + 3 * k + 2)) else p) (-1, -1) i) (c 79 3) ?_ ?_ 0 (-1, -1) ⟨by omega, rfl⟩
  · intro i s hi hI ih
    refine W_X12_looksOf_8 ⟨fun _ => ⟨by omega, fun h2 => ⟨by omega, fun h3 => ⟨by omega, ih s ⟨by omega, ?_⟩⟩, fun h3 => ⟨by omega, fun h4 => ⟨by omega, ih s ⟨by omega, ?_⟩⟩, fun h4 => ⟨by omega, ih (c 79 (258 + 3 * i + 1), c 79 (258 + 3 * i + 2)) ⟨by omega, ?_⟩⟩⟩⟩, fun h2 => ⟨by omega, ih s ⟨by omega, ?_⟩⟩⟩, fun h => absurd hi h⟩
    · rw [foldI_succ (by omega), ← hI.2, if_neg (by omega)]
    · rw [foldI_succ (by omega), ← hI.2, if_neg (by omega)]
    · rw [foldI_succ (by omega), ← hI.2, if_pos (by omega)]
    · rw [foldI_succ (by omega), ← hI.2, if_neg (by omega)]
  · intro i s hi hI
    have : i = c 79 3 := by omega
    subst this
    have e : s = scp (c 79) x y := hI.2
    refine W_X12_looksOf_8 ⟨fun h => absurd h (by omega), fun _ => ⟨fun h2 => ?_, fun h2 => QI.ret ⟨?_, Off.rfl⟩⟩⟩
    · refine (r_setNone (T := T) (c := c) (y := y)).mono fun c1 h3 => ?_
      have o1 : Off [92, 94] [30, 34, 35, 36] c (up c1 92 1 x) := (h3.1.mono rfl rfl).wr rfl
      have w1 := h.off o1 rfl
      have e79 : up c1 92 1 x 79 = c 79 := o1.row rfl
      refine QI.of_eq (r_ageIn w1 hy) (QI.of_eq (r_ageIn (w1.off (Off.rfl (L := [92]) (F := [])|>.wr rfl) rfl) hy) ?_)
      have o2 : Off [92, 94] [30, 34, 35, 36] c (up (up c1 92 1 x) 92 2 (ag (up c1 92 1 x 79) y)) := o1.wr rfl
      have e2 : up (up c1 92 1 x) 92 2 (ag (up c1 92 1 x 79) y) 79 = c 79 := o2.row rfl
      have hag := ag_bd (R := c 79) (y := y)
      rw [e2]
      refine ⟨by omega, ?_⟩
      rw [e79]
      refine (r_tells (h.off (o1.wr rfl) rfl) (WE_C h3.2) (WR_C h.1 hy hx) (by omega)).mono fun r6 c7 h7 => ?_
      refine QI.ret ⟨?_, (o1.wr rfl).trans (h7.2.mono rfl rfl)⟩
      unfold lk
      rw [← e, if_pos h2, h7.1]
      cases tl F 0 (wC (c 79) x y) with
      | none => rfl
      | some v => rfl
    · unfold lk
      rw [← e, if_neg h2]
theorem r_letsOf {T : List Shp} {c : Cm} {F : List Clz} {x y : Int} (h : RWd c F) (hx : 0 ≤ x ∧ x < 12) (hy : 0 ≤ y ∧ y ≤ 200) : QI T (fun r c' => r = lt F (c 79) x y ∧ Off [92, 94] [30, 34, 35, 36] c c') (ccal 253 [vR 78, vI x, vI y] (SH T, c)) := by
  refine W_X12_letsOf (Q := QI T _) ?_
  refine (r_setNone (T := T) (c := c) (y := y)).mono fun c1 h3 => ?_
  have o1 : Off [92, 94] [30, 34, 35, 36] c (up c1 92 1 x) := (h3.1.mono rfl rfl).wr rfl
  have w1 := h.off o1 rfl
  have e79 : up c1 92 1 x 79 = c 79 := o1.row rfl
  refine QI.of_eq (r_ageIn w1 hy) ?_
  rw [e79]
  refine (r_tells (h.off (o1.wr rfl) rfl) (WE_C h3.2) (WR_C h.1 hy hx) (by omega)).mono fun r6 c7 h7 => ?_
  refine QI.ret ⟨?_, (o1.wr rfl).trans (h7.2.mono rfl rfl)⟩
  unfold lt
  rw [h7.1]
  cases tl F 1 (wC (c 79) x y) with
  | none => rfl
  | some v => rfl
theorem r_setPainter {T : List Shp} {c : Cm} {F : List Clz} {p y : Int} (h : RWd c F) (hp : 0 ≤ p ∧ p < c 79 0) (hy : 0 ≤ y ∧ y ≤ 200) : QV T (fun c' => Off [92] [] c c' ∧ WE c' (wP (c 79) p y)) (ccal 254 [vR 78, vI p, vI y] (SH T, c)) := by
  have h1 := h.1.1
  refine W_X12_setPainter (Q := QV T _) ?_
  refine (r_setNone (T := T) (c := c) (y := y)).mono fun c1 h3 => ?_
  refine QI.of_eq (r_ageIn (h.off h3.1 rfl) hy) ?_
  rw [h3.1.row rfl]
  refine ⟨by omega, QV.ret ⟨((h3.1.wr rfl).wr rfl).wr rfl, fun i a b => ?_⟩⟩
  rw [up_at, up_at]
  unfold wP
  by_cases e5 : i = 5
  · rw [if_pos e5, if_neg (show ¬ i = 4 by omega), if_pos e5]
  · rw [if_neg e5]
    by_cases e4 : i = 4
    · rw [if_pos e4, if_pos e4]
    · rw [if_neg e4, if_neg e4, if_neg e5]
      exact WE_B h3.2 i a b
theorem r_asksOf {T : List Shp} {c : Cm} {F : List Clz} {p y : Int} (h : RWd c F) (hp : 0 ≤ p ∧ p < c 79 0) (hy : 0 ≤ y ∧ y ≤ 200) : QI T (fun r c' => r = ask F (c 79) p y ∧ Off [92, 94] [30, 34, 35, 36] c c') (ccal 255 [vR 78, vI p, vI y] (SH T, c)) := by
  have h1 := h.1.1
  refine W_X12_asksOf (Q := QI T _) ?_
  refine (r_setPainter h hp hy).mono fun c1 h3 => ?_
  rw [h3.1.row rfl]
  refine ⟨by omega, (r_tells (h.off h3.1 rfl) h3.2 (WR_P h.1 hy hp) (by omega)).mono fun r6 c7 h7 => ?_⟩
  refine QI.ret ⟨?_, (h3.1.mono rfl rfl).trans (h7.2.mono rfl rfl)⟩
  unfold ask
  rw [h7.1]
  cases tl F 2 (wP (c 79) p y) with
  | none => rfl
  | some v => rfl
theorem r_isBarred {T : List Shp} {c : Cm} {F : List Clz} {p y : Int} (h : RWd c F) (hp : 0 ≤ p ∧ p < c 79 0) (hy : 0 ≤ y ∧ y ≤ 200) : QI T (fun r c' => r = b01 (brp F (c 79) p y = true) ∧ Off [92, 94] [30, 34, 35, 36] c c') (ccal 256 [vR 78, vI p, vI y] (SH T, c)) := by
  refine W_X12_isBarred (Q := QI T _) ?_
  refine (r_setPainter h hp hy).mono fun c1 h3 => ?_
  refine (r_tells (h.off h3.1 rfl) h3.2 (WR_P h.1 hy hp) (by omega)).mono fun r6 c7 h7 => ?_
  have o7 : Off [92, 94] [30, 34, 35, 36] c c7 := (h3.1.mono rfl rfl).trans (h7.2.mono rfl rfl)
  have h8 := h7.1
  refine ⟨fun h2 => QI.ret ⟨?_, o7⟩, fun h2 => QI.ret ⟨?_, o7⟩⟩
  · rw [b01_t]
    unfold brp
    cases e : tl F 4 (wP (c 79) p y) with
    | none => rw [e, h2] at h8; exact absurd h8 (by decide)
    | some v => rfl
  · rw [b01_f]
    unfold brp
    cases e : tl F 4 (wP (c 79) p y) with
    | none => decide
    | some v => rw [e] at h8; exact absurd h8 h2
theorem r_apart {T : List Shp} {c : Cm} {a b : Int} (ha : 0 ≤ a ∧ a ≤ 400) (hb : 0 ≤ b ∧ b ≤ 400) : ccal 289 [vR 78, vI a, vI b] (SH T, c) = some (some (vI (apr (c 79) a b)), (SH T, c)) := by
  refine W_X12_apart (Q := fun Z => Z = some (some (vI (apr (c 79) a b)), (SH T, c))) ?_
  refine lpI (Q := fun Z => Z = some (some (vI (apr (c 79) a b)), (SH T, c))) (E := fun i (n : Int) => cev 289 1 5 [vR 78, vI a, vI b, vI n, vI i] [] (SH T, c)) (fun i n => (0 ≤ i ∧ i ≤ 12) ∧ (0 ≤ n ∧ n ≤ i) ∧ n = foldI (fun i n => if c 79 (a + i) = c 79 (b + i) then n else n + 1) 0 i) 12 ?_ ?_ 0 0 ⟨by omega, by omega, rfl⟩
  · intro i n hi hI ih
    refine W_X12_apart_5 (Q := fun Z => Z = some (some (vI (apr (c 79) a b)), (SH T, c))) ⟨fun _ => ⟨by omega, fun h => ⟨by omega, ih _ ⟨by omega, by omega, ?_⟩⟩, fun h => ⟨by omega, ih _ ⟨by omega, by omega, ?_⟩⟩⟩, fun h => absurd hi h⟩
    · rw [foldI_succ (by omega), if_pos h, Int.add_zero]; exact hI.2.2
    · rw [foldI_succ (by omega), if_neg h, ← hI.2.2]
  · intro i n hi hI
    refine W_X12_apart_5 (Q := fun Z => Z = some (some (vI (apr (c 79) a b)), (SH T, c))) ⟨fun h => absurd h (by omega), fun _ => ?_⟩
    have : i = 12 := by omega
    subst this
    rw [hI.2.2]
    rfl
theorem r_nearOf {T : List Shp} {c : Cm} {F : List Clz} {q : Int} (h : RWd c F) (hq : 0 ≤ q ∧ q < 6) : ccal 290 [vR 78, vI q] (SH T, c) = some (some (vI (ner (c 79) q)), (SH T, c)) := by
  have h1 := h.1.1
  refine W_X12_nearOf (Q := fun Z => Z = some (some (vI (ner (c 79) q)), (SH T, c))) ⟨by omega, ?_⟩
  exact QI.of_eq (r_apart (by omega) (by omega)) rfl
theorem r_childrenOf {T : List Shp} {c : Cm} {F : List Clz} {q y : Int} (h : RWd c F) : ccal 316 [vR 78, vI q, vI y] (SH T, c) = some (some (vI (chd (c 79) q y)), (SH T, c)) := by
  have h1 := h.1.1
  refine W_X12_childrenOf (Q := fun Z => Z = some (some (vI (chd (c 79) q y)), (SH T, c))) ?_
  refine lpI (Q := fun Z => Z = some (some (vI (chd (c 79) q y)), (SH T, c))) (E := fun i (n : Int) => cev 316 3 5 [vR 78, vI q, vI y, vI n, vI i] [] (SH T, c)) (fun i n => (0 ≤ i ∧ i ≤ c 79 6) ∧ (0 ≤ n ∧ n ≤ i) ∧ n = foldI (fun o n => if c 79 (348 + 4 * o) = q ∧ c 79 (348 + 4 * o + 1) ≤ y ∧ y < c 79 (348 + 4 * o + 2) then n + 1 else n) 0 i) (c 79 6) ?_ ?_ 0 0 ⟨by omega, by omega, rfl⟩
  · intro i n hi hI ih
    refine W_X12_childrenOf_5 (Q := fun Z => Z = some (some (vI (chd (c 79) q y)), (SH T, c))) ⟨fun _ => ?_, fun h => absurd hi h⟩
    rw [Int.add_zero (348 + 4 * i)]
    refine ⟨by omega, fun h => ⟨by omega, fun h2 => ⟨by omega, ih _ ⟨by omega, by omega, ?_⟩⟩, fun h2 => ⟨by omega, ih _ ⟨by omega, by omega, ?_⟩⟩⟩, fun h => ⟨by omega, ih _ ⟨by omega, by omega, ?_⟩⟩⟩
    · rw [foldI_succ (by omega), if_pos ⟨h, h2⟩, ← hI.2.2]
    · rw [foldI_succ (by omega), if_neg (fun h3 => h2 h3.2), Int.add_zero]; exact hI.2.2
    · rw [foldI_succ (by omega), if_neg (fun h3 => h h3.1), Int.add_zero]; exact hI.2.2
  · intro i n hi hI
    refine W_X12_childrenOf_5 (Q := fun Z => Z = some (some (vI (chd (c 79) q y)), (SH T, c))) ⟨fun h => absurd h (by omega), fun _ => ?_⟩
    have : i = c 79 6 := by omega
    subst this
    rw [hI.2.2]
    rfl
theorem r_setClaimant {T : List Shp} {c : Cm} {F : List Clz} {q y : Int} (h : RWd c F) (hq : 0 ≤ q ∧ q < c 79 6) (hy : 0 ≤ y ∧ y ≤ 200) : QV T (fun c' => Off [92] [] c c' ∧ WE c' (wQ (c 79) q y)) (ccal 317 [vR 78, vI q, vI y] (SH T, c)) := by
  have h1 := h.1.1
  have hb := h.1.2.2.2.2.2.2.2 q hq.1 hq.2
  refine W_X12_setClaimant (Q := QV T _) ⟨by omega, ?_⟩
  refine (r_setNone (T := T) (c := c) (y := y)).mono fun c1 h2 => ?_
  rw [h2.1.row rfl]
  have key : ∀ (c2 : Cm) (v : Int), Off [92] [] c c2 → v = (if 0 ≤ c 79 (348 + 4 * q + 3) ∧ c 79 (348 + 4 * q + 3) < c 79 5 then ner (c 79) (c 79 (348 + 4 * q + 3)) else -1) → (∀ k, 1 ≤ k → k ≤ 8 → c2 92 k = wQ (c 79) q y k) → QV T (fun c' => Off [92] [] c c' ∧ WE c' (wQ (c 79) q y)) (cev 317 4 76 [vR 78, vI q, vI y, vU] [vL v, vI 9, vR 93] (SH T, c2)) := by
    intro c2 v h3 h4 h5
    refine W_X12_setClaimant_76 (Q := QV T _) ⟨by omega, ?_⟩
    have w3 := h.off (h3.wr (q := 92) (i := 9) (v := v) rfl) rfl
    refine QI.of_eq (r_childrenOf w3) (QV.ret ⟨(h3.wr rfl).wr rfl, ?_⟩)
    rw [up_cell (show 79 ≠ 92 by decide), h3.row rfl]
    intro k a b
    rw [up_at, up_at]
    by_cases e9 : k = 10
    · rw [if_pos e9]; subst e9; rfl
    · rw [if_neg e9]
      by_cases e8 : k = 9
      · rw [if_pos e8, h4]; subst e8; rfl
      · rw [if_neg e8]; exact h5 k a (by omega)
  have w8 : ∀ k, 1 ≤ k → k ≤ 8 → (up (up (up c1 92 2 (y - c 79 (348 + 4 * q + 1))) 92 7 q) 92 8 (c 79 (348 + 4 * q + 1))) 92 k = wQ (c 79) q y k := by
    intro k a b
    rw [up_at, up_at, up_at]
    unfold wQ
    by_cases e8 : k = 8
    · rw [if_pos e8, if_neg (show ¬ k = 2 by omega), if_neg (show ¬ k = 7 by omega), if_pos e8]
    · rw [if_neg e8]
      by_cases e7 : k = 7
      · rw [if_pos e7, if_neg (show ¬ k = 2 by omega), if_pos e7]
      · rw [if_neg e7]
        by_cases e2 : k = 2
        · rw [if_pos e2, if_pos e2]
        · rw [if_neg e2, if_neg e2, if_neg e7, if_neg e8, if_neg (show ¬ k = 9 by omega), if_neg (show ¬ k = 10 by omega)]
          unfold wB
          rw [if_neg e2]
          exact h2.2 k (by omega) (by omega)
  have o3 : Off [92] [] c (up (up (up c1 92 2 (y - c 79 (348 + 4 * q + 1))) 92 7 q) 92 8 (c 79 (348 + 4 * q + 1))) := ((h2.1.wr rfl).wr rfl).wr rfl
  refine ⟨by omega, fun h3 => ?_, fun h3 => ?_⟩
  · refine QI.of_eq (r_nearOf (h.off o3 rfl) ⟨h3.1, by omega⟩) ?_
    rw [o3.row rfl]
    exact key _ _ o3 (by rw [if_pos h3]) w8
  · exact key _ _ o3 (by rw [if_neg h3]) w8
theorem r_ranks {T : List Shp} {c : Cm} {F : List Clz} {q y : Int} (h : RWd c F) (hq : 0 ≤ q ∧ q < c 79 6) (hy : 0 ≤ y ∧ y ≤ 200) : QI T (fun r c' => r = rnk F (c 79) q y ∧ Off [92, 94] [30, 34, 35, 36] c c') (ccal 318 [vR 78, vI q, vI y] (SH T, c)) := by
  refine W_X12_ranks (Q := QI T _) ?_
  refine (r_setClaimant h hq hy).mono fun c1 h3 => ?_
  refine (r_tells (h.off h3.1 rfl) h3.2 (WR_Q h.1 hy hq) (by omega)).mono fun r6 c7 h7 => ?_
  refine QI.ret ⟨?_, (h3.1.mono rfl rfl).trans (h7.2.mono rfl rfl)⟩
  unfold rnk
  rw [h7.1]
  cases tl F 3 (wQ (c 79) q y) with
  | none => rfl
  | some v => rfl
theorem r_isOut {T : List Shp} {c : Cm} {F : List Clz} {q y : Int} (h : RWd c F) (hq : 0 ≤ q ∧ q < c 79 6) (hy : 0 ≤ y ∧ y ≤ 200) : QI T (fun r c' => r = b01 (brq F (c 79) q y = true) ∧ Off [92, 94] [30, 34, 35, 36] c c') (ccal 319 [vR 78, vI q, vI y] (SH T, c)) := by
  refine W_X12_isOut (Q := QI T _) ?_
  refine (r_setClaimant h hq hy).mono fun c1 h3 => ?_
  refine (r_tells (h.off h3.1 rfl) h3.2 (WR_Q h.1 hy hq) (by omega)).mono fun r6 c7 h7 => ?_
  have o7 : Off [92, 94] [30, 34, 35, 36] c c7 := (h3.1.mono rfl rfl).trans (h7.2.mono rfl rfl)
  have h8 := h7.1
  refine ⟨fun h2 => QI.ret ⟨?_, o7⟩, fun h2 => QI.ret ⟨?_, o7⟩⟩
  · rw [b01_t]
    unfold brq
    cases e : tl F 4 (wQ (c 79) q y) with
    | none => rw [e, h2] at h8; exact absurd h8 (by decide)
    | some v => rfl
  · rw [b01_f]
    unfold brq
    cases e : tl F 4 (wQ (c 79) q y) with
    | none => decide
    | some v => rw [e] at h8; exact absurd h8 h2

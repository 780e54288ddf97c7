/-! TOKENS of a tape: B its bytes, L how many. -/
/-- while p at s, below L -/
def whn {α : Type} (p : Int → Bool) (f : Int → α → α) : Nat → Int → α → Int × α
  | 0, s, a => (s, a)
  | n + 1, s, a => if p s = true then whn p f n (s + 1) (f s a) else (s, a)
def whl {α : Type} (L : Int) (p : Int → Bool) (f : Int → α → α) (s : Int) (a : α) : Int × α := whn p f (L - s).toNat s a
section WHL
variable {α : Type} {L : Int} {p : Int → Bool} {f : Int → α → α} {s : Int} {a : α}
theorem whl_end (h : ¬ s < L) : whl L p f s a = (s, a) := by
  unfold whl
  rw [show (L - s).toNat = 0 from by omega]
  rfl
theorem whl_go (h : s < L) (hp : p s = true) : whl L p f s a = whl L p f (s + 1) (f s a) := by
  unfold whl
  rw [show (L - s).toNat = (L - (s + 1)).toNat + 1 from by omega]
  exact if_pos hp
theorem whl_stop (hp : p s = false) : whl L p f s a = (s, a) := by
  by_cases h : s < L
  · unfold whl
    rw [show (L - s).toNat = (L - (s + 1)).toNat + 1 from by omega]
    exact if_neg (by rw [hp]; decide)
  · exact whl_end h
/-- what holds at each step -/
theorem whl_ind (P : Int → α → Prop) (h0 : P s a) (hs : ∀ j b, s ≤ j → j < L → p j = true → P j b → P (j + 1) (f j b)) : P (whl L p f s a).1 (whl L p f s a).2 := by
  have key : ∀ n : Nat, ∀ j b, s ≤ j → (L - j).toNat = n → P j b → P (whl L p f j b).1 (whl L p f j b).2 := by
    intro n
    induction n with
    | zero =>
      intro j b h1 h2 h3
      rw [whl_end (by omega)]
      exact h3
    | succ n ih =>
      intro j b h1 h2 h3
      cases e : p j with
      | true =>
        rw [whl_go (by omega) e]
        exact ih (j + 1) (f j b) (by omega) (by omega) (hs j b h1 (by omega) e h3)
      | false =>
        rw [whl_stop e]
        exact h3
  exact key _ s a (by omega) rfl h0
theorem whl_bd : s ≤ (whl L p f s a).1 ∧ (s ≤ L → (whl L p f s a).1 ≤ L) := by
  refine whl_ind (fun j _ => s ≤ j ∧ (s ≤ L → j ≤ L)) ⟨by omega, fun h => h⟩ ?_
  intro j b h1 h2 h3 h4
  exact ⟨by omega, fun _ => by omega⟩
end WHL
theorem whl_two {α β : Type} {L : Int} {p : Int → Bool} {f : Int → α → α} {g : Int → β → β} {s : Int} {a : α} {b : β} (P : Int → α → β → Prop) (h0 : P s a b) (hs : ∀ j x y, s ≤ j → j < L → p j = true → P j x y → P (j + 1) (f j x) (g j y)) : (whl L p f s a).1 = (whl L p g s b).1 ∧ P (whl L p f s a).1 (whl L p f s a).2 (whl L p g s b).2 := by
  have key : ∀ n : Nat, ∀ j x y, s ≤ j → (L - j).toNat = n → P j x y → (whl L p f j x).1 = (whl L p g j y).1 ∧ P (whl L p f j x).1 (whl L p f j x).2 (whl L p g j y).2 := by
    intro n
    induction n with
    | zero =>
      intro j x y h1 h2 h3
      rw [whl_end (by omega), whl_end (by omega)]
      exact ⟨rfl, h3⟩
    | succ n ih =>
      intro j x y h1 h2 h3
      cases e : p j with
      | true =>
        rw [whl_go (by omega) e, whl_go (by omega) e]
        exact ih (j + 1) _ _ (by omega) (by omega) (hs j x y h1 (by omega) e h3)
      | false =>
        rw [whl_stop e, whl_stop e]
        exact ⟨rfl, h3⟩
  exact key _ s a b (by omega) rfl h0
theorem whl_fst {α β : Type} {L : Int} {p : Int → Bool} {f : Int → α → α} {g : Int → β → β} {s : Int} {a : α} {b : β} : (whl L p f s a).1 = (whl L p g s b).1 := (whl_two (fun _ _ _ => True) trivial fun _ _ _ _ _ _ _ => trivial).1
def kof (x : Int) : Int := if 97 ≤ x ∧ x ≤ 122 then 0 else if 48 ≤ x ∧ x ≤ 57 then 1 else 2
/-- of one kind -/
def okd (B : Int → Int) (k : Int) : Int → Bool := fun j => kof (B j) == k
def sk (B : Int → Int) (L s : Int) : Int := (whl L (fun j => B j == 32) (fun _ a => a) s ()).1
def kd (B : Int → Int) (L p : Int) : Int := if p < L then kof (B p) else 3
def en (B : Int → Int) (L p : Int) : Int := if p < L then (if kof (B p) = 2 then p + 1 else (whl L (okd B (kof (B p))) (fun _ a => a) p ()).1) else p
def dgc (B : Int → Int) (j n : Int) : Int := if n * 10 + B j - 48 < 10000 then n * 10 + B j - 48 else 10000
def dgr (B : Int → Int) (j v : Int) : Int := if 1000000 < v then v else v * 10 + B j - 48
def wdr (B : Int → Int) (p j v : Int) : Int := if j - p < 10 then v * 32 + B j - 96 else -1
def nc (B : Int → Int) (L p : Int) : Int := if p < L ∧ kof (B p) = 1 then (whl L (okd B 1) (dgc B) p 0).2 else 0
def wo (B : Int → Int) (L p : Int) : Int := if p < L then (if kof (B p) = 2 then B p else if kof (B p) = 0 then (whl L (okd B 0) (wdr B p) p 0).2 else (whl L (okd B 1) (dgr B) p 0).2) else 0
def nx (B : Int → Int) (L p : Int) : Int := sk B L (en B L p)
def BLt (B : Int → Int) (L : Int) : Prop := (0 ≤ L ∧ L ≤ 400) ∧ ∀ j, 0 ≤ j → j < 400 → 0 ≤ B j ∧ B j ≤ 255
theorem kof_or {x : Int} : kof x = 0 ∨ kof x = 1 ∨ kof x = 2 := by
  unfold kof
  repeat' split
  all_goals omega
theorem sk_bd {B : Int → Int} {L s : Int} : s ≤ sk B L s ∧ (s ≤ L → sk B L s ≤ L) := whl_bd
theorem en_bd {B : Int → Int} {L p : Int} (h : p ≤ L) : p ≤ en B L p ∧ en B L p ≤ L ∧ (p < L → p < en B L p) := by
  unfold en
  by_cases h1 : p < L
  · rw [if_pos h1]
    by_cases h2 : kof (B p) = 2
    · rw [if_pos h2]; omega
    · rw [if_neg h2, whl_go h1 (by unfold okd; exact beq_self_eq_true _)]
      have := whl_bd (L := L) (p := okd B (kof (B p))) (f := fun _ (a : Unit) => a) (s := p + 1) (a := ())
      omega
  · rw [if_neg h1]; omega
theorem nx_bd {B : Int → Int} {L p : Int} (h : p ≤ L) : p ≤ nx B L p ∧ nx B L p ≤ L ∧ (p < L → p < nx B L p) := by
  have h1 := en_bd (B := B) h
  have h2 := sk_bd (B := B) (L := L) (s := en B L p)
  unfold nx
  omega
/-- the numbers of both sides: alike up to 9999 -/
theorem num_two {B : Int → Int} {L p : Int} (hB : BLt B L) (hp : 0 ≤ p) (h1 : p < L) (h2 : kof (B p) = 1) : (0 ≤ nc B L p ∧ nc B L p ≤ 10000) ∧ ((nc B L p = wo B L p ∧ nc B L p < 10000) ∨ (nc B L p = 10000 ∧ 10000 ≤ wo B L p)) ∧ wo B L p ≤ 10000009 := by
  have e1 : nc B L p = (whl L (okd B 1) (dgc B) p 0).2 := if_pos ⟨h1, h2⟩
  have e2 : wo B L p = (whl L (okd B 1) (dgr B) p 0).2 := by
    unfold wo
    rw [if_pos h1, if_neg (by omega), if_neg (by omega)]
  rw [e1, e2]
  refine (whl_two (f := dgc B) (g := dgr B) (fun _ n v => (0 ≤ n ∧ n ≤ 10000) ∧ ((n = v ∧ n < 10000) ∨ (n = 10000 ∧ 10000 ≤ v)) ∧ v ≤ 10000009) ⟨by omega, .inl ⟨rfl, by omega⟩, by omega⟩ ?_).2
  intro j n v a b c d
  have ek : kof (B j) = 1 := eq_of_beq c
  have hb : 48 ≤ B j ∧ B j ≤ 57 := by
    unfold kof at ek
    by_cases h3 : 97 ≤ B j ∧ B j ≤ 122
    · rw [if_pos h3] at ek; omega
    · rw [if_neg h3] at ek
      by_cases h4 : 48 ≤ B j ∧ B j ≤ 57
      · exact h4
      · rw [if_neg h4] at ek; omega
  unfold dgc dgr
  repeat' split
  all_goals omega
/-! FRAMES: what may change -/
def Fr (A : Nat → Int → Prop) (c c' : Cm) : Prop := ∀ q j, ¬ A q j → c' q j = c q j
section FRS
variable {A A' : Nat → Int → Prop} {a b c c' : Cm}
theorem Fr.rfl : Fr A c c := fun _ _ _ => Eq.refl _
theorem Fr.trans (h1 : Fr A a b) (h2 : Fr A b c) : Fr A a c := fun q j h => (h2 q j h).trans (h1 q j h)
theorem Fr.wr (h : Fr A c c') {q : Nat} {i v : Int} (hq : A q i) : Fr A c (up c' q i v) := by
  intro a j ha
  by_cases e : a = q
  · subst e
    by_cases e2 : j = i
    · subst e2; exact absurd hq ha
    · rw [up_ne e2]; exact h a j ha
  · rw [up_cell e]; exact h a j ha
theorem Fr.mono (h : Fr A c c') (hA : ∀ q j, A q j → A' q j) : Fr A' c c' := fun q j hn => h q j fun k => hn (hA q j k)
theorem Fr.cell (h : Fr A c c') {q : Nat} (hq : ∀ j, ¬ A q j) : c' q = c q := by
  funext j
  exact h q j (hq j)
theorem Fr.off {L : List Nat} {F : List Int} (h : Fr A c c') (hA : ∀ q j, A q j → L.contains q = true ∨ (q = 77 ∧ F.contains j = true)) : Off L F c c' := by
  intro q j h1 h2
  refine h q j fun k => ?_
  rcases hA q j k with e | ⟨e, e2⟩
  · rw [h1] at e; exact absurd e (by decide)
  · rw [h2 e] at e2; exact absurd e2 (by decide)
end FRS
/-! THE CLASS's tokens -/
def NXA (q : Nat) (j : Int) : Prop := q = 48 ∧ 4 ≤ j ∧ j ≤ 7
def TC (c : Cm) (B : Int → Int) (L p : Int) : Prop := c 48 4 = kd B L p ∧ c 48 5 = p ∧ c 48 6 = en B L p ∧ c 48 7 = nc B L p
theorem c_kindOf {T : List Shp} {c : Cm} {x : Int} : ccal 63 [vI x] (SH T, c) = some (some (vI (kof x)), (SH T, c)) := by
  have k14 : ¬ (97 ≤ x ∧ x ≤ 122) → cev 63 1 14 [vI x] [] (SH T, c) = some (some (vI (kof x)), (SH T, c)) := by
    intro h
    unfold kof
    rw [if_neg h]
    refine W_X6_kindOf_14 (Q := fun Z => Z = _) ⟨fun h1 => ?_, fun h1 => ⟨fun h2 => ?_, fun h2 => ?_⟩⟩
    · rw [if_neg (by omega)]
    · rw [if_neg (by omega)]
    · rw [if_pos (by omega)]
  refine W_X6_kindOf (Q := fun Z => Z = _) ⟨fun h1 => k14 (by omega), fun h1 => ⟨fun h2 => k14 (by omega), fun h2 => ?_⟩⟩
  unfold kof
  rw [if_pos (by omega)]
theorem c_next {T : List Shp} {c : Cm} {B : Int → Int} {L : Int} (hL : c 48 1 = L) (hB : c 10 = B) (hbl : BLt B L) (h6 : 0 ≤ c 48 6 ∧ c 48 6 ≤ L) : QV T (fun c' => Fr NXA c c' ∧ TC c' B L (sk B L (c 48 6))) (ccal 62 [vR 49] (SH T, c)) := by
  have hLb := hbl.1
  -- what stands still
  have st : ∀ s : Cm, Fr NXA c s → s 48 1 = L ∧ s 10 = B := fun s o => ⟨(o 48 1 (by unfold NXA; omega)).trans hL, (o.cell (q := 10) (by intro j; unfold NXA; omega)).trans hB⟩
  -- a run of letters, of digits
  have run : ∀ (s : Cm) (k p : Int), Fr NXA c s → (k = 0 ∨ k = 1) → 0 ≤ p → p < L → kof (B p) = k → s 48 4 = k → s 48 5 = p → s 48 6 = p → s 48 7 = 0 → p = sk B L (c 48 6) → QV T (fun c' => Fr NXA c c' ∧ TC c' B L (sk B L (c 48 6))) (cev 62 2 111 [vR 49] [] (SH T, s)) := by
    intro s k p o hk p0 pL ek k4 k5 k6 k7 ep
    have fin : ∀ (s : Cm) (i : Int), Fr NXA c s → s 48 4 = k → s 48 5 = p → s 48 6 = i → (k = 0 → s 48 7 = 0) → whl L (okd B k) (fun j n => if k = 1 then dgc B j n else n) p 0 = (i, s 48 7) → TC s B L (sk B L (c 48 6)) := by
      intro s i o k4 k5 k6 k7 ew
      rw [← ep]
      unfold TC kd en nc
      rw [if_pos pL, if_pos pL, if_neg (by omega), ek]
      refine ⟨k4, k5, ?_, ?_⟩
      · rw [whl_fst (g := fun j n => if k = 1 then dgc B j n else n) (b := (0 : Int)), ew]
        exact k6
      · by_cases e1 : k = 1
        · rw [if_pos ⟨pL, e1⟩]
          have e2 : (fun j n => if k = 1 then dgc B j n else n) = dgc B := by
            funext j n
            rw [if_pos e1]
          rw [e2] at ew
          rw [← e1, ew]
        · rw [if_neg (fun h => e1 h.2)]
          exact k7 (by omega)
    refine lpI (Q := QV T _) (E := fun i (s : Cm) => cev 62 2 111 [vR 49] [] (SH T, s)) (fun i s => (p ≤ i ∧ i ≤ L) ∧ Fr NXA c s ∧ s 48 4 = k ∧ s 48 5 = p ∧ s 48 6 = i ∧ (0 ≤ s 48 7 ∧ s 48 7 ≤ 10000) ∧ (k = 0 → s 48 7 = 0) ∧ whl L (okd B k) (fun j n => if k = 1 then dgc B j n else n) i (s 48 7) = whl L (okd B k) (fun j n => if k = 1 then dgc B j n else n) p 0) L ?_ ?_ p s ⟨by omega, o, k4, k5, k6, by omega, fun _ => k7, by rw [k7]⟩
    · rintro i s hi ⟨ib, o, q4, q5, q6, q7, q8, q9⟩ ih
      have hs := st s o
      have hbi := hbl.2 i (by omega) (by omega)
      refine W_X6_next_111 ⟨fun _ => ⟨by omega, QI.of_eq c_kindOf ⟨fun e => ?_, fun e => QV.ret ⟨o, fin s i o q4 q5 q6 q8 ?_⟩⟩⟩, fun z => absurd (show s 48 6 < s 48 1 by omega) z⟩
      · rw [hs.2, q6, q4] at e
        have ep2 : okd B k i = true := by unfold okd; rw [e]; exact beq_self_eq_true _
        rw [whl_go hi ep2] at q9
        refine ⟨fun e1 => ?_, fun e1 => ?_⟩
        · have hd : 48 ≤ B i ∧ B i ≤ 57 := by
            have e' : kof (B i) = 1 := by omega
            unfold kof at e'
            by_cases h3 : 97 ≤ B i ∧ B i ≤ 122
            · rw [if_pos h3] at e'; omega
            · rw [if_neg h3] at e'
              by_cases h4 : 48 ≤ B i ∧ B i ≤ 57
              · exact h4
              · rw [if_neg h4] at e'; omega
          rw [hs.2, q6]
          refine ⟨by omega, ih _ ⟨by omega, (o.wr (by unfold NXA; omega)).wr (by unfold NXA; omega), ?_, ?_, up_same, ?_, fun z => by omega, ?_⟩⟩
          · rw [up_ne (by decide), up_ne (by decide)]; exact q4
          · rw [up_ne (by decide), up_ne (by decide)]; exact q5
          · rw [up_ne (by decide), up_same]; split <;> omega
          · rw [up_ne (by decide), up_same, ← q9]
            show whl L _ _ (i + 1) (dgc B i (s 48 7)) = whl L _ _ (i + 1) (if k = 1 then dgc B i (s 48 7) else s 48 7)
            rw [if_pos (show k = 1 by omega)]
        · rw [q6]
          refine ⟨by omega, ih _ ⟨by omega, o.wr (by unfold NXA; omega), ?_, ?_, up_same, ?_, fun z => ?_, ?_⟩⟩
          · rw [up_ne (by decide)]; exact q4
          · rw [up_ne (by decide)]; exact q5
          · rw [up_ne (by decide)]; exact q7
          · rw [up_ne (by decide)]; exact q8 z
          · rw [up_ne (by decide), ← q9, if_neg (by omega)]
      · rw [hs.2, q6, q4] at e
        rw [← q9, whl_stop]
        unfold okd
        exact beq_eq_false_iff_ne.mpr e
    · rintro i s hi ⟨ib, o, q4, q5, q6, q7, q8, q9⟩
      have hs := st s o
      refine W_X6_next_111 ⟨fun z => absurd z (by omega), fun _ => QV.ret ⟨o, fin s i o q4 q5 q6 q8 ?_⟩⟩
      rw [← q9, whl_end (by omega)]
  -- behind the blanks
  have k46 : ∀ (s : Cm) (p : Int), Fr NXA c s → 0 ≤ p → p ≤ L → s 48 5 = p → p = sk B L (c 48 6) → QV T (fun c' => Fr NXA c c' ∧ TC c' B L (sk B L (c 48 6))) (cev 62 2 46 [vR 49] [] (SH T, s)) := by
    intro s p o p0 pL k5 ep
    have hs := st s o
    refine W_X6_next_46 ⟨fun h => ⟨by omega, ?_⟩, fun h => QV.ret ⟨((o.wr (by unfold NXA; omega)).wr (by unfold NXA; omega)).wr (by unfold NXA; omega), ?_⟩⟩
    · rw [hs.2, k5]
      have pL2 : p < L := by omega
      refine QI.of_eq c_kindOf ⟨fun e => ⟨?_, QV.ret ⟨(((o.wr (by unfold NXA; omega)).wr (by unfold NXA; omega)).wr (by unfold NXA; omega)).wr (by unfold NXA; omega), ?_⟩⟩, fun e => ?_⟩
      · rw [up_ne (by decide), up_same]; omega
      · rw [← ep]
        unfold TC kd en nc
        rw [if_pos pL2, if_pos pL2, if_pos e, if_neg (by omega), e]
        refine ⟨?_, ?_, ?_, ?_⟩
        · rw [up_ne (by decide), up_same]
        · rw [up_ne (by decide), up_ne (by decide), up_ne (by decide), up_ne (by decide)]; exact k5
        · rw [up_same, up_ne (by decide), up_same]
        · rw [up_ne (by decide), up_ne (by decide), up_same]
      · refine run _ (kof (B p)) p (((o.wr (by unfold NXA; omega)).wr (by unfold NXA; omega)).wr (by unfold NXA; omega)) ?_ p0 pL2 rfl up_same ?_ ?_ ?_ ep
        · have := kof_or (x := B p); omega
        · rw [up_ne (by decide), up_ne (by decide), up_ne (by decide)]; exact k5
        · rw [up_ne (by decide), up_ne (by decide), up_same]
        · rw [up_ne (by decide), up_same]
    · have : p = L := by omega
      rw [← ep]
      unfold TC kd en nc
      rw [if_neg (by omega), if_neg (by omega), if_neg (by omega)]
      refine ⟨up_same, ?_, ?_, ?_⟩
      · rw [up_ne (by decide), up_ne (by decide), up_ne (by decide)]; exact k5
      · rw [up_ne (by decide), up_ne (by decide), up_same]; exact k5
      · rw [up_ne (by decide), up_same]
  refine W_X6_next (Q := QV T _) ?_
  refine lpI (Q := QV T _) (E := fun i (s : Cm) => cev 62 2 8 [vR 49] [] (SH T, s)) (fun i s => (0 ≤ i ∧ i ≤ L) ∧ Fr NXA c s ∧ s 48 5 = i ∧ sk B L i = sk B L (c 48 6)) L ?_ ?_ (c 48 6) _ ⟨by omega, Fr.rfl.wr (by unfold NXA; omega), up_same, rfl⟩
  · rintro i s hi ⟨ib, o, q5, q9⟩ ih
    have hs := st s o
    refine W_X6_next_8 ⟨fun _ => ⟨by omega, fun e => ?_, fun e => k46 s i o (by omega) (by omega) q5 ?_⟩, fun z => absurd (show s 48 5 < s 48 1 by omega) z⟩
    · rw [hs.2, q5] at e
      rw [q5]
      refine ⟨by omega, ih _ ⟨by omega, o.wr (by unfold NXA; omega), up_same, ?_⟩⟩
      rw [← q9]
      unfold sk
      rw [whl_go (s := i) hi (by rw [e]; rfl)]
    · rw [hs.2, q5] at e
      rw [← q9]
      unfold sk
      rw [whl_stop (p := fun j => B j == 32) (beq_eq_false_iff_ne.mpr e)]
  · rintro i s hi ⟨ib, o, q5, q9⟩
    have hs := st s o
    refine W_X6_next_8 ⟨fun z => absurd z (by omega), fun _ => k46 s i o (by omega) (by omega) q5 ?_⟩
    rw [← q9]
    unfold sk
    rw [whl_end (by omega)]

/-! WHO RULES -/
def il (F : List Clz) (R : Int → Int) (y q : Int) : Bool := decide (R (348 + 4 * q + 1) ≤ y ∧ y < R (348 + 4 * q + 2)) && !brq F R q y
/-- one stands ahead of another one -/
def bfr (F : List Clz) (R : Int → Int) (y o q : Int) : Bool := decide (rnk F R o y < rnk F R q y ∨ (rnk F R o y = rnk F R q y ∧ o < q))
def chs (F : List Clz) (R : Int → Int) (y : Int) : Int := (foldI (fun q (s : Int × Int) => if il F R y q = true ∧ rnk F R q y < s.2 then (q, rnk F R q y) else s) (-1, 100000000) (R 6)).1
def rl (F : List Clz) (R : Int → Int) (y : Int) : Int := foldI (fun i prev => if prev ≠ -1 ∧ (R (348 + 4 * prev + 1) ≤ i ∧ i < R (348 + 4 * prev + 2)) then prev else chs F R i) (-1) (y + 1)
def lin (F : List Clz) (R : Int → Int) (y i : Int) : Int := if i = -1 then cnt (il F R y) (R 6) else frst (fun q => il F R y q && decide (cnt (fun o => il F R y o && bfr F R y o q) (R 6) = i)) (R 6)
def bgn (F : List Clz) (R : Int → Int) (y : Int) : Bool := decide (rl F R y ≠ -1 ∧ (y = 0 ∨ rl F R (y - 1) ≠ rl F R y))
/-- how long it goes on so from a year on -/
def len (F : List Clz) (R : Int → Int) (y : Int) : Int := if frst (fun k => decide (rl F R (y + k) ≠ rl F R y)) (100 - y) = -1 then 100 - y else frst (fun k => decide (rl F R (y + k) ≠ rl F R y)) (100 - y)
def rei (F : List Clz) (R : Int → Int) (i w : Int) : Int := if i = -1 then cnt (bgn F R) 100 else if ith (bgn F R) i 100 = -1 then -1 else if w = 0 then rl F R (ith (bgn F R) i 100) else if w = 1 then ith (bgn F R) i 100 else len F R (ith (bgn F R) i 100)
def vac (F : List Clz) (R : Int → Int) : Int := cnt (fun y => decide (rl F R y = -1)) 100
theorem cnt_congr {p q : Int → Bool} {n : Int} (h : ∀ i, 0 ≤ i → i < n → p i = q i) : cnt p n = cnt q n := foldI_congr fun i y a b => by rw [h i a b]
/-- the queue: who stands where -/
def QU (F : List Clz) (R : Int → Int) (y k s : Int) (K Q : Int → Int) : Prop := (0 ≤ s ∧ s ≤ k) ∧ (∀ i, 0 ≤ i → i < s → (0 ≤ Q i ∧ Q i < k) ∧ il F R y (Q i) = true ∧ K i = rnk F R (Q i) y) ∧ (∀ i j, 0 ≤ i → i < j → j < s → bfr F R y (Q i) (Q j) = true) ∧ (∀ P : Int → Bool, cnt (fun o => il F R y o && P o) k = cnt (fun j => P (Q j)) s)
theorem cnt_ins {f g : Int → Bool} {a s : Int} {b : Bool} (ha : 0 ≤ a ∧ a ≤ s) (h1 : ∀ i, 0 ≤ i → i < a → g i = f i) (h2 : g a = b) (h3 : ∀ i, a < i → i ≤ s → g i = f (i - 1)) : cnt g (s + 1) = if b = true then cnt f s + 1 else cnt f s := by
  have e1 : cnt g a = cnt f a := cnt_congr h1
  have e2 : cnt g (a + 1) = if b = true then cnt f a + 1 else cnt f a := by rw [cnt_succ ha.1, h2, e1]
  have key : ∀ m : Nat, (m : Int) ≤ s - a → cnt g (a + 1 + m) = if b = true then cnt f (a + m) + 1 else cnt f (a + m) := by
    intro m
    induction m with
    | zero =>
      intro _
      rw [show a + 1 + ((0 : Nat) : Int) = a + 1 from by omega, show a + ((0 : Nat) : Int) = a from by omega]
      exact e2
    | succ m ih =>
      intro hm
      rw [show a + 1 + ((m + 1 : Nat) : Int) = a + 1 + m + 1 from by omega, show a + ((m + 1 : Nat) : Int) = a + m + 1 from by omega, cnt_succ (by omega), cnt_succ (by omega), ih (by omega), h3 _ (by omega) (by omega), show a + 1 + (m : Int) - 1 = a + m from by omega]
      cases b <;> cases f (a + m) <;> simp <;> omega
  have := key (s - a).toNat (by omega)
  rw [show a + 1 + ((s - a).toNat : Int) = s + 1 from by omega, show a + ((s - a).toNat : Int) = s from by omega] at this
  exact this
theorem QU.keep {F : List Clz} {R : Int → Int} {y k s : Int} {K Q : Int → Int} (h : QU F R y k s K Q) (hk : 0 ≤ k) (hn : il F R y k = false) : QU F R y (k + 1) s K Q := by
  obtain ⟨h1, h2, h3, h4⟩ := h
  refine ⟨by omega, fun i a b => ?_, h3, fun P => ?_⟩
  · have := h2 i a b
    exact ⟨by omega, this.2⟩
  · rw [cnt_succ hk, hn, Bool.false_and, if_neg (by decide)]
    exact h4 P
theorem QU.ins {F : List Clz} {R : Int → Int} {y k s a : Int} {K Q K' Q' : Int → Int} (h : QU F R y k s K Q) (hk : 0 ≤ k) (hn : il F R y k = true) (ha : 0 ≤ a ∧ a ≤ s) (l1 : ∀ i, 0 ≤ i → i < a → K i ≤ rnk F R k y) (l2 : ∀ i, a ≤ i → i < s → rnk F R k y < K i) (q1 : ∀ i, 0 ≤ i → i < a → Q' i = Q i ∧ K' i = K i) (q2 : Q' a = k ∧ K' a = rnk F R k y) (q3 : ∀ i, a < i → i ≤ s → Q' i = Q (i - 1) ∧ K' i = K (i - 1)) : QU F R y (k + 1) (s + 1) K' Q' := by
  obtain ⟨h1, h2, h3, h4⟩ := h
  refine ⟨by omega, fun i b d => ?_, fun i j b d e => ?_, fun P => ?_⟩
  · by_cases e1 : i < a
    · have := h2 i b (by omega)
      rw [(q1 i b e1).1, (q1 i b e1).2]
      exact ⟨by omega, this.2⟩
    · by_cases e2 : i = a
      · rw [e2, q2.1, q2.2]
        exact ⟨by omega, hn, rfl⟩
      · have := h2 (i - 1) (by omega) (by omega)
        rw [(q3 i (by omega) (by omega)).1, (q3 i (by omega) (by omega)).2]
        exact ⟨by omega, this.2⟩
  · by_cases e1 : j < a
    · rw [(q1 i b (by omega)).1, (q1 j (by omega) e1).1]
      exact h3 i j b d (by omega)
    · by_cases e2 : j = a
      · rw [e2, q2.1, (q1 i b (by omega)).1]
        have g := h2 i b (by omega)
        have l := l1 i b (by omega)
        rw [g.2.2] at l
        unfold bfr
        exact decide_eq_true (by omega)
      · rw [(q3 j (by omega) (by omega)).1]
        by_cases e3 : i < a
        · rw [(q1 i b e3).1]
          exact h3 i (j - 1) b (by omega) (by omega)
        · by_cases e4 : i = a
          · rw [e4, q2.1]
            have g := h2 (j - 1) (by omega) (by omega)
            have l := l2 (j - 1) (by omega) (by omega)
            rw [g.2.2] at l
            unfold bfr
            exact decide_eq_true (by omega)
          · rw [(q3 i (by omega) (by omega)).1]
            exact h3 (i - 1) (j - 1) (by omega) (by omega) (by omega)
  · rw [cnt_succ hk, hn, Bool.true_and, h4 P]
    refine (cnt_ins (f := fun j => P (Q j)) (b := P k) ha (fun i b d => ?_) ?_ (fun i b d => ?_)).symm
    · show P (Q' i) = P (Q i)
      rw [(q1 i b d).1]
    · show P (Q' a) = P k
      rw [q2.1]
    · show P (Q' i) = P (Q (i - 1))
      rw [(q3 i b d).1]
/-- ranks along the queue don't fall -/
theorem QU.mono {F : List Clz} {R : Int → Int} {y k s i j : Int} {K Q : Int → Int} (h : QU F R y k s K Q) (hi : 0 ≤ i) (hij : i ≤ j) (hj : j < s) : K i ≤ K j := by
  by_cases e : i = j
  · rw [e]; omega
  · have h1 := (h.2.1 i hi (by omega)).2.2
    have h2 := (h.2.1 j (by omega) hj).2.2
    have h3 := of_decide_eq_true (h.2.2.1 i j hi (by omega) hj)
    omega
theorem il_iff {F : List Clz} {R : Int → Int} {y q : Int} : il F R y q = true ↔ (R (348 + 4 * q + 1) ≤ y ∧ y < R (348 + 4 * q + 2)) ∧ brq F R q y = false := by
  unfold il
  rw [Bool.and_eq_true, decide_eq_true_iff]
  cases brq F R q y <;> simp
theorem c_standInLine {T : List Shp} {c : Cm} {R : Int → Int} {F : List Clz} {y : Int} (h : CWd T c R F) (hy : 0 ≤ y ∧ y ≤ 200) : QV T (fun c' => QU F R y (R 6) (c' 55 5) (c' 56) (c' 58) ∧ Off [14, 15, 16, 17, 55, 56, 58] [] c c') (ccal 16 [vR 56, vI y] (SH T, c)) := by
  have hR := h.2.1
  have h1 := hR.1
  refine W_X2_standInLine (Q := QV T _) ?_
  refine lpI (E := fun k (s : Cm) => cev 16 5 7 [vR 56, vI y, vI k, vU, vU] [] (SH T, s)) (fun k s => (0 ≤ k ∧ k ≤ R 6) ∧ QU F R y k (s 55 5) (s 56) (s 58) ∧ Off [14, 15, 16, 17, 55, 56, 58] [] c s) (R 6) ?_ ?_ 0 (up c 55 5 0) ⟨by omega, ?_, Off.rfl.wr rfl⟩
  · intro k s hk hI ih
    have hs := h.off hI.2.2 rfl
    have e13 := hs.1.1.2.2.2.2.2.2.1
    have g1 := hs.1.2.2.2.2.2.2 (k * 4 + 1) (by omega) (by omega)
    have g2 := hs.1.2.2.2.2.2.2 (k * 4 + 2) (by omega) (by omega)
    rw [show 348 + (k * 4 + 1) = 348 + 4 * k + 1 from by omega] at g1
    rw [show 348 + (k * 4 + 2) = 348 + 4 * k + 2 from by omega] at g2
    refine W_X2_standInLine_7 ?_
    rw [e13, g1, g2]
    refine ⟨fun _ => ⟨by omega, fun h2 => ?_, fun h2 => ⟨by omega, ih s ⟨by omega, hI.2.1.keep (by omega) ?_, hI.2.2⟩⟩⟩, fun h => absurd hk h⟩
    · refine (c_barsClaimant hs.1 hR hs.2.2 (q := k) (y := y) (by omega) hy).mono fun r1 c2 h3 => ?_
      have o2 : Off [14, 15, 16, 17, 55, 56, 58] [] c c2 := hI.2.2.trans (h3.2.mono rfl rfl)
      have hs2 := h.off o2 rfl
      rw [h3.1]
      refine ⟨fun h4 => ?_, fun h4 => ⟨by omega, ih c2 ⟨by omega, ?_, o2⟩⟩⟩
      · refine (c_ranksOf hs2.1 hR hs2.2.2 (q := k) (y := y) (by omega) hy).mono fun r3 c4 h5 => ?_
        have o4 : Off [14, 15, 16, 17, 55, 56, 58] [] c c4 := o2.trans (h5.2.mono rfl rfl)
        have e55 : c4 55 = s 55 := (h5.2.cell rfl).trans (h3.2.cell rfl)
        have e56 : c4 56 = s 56 := (h5.2.cell rfl).trans (h3.2.cell rfl)
        have e58 : c4 58 = s 58 := (h5.2.cell rfl).trans (h3.2.cell rfl)
        have q4 : QU F R y k (c4 55 5) (c4 56) (c4 58) := by rw [e55, e56, e58]; exact hI.2.1
        have hil : il F R y k = true := il_iff.mpr ⟨h2, b01_e0 h4⟩
        rw [h5.1]
        have hs4 := q4.1
        have fin : ∀ (a : Int) (u : Cm), 0 ≤ a ∧ a ≤ c4 55 5 → (∀ i, 0 ≤ i → i < a → c4 56 i ≤ rnk F R k y) → (∀ i, a ≤ i → i < c4 55 5 → rnk F R k y < c4 56 i) → Off [14, 15, 16, 17, 55, 56, 58] [] c u → u 55 = c4 55 → (∀ i, i ≤ a → u 56 i = c4 56 i ∧ u 58 i = c4 58 i) → (∀ i, a < i → i ≤ c4 55 5 → u 56 i = c4 56 (i - 1) ∧ u 58 i = c4 58 (i - 1)) → QV T (fun c' => QU F R y (R 6) (c' 55 5) (c' 56) (c' 58) ∧ Off [14, 15, 16, 17, 55, 56, 58] [] c c') (cev 16 5 114 [vR 56, vI y, vI k, vI (rnk F R k y), vI a] [] (SH T, u)) := by
          intro a u ha l1 l2 ou u55 m1 m2
          refine W_X2_standInLine_114 ?_
          rw [u55]
          refine ⟨by omega, ih _ ⟨by omega, ?_, ((ou.wr rfl).wr rfl).wr rfl⟩⟩
          rw [up_same]
          refine q4.ins (by omega) hil ha l1 l2 (fun i b d => ⟨?_, ?_⟩) ⟨?_, ?_⟩ (fun i b d => ⟨?_, ?_⟩)
          · rw [up_cell (show 58 ≠ 55 by decide), up_ne (by omega), up_cell (show 58 ≠ 56 by decide)]; exact (m1 i (by omega)).2
          · rw [up_cell (show 56 ≠ 55 by decide), up_cell (show 56 ≠ 58 by decide), up_ne (by omega)]; exact (m1 i (by omega)).1
          · rw [up_cell (show 58 ≠ 55 by decide), up_same]
          · rw [up_cell (show 56 ≠ 55 by decide), up_cell (show 56 ≠ 58 by decide), up_same]
          · rw [up_cell (show 58 ≠ 55 by decide), up_ne (by omega), up_cell (show 58 ≠ 56 by decide)]; exact (m2 i b d).2
          · rw [up_cell (show 56 ≠ 55 by decide), up_cell (show 56 ≠ 58 by decide), up_ne (by omega)]; exact (m2 i b d).1
        refine lpD (E := fun a (u : Cm) => cev 16 5 58 [vR 56, vI y, vI k, vI (rnk F R k y), vI a] [] (SH T, u)) (fun a u => (0 ≤ a ∧ a ≤ c4 55 5) ∧ (∀ i, a ≤ i → i < c4 55 5 → rnk F R k y < c4 56 i) ∧ Off [14, 15, 16, 17, 55, 56, 58] [] c u ∧ u 55 = c4 55 ∧ (∀ i, i ≤ a → u 56 i = c4 56 i ∧ u 58 i = c4 58 i) ∧ (∀ i, a < i → i ≤ c4 55 5 → u 56 i = c4 56 (i - 1) ∧ u 58 i = c4 58 (i - 1))) 1 ?_ ?_ (c4 55 5) c4 ⟨by omega, fun i a b => by omega, o4, rfl, fun i _ => ⟨rfl, rfl⟩, fun i a b => by omega⟩
        · intro a u ha hU iha
          obtain ⟨u0, u1, u2, u3, u4, u5⟩ := hU
          refine W_X2_standInLine_58 ⟨fun _ => ⟨by omega, fun h6 => ⟨by omega, ?_⟩, fun h6 => ?_⟩, fun h => absurd h (by omega)⟩
          · refine iha _ ⟨by omega, fun i b d => ?_, (u2.wr rfl).wr rfl, ?_, fun i b => ?_, fun i b d => ?_⟩
            · by_cases e : i = a - 1
              · rw [e, ← (u4 (a - 1) (by omega)).1]; exact h6
              · exact u1 i (by omega) d
            · rw [up_cell (by decide), up_cell (by decide)]; exact u3
            · rw [up_cell (show 56 ≠ 58 by decide), up_ne (by omega), up_ne (by omega), up_cell (show 58 ≠ 56 by decide)]; exact u4 i (by omega)
            · rw [up_cell (show 56 ≠ 58 by decide), up_at, up_at, up_cell (show 58 ≠ 56 by decide)]
              by_cases e : i = a
              · rw [if_pos e, if_pos e, e]
                exact u4 (a - 1) (by omega)
              · rw [if_neg e, if_neg e]
                exact u5 i (by omega) d
          · refine fin a u u0 (fun i b d => ?_) u1 u2 u3 u4 u5
            have m := q4.mono b (show i ≤ a - 1 by omega) (by omega)
            rw [(u4 (a - 1) (by omega)).1] at h6
            omega
        · intro a u ha hU
          obtain ⟨u0, u1, u2, u3, u4, u5⟩ := hU
          refine W_X2_standInLine_58 ⟨fun h => absurd h (by omega), fun _ => fin a u u0 (fun i b d => by omega) u1 u2 u3 u4 u5⟩
      · rw [h3.2.cell (q := 55) rfl, h3.2.cell (q := 56) rfl, h3.2.cell (q := 58) rfl]
        refine hI.2.1.keep (by omega) ?_
        cases e : il F R y k with
        | false => rfl
        | true =>
          have := (il_iff.mp e).2
          rw [b01_ne h4] at this
          exact absurd this (by decide)
    · cases e : il F R y k with
      | false => rfl
      | true => exact absurd (il_iff.mp e).1 h2
  · intro k s hk hI
    have hs := h.off hI.2.2 rfl
    have e13 := hs.1.1.2.2.2.2.2.2.1
    have : k = R 6 := by omega
    subst this
    refine W_X2_standInLine_7 ?_
    rw [e13]
    refine ⟨fun h => absurd h (by omega), fun _ => QV.ret ⟨hI.2.1, hI.2.2⟩⟩
  · rw [up_same]
    exact ⟨by omega, fun i a b => by omega, fun i j a b d => by omega, fun P => rfl⟩
theorem cnt_below {p : Int → Bool} {s i : Int} (hi : 0 ≤ i ∧ i ≤ s) (h1 : ∀ j, 0 ≤ j → j < i → p j = true) (h2 : ∀ j, i ≤ j → j < s → p j = false) : cnt p s = i := by
  have e1 : cnt p i = i := by
    refine foldI_ind (fun a n => n = a) rfl ?_ hi.1
    intro a n b d e
    rw [if_pos (h1 a b d), e]
  have := cnt_skip (p := p) (a := i) (s - i).toNat hi.1 (fun j a b => h2 j a (by omega))
  rw [show i + ((s - i).toNat : Int) = s from by omega] at this
  rw [this, e1]
theorem bfr_irr {F : List Clz} {R : Int → Int} {y q : Int} : bfr F R y q q = false := decide_eq_false (by omega)
theorem bfr_asym {F : List Clz} {R : Int → Int} {y o q : Int} (h : bfr F R y o q = true) : bfr F R y q o = false := by
  have := of_decide_eq_true h
  exact decide_eq_false (by omega)
/-- whoever stands at place i has i ahead of him -/
theorem QU.ahead {F : List Clz} {R : Int → Int} {y k s i : Int} {K Q : Int → Int} (h : QU F R y k s K Q) (hi : 0 ≤ i ∧ i < s) : cnt (fun o => il F R y o && bfr F R y o (Q i)) k = i := by
  rw [h.2.2.2 (fun o => bfr F R y o (Q i))]
  refine cnt_below (by omega) (fun j a b => h.2.2.1 j i a b hi.2) fun j a b => ?_
  by_cases e : j = i
  · rw [e]; exact bfr_irr
  · exact bfr_asym (h.2.2.1 i j hi.1 (by omega) b)
theorem QU.num {F : List Clz} {R : Int → Int} {y k s : Int} {K Q : Int → Int} (h : QU F R y k s K Q) : cnt (il F R y) k = s := by
  have := h.2.2.2 (fun _ => true)
  rw [cnt_congr (q := il F R y) (fun i _ _ => Bool.and_true _)] at this
  rw [this]
  exact cnt_below (i := s) (by have := h.1; omega) (fun _ _ _ => rfl) (fun j a b => by omega)
theorem bfr_tot {F : List Clz} {R : Int → Int} {y o q : Int} (h : o ≠ q) : bfr F R y o q = true ∨ bfr F R y q o = true := by
  unfold bfr
  by_cases e : rnk F R o y < rnk F R q y ∨ (rnk F R o y = rnk F R q y ∧ o < q)
  · exact .inl (decide_eq_true e)
  · exact .inr (decide_eq_true (by omega))
theorem bfr_trans {F : List Clz} {R : Int → Int} {y o q r : Int} (h1 : bfr F R y o q = true) (h2 : bfr F R y q r = true) : bfr F R y o r = true := by
  have a := of_decide_eq_true h1
  have b := of_decide_eq_true h2
  exact decide_eq_true (by omega)
theorem cnt_mono {p q : Int → Bool} {n : Int} (hn : 0 ≤ n) (h : ∀ i, 0 ≤ i → i < n → p i = true → q i = true) : cnt p n ≤ cnt q n := by
  have key : ∀ m : Nat, (m : Int) ≤ n → cnt p m ≤ cnt q m := by
    intro m
    induction m with
    | zero => intro _; exact Int.le_refl _
    | succ m ih =>
      intro hm
      rw [show ((m + 1 : Nat) : Int) = (m : Int) + 1 from by omega, cnt_succ (by omega), cnt_succ (by omega)]
      have := ih (by omega)
      by_cases e : p m = true
      · rw [if_pos e, if_pos (h m (by omega) (by omega) e)]; omega
      · rw [if_neg e]
        split <;> omega
  have := key n.toNat (by omega)
  rwa [Int.toNat_of_nonneg hn] at this
theorem cnt_lt {p q : Int → Bool} {n k : Int} (hk : 0 ≤ k ∧ k < n) (h : ∀ i, 0 ≤ i → i < n → p i = true → q i = true) (h1 : p k = false) (h2 : q k = true) : cnt p n < cnt q n := by
  have key : ∀ m : Nat, k + 1 + (m : Int) ≤ n → cnt p (k + 1 + m) < cnt q (k + 1 + m) := by
    intro m
    induction m with
    | zero =>
      intro _
      rw [show k + 1 + ((0 : Nat) : Int) = k + 1 from by omega, cnt_succ hk.1, cnt_succ hk.1, h1, h2, if_neg (by decide), if_pos rfl]
      have := cnt_mono (p := p) (q := q) (n := k) hk.1 (fun i a b => h i a (by omega))
      omega
    | succ m ih =>
      intro hm
      rw [show k + 1 + ((m + 1 : Nat) : Int) = k + 1 + m + 1 from by omega, cnt_succ (by omega), cnt_succ (by omega)]
      have := ih (by omega)
      by_cases e : p (k + 1 + m) = true
      · rw [if_pos e, if_pos (h _ (by omega) (by omega) e)]; omega
      · rw [if_neg e]
        split <;> omega
  have := key (n - (k + 1)).toNat (by omega)
  rwa [show k + 1 + ((n - (k + 1)).toNat : Int) = n from by omega] at this
/-- two in line who have as many ahead are one -/
theorem ahead_inj {F : List Clz} {R : Int → Int} {y n o q : Int} (ho : 0 ≤ o ∧ o < n) (hq : 0 ≤ q ∧ q < n) (io : il F R y o = true) (iq : il F R y q = true) (h : cnt (fun r => il F R y r && bfr F R y r o) n = cnt (fun r => il F R y r && bfr F R y r q) n) : o = q := by
  by_cases e : o = q
  · exact e
  · exfalso
    have key : ∀ a b, 0 ≤ a → a < n → il F R y a = true → bfr F R y a b = true → cnt (fun r => il F R y r && bfr F R y r a) n < cnt (fun r => il F R y r && bfr F R y r b) n := by
      intro a b a1 a2 ia hab
      refine cnt_lt (k := a) ⟨a1, a2⟩ (fun i _ _ hi => ?_) ?_ ?_
      · have := (Bool.and_eq_true _ _).mp hi
        exact (Bool.and_eq_true _ _).mpr ⟨this.1, bfr_trans this.2 hab⟩
      · show (il F R y a && bfr F R y a a) = false
        rw [bfr_irr, Bool.and_false]
      · show (il F R y a && bfr F R y a b) = true
        rw [ia, hab]; rfl
    rcases bfr_tot (F := F) (R := R) (y := y) e with g | g
    · have := key o q ho.1 ho.2 io g; omega
    · have := key q o hq.1 hq.2 iq g; omega
theorem QU.place {F : List Clz} {R : Int → Int} {y s i : Int} {K Q : Int → Int} (h : QU F R y (R 6) s K Q) (hi : 0 ≤ i ∧ i < s) : lin F R y i = Q i := by
  unfold lin
  rw [if_neg (by omega)]
  have g := h.2.1 i hi.1 hi.2
  have ha := h.ahead hi
  refine frst_at (fun k a b => ?_) g.1.1 g.1.2 ?_
  · show (il F R y k && decide (cnt (fun o => il F R y o && bfr F R y o k) (R 6) = i)) = false
    cases e : il F R y k with
    | false => rfl
    | true =>
      rw [Bool.true_and]
      refine decide_eq_false fun e2 => ?_
      have := ahead_inj ⟨a, by omega⟩ g.1 e g.2.1 (e2.trans ha.symm)
      omega
  · show (il F R y (Q i) && decide (cnt (fun o => il F R y o && bfr F R y o (Q i)) (R 6) = i)) = true
    rw [g.2.1, ha, decide_eq_true rfl]
    rfl
theorem QU.behind {F : List Clz} {R : Int → Int} {y s i : Int} {K Q : Int → Int} (h : QU F R y (R 6) s K Q) (h6 : 0 ≤ R 6) (hi : s ≤ i) : lin F R y i = -1 := by
  unfold lin
  rw [if_neg (by have := h.1; omega)]
  refine frst_none (fun k a b => ?_) h6
  show (il F R y k && decide (cnt (fun o => il F R y o && bfr F R y o k) (R 6) = i)) = false
  cases e : il F R y k with
  | false => rfl
  | true =>
    rw [Bool.true_and]
    refine decide_eq_false fun e2 => ?_
    have n := h.num
    have := cnt_lt (p := fun o => il F R y o && bfr F R y o k) (q := il F R y) (n := R 6) (k := k) ⟨a, b⟩ (fun i _ _ hi => ((Bool.and_eq_true _ _).mp hi).1) (by show (il F R y k && bfr F R y k k) = false; rw [bfr_irr, Bool.and_false]) e
    omega
/-- who is chosen: the first of the line -/
theorem chs_spec {F : List Clz} {R : Int → Int} {y n : Int} (hn : 0 ≤ n) : ((foldI (fun q (s : Int × Int) => if il F R y q = true ∧ rnk F R q y < s.2 then (q, rnk F R q y) else s) (-1, 100000000) n = (-1, 100000000) ∧ ∀ o, 0 ≤ o → o < n → il F R y o = false) ∨ ∃ q, (0 ≤ q ∧ q < n) ∧ il F R y q = true ∧ foldI (fun q (s : Int × Int) => if il F R y q = true ∧ rnk F R q y < s.2 then (q, rnk F R q y) else s) (-1, 100000000) n = (q, rnk F R q y) ∧ ∀ o, 0 ≤ o → o < n → il F R y o = true → bfr F R y o q = false) := by
  refine foldI_ind (fun n (s : Int × Int) => (s = (-1, 100000000) ∧ ∀ o, 0 ≤ o → o < n → il F R y o = false) ∨ ∃ q, (0 ≤ q ∧ q < n) ∧ il F R y q = true ∧ s = (q, rnk F R q y) ∧ ∀ o, 0 ≤ o → o < n → il F R y o = true → bfr F R y o q = false) (.inl ⟨rfl, fun o a b => by omega⟩) ?_ hn
  intro i s h1 h2 h3
  have rb := rnk_bd (F := F) (R := R) (x := i) (y := y)
  rcases h3 with ⟨rfl, h3⟩ | ⟨q, hq, iq, rfl, h3⟩
  · by_cases e : il F R y i = true
    · refine .inr ⟨i, by omega, e, if_pos ⟨e, by show rnk F R i y < 100000000; omega⟩, fun o a b io => ?_⟩
      by_cases e2 : o = i
      · rw [e2]; exact bfr_irr
      · rw [h3 o a (by omega)] at io
        exact absurd io (by decide)
    · refine .inl ⟨if_neg (fun q => e q.1), fun o a b => ?_⟩
      by_cases e2 : o = i
      · rw [e2]; exact Bool.eq_false_iff.mpr e
      · exact h3 o a (by omega)
  · by_cases e : il F R y i = true ∧ rnk F R i y < rnk F R q y
    · refine .inr ⟨i, by omega, e.1, if_pos e, fun o a b io => ?_⟩
      by_cases e2 : o = i
      · rw [e2]; exact bfr_irr
      · have := of_decide_eq_false (h3 o a (by omega) io)
        exact decide_eq_false (by omega)
    · refine .inr ⟨q, by omega, iq, if_neg e, fun o a b io => ?_⟩
      by_cases e2 : o = i
      · rw [e2] at io ⊢
        have : ¬ rnk F R i y < rnk F R q y := fun g => e ⟨io, g⟩
        exact decide_eq_false (by omega)
      · exact h3 o a (by omega) io
theorem QU.first {F : List Clz} {R : Int → Int} {y s : Int} {K Q : Int → Int} (h : QU F R y (R 6) s K Q) (h6 : 0 ≤ R 6) : chs F R y = if 0 < s then Q 0 else -1 := by
  have n := h.num
  show (foldI (fun q (s : Int × Int) => if il F R y q = true ∧ rnk F R q y < s.2 then (q, rnk F R q y) else s) (-1, 100000000) (R 6)).1 = _
  rcases chs_spec (F := F) (R := R) (y := y) h6 with ⟨e, h3⟩ | ⟨q, hq, iq, e, h3⟩
  · rw [e, if_neg]
    have : cnt (il F R y) (R 6) = 0 := by
      have := cnt_skip (p := il F R y) (a := 0) (R 6).toNat (by omega) (fun j a b => h3 j a (by omega))
      rw [show (0 : Int) + ((R 6).toNat : Int) = R 6 from by omega] at this
      exact this
    omega
  · have s0 : 0 < s := by
      rw [← n]
      have := cnt_lt (p := fun _ => false) (q := il F R y) (n := R 6) (k := q) hq (fun _ _ _ h => absurd h (by decide)) rfl iq
      have := (cnt_bd (p := fun _ => false) (n := R 6) h6).1
      omega
    rw [e, if_pos s0]
    have g := h.2.1 0 (by omega) s0
    have a0 := h.ahead (i := 0) ⟨by omega, s0⟩
    have b0 := h3 (Q 0) g.1.1 g.1.2 g.2.1
    show q = Q 0
    by_cases e3 : q = Q 0
    · exact e3
    · exfalso
      rcases bfr_tot (F := F) (R := R) (y := y) e3 with t | t
      · have := cnt_lt (p := fun _ => false) (q := fun o => il F R y o && bfr F R y o (Q 0)) (n := R 6) (k := q) hq (fun _ _ _ h => absurd h (by decide)) rfl (by show (il F R y q && bfr F R y q (Q 0)) = true; rw [iq, t]; rfl)
        have := (cnt_bd (p := fun _ => false) (n := R 6) h6).1
        omega
      · rw [t] at b0
        exact absurd b0 (by decide)

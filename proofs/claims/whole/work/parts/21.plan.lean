/-! ROWS OF PAINTERS -/
/-- how many are as good as the best, its unlike, what it asks, its row -/
abbrev Bst : Type := Int × Int × Int × (Int → Int)
/-- does he rest, by the years painted and the row so far -/
def rrw (R : Int → Int) (row : Int → Int) (p k : Int) : Bool := anyI (fun i => if 0 ≤ k - (i + 1) then decide (row (k - (i + 1)) = p) else decide (1 ≤ R 4 + 1 + k - (i + 1) ∧ R 4 + 1 + k - (i + 1) ≤ R 4 ∧ R (216 + (R 4 + 1 + k - (i + 1))) = p)) (R 11)
def may (F : List Clz) (R : Int → Int) (row : Int → Int) (p k : Int) : Bool := !brp F R p (R 4 + (k + 1)) && !rrw R row p k
def good (F : List Clz) (R : Int → Int) (by' : Int) (k : Int) (P : Int → Int) (a : Int) : Bool := if by' = 2 then decide (0 ≤ mny F R (R 4) + R 10 * k - a) else if by' = 1 then decide (frc P (fun x => lk F R x (R 4 + k)) (fun x => lt F R x (R 4 + k)) = -1) else true
def btr (by' U A : Int) (B : Bst) : Bool := if by' = 1 then decide (A < B.2.2.1 ∨ (A = B.2.2.1 ∧ U < B.2.1)) else decide (U < B.2.1 ∨ (U = B.2.1 ∧ A < B.2.2.1))
def wgh (by' U A : Int) (row : Int → Int) (B : Bst) : Bst := if 0 < B.1 ∧ U = B.2.1 ∧ A = B.2.2.1 then (B.1 + 1, B.2) else if B.1 = 0 ∨ btr by' U A B = true then (1, U, A, row) else B
def dfs (F : List Clz) (R : Int → Int) (by' n : Int) : Nat → Int → (Int → Int) → (Int → Int) → Int → Bst → Bst
  | 0, _, row, P, a, B => wgh by' (ulk P (fun x => lk F R x (R 4 + n))) a row B
  | m + 1, k, row, P, a, B => foldI (fun p B => if may F R row p k = true then (if good F R by' (k + 1) (pnt R p (fun x => lk F R x (R 4 + (k + 1))) P) (a + ask F R p (R 4 + (k + 1))) = true then dfs F R by' n m (k + 1) (udD row k p) (pnt R p (fun x => lk F R x (R 4 + (k + 1))) P) (a + ask F R p (R 4 + (k + 1))) B else B) else B) B (R 0)
def pln (F : List Clz) (R : Int → Int) (by' n : Int) : Bst := dfs F R by' n n.toNat 0 (fun _ => 0) (fun x => R (12 + 12 * R 4 + x)) 0 (0, 0, 0, fun _ => 0)
theorem wgh_bd {by' U A : Int} {row : Int → Int} {B : Bst} (h : 0 ≤ B.1) : 0 ≤ (wgh by' U A row B).1 ∧ (wgh by' U A row B).1 ≤ B.1 + 1 := by
  unfold wgh
  split
  · show 0 ≤ B.1 + 1 ∧ B.1 + 1 ≤ B.1 + 1; omega
  · split
    · show (0 : Int) ≤ 1 ∧ 1 ≤ B.1 + 1; omega
    · omega
theorem dfs_bd {F : List Clz} {R : Int → Int} {by' n : Int} (h0 : 0 ≤ R 0 ∧ R 0 ≤ 5) : ∀ (m : Nat) (k : Int) (row P : Int → Int) (a : Int) (B : Bst), 0 ≤ B.1 → 0 ≤ (dfs F R by' n m k row P a B).1 ∧ (dfs F R by' n m k row P a B).1 ≤ B.1 + pw 5 m := by
  intro m
  induction m with
  | zero =>
    intro k row P a B hB
    exact wgh_bd hB
  | succ m ih =>
    intro k row P a B hB
    have pm : 0 ≤ pw 5 m := by
      clear ih
      induction m with
      | zero => decide
      | succ m im => show 0 ≤ pw 5 m * 5; omega
    have key : 0 ≤ (dfs F R by' n (m + 1) k row P a B).1 ∧ (dfs F R by' n (m + 1) k row P a B).1 ≤ B.1 + pw 5 m * R 0 := by
      show 0 ≤ (foldI _ B (R 0)).1 ∧ (foldI _ B (R 0)).1 ≤ B.1 + pw 5 m * R 0
      refine foldI_ind (fun i (C : Bst) => 0 ≤ C.1 ∧ C.1 ≤ B.1 + pw 5 m * i) ⟨hB, by omega⟩ ?_ h0.1
      intro i C _ _ hC
      rw [Int.mul_add, Int.mul_one]
      try dsimp only
      split
      · split
        · have := ih (k + 1) (udD row k i) (pnt R i (fun x => lk F R x (R 4 + (k + 1))) P) (a + ask F R i (R 4 + (k + 1))) C hC.1
          omega
        · omega
      · omega
    have : pw 5 m * R 0 ≤ pw 5 m * 5 := Int.mul_le_mul_of_nonneg_left h0.2 pm
    have e : pw 5 (m + 1) = pw 5 m * 5 := rfl
    omega
theorem pw5 {m : Nat} (hm : m ≤ 5) : 0 ≤ pw 5 m ∧ pw 5 m ≤ 3125 := by
  have : m = 0 ∨ m = 1 ∨ m = 2 ∨ m = 3 ∨ m = 4 ∨ m = 5 := by omega
  rcases this with h | h | h | h | h | h <;> subst h <;> decide
/-- what the class's planner has laid out -/
def PL (c : Cm) (F : List Clz) (R : Int → Int) (by' n : Int) : Prop := (c 21 8 = by' ∧ c 21 9 = n ∧ c 21 10 = mny F R (R 4)) ∧ (∀ k x, 0 ≤ k → k ≤ n → 0 ≤ x → x < 12 → c 22 (k * 12 + x) = lk F R x (R 4 + k) ∧ c 23 (k * 12 + x) = lt F R x (R 4 + k)) ∧ ∀ k p, 0 ≤ k → k ≤ n → 0 ≤ p → p < R 0 → c 24 (k * 5 + p) = ask F R p (R 4 + k) ∧ c 25 (k * 5 + p) = b01 (brp F R p (R 4 + k) = true)
def PB (c : Cm) (n : Int) (B : Bst) : Prop := c 21 14 = B.1 ∧ (B.1 ≠ 0 → c 21 12 = B.2.1 ∧ c 21 13 = B.2.2.1 ∧ ∀ i, 0 ≤ i → i < n → c 28 i = B.2.2.2 i)
theorem PL.keep {c c' : Cm} {F : List Clz} {R : Int → Int} {by' n : Int} (h : PL c F R by' n) (e : ∀ j, j ≠ 12 → j ≠ 13 → j ≠ 14 → c' 21 j = c 21 j) (o : Off [21, 26, 27, 28] [] c c') : PL c' F R by' n := by
  unfold PL
  rw [e 8 (by decide) (by decide) (by decide), e 9 (by decide) (by decide) (by decide), e 10 (by decide) (by decide) (by decide), o.cell (q := 22) rfl, o.cell (q := 23) rfl, o.cell (q := 24) rfl, o.cell (q := 25) rfl]
  exact h
theorem c_isBetter {T : List Shp} {c : Cm} {by' U A : Int} {B : Bst} (h8 : c 21 8 = by') (h12 : c 21 12 = B.2.1) (h13 : c 21 13 = B.2.2.1) : ccal 41 [vR 22, vI U, vI A] (SH T, c) = some (some (vI (b01 (btr by' U A B = true))), (SH T, c)) := by
  generalize hZ : (some (some (vI (b01 (btr by' U A B = true))), (SH T, c)) : Res) = Z
  have t : btr by' U A B = true → some (some (vI 1), (SH T, c)) = Z := fun q => by rw [← hZ, b01_t q]
  have f : btr by' U A B = false → some (some (vI 0), (SH T, c)) = Z := fun q => by rw [← hZ, b01_f (by rw [q]; decide)]
  refine W_X5_isBetter (Q := fun Y => Y = Z) ?_
  rw [h8, h12, h13]
  refine ⟨fun h1 => ⟨fun h2 => t ?_, fun h2 => ⟨fun h3 => ⟨fun h4 => t ?_, fun h4 => f ?_⟩, fun h3 => f ?_⟩⟩, fun h1 => ⟨fun h2 => t ?_, fun h2 => ⟨fun h3 => ⟨fun h4 => t ?_, fun h4 => f ?_⟩, fun h3 => f ?_⟩⟩⟩
  · unfold btr; rw [if_pos h1]; exact decide_eq_true (.inl h2)
  · unfold btr; rw [if_pos h1]; exact decide_eq_true (.inr ⟨h3, h4⟩)
  · unfold btr; rw [if_pos h1]; exact decide_eq_false (by omega)
  · unfold btr; rw [if_pos h1]; exact decide_eq_false (by omega)
  · unfold btr; rw [if_neg h1]; exact decide_eq_true (.inl h2)
  · unfold btr; rw [if_neg h1]; exact decide_eq_true (.inr ⟨h3, h4⟩)
  · unfold btr; rw [if_neg h1]; exact decide_eq_false (by omega)
  · unfold btr; rw [if_neg h1]; exact decide_eq_false (by omega)
theorem c_pweigh {T : List Shp} {c : Cm} {F : List Clz} {R : Int → Int} {by' n a : Int} {row P : Int → Int} {B : Bst} (hR : RNG R) (hL : PL c F R by' n) (hn : 0 ≤ n ∧ n ≤ 5) (hP : ∀ x, 0 ≤ x → x < 12 → c 26 (n * 12 + x) = P x ∧ 0 ≤ P x ∧ P x ≤ 9) (hr : ∀ i, 0 ≤ i → i < n → c 27 i = row i) (hB : PB c n B) (hb : 0 ≤ B.1 ∧ B.1 ≤ 100000) : QV T (fun c' => PB c' n (wgh by' (ulk P (fun x => lk F R x (R 4 + n))) a row B) ∧ (∀ j, j ≠ 12 → j ≠ 13 → j ≠ 14 → c' 21 j = c 21 j) ∧ Off [21, 28] [] c c') (ccal 40 [vR 22, vI a] (SH T, c)) := by
  obtain ⟨⟨l8, l9, l10⟩, l2, l3⟩ := hL
  refine W_X5_weigh (Q := QV T _) ?_
  rw [l9]
  refine ⟨by omega, ?_⟩
  refine lpI (E := fun x (u : Int) => cev 40 2 13 [vR 22, vI a, vI (n * 12), vI u, vI x] [] (SH T, c)) (fun x u => (0 ≤ x ∧ x ≤ 12) ∧ u = foldI (fun x n' => n' + abz (P x - lk F R x (R 4 + n))) 0 x) 12 ?_ ?_ 0 0 ⟨by omega, rfl⟩
  · intro x u hx hI ih
    have b := ulk_bd (P := P) (L := fun x => lk F R x (R 4 + n)) (b := x) hI.1.1 (fun z q1 q2 => (hP z q1 (by omega)).2) (fun z _ _ => lk_bd hR)
    rw [← hI.2] at b
    have b1 := hP x hI.1.1 hx
    have b2 := lk_bd (F := F) (x := x) (y := R 4 + n) hR
    have b3 := abz_bd (v := P x - lk F R x (R 4 + n))
    have b4 := b3.2 (by omega) (by omega)
    refine W_X5_weigh_13 ⟨fun _ => ?_, fun h => absurd hx h⟩
    rw [b1.1, (l2 n x hn.1 (Int.le_refl _) hI.1.1 hx).1]
    refine ⟨by omega, ih _ ⟨by omega, ?_⟩⟩
    rw [foldI_succ hI.1.1, ← hI.2]
  · intro x u hx hI
    have : x = 12 := by omega
    subst this
    have eu : u = ulk P (fun x => lk F R x (R 4 + n)) := hI.2
    rw [← eu]
    have new : (B.1 = 0 ∨ btr by' u a B = true) → ¬ (0 < B.1 ∧ u = B.2.1 ∧ a = B.2.2.1) → QV T (fun c' => PB c' n (wgh by' u a row B) ∧ (∀ j, j ≠ 12 → j ≠ 13 → j ≠ 14 → c' 21 j = c 21 j) ∧ Off [21, 28] [] c c') (cev 40 2 103 [vR 22, vI a, vU, vI u, vU] [] (SH T, c)) := by
      intro h1 h2
      refine W_X5_weigh_103 ?_
      rw [l9]
      have ew : wgh by' u a row B = (1, u, a, row) := by unfold wgh; rw [if_neg h2, if_pos h1]
      refine ⟨by omega, QV.ret ⟨?_, fun j a1 a2 a3 => ?_, (((Off.rfl.wr rfl).wr rfl).wr rfl).cp rfl⟩⟩
      · rw [ew]
        refine ⟨?_, fun _ => ⟨?_, ?_, fun i a1 a2 => ?_⟩⟩
        · rw [cpy_cell (by decide), up_ne (by decide), up_ne (by decide), up_same]
        · rw [cpy_cell (by decide), up_ne (by decide), up_same]
        · rw [cpy_cell (by decide), up_same]
        · rw [cpy_at (by omega), up_cell (by decide), up_cell (by decide), up_cell (by decide), show 0 + (i - 0) = i from by omega]
          exact hr i a1 a2
      · rw [cpy_cell (by decide), up_ne a2, up_ne a1, up_ne a3]
    have mid : ¬ (0 < B.1 ∧ u = B.2.1 ∧ a = B.2.2.1) → QV T (fun c' => PB c' n (wgh by' u a row B) ∧ (∀ j, j ≠ 12 → j ≠ 13 → j ≠ 14 → c' 21 j = c 21 j) ∧ Off [21, 28] [] c c') (cev 40 2 87 [vR 22, vI a, vU, vI u, vU] [] (SH T, c)) := by
      intro h2
      refine W_X5_weigh_87 ?_
      rw [hB.1]
      refine ⟨fun h3 => new (.inl h3) h2, fun h3 => ?_⟩
      refine QI.of_eq (c_isBetter (B := B) l8 (hB.2 h3).1 (hB.2 h3).2.1) ⟨fun h4 => QV.ret ⟨?_, fun _ _ _ _ => rfl, Off.rfl⟩, fun h4 => new (.inr (b01_ne h4)) h2⟩
      have ew : wgh by' u a row B = B := by
        unfold wgh
        rw [if_neg h2, if_neg]
        rintro (q | q)
        · exact h3 q
        · rw [b01_e0 h4] at q; exact absurd q (by decide)
      rw [ew]
      exact hB
    refine W_X5_weigh_13 ⟨fun h => absurd h (by omega), fun _ => ?_⟩
    rw [hB.1]
    refine ⟨fun h1 => ?_, fun h1 => mid (fun q => h1 q.1)⟩
    have hb2 := hB.2 (by omega)
    rw [hb2.1, hb2.2.1]
    refine ⟨fun h2 => ⟨fun h3 => ⟨by omega, QV.ret ⟨?_, fun j a1 a2 a3 => up_ne a3, Off.rfl.wr rfl⟩⟩, fun h3 => mid (fun q => h3 q.2.2)⟩, fun h2 => mid (fun q => h2 q.2.1)⟩
    have ew : wgh by' u a row B = (B.1 + 1, B.2) := by unfold wgh; rw [if_pos ⟨h1, h2, h3⟩]
    rw [ew]
    refine ⟨up_same, fun _ => ⟨?_, ?_, fun i a1 a2 => ?_⟩⟩
    · rw [up_ne (by decide)]; exact hb2.1
    · rw [up_ne (by decide)]; exact hb2.2.1
    · rw [up_cell (by decide)]; exact hb2.2.2 i a1 a2
theorem c_paintOver {T : List Shp} {c : Cm} {R : Int → Int} {F : List Clz} {by' n p k : Int} {P : Int → Int} (h : CWd T c R F) (hL : PL c F R by' n) (hp : 0 ≤ p ∧ p < R 0) (hk : 0 ≤ k ∧ k < n) (hn : n ≤ 5) (hP : ∀ x, 0 ≤ x → x < 12 → c 26 (k * 12 + x) = P x ∧ 0 ≤ P x ∧ P x ≤ 9) : QV T (fun c' => (∀ x, 0 ≤ x → x < 12 → c' 26 ((k + 1) * 12 + x) = pnt R p (fun x => lk F R x (R 4 + (k + 1))) P x) ∧ (∀ j, j < (k + 1) * 12 → c' 26 j = c 26 j) ∧ Off [26] [] c c') (ccal 38 [vR 22, vI p, vI (k + 1)] (SH T, c)) := by
  have hR := h.2.1
  refine W_X5_paintOver (Q := QV T _) ⟨by omega, ?_⟩
  refine lpI (E := fun x (u : Cm) => cev 38 3 8 [vR 22, vI p, vU, vI ((k + 1) * 12), vI x] [] (SH T, u)) (fun x u => (0 ≤ x ∧ x ≤ 12) ∧ (∀ z, 0 ≤ z → z < x → u 26 ((k + 1) * 12 + z) = pnt R p (fun x => lk F R x (R 4 + (k + 1))) P z) ∧ (∀ j, j < (k + 1) * 12 → u 26 j = c 26 j) ∧ Off [26] [] c u) 12 ?_ ?_ 0 c ⟨by omega, fun z a b => by omega, fun _ _ => rfl, Off.rfl⟩
  · intro x u hx hI ih
    obtain ⟨i0, i1, i2, i3⟩ := hI
    have hu := h.off i3 rfl
    have e22 : u 22 = c 22 := i3.cell rfl
    have b1 := hP x i0.1 hx
    have lb := lk_bd (F := F) (x := x) (y := R 4 + (k + 1)) hR
    refine W_X5_paintOver_8 ⟨fun _ => ⟨by omega, ?_⟩, fun h => absurd hx h⟩
    rw [show (k + 1) * 12 - 12 + x = k * 12 + x from by omega, i2 _ (by omega), b1.1, e22, (hL.2.1 (k + 1) x (by omega) (by omega) i0.1 hx).1]
    refine QI.of_eq (c_brushed hu.1 hR hp ⟨i0.1, hx⟩ b1.2 lb) ⟨by omega, ih _ ⟨by omega, fun z a b => ?_, fun j hj => ?_, i3.wr rfl⟩⟩
    · rw [up_at]
      by_cases e : z = x
      · rw [if_pos (by omega), e]; rfl
      · rw [if_neg (by omega)]; exact i1 z a (by omega)
    · rw [up_at, if_neg (by omega)]; exact i2 j hj
  · intro x u hx hI
    refine W_X5_paintOver_8 ⟨fun h => absurd h (by omega), fun _ => QV.ret ⟨fun z a b => hI.2.1 z a (by omega), hI.2.2.1, hI.2.2.2⟩⟩
theorem c_mayPaint {T : List Shp} {c : Cm} {R : Int → Int} {F : List Clz} {by' n p k : Int} {row : Int → Int} (h : CWd T c R F) (hL : PL c F R by' n) (hp : 0 ≤ p ∧ p < R 0) (hk : 0 ≤ k ∧ k < n) (hn : n ≤ 5) (hr : ∀ i, 0 ≤ i → i < k → c 27 i = row i) : ccal 37 [vR 22, vI p, vI k] (SH T, c) = some (some (vI (b01 (may F R row p k = true))), (SH T, c)) := by
  have hR := h.2.1
  have h1 := hR.1
  have e8 := h.1.1.2.2.2.2.1
  have t4 := h.1.1.2.2.2.2.2.2.2.2.2.2.2
  generalize hZ : (some (some (vI (b01 (may F R row p k = true))), (SH T, c)) : Res) = Z
  have t : may F R row p k = true → some (some (vI 1), (SH T, c)) = Z := fun q => by rw [← hZ, b01_t q]
  have f : may F R row p k = false → some (some (vI 0), (SH T, c)) = Z := fun q => by rw [← hZ, b01_f (by rw [q]; decide)]
  refine W_X5_mayPaint (Q := fun Y => Y = Z) ⟨by omega, ?_⟩
  rw [(hL.2.2 (k + 1) p (by omega) (by omega) hp.1 hp.2).2, e8]
  refine ⟨fun h2 => ⟨by omega, QI.of_eq (c_rests h.1 hR (by omega)) ⟨fun h3 => ?_, fun h3 => f ?_⟩⟩, fun h2 => f ?_⟩
  · rw [t4]
    have hb := b01_e0 h2
    have hs := b01_e0 h3
    refine ⟨by omega, ?_⟩
    have z0 : 0 ≤ (if 0 < k - R 11 then k - R 11 else 0) ∧ k - R 11 ≤ (if 0 < k - R 11 then k - R 11 else 0) ∧ ((if 0 < k - R 11 then k - R 11 else 0) = 0 ∨ (if 0 < k - R 11 then k - R 11 else 0) = k - R 11) := by split <;> omega
    generalize (if 0 < k - R 11 then k - R 11 else 0) = z at z0 ⊢
    have my : may F R row p k = !rrw R row p k := by unfold may; rw [hb]; rfl
    refine lpI (Q := fun Y => Y = Z) (E := fun i (_ : Unit) => cev 37 2 56 [vR 22, vI p, vI k, vU, vI i] [] (SH T, c)) (fun i _ => (z ≤ i ∧ (i ≤ k ∨ i = z)) ∧ ∀ j, z ≤ j → j < i → row j ≠ p) k ?_ ?_ z () ⟨by omega, fun j a b => by omega⟩
    · intro i _ hi hI ih
      refine W_X5_mayPaint_56 (Q := fun Y => Y = Z) ⟨fun _ => ⟨by omega, ?_⟩, fun h => absurd hi h⟩
      rw [hr i (by omega) hi]
      refine ⟨fun h4 => f ?_, fun h4 => ⟨by omega, ih () ⟨by omega, fun j a b => ?_⟩⟩⟩
      · rw [my]
        have : rrw R row p k = true := by
          refine (anyI_iff (by omega)).mpr ⟨k - i - 1, by omega, by omega, ?_⟩
          show (if 0 ≤ k - (k - i - 1 + 1) then decide (row (k - (k - i - 1 + 1)) = p) else _) = true
          rw [if_pos (by omega), show k - (k - i - 1 + 1) = i from by omega]
          exact decide_eq_true h4
        rw [this]; rfl
      · by_cases e : j = i
        · rw [e]; exact h4
        · exact hI.2 j a (by omega)
    · intro i _ hi hI
      refine W_X5_mayPaint_56 (Q := fun Y => Y = Z) ⟨fun h => absurd h (by omega), fun _ => t ?_⟩
      rw [my]
      have : rrw R row p k = false := by
        refine Bool.eq_false_iff.mpr fun q => ?_
        obtain ⟨d, a, b, q⟩ := (anyI_iff (by omega)).mp q
        by_cases e : 0 ≤ k - (d + 1)
        · rw [if_pos e] at q
          exact hI.2 (k - (d + 1)) (by omega) (by omega) (of_decide_eq_true q)
        · rw [if_neg e] at q
          have q := of_decide_eq_true q
          have : rst R p (R 4 + (k + 1)) = true := by
            refine (rst_iff (by omega)).mpr ⟨d + 1, by omega, by omega, by omega, by omega, ?_⟩
            rw [show R 4 + (k + 1) - (d + 1) = R 4 + 1 + k - (d + 1) from by omega]
            exact q.2.2
          rw [hs] at this
          exact absurd this (by decide)
      rw [this]; rfl
  · have : rrw R row p k = true := by
      obtain ⟨d, a, b, q1, q2, q3⟩ := (rst_iff (by omega)).mp (b01_ne h3)
      refine (anyI_iff (by omega)).mpr ⟨d - 1, by omega, by omega, ?_⟩
      show (if 0 ≤ k - (d - 1 + 1) then _ else decide _) = true
      rw [if_neg (by omega)]
      refine decide_eq_true ⟨by omega, by omega, ?_⟩
      rw [show R 4 + 1 + k - (d - 1 + 1) = R 4 + (k + 1) - d from by omega]
      exact q3
    unfold may
    rw [this]
    simp
  · unfold may
    rw [b01_ne h2]
    rfl
theorem c_isGood {T : List Shp} {c : Cm} {R : Int → Int} {F : List Clz} {by' n k a : Int} {P : Int → Int} (h : CWd T c R F) (hL : PL c F R by' n) (hk : 0 ≤ k ∧ k ≤ n) (hn : n ≤ 5) (ha : 0 ≤ a ∧ a ≤ 5000) (hP : ∀ x, 0 ≤ x → x < 12 → c 26 (k * 12 + x) = P x ∧ 0 ≤ P x ∧ P x ≤ 9) : ccal 39 [vR 22, vI k, vI a] (SH T, c) = some (some (vI (b01 (good F R by' k P a = true))), (SH T, c)) := by
  have hR := h.2.1
  have h1 := hR.1
  have t3 := h.1.1.2.2.2.2.2.2.2.2.2.2.1
  generalize hZ : (some (some (vI (b01 (good F R by' k P a = true))), (SH T, c)) : Res) = Z
  have t : good F R by' k P a = true → some (some (vI 1), (SH T, c)) = Z := fun q => by rw [← hZ, b01_t q]
  have f : good F R by' k P a = false → some (some (vI 0), (SH T, c)) = Z := fun q => by rw [← hZ, b01_f (by rw [q]; decide)]
  have ib := inc_bd hR (l := k) (by omega)
  have ib4 := inc_bd hR (l := R 4) (by omega)
  have mb := mny_bd (F := F) (R := R) (v := R 10 * R 4) (b := R 4) (by omega)
  have me : mny F R (R 4) = foldI (fun i m => m - ask F R (R (216 + (i + 1))) (i + 1)) (R 10 * R 4) (R 4) := rfl
  refine W_X5_isGood (Q := fun Y => Y = Z) ?_
  rw [hL.1.1, hL.1.2.2, t3]
  refine ⟨fun h2 => ⟨by omega, fun h3 => f ?_, fun h3 => t ?_⟩, fun h2 => ⟨fun h3 => ⟨by omega, ?_⟩, fun h3 => t ?_⟩⟩
  · unfold good; rw [if_pos h2]; exact decide_eq_false (by omega)
  · unfold good; rw [if_pos h2]; exact decide_eq_true (by omega)
  · have gd : good F R by' k P a = decide (frc P (fun x => lk F R x (R 4 + k)) (fun x => lt F R x (R 4 + k)) = -1) := by unfold good; rw [if_neg h2, if_pos h3]
    refine lpI (Q := fun Y => Y = Z) (E := fun x (_ : Unit) => cev 39 1 51 [vR 22, vU, vU, vI (k * 12), vI x] [] (SH T, c)) (fun x _ => (0 ≤ x ∧ x ≤ 12) ∧ ∀ z, 0 ≤ z → z < x → decide (lt F R z (R 4 + k) < abz (P z - lk F R z (R 4 + k))) = false) 12 ?_ ?_ 0 () ⟨by omega, fun z a b => by omega⟩
    · intro x _ hx hI ih
      have b1 := hP x hI.1.1 hx
      have b2 := lk_bd (F := F) (x := x) (y := R 4 + k) hR
      have l2 := hL.2.1 k x hk.1 hk.2 hI.1.1 hx
      refine W_X5_isGood_51 (Q := fun Y => Y = Z) ⟨fun _ => ?_, fun h => absurd hx h⟩
      rw [b1.1, l2.1, l2.2]
      refine ⟨by omega, fun h4 => f ?_, fun h4 => ⟨by omega, ih () ⟨by omega, fun z a b => ?_⟩⟩⟩
      · rw [gd]
        refine decide_eq_false fun q => ?_
        unfold frc at q
        rw [frst_at (fun z a b => hI.2 z a b) hI.1.1 hx (decide_eq_true h4)] at q
        omega
      · by_cases e : z = x
        · rw [e]; exact decide_eq_false h4
        · exact hI.2 z a (by omega)
    · intro x _ hx hI
      refine W_X5_isGood_51 (Q := fun Y => Y = Z) ⟨fun h => absurd h (by omega), fun _ => t ?_⟩
      rw [gd]
      refine decide_eq_true ?_
      unfold frc
      exact frst_none (fun z a b => hI.2 z a (by omega)) (by omega)
  · unfold good; rw [if_neg h2, if_neg h3]
theorem dfs_row {F : List Clz} {R : Int → Int} {by' n : Int} {row row' P : Int → Int} {a : Int} {B : Bst} (h : ∀ i, row i = row' i) : row = row' := funext h
theorem c_walk {T : List Shp} {R : Int → Int} {F : List Clz} {by' n : Int} (hn : 0 ≤ n ∧ n ≤ 5) : ∀ (m : Nat) (k : Int) (row P : Int → Int) (a : Int) (B : Bst) (c : Cm), k + m = n → 0 ≤ k → CWd T c R F → PL c F R by' n → (∀ x, 0 ≤ x → x < 12 → c 26 (k * 12 + x) = P x ∧ 0 ≤ P x ∧ P x ≤ 9) → (∀ i, 0 ≤ i → i < k → c 27 i = row i) → PB c n B → 0 ≤ B.1 → B.1 + pw 5 m ≤ 10000 → 0 ≤ a → a ≤ 999 * k → QV T (fun c' => PB c' n (dfs F R by' n m k row P a B) ∧ (∀ j, j ≠ 12 → j ≠ 13 → j ≠ 14 → c' 21 j = c 21 j) ∧ (∀ j, j < (k + 1) * 12 → c' 26 j = c 26 j) ∧ (∀ i, i < k → c' 27 i = c 27 i) ∧ Off [21, 26, 27, 28] [] c c') (ccal 36 [vR 22, vI k, vI a] (SH T, c)) := by
  intro m
  induction m with
  | zero =>
    intro k row P a B c hk hk0 h hL hP hr hB hb0 hb1 ha0 ha1
    have : k = n := by omega
    subst this
    refine W_X5_walk (Q := QV T _) ?_
    rw [hL.1.2.1]
    refine ⟨fun h => absurd h (by omega), fun _ => ⟨by omega, ?_⟩⟩
    have p0 : pw 5 0 = 1 := rfl
    refine (c_pweigh (a := a) h.2.1 hL (by omega) hP hr hB ⟨hb0, by omega⟩).mono fun c1 h2 => QV.ret ⟨h2.1, h2.2.1, fun j _ => by rw [h2.2.2.cell rfl], fun j _ => by rw [h2.2.2.cell rfl], h2.2.2.mono rfl rfl⟩
  | succ m ih =>
    intro k row P a B c hk hk0 h hL hP hr hB hb0 hb1 ha0 ha1
    have hR := h.2.1
    have h1 := hR.1
    have pe : pw 5 (m + 1) = pw 5 m * 5 := rfl
    have p5 := pw5 (m := m) (by omega)
    refine W_X5_walk (Q := QV T _) ?_
    rw [hL.1.2.1]
    refine ⟨fun _ => ⟨by omega, ?_⟩, fun h => absurd h (by omega)⟩
    have fs : ∀ (f : Int → Bst → Bst) (i : Int), 0 ≤ i → foldI f B (i + 1) = f i (foldI f B i) := fun f i hi => foldI_succ hi
    refine lpI (E := fun p (u : Bst × Cm) => cev 36 (4 + 2 * (6 - k).toNat) 21 [vR 22, vI k, vI a, vI (k + 1), vI p, vU] [] (SH T, u.2)) (fun p u => (0 ≤ p ∧ p ≤ R 0) ∧ u.1 = foldI (fun p B => if may F R row p k = true then (if good F R by' (k + 1) (pnt R p (fun x => lk F R x (R 4 + (k + 1))) P) (a + ask F R p (R 4 + (k + 1))) = true then dfs F R by' n m (k + 1) (udD row k p) (pnt R p (fun x => lk F R x (R 4 + (k + 1))) P) (a + ask F R p (R 4 + (k + 1))) B else B) else B) B p ∧ PB u.2 n u.1 ∧ (0 ≤ u.1.1 ∧ u.1.1 ≤ B.1 + pw 5 m * p) ∧ (∀ j, j ≠ 12 → j ≠ 13 → j ≠ 14 → u.2 21 j = c 21 j) ∧ (∀ j, j < (k + 1) * 12 → u.2 26 j = c 26 j) ∧ (∀ i, i < k → u.2 27 i = c 27 i) ∧ Off [21, 26, 27, 28] [] c u.2) (R 0) ?_ ?_ 0 (B, c) ⟨by omega, rfl, hB, ⟨hb0, by show B.1 ≤ B.1 + pw 5 m * 0; omega⟩, fun _ _ _ _ => rfl, fun _ _ => rfl, fun _ _ => rfl, Off.rfl⟩
    · intro p u hp hI ihp
      obtain ⟨i0, i1, i2, i3, i4, i5, i6, i7⟩ := hI
      have hu := h.off i7 rfl
      have lu := hL.keep i4 i7
      have e0 := hu.1.1.1
      have pm : pw 5 m * (p + 1) = pw 5 m * p + pw 5 m := by rw [Int.mul_add, Int.mul_one]
      have pm2 : pw 5 m * (p + 1) ≤ pw 5 m * 5 := Int.mul_le_mul_of_nonneg_left (by omega) p5.1
      have ab := ask_bd (F := F) (R := R) (x := p) (y := R 4 + (k + 1))
      have fsp := fs (fun p B => if may F R row p k = true then (if good F R by' (k + 1) (pnt R p (fun x => lk F R x (R 4 + (k + 1))) P) (a + ask F R p (R 4 + (k + 1))) = true then dfs F R by' n m (k + 1) (udD row k p) (pnt R p (fun x => lk F R x (R 4 + (k + 1))) P) (a + ask F R p (R 4 + (k + 1))) B else B) else B) p i0.1
      rw [← i1] at fsp
      try dsimp only at fsp
      refine W_X5_walk_21 ?_
      rw [e0]
      refine ⟨fun _ => ⟨by omega, ?_⟩, fun h => absurd hp h⟩
      refine QI.of_eq (c_mayPaint (row := row) hu lu (p := p) (k := k) (by omega) (by omega) hn.2 (fun i a1 a2 => by rw [i6 i a2]; exact hr i a1 a2)) ?_
      refine ⟨fun h2 => ⟨by omega, ihp (u.1, u.2) ⟨by omega, ?_, i2, ⟨i3.1, by show u.1.1 ≤ _; omega⟩, i4, i5, i6, i7⟩⟩, fun h2 => ?_⟩
      · rw [fsp, if_neg (by rw [b01_e0 h2]; decide)]
      rw [if_pos (b01_ne h2)] at fsp
      rw [(lu.2.2 (k + 1) p (by omega) (by omega) i0.1 hp).1]
      refine ⟨by omega, ?_⟩
      have oc : Off [21, 26, 27, 28] [] c (up u.2 27 k p) := i7.wr rfl
      have hc : CWd T (up u.2 27 k p) R F := h.off oc rfl
      have lc : PL (up u.2 27 k p) F R by' n := hL.keep (fun j a1 a2 a3 => by rw [up_cell (by decide)]; exact i4 j a1 a2 a3) oc
      have bc : PB (up u.2 27 k p) n u.1 := by
        refine ⟨by rw [up_cell (by decide)]; exact i2.1, fun q => ⟨?_, ?_, fun i a1 a2 => ?_⟩⟩
        · rw [up_cell (by decide)]; exact (i2.2 q).1
        · rw [up_cell (by decide)]; exact (i2.2 q).2.1
        · rw [up_cell (by decide)]; exact (i2.2 q).2.2 i a1 a2
      refine (c_paintOver (P := P) hc lc (p := p) (k := k) (by omega) (by omega) hn.2 (fun x a1 a2 => by rw [up_cell (by decide), i5 _ (by omega)]; exact hP x a1 a2)).mono fun c3 h3 => ⟨by omega, ?_⟩
      have o3 : Off [21, 26, 27, 28] [] c c3 := oc.trans (h3.2.2.mono rfl rfl)
      have hc3 : CWd T c3 R F := h.off o3 rfl
      have k21 : c3 21 = u.2 21 := (h3.2.2.cell rfl).trans (up_cell (by decide))
      have l3 : PL c3 F R by' n := hL.keep (fun j a1 a2 a3 => by rw [k21]; exact i4 j a1 a2 a3) o3
      have P3 : ∀ x, 0 ≤ x → x < 12 → c3 26 ((k + 1) * 12 + x) = pnt R p (fun x => lk F R x (R 4 + (k + 1))) P x ∧ 0 ≤ pnt R p (fun x => lk F R x (R 4 + (k + 1))) P x ∧ pnt R p (fun x => lk F R x (R 4 + (k + 1))) P x ≤ 9 := fun x a1 a2 => ⟨h3.1 x a1 a2, pnt_bd⟩
      have B3 : PB c3 n u.1 := by
        refine ⟨by rw [k21]; exact i2.1, fun q => ⟨by rw [k21]; exact (i2.2 q).1, by rw [k21]; exact (i2.2 q).2.1, fun i a1 a2 => ?_⟩⟩
        rw [h3.2.2.cell rfl, up_cell (by decide)]
        exact (i2.2 q).2.2 i a1 a2
      have m26 : ∀ j, j < (k + 1) * 12 → c3 26 j = c 26 j := fun j hj => by rw [h3.2.1 j hj, up_cell (by decide)]; exact i5 j hj
      have m27 : ∀ i, i < k → c3 27 i = c 27 i := fun i hi => by rw [h3.2.2.cell rfl, up_ne (by omega)]; exact i6 i hi
      have r3 : ∀ i, 0 ≤ i → i < k + 1 → c3 27 i = udD row k p i := fun i a1 a2 => by
        rw [h3.2.2.cell rfl, up_at]
        unfold udD
        by_cases e : i = k
        · rw [if_pos e, if_pos e]
        · rw [if_neg e, if_neg e, i6 i (by omega)]; exact hr i a1 (by omega)
      refine QI.of_eq (c_isGood hc3 l3 (k := k + 1) (by omega) hn.2 (by omega) P3) ?_
      refine ⟨fun h4 => ⟨by omega, ihp (u.1, c3) ⟨by omega, ?_, B3, ⟨i3.1, by show u.1.1 ≤ _; omega⟩, fun j a1 a2 a3 => by show c3 21 j = _; rw [k21]; exact i4 j a1 a2 a3, m26, m27, o3⟩⟩, fun h4 => ⟨by omega, ?_⟩⟩
      · rw [fsp, if_neg (by rw [b01_e0 h4]; decide)]
      rw [if_pos (b01_ne h4)] at fsp
      have db := dfs_bd (F := F) (R := R) (by' := by') (n := n) (by omega) m (k + 1) (udD row k p) (pnt R p (fun x => lk F R x (R 4 + (k + 1))) P) (a + ask F R p (R 4 + (k + 1))) u.1 i3.1
      refine (ih (k + 1) (udD row k p) (pnt R p (fun x => lk F R x (R 4 + (k + 1))) P) (a + ask F R p (R 4 + (k + 1))) u.1 c3 (by omega) (by omega) hc3 l3 P3 r3 B3 i3.1 (by omega) (by omega) (by omega)).mono fun c6 h6 => ⟨by omega, ?_⟩
      obtain ⟨j1, j2, j3, j4, j5⟩ := h6
      refine ihp (_, c6) ⟨by omega, fsp.symm, j1, ⟨db.1, by show (dfs F R by' n m (k + 1) _ _ _ u.1).1 ≤ _; omega⟩, fun j a1 a2 a3 => ?_, fun j hj => ?_, fun i hi => ?_, o3.trans j5⟩
      · show c6 21 j = _
        rw [j2 j a1 a2 a3, k21]; exact i4 j a1 a2 a3
      · show c6 26 j = _
        rw [j3 j (by omega)]; exact m26 j hj
      · show c6 27 i = _
        rw [j4 i (by omega)]; exact m27 i hi
    · intro p u hp hI
      obtain ⟨i0, i1, i2, i3, i4, i5, i6, i7⟩ := hI
      have hu := h.off i7 rfl
      have e0 := hu.1.1.1
      have : p = R 0 := by omega
      subst this
      refine W_X5_walk_21 ?_
      rw [e0]
      refine ⟨fun h => absurd h (by omega), fun _ => QV.ret ⟨?_, i4, i5, i6, i7⟩⟩
      show PB u.2 n (foldI _ B (R 0))
      rw [← i1]
      exact i2
theorem c_seek {T : List Shp} {c : Cm} {R : Int → Int} {F : List Clz} {by' n : Int} (h : CWd T c R F) (hn : 0 ≤ n ∧ n ≤ 5) : QV T (fun c' => PB c' n (pln F R by' n) ∧ Off [14, 15, 16, 17, 21, 22, 23, 24, 25, 26, 27, 28] [] c c') (ccal 35 [vR 22, vI by', vI n] (SH T, c)) := by
  have hR := h.2.1
  have h1 := hR.1
  have ib := inc_bd hR (l := R 4) (by omega)
  refine W_X5_seek (Q := QV T _) ?_
  rw [h.1.1.2.2.2.2.1, h.1.1.2.2.2.2.2.2.2.2.2.2.1, if_neg (show ¬ 5 < n by omega)]
  refine ⟨by omega, ?_⟩
  have o0 : Off [14, 15, 16, 17, 21, 22, 23, 24, 25, 26, 27, 28] [] c (up (up (up (up c 21 8 by') 21 9 n) 21 14 0) 21 10 (R 10 * R 4)) := (((Off.rfl.wr rfl).wr rfl).wr rfl).wr rfl
  have f8 : (up (up (up (up c 21 8 by') 21 9 n) 21 14 0) 21 10 (R 10 * R 4)) 21 8 = by' := by rw [up_ne (by decide), up_ne (by decide), up_ne (by decide), up_same]
  have f9 : (up (up (up (up c 21 8 by') 21 9 n) 21 14 0) 21 10 (R 10 * R 4)) 21 9 = n := by rw [up_ne (by decide), up_ne (by decide), up_same]
  have f14 : (up (up (up (up c 21 8 by') 21 9 n) 21 14 0) 21 10 (R 10 * R 4)) 21 14 = 0 := by rw [up_ne (by decide), up_same]
  have f10 : (up (up (up (up c 21 8 by') 21 9 n) 21 14 0) 21 10 (R 10 * R 4)) 21 10 = R 10 * R 4 := up_same
  generalize up (up (up (up c 21 8 by') 21 9 n) 21 14 0) 21 10 (R 10 * R 4) = c0 at *
  refine lpI (E := fun i (u : Cm) => cev 35 17 42 [vR 22, vU, vU, vI (i + 1), vU, vU] [] (SH T, u)) (fun i u => (0 ≤ i ∧ i ≤ R 4) ∧ u 21 8 = by' ∧ u 21 9 = n ∧ u 21 14 = 0 ∧ u 21 10 = foldI (fun i m => m - ask F R (R (216 + (i + 1))) (i + 1)) (R 10 * R 4) i ∧ Off [14, 15, 16, 17, 21, 22, 23, 24, 25, 26, 27, 28] [] c u) (R 4) ?_ ?_ 0 c0 ⟨by omega, f8, f9, f14, f10, o0⟩
  · intro i u hi hI ih
    obtain ⟨i0, i8, i9, i14, i10, io⟩ := hI
    have hu := h.off io rfl
    have mb := mny_bd (F := F) (R := R) (v := R 10 * R 4) (b := i) i0.1
    have ab := ask_bd (F := F) (R := R) (x := R (216 + (i + 1))) (y := i + 1)
    have by1 := hR.2.2.1 (i + 1) (by omega) (by omega)
    refine W_X5_seek_42 ?_
    rw [hu.1.1.2.2.2.2.1, hu.1.2.2.2.1 (i + 1) (by omega) (by omega), i10]
    refine ⟨fun h => absurd h (by omega), fun _ => ⟨by omega, ?_⟩⟩
    refine (c_asksOf hu.1 hR hu.2.2 by1 (by omega)).mono fun r c2 h2 => ?_
    have e2 : c2 21 = u 21 := h2.2.cell rfl
    rw [h2.1]
    refine ⟨by omega, ih _ ⟨by omega, ?_, ?_, ?_, ?_, (io.trans (h2.2.mono rfl rfl)).wr rfl⟩⟩
    · rw [up_ne (by decide), e2]; exact i8
    · rw [up_ne (by decide), e2]; exact i9
    · rw [up_ne (by decide), e2]; exact i14
    · rw [up_same, foldI_succ i0.1]
  · intro i u hi hI
    obtain ⟨i0, i8, i9, i14, i10, io⟩ := hI
    have hu := h.off io rfl
    have : i = R 4 := by omega
    subst this
    refine W_X5_seek_42 ?_
    rw [hu.1.1.2.2.2.2.1]
    refine ⟨fun _ => ?_, fun h => absurd h (by omega)⟩
    refine lpI (E := fun k (v : Cm) => cev 35 17 87 [vR 22, vU, vU, vI k, vU, vU] [] (SH T, v)) (fun k v => (0 ≤ k ∧ k ≤ n + 1) ∧ v 21 = u 21 ∧ Off [14, 15, 16, 17, 21, 22, 23, 24, 25, 26, 27, 28] [] c v ∧ (∀ j x, 0 ≤ j → j < k → 0 ≤ x → x < 12 → v 22 (j * 12 + x) = lk F R x (R 4 + j) ∧ v 23 (j * 12 + x) = lt F R x (R 4 + j)) ∧ ∀ j p, 0 ≤ j → j < k → 0 ≤ p → p < R 0 → v 24 (j * 5 + p) = ask F R p (R 4 + j) ∧ v 25 (j * 5 + p) = b01 (brp F R p (R 4 + j) = true)) (n + 1) ?_ ?_ 0 u ⟨by omega, rfl, io, fun j x a b => by omega, fun j p a b => by omega⟩
    · intro k v hk hV ih
      obtain ⟨v0, v21, vo, v2, v3⟩ := hV
      have hv := h.off vo rfl
      refine W_X5_seek_87 ?_
      rw [v21, i9, hv.1.1.2.2.2.2.1]
      refine ⟨fun h => absurd h (by omega), fun _ => ⟨by omega, ?_⟩⟩
      refine lpI (E := fun x (w : Cm) => cev 35 17 109 [vR 22, vU, vU, vI k, vI (R 4 + k), vI x] [] (SH T, w)) (fun x w => (0 ≤ x ∧ x ≤ 12) ∧ w 21 = u 21 ∧ w 24 = v 24 ∧ w 25 = v 25 ∧ Off [14, 15, 16, 17, 21, 22, 23, 24, 25, 26, 27, 28] [] c w ∧ (∀ j, j < k * 12 → w 22 j = v 22 j ∧ w 23 j = v 23 j) ∧ ∀ z, 0 ≤ z → z < x → w 22 (k * 12 + z) = lk F R z (R 4 + k) ∧ w 23 (k * 12 + z) = lt F R z (R 4 + k)) 12 ?_ ?_ 0 v ⟨by omega, v21, rfl, rfl, vo, fun _ _ => ⟨rfl, rfl⟩, fun z a b => by omega⟩
      · intro x w hx hW ihx
        obtain ⟨w0, w21, w24, w25, wo, w2, w3⟩ := hW
        have hw := h.off wo rfl
        refine W_X5_seek_109 ⟨fun _ => ⟨by omega, ?_⟩, fun h => absurd hx h⟩
        refine (c_looksOf hw.1 hR hw.2.2 (x := x) (y := R 4 + k) (by omega) (by omega)).mono fun r1 c2 h2 => ⟨by omega, ?_⟩
        have o2 : Off [14, 15, 16, 17, 21, 22, 23, 24, 25, 26, 27, 28] [] c (up c2 22 (k * 12 + x) r1) := (wo.trans (h2.2.mono rfl rfl)).wr rfl
        have hw2 := h.off o2 rfl
        refine (c_letsOf hw2.1 hR hw2.2.2 (x := x) (y := R 4 + k) (by omega) (by omega)).mono fun r3 c4 h4 => ?_
        have e21 : c4 21 = w 21 := ((h4.2.cell rfl).trans (up_cell (by decide))).trans (h2.2.cell rfl)
        have e24 : c4 24 = w 24 := ((h4.2.cell rfl).trans (up_cell (by decide))).trans (h2.2.cell rfl)
        have e25 : c4 25 = w 25 := ((h4.2.cell rfl).trans (up_cell (by decide))).trans (h2.2.cell rfl)
        have e23 : c4 23 = w 23 := ((h4.2.cell rfl).trans (up_cell (by decide))).trans (h2.2.cell rfl)
        have e22 : c4 22 = up c2 22 (k * 12 + x) r1 22 := h4.2.cell rfl
        have f22 : c2 22 = w 22 := h2.2.cell rfl
        refine ⟨by omega, ihx _ ⟨by omega, ?_, ?_, ?_, (o2.trans (h4.2.mono rfl rfl)).wr rfl, fun j hj => ⟨?_, ?_⟩, fun z a b => ⟨?_, ?_⟩⟩⟩
        · rw [up_cell (by decide), e21]; exact w21
        · rw [up_cell (by decide), e24]; exact w24
        · rw [up_cell (by decide), e25]; exact w25
        · rw [up_cell (by decide), e22, up_at, if_neg (by omega), f22]; exact (w2 j hj).1
        · rw [up_at, if_neg (by omega), e23]; exact (w2 j hj).2
        · rw [up_cell (by decide), e22, up_at]
          by_cases e : z = x
          · rw [if_pos (by omega), e]; exact h2.1
          · rw [if_neg (by omega), f22]; exact (w3 z a (by omega)).1
        · rw [up_at]
          by_cases e : z = x
          · rw [if_pos (by omega), e]; exact h4.1
          · rw [if_neg (by omega), e23]; exact (w3 z a (by omega)).2
      · intro x w hx hW
        obtain ⟨w0, w21, w24, w25, wo, w2, w3⟩ := hW
        refine W_X5_seek_109 ⟨fun h => absurd h (by omega), fun _ => ?_⟩
        refine lpI (E := fun p (z : Cm) => cev 35 17 171 [vR 22, vU, vU, vI k, vI (R 4 + k), vI p] [] (SH T, z)) (fun p z => (0 ≤ p ∧ p ≤ R 0) ∧ z 21 = u 21 ∧ z 22 = w 22 ∧ z 23 = w 23 ∧ Off [14, 15, 16, 17, 21, 22, 23, 24, 25, 26, 27, 28] [] c z ∧ (∀ j, j < k * 5 → z 24 j = v 24 j ∧ z 25 j = v 25 j) ∧ ∀ q, 0 ≤ q → q < p → z 24 (k * 5 + q) = ask F R q (R 4 + k) ∧ z 25 (k * 5 + q) = b01 (brp F R q (R 4 + k) = true)) (R 0) ?_ ?_ 0 w ⟨by omega, w21, rfl, rfl, wo, fun _ _ => ⟨by rw [w24], by rw [w25]⟩, fun z a b => by omega⟩
        · intro p z hp hZ ihp
          obtain ⟨z0, z21, z22, z23, zo, z2, z3⟩ := hZ
          have hz := h.off zo rfl
          refine W_X5_seek_171 ?_
          rw [hz.1.1.1]
          refine ⟨fun _ => ⟨by omega, ?_⟩, fun h => absurd hp h⟩
          refine (c_asksOf hz.1 hR hz.2.2 (p := p) (y := R 4 + k) (by omega) (by omega)).mono fun r1 c2 h2 => ⟨by omega, ?_⟩
          have o2 : Off [14, 15, 16, 17, 21, 22, 23, 24, 25, 26, 27, 28] [] c (up c2 24 (k * 5 + p) r1) := (zo.trans (h2.2.mono rfl rfl)).wr rfl
          have hw2 := h.off o2 rfl
          refine (c_barsPainter hw2.1 hR hw2.2.2 (p := p) (y := R 4 + k) (by omega) (by omega)).mono fun r3 c4 h4 => ?_
          have e21 : c4 21 = z 21 := ((h4.2.cell rfl).trans (up_cell (by decide))).trans (h2.2.cell rfl)
          have e22 : c4 22 = z 22 := ((h4.2.cell rfl).trans (up_cell (by decide))).trans (h2.2.cell rfl)
          have e23 : c4 23 = z 23 := ((h4.2.cell rfl).trans (up_cell (by decide))).trans (h2.2.cell rfl)
          have e25 : c4 25 = z 25 := ((h4.2.cell rfl).trans (up_cell (by decide))).trans (h2.2.cell rfl)
          have e24 : c4 24 = up c2 24 (k * 5 + p) r1 24 := h4.2.cell rfl
          have f24 : c2 24 = z 24 := h2.2.cell rfl
          have b4 : r3 = 0 ∨ r3 = 1 := by rw [h4.1]; exact b01_or
          refine ⟨by omega, ihp _ ⟨by omega, ?_, ?_, ?_, (o2.trans (h4.2.mono rfl rfl)).wr rfl, fun j hj => ⟨?_, ?_⟩, fun q a b => ⟨?_, ?_⟩⟩⟩
          · rw [up_cell (by decide), e21]; exact z21
          · rw [up_cell (by decide), e22]; exact z22
          · rw [up_cell (by decide), e23]; exact z23
          · rw [up_cell (by decide), e24, up_at, if_neg (by omega), f24]; exact (z2 j hj).1
          · rw [up_at, if_neg (by omega), e25]; exact (z2 j hj).2
          · rw [up_cell (by decide), e24, up_at]
            by_cases e : q = p
            · rw [if_pos (by omega), e]; exact h2.1
            · rw [if_neg (by omega), f24]; exact (z3 q a (by omega)).1
          · rw [up_at]
            by_cases e : q = p
            · rw [if_pos (by omega), e]; exact h4.1
            · rw [if_neg (by omega), e25]; exact (z3 q a (by omega)).2
        · intro p z hp hZ
          obtain ⟨z0, z21, z22, z23, zo, z2, z3⟩ := hZ
          have hz := h.off zo rfl
          refine W_X5_seek_171 ?_
          rw [hz.1.1.1]
          refine ⟨fun h => absurd h (by omega), fun _ => ⟨by omega, ih z ⟨by omega, z21, zo, fun j x a b a2 b2 => ?_, fun j q a b a2 b2 => ?_⟩⟩⟩
          · rw [z22, z23]
            by_cases e : j = k
            · rw [e]; exact w3 x a2 (by omega)
            · rw [(w2 (j * 12 + x) (by omega)).1, (w2 (j * 12 + x) (by omega)).2]
              exact v2 j x a (by omega) a2 b2
          · by_cases e : j = k
            · rw [e]; exact z3 q a2 (by omega)
            · rw [(z2 (j * 5 + q) (by omega)).1, (z2 (j * 5 + q) (by omega)).2]
              exact v3 j q a (by omega) a2 b2
    · intro k v hk hV
      obtain ⟨v0, v21, vo, v2, v3⟩ := hV
      have hv := h.off vo rfl
      refine W_X5_seek_87 ?_
      rw [v21, i9, hv.1.1.2.2.2.2.1]
      refine ⟨fun _ => ⟨by omega, ?_⟩, fun h => absurd h (by omega)⟩
      have oc : Off [14, 15, 16, 17, 21, 22, 23, 24, 25, 26, 27, 28] [] c (cpy v 7 (R 4 * 12) 26 0 12) := vo.cp rfl
      have hc : CWd T (cpy v 7 (R 4 * 12) 26 0 12) R F := h.off oc rfl
      have lc : PL (cpy v 7 (R 4 * 12) 26 0 12) F R by' n := by
        unfold PL
        rw [cpy_cell (show 21 ≠ 26 by decide), cpy_cell (show 22 ≠ 26 by decide), cpy_cell (show 23 ≠ 26 by decide), cpy_cell (show 24 ≠ 26 by decide), cpy_cell (show 25 ≠ 26 by decide), v21]
        exact ⟨⟨i8, i9, i10⟩, fun j x a b => v2 j x a (by omega), fun j p a b => v3 j p a (by omega)⟩
      refine (c_walk hn n.toNat 0 (fun _ => 0) (fun x => R (12 + 12 * R 4 + x)) 0 (0, 0, 0, fun _ => 0) _ (by omega) (by omega) hc lc (fun x a b => ⟨?_, hR.tone (by omega) ⟨a, b⟩⟩) (fun i a b => by omega) ⟨?_, fun q => absurd rfl q⟩ (Int.le_refl _) ?_ (by omega) (by omega)).mono fun c1 h2 => QV.ret ⟨h2.1, oc.trans (h2.2.2.2.2.mono rfl rfl)⟩
      · rw [cpy_at (by omega), show R 4 * 12 + (0 * 12 + x - 0) = R 4 * 12 + x from by omega]
        exact hv.tone (by omega) ⟨a, b⟩
      · rw [cpy_cell (by decide), v21]; exact i14
      · have := pw5 (m := n.toNat) (by omega)
        show (0 : Int) + pw 5 n.toNat ≤ 10000
        omega

/-! WHAT IS TO BE ANSWERED, out of the reference's row R (numbers of what stands) and F (the clauses of the law in force: head, test, sum). -/
abbrev Den : Type := (Int → Int) → Option Int
abbrev Clz : Type := Int × Option Den × Option Den
def ag (R : Int → Int) (y : Int) : Int := clp (R 7 + (R 8 - 2) * y) 0 199
/-- what a clause tells, if it holds (bars: 0) -/
def clt (W : Int → Int) (z : Clz) : Option Int := if (match z.2.1 with | none => true | some t => t W == some 1) then (match z.2.2 with | none => some 0 | some s => s W) else none
/-- what the last clause of a head that holds tells -/
def tl (F : List Clz) (h : Int) (W : Int → Int) : Option Int := F.foldl (fun a z => if z.1 = h then (match clt W z with | none => a | some v => some v) else a) none
def wB (R : Int → Int) (y : Int) : Int → Int := fun i => if i = 2 then ag R y else if i = 3 then y else if i = 6 then R 9 else -1
def wC (R : Int → Int) (x y : Int) : Int → Int := fun i => if i = 1 then x else wB R y i
def wP (R : Int → Int) (p y : Int) : Int → Int := fun i => if i = 4 then p else if i = 5 then R (233 + 5 * p + 1) else wB R y i
/-- in how many of 12 places two rows are unlike -/
def apr (R : Int → Int) (a b : Int) : Int := foldI (fun i n => if R (a + i) = R (b + i) then n else n + 1) 0 12
def ner (R : Int → Int) (q : Int) : Int := apr R (276 + 12 * q) (12 + 12 * R 4)
def chd (R : Int → Int) (q y : Int) : Int := foldI (fun o n => if R (348 + 4 * o) = q ∧ R (348 + 4 * o + 1) ≤ y ∧ y < R (348 + 4 * o + 2) then n + 1 else n) 0 (R 6)
def wQ (R : Int → Int) (q y : Int) : Int → Int := fun i => if i = 2 then y - R (348 + 4 * q + 1) else if i = 7 then q else if i = 8 then R (348 + 4 * q + 1) else if i = 9 then (if 0 ≤ R (348 + 4 * q + 3) ∧ R (348 + 4 * q + 3) < R 5 then ner R (R (348 + 4 * q + 3)) else -1) else if i = 10 then chd R q y else wB R y i
/-- the scar of a cell that came latest by a year: year, tone -/
def scp (R : Int → Int) (x y : Int) : Int × Int := foldI (fun k p => if R (258 + 3 * k) = x ∧ R (258 + 3 * k + 1) ≤ y ∧ p.1 ≤ R (258 + 3 * k + 1) then (R (258 + 3 * k + 1), R (258 + 3 * k + 2)) else p) (-1, -1) (R 3)
def lk (F : List Clz) (R : Int → Int) (x y : Int) : Int := if (scp R x y).2 = -1 then clp ((tl F 0 (wC R x y)).getD (clp (ag R y / 10) 0 9)) 0 9 else (scp R x y).2
def lt (F : List Clz) (R : Int → Int) (x y : Int) : Int := clp ((tl F 1 (wC R x y)).getD 9) 0 9
def ask (F : List Clz) (R : Int → Int) (p y : Int) : Int := clp ((tl F 2 (wP R p y)).getD (R (233 + 5 * p + 1))) 0 999
def brp (F : List Clz) (R : Int → Int) (p y : Int) : Bool := (tl F 4 (wP R p y)).isSome
def rnk (F : List Clz) (R : Int → Int) (q y : Int) : Int := clp ((tl F 3 (wQ R q y)).getD q) 0 999
def brq (F : List Clz) (R : Int → Int) (q y : Int) : Bool := (tl F 4 (wQ R q y)).isSome
def alv (R : Int → Int) (q y : Int) : Prop := R (348 + 4 * q + 1) ≤ y ∧ y < R (348 + 4 * q + 2)
/-- a tone, painted towards its aim -/
def brs (R : Int → Int) (p x t a : Int) : Int := clp (t + clp (a - t) (-(R (233 + 5 * p))) (R (233 + 5 * p)) + R (233 + 5 * p + 2 + x % 3) - 3) 0 9
def anyI (p : Int → Bool) (b : Int) : Bool := foldI (fun i y => y || p i) false b
def allI (p : Int → Bool) (b : Int) : Bool := foldI (fun i y => y && p i) true b
theorem anyI_iff {p : Int → Bool} {b : Int} (hb : 0 ≤ b) : anyI p b = true ↔ ∃ i, 0 ≤ i ∧ i < b ∧ p i = true := by
  refine foldI_ind (fun b y => y = true ↔ ∃ i, 0 ≤ i ∧ i < b ∧ p i = true) ⟨fun h => absurd h (by decide), fun ⟨i, h1, h2, _⟩ => absurd h1 (by omega)⟩ ?_ hb
  intro i y h1 h2 h3
  rw [Bool.or_eq_true, h3]
  constructor
  · rintro (⟨j, a, b, q⟩ | q)
    · exact ⟨j, a, by omega, q⟩
    · exact ⟨i, h1, by omega, q⟩
  · rintro ⟨j, a, b, q⟩
    by_cases e : j = i
    · subst e; exact .inr q
    · exact .inl ⟨j, a, by omega, q⟩
theorem allI_iff {p : Int → Bool} {b : Int} (hb : 0 ≤ b) : allI p b = true ↔ ∀ i, 0 ≤ i → i < b → p i = true := by
  refine foldI_ind (fun b y => y = true ↔ ∀ i, 0 ≤ i → i < b → p i = true) ⟨fun _ i h1 h2 => absurd h1 (by omega), fun _ => rfl⟩ ?_ hb
  intro i y h1 h2 h3
  rw [Bool.and_eq_true, h3]
  constructor
  · rintro ⟨q, q2⟩ j a b
    by_cases e : j = i
    · subst e; exact q2
    · exact q j a (by omega)
  · intro q
    exact ⟨fun j a b => q j a (by omega), q i h1 (by omega)⟩
def rst (R : Int → Int) (p y : Int) : Bool := anyI (fun k => decide (1 ≤ y - (k + 1) ∧ y - (k + 1) ≤ R 4 ∧ R (216 + (y - (k + 1))) = p)) (R 11)
theorem rst_iff {R : Int → Int} {p y : Int} (hR : 0 ≤ R 11) : rst R p y = true ↔ ∃ k, 1 ≤ k ∧ k ≤ R 11 ∧ 1 ≤ y - k ∧ y - k ≤ R 4 ∧ R (216 + (y - k)) = p := by
  unfold rst
  rw [anyI_iff hR]
  constructor
  · rintro ⟨i, a, b, q⟩
    exact ⟨i + 1, by omega, by omega, of_decide_eq_true q⟩
  · rintro ⟨k, a, b, q⟩
    refine ⟨k - 1, by omega, by omega, decide_eq_true ?_⟩
    rw [show k - 1 + 1 = k from by omega]
    exact q
/-- two pictures are alike -/
def same (P P' : Int → Int) : Bool := allI (fun x => decide (P x = P' x)) 12
theorem same_iff {P P' : Int → Int} : same P P' = true ↔ ∀ x, 0 ≤ x → x < 12 → P x = P' x := by
  unfold same
  rw [allI_iff (by omega)]
  exact ⟨fun h x a b => of_decide_eq_true (h x a b), fun h x a b => decide_eq_true (h x a b)⟩
/-- how far a picture is from what its cells look, together -/
def ulk (P L : Int → Int) : Int := foldI (fun x n => n + abz (P x - L x)) 0 12
def unl (F : List Clz) (R : Int → Int) (l : Int) : Int := ulk (fun x => R (12 + 12 * l + x)) (fun x => lk F R x l)
/-- the first cell that is farther than it lets -/
def frc (P L T : Int → Int) : Int := frst (fun x => decide (T x < abz (P x - L x))) 12
def far (F : List Clz) (R : Int → Int) (l : Int) : Int := frc (fun x => R (12 + 12 * l + x)) (fun x => lk F R x l) (fun x => lt F R x l)
def mny (F : List Clz) (R : Int → Int) (l : Int) : Int := foldI (fun i m => m - ask F R (R (216 + (i + 1))) (i + 1)) (R 10 * l) l
/-- a picture, painted -/
def pnt (R : Int → Int) (p : Int) (L P : Int → Int) : Int → Int := fun x => brs R p x (P x) (L x)
def who (F : List Clz) (R : Int → Int) (l : Int) : Int := sto' (fun p => same (pnt R p (fun x => lk F R x l) (fun x => R (12 + 12 * (l - 1) + x))) (fun x => R (12 + 12 * l + x))) (R 0)
/-- the tones that a cell can have behind one year more, of those it can have ahead of it -/
def dst (F : List Clz) (R : Int → Int) (x y s : Int) : Int := sto' (fun j => anyI (fun p => !brp F R p y && anyI (fun t => bt s t && decide (brs R p x t (lk F R x y) = j)) 10) (R 0)) 10
def dri (F : List Clz) (R : Int → Int) (x n : Int) : Int := foldI (fun i s => dst F R x (R 4 + 1 + i) s) (ishl 1 (R (12 + 12 * R 4 + x))) n
/-- a tone through n layers behind layer l -/
def fwd (F : List Clz) (R : Int → Int) (x l t n : Int) : Int := foldI (fun i v => brs R (R (216 + (l + i + 1))) x v (lk F R x (l + i + 1))) t n
def was (F : List Clz) (R : Int → Int) (x : Int) : Int := sto' (fun t => decide (fwd F R x 0 t (R 4) = R (12 + 12 * R 4 + x))) 10
def cnt (p : Int → Bool) (n : Int) : Int := foldI (fun i k => if p i = true then k + 1 else k) 0 n
/-- the place of the i-th at which p is so; -1: none -/
def ith (p : Int → Bool) (i n : Int) : Int := frst (fun j => p j && decide (cnt p j = i)) n
/-- do two painters undo one another -/
def und (F : List Clz) (R : Int → Int) (p q : Int) : Bool := same (pnt R q (fun x => lk F R x (R 4 + 2)) (pnt R p (fun x => lk F R x (R 4 + 1)) (fun x => R (12 + 12 * R 4 + x)))) (fun x => R (12 + 12 * R 4 + x))
def unp (F : List Clz) (R : Int → Int) (j : Int) : Bool := decide (j / 5 < R 0) && (decide (j % 5 < R 0) && und F R (j / 5) (j % 5))
def udo (F : List Clz) (R : Int → Int) (i : Int) : Int := if ith (unp F R) i 25 = -1 then (if i = -1 then cnt (unp F R) 25 else -1) else ith (unp F R) i 25
theorem cnt_bd {p : Int → Bool} {n : Int} (hn : 0 ≤ n) : 0 ≤ cnt p n ∧ cnt p n ≤ n := by
  refine foldI_ind (fun i n => 0 ≤ n ∧ n ≤ i) (by omega) ?_ hn
  intro i n h1 h2 h3
  try dsimp only
  split <;> omega
theorem cnt_succ {p : Int → Bool} {n : Int} (hn : 0 ≤ n) : cnt p (n + 1) = if p n = true then cnt p n + 1 else cnt p n := foldI_succ hn
theorem cnt_skip {p : Int → Bool} {a : Int} (m : Nat) (ha : 0 ≤ a) (h : ∀ j, a ≤ j → j < a + m → p j = false) : cnt p (a + m) = cnt p a := by
  induction m with
  | zero => rw [show a + ((0 : Nat) : Int) = a from by omega]
  | succ m ih =>
    rw [show a + ((m + 1 : Nat) : Int) = a + m + 1 from by omega, cnt_succ (by omega), h _ (by omega) (by omega), if_neg (by decide)]
    exact ih fun j h1 h2 => h j h1 (by omega)
theorem anyI_succ {p : Int → Bool} {n : Int} (hn : 0 ≤ n) : anyI p (n + 1) = (anyI p n || p n) := foldI_succ hn
theorem foldI_front {α : Type} {f : Int → α → α} {x : α} {n : Int} (hn : 0 ≤ n) : foldI f x (n + 1) = foldI (fun i => f (i + 1)) (f 0 x) n := by
  have key : ∀ m : Nat, foldI f x ((m : Int) + 1) = foldI (fun i => f (i + 1)) (f 0 x) m := by
    intro m
    induction m with
    | zero => rfl
    | succ m ih =>
      rw [show ((m + 1 : Nat) : Int) = (m : Int) + 1 from by omega, foldI_succ (by omega), ih, foldI_succ (f := fun i => f (i + 1)) (by omega)]
  have := key n.toNat
  rwa [Int.toNat_of_nonneg hn] at this
theorem abz_bd {v : Int} : 0 ≤ abz v ∧ (-9 ≤ v → v ≤ 9 → abz v ≤ 9) := by
  unfold abz
  split <;> omega
theorem ulk_bd {P L : Int → Int} {b : Int} (hb : 0 ≤ b) (hP : ∀ x, 0 ≤ x → x < b → 0 ≤ P x ∧ P x ≤ 9) (hL : ∀ x, 0 ≤ x → x < b → 0 ≤ L x ∧ L x ≤ 9) : 0 ≤ foldI (fun x n => n + abz (P x - L x)) 0 b ∧ foldI (fun x n => n + abz (P x - L x)) 0 b ≤ 9 * b := by
  refine foldI_ind (fun i n => 0 ≤ n ∧ n ≤ 9 * i) (by omega) ?_ hb
  intro i n h1 h2 h3
  have h4 := abz_bd (v := P i - L i)
  have h5 := hP i h1 h2
  have h6 := hL i h1 h2
  have h7 := h4.2 (by omega) (by omega)
  try dsimp only
  omega
/-- between which bounds the numbers lie -/
def RNG (R : Int → Int) : Prop := (0 ≤ R 0 ∧ R 0 ≤ 5 ∧ 0 ≤ R 1 ∧ R 1 ≤ 6 ∧ -1 ≤ R 2 ∧ R 2 < R 1 ∧ 0 ≤ R 3 ∧ R 3 ≤ 6 ∧ 0 ≤ R 4 ∧ R 4 ≤ 16 ∧ 0 ≤ R 5 ∧ R 5 ≤ 6 ∧ 0 ≤ R 6 ∧ R 6 ≤ 8 ∧ 0 ≤ R 7 ∧ R 7 ≤ 99 ∧ 0 ≤ R 8 ∧ R 8 ≤ 5 ∧ 0 ≤ R 9 ∧ R 9 ≤ 9 ∧ 0 ≤ R 10 ∧ R 10 ≤ 999 ∧ 0 ≤ R 11 ∧ R 11 ≤ 3)
  ∧ (∀ i, 0 ≤ i → i < 204 → 0 ≤ R (12 + i) ∧ R (12 + i) ≤ 9)
  ∧ (∀ l, 1 ≤ l → l ≤ R 4 → 0 ≤ R (216 + l) ∧ R (216 + l) < R 0)
  ∧ (∀ p, 0 ≤ p → p < R 0 → 1 ≤ R (233 + 5 * p) ∧ R (233 + 5 * p) ≤ 9 ∧ 0 ≤ R (233 + 5 * p + 1) ∧ R (233 + 5 * p + 1) ≤ 99)
  ∧ (∀ p k, 0 ≤ p → p < R 0 → 0 ≤ k → k < 3 → 0 ≤ R (233 + 5 * p + 2 + k) ∧ R (233 + 5 * p + 2 + k) ≤ 6)
  ∧ (∀ s, 0 ≤ s → s < R 3 → 0 ≤ R (258 + 3 * s) ∧ R (258 + 3 * s) ≤ 11 ∧ 0 ≤ R (258 + 3 * s + 1) ∧ R (258 + 3 * s + 1) ≤ 99 ∧ 0 ≤ R (258 + 3 * s + 2) ∧ R (258 + 3 * s + 2) ≤ 9)
  ∧ (∀ i, 0 ≤ i → i < 72 → 0 ≤ R (276 + i) ∧ R (276 + i) ≤ 9)
  ∧ (∀ q, 0 ≤ q → q < R 6 → -1 ≤ R (348 + 4 * q) ∧ R (348 + 4 * q) < q ∧ 0 ≤ R (348 + 4 * q + 1) ∧ R (348 + 4 * q + 1) ≤ 99 ∧ R (348 + 4 * q + 1) < R (348 + 4 * q + 2) ∧ R (348 + 4 * q + 2) ≤ 150 ∧ -1 ≤ R (348 + 4 * q + 3) ∧ R (348 + 4 * q + 3) ≤ 5)
/-- what stands now in the class's cells is what stands in the row -/
def CSo (o : Nat) (c : Cm) (R : Int → Int) : Prop := (c o 0 = R 0 ∧ c o 2 = R 3 ∧ c o 5 = R 1 ∧ c o 7 = R 2 ∧ c o 8 = R 4 ∧ c o 11 = R 5 ∧ c o 13 = R 6 ∧ c (o + 3) 0 = R 7 ∧ c (o + 3) 1 = R 8 ∧ c (o + 3) 2 = R 9 ∧ c (o + 3) 3 = R 10 ∧ c (o + 3) 4 = R 11)
  ∧ (∀ i, 0 ≤ i → i < 25 → c (o + 1) i = R (233 + i)) ∧ (∀ i, 0 ≤ i → i < 3 * R 3 → c (o + 2) i = R (258 + i)) ∧ (∀ i, 0 ≤ i → i < 17 → c (o + 5) i = R (216 + i)) ∧ (∀ i, 0 ≤ i → i < 204 → c (o + 6) i = R (12 + i)) ∧ (∀ i, 0 ≤ i → i < 72 → c (o + 7) i = R (276 + i)) ∧ (∀ i, 0 ≤ i → i < 32 → c (o + 8) i = R (348 + i))
def CS (c : Cm) (R : Int → Int) : Prop := (c 1 0 = R 0 ∧ c 1 2 = R 3 ∧ c 1 5 = R 1 ∧ c 1 7 = R 2 ∧ c 1 8 = R 4 ∧ c 1 11 = R 5 ∧ c 1 13 = R 6 ∧ c 4 0 = R 7 ∧ c 4 1 = R 8 ∧ c 4 2 = R 9 ∧ c 4 3 = R 10 ∧ c 4 4 = R 11)
  ∧ (∀ i, 0 ≤ i → i < 25 → c 2 i = R (233 + i)) ∧ (∀ i, 0 ≤ i → i < 3 * R 3 → c 3 i = R (258 + i)) ∧ (∀ i, 0 ≤ i → i < 17 → c 6 i = R (216 + i)) ∧ (∀ i, 0 ≤ i → i < 204 → c 7 i = R (12 + i)) ∧ (∀ i, 0 ≤ i → i < 72 → c 8 i = R (276 + i)) ∧ (∀ i, 0 ≤ i → i < 32 → c 9 i = R (348 + i))
theorem CS_of {c : Cm} {R : Int → Int} (h : CSo 1 c R) : CS c R := h
theorem CS.cells {c c' : Cm} {R : Int → Int} (h : CS c R) (e1 : c' 1 = c 1) (e2 : c' 2 = c 2) (e3 : c' 3 = c 3) (e4 : c' 4 = c 4) (e6 : c' 6 = c 6) (e7 : c' 7 = c 7) (e8 : c' 8 = c 8) (e9 : c' 9 = c 9) : CS c' R := by
  unfold CS
  rw [e1, e2, e3, e4, e6, e7, e8, e9]
  exact h
theorem CS.off {L : List Nat} {F : List Int} {c c' : Cm} {R : Int → Int} (h : CS c R) (o : Off L F c c') (hl : (L.all fun q => Nat.ble 10 q || Nat.beq q 5) = true) : CS c' R := by
  have key : ∀ q : Nat, q ≤ 9 → q ≠ 5 → c' q = c q := by
    intro q h1 h2
    refine o.cell ?_
    have a : L.contains q = false := by
      cases e : L.contains q with
      | false => rfl
      | true =>
        have := (List.all_eq_true.mp hl) q (List.contains_iff_mem.mp e)
        have b : Nat.ble 10 q = false := by
          cases e2 : Nat.ble 10 q with
          | false => rfl
          | true => exact absurd (Nat.le_of_ble_eq_true e2) (by omega)
        have d : Nat.beq q 5 = false := by
          cases e2 : Nat.beq q 5 with
          | false => rfl
          | true => exact absurd (Nat.eq_of_beq_eq_true e2) h2
        rw [b, d] at this
        exact absurd this (by decide)
    have d : Nat.beq q 77 = false := by
      cases e2 : Nat.beq q 77 with
      | false => rfl
      | true => exact absurd (Nat.eq_of_beq_eq_true e2) (by omega)
    rw [a, d]
    rfl
  exact h.cells (key 1 (by omega) (by omega)) (key 2 (by omega) (by omega)) (key 3 (by omega) (by omega)) (key 4 (by omega) (by omega)) (key 6 (by omega) (by omega)) (key 7 (by omega) (by omega)) (key 8 (by omega) (by omega)) (key 9 (by omega) (by omega))
theorem clp_bd {v lo hi : Int} (h : lo ≤ hi) : lo ≤ clp v lo hi ∧ clp v lo hi ≤ hi := by
  unfold clp
  by_cases h1 : v < lo
  · rw [if_pos h1]; omega
  · rw [if_neg h1]
    by_cases h2 : hi < v
    · rw [if_pos h2]; omega
    · rw [if_neg h2]; omega
theorem clp_id {v lo hi : Int} (h1 : lo ≤ v) (h2 : v ≤ hi) : clp v lo hi = v := by
  unfold clp
  rw [if_neg (by omega), if_neg (by omega)]
theorem pace_mul {a y : Int} (h0 : -2 ≤ a) (h1 : a ≤ 3) (hy : 0 ≤ y) (hy2 : y ≤ 200) : -400 ≤ a * y ∧ a * y ≤ 600 := by
  have : a = -2 ∨ a = -1 ∨ a = 0 ∨ a = 1 ∨ a = 2 ∨ a = 3 := by omega
  rcases this with h | h | h | h | h | h <;> subst h <;> omega
theorem ag_bd {R : Int → Int} {y : Int} : 0 ≤ ag R y ∧ ag R y ≤ 199 := clp_bd (by omega)
theorem scp_bd {R : Int → Int} {x y : Int} (hR : RNG R) : -1 ≤ (scp R x y).2 ∧ (scp R x y).2 ≤ 9 := by
  have h1 := hR.1
  unfold scp
  refine foldI_ind (fun (_ : Int) (p : Int × Int) => -1 ≤ p.2 ∧ p.2 ≤ 9) (by decide) ?_ (by omega)
  intro i p a b q
  have h2 := hR.2.2.2.2.2.1 i a b
  try dsimp only
  split
  · exact ⟨by omega, by omega⟩
  · exact q
theorem lk_bd {F : List Clz} {R : Int → Int} {x y : Int} (hR : RNG R) : 0 ≤ lk F R x y ∧ lk F R x y ≤ 9 := by
  have := scp_bd (x := x) (y := y) hR
  unfold lk
  split
  · exact clp_bd (by omega)
  · omega
theorem lt_bd {F : List Clz} {R : Int → Int} {x y : Int} : 0 ≤ lt F R x y ∧ lt F R x y ≤ 9 := clp_bd (by omega)
theorem ask_bd {F : List Clz} {R : Int → Int} {x y : Int} : 0 ≤ ask F R x y ∧ ask F R x y ≤ 999 := clp_bd (by omega)
theorem rnk_bd {F : List Clz} {R : Int → Int} {x y : Int} : 0 ≤ rnk F R x y ∧ rnk F R x y ≤ 999 := clp_bd (by omega)
theorem brs_bd {R : Int → Int} {p x t a : Int} : 0 ≤ brs R p x t a ∧ brs R p x t a ≤ 9 := clp_bd (by omega)
/-! the class's plain questions -/
theorem c_ageIn {T : List Shp} {c : Cm} {R : Int → Int} {y : Int} (h : CS c R) (hR : RNG R) (hy : 0 ≤ y) (hy2 : y ≤ 200) : ccal 69 [vR 2, vI y] (SH T, c) = some (some (vI (ag R y)), (SH T, c)) := by
  obtain ⟨⟨e0, e2, e5, e7, e8, e11, e13, t0, t1, t2, t3, t4⟩, -⟩ := h
  have hm := pace_mul (a := R 8 - 2) (y := y) (by have := hR.1; omega) (by have := hR.1; omega) hy hy2
  have h1 := hR.1
  refine W_X7_ageIn (Q := fun Z => Z = some (some (vI (ag R y)), (SH T, c))) ?_
  rw [t0, t1]
  unfold ag clp
  generalize (R 8 - 2) * y = z at hm ⊢
  refine ⟨by omega, fun h => by rw [if_pos h], fun h => ⟨fun h2 => by rw [if_neg h, if_pos h2], fun h2 => by rw [if_neg h, if_neg h2]⟩⟩
theorem apr_bd {R : Int → Int} {a b : Int} : 0 ≤ apr R a b ∧ apr R a b ≤ 12 := by
  refine foldI_ind (fun i n => 0 ≤ n ∧ n ≤ i) (by omega) ?_ (by omega)
  intro i n h1 h2 h3
  try dsimp only
  split <;> omega
theorem c_nearOf {T : List Shp} {c : Cm} {R : Int → Int} {q : Int} (h : CS c R) (hR : RNG R) (hq : 0 ≤ q ∧ q < 6) : ccal 73 [vR 2, vI q] (SH T, c) = some (some (vI (ner R q)), (SH T, c)) := by
  obtain ⟨⟨e0, e2, e5, e7, e8, e11, e13, t0, t1, t2, t3, t4⟩, -, -, -, ht, hp, -⟩ := h
  have h1 := hR.1
  refine W_X7_nearOf (Q := fun Z => Z = some (some (vI (ner R q)), (SH T, c))) ?_
  refine lpI (Q := fun Z => Z = some (some (vI (ner R q)), (SH T, c))) (E := fun i (n : Int) => cev 73 1 4 [vR 2, vI q, vI n, vI i] [] (SH T, c)) (fun i n => (0 ≤ i ∧ i ≤ 12) ∧ (0 ≤ n ∧ n ≤ i) ∧ n = foldI (fun i n => if R (276 + 12 * q + i) = R (12 + 12 * R 4 + i) then n else n + 1) 0 i) 12 ?_ ?_ 0 0 ⟨by omega, by omega, rfl⟩
  · intro i n hi hI ih
    refine W_X7_nearOf_4 (Q := fun Z => Z = some (some (vI (ner R q)), (SH T, c))) ⟨fun _ => ?_, fun h => absurd hi h⟩
    rw [e8]
    refine ⟨by omega, ?_⟩
    rw [hp _ (by omega) (by omega), ht _ (by omega) (by omega)]
    rw [show 276 + (q * 12 + i) = 276 + 12 * q + i from by omega, show 12 + (R 4 * 12 + i) = 12 + 12 * R 4 + i from by omega]
    refine ⟨fun h => ⟨by omega, ih _ ⟨by omega, by omega, ?_⟩⟩, fun h => ⟨by omega, ih _ ⟨by omega, by omega, ?_⟩⟩⟩
    · rw [foldI_succ (by omega), if_pos h]; exact hI.2.2
    · rw [foldI_succ (by omega), if_neg h, ← hI.2.2]
  · intro i n hi hI
    refine W_X7_nearOf_4 (Q := fun Z => Z = some (some (vI (ner R q)), (SH T, c))) ⟨fun h => absurd h (by omega), fun _ => ?_⟩
    have : i = 12 := by omega
    subst this
    rw [hI.2.2]
    rfl

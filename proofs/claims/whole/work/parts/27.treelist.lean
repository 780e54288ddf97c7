/-! TREES: the lists -/
theorem lpL_app {g : Nat → List Nat → List Nat} {h : Nat → List Nat} (hg : ∀ q acc, g q acc = h q ++ acc) : ∀ m acc, lpL g m acc = (List.range m).flatMap h ++ acc := by
  intro m
  induction m with
  | zero => intro acc; rfl
  | succ m ih =>
    intro acc
    show lpL g m (g m acc) = _
    rw [ih, hg, List.range_succ, List.flatMap_append, List.append_assoc]
    congr 1
    show _ = (h m ++ []) ++ acc
    rw [List.append_nil]
def nxN (v q k : Nat) : Nat := Nat.add v (Nat.shiftLeft q (Nat.mul 3 k))
def dfS (n : Nat) : Nat → Nat → Nat → List Nat
  | 0, _, v => [v]
  | f + 1, k, v => (List.range (n + 1)).flatMap fun q => bif cfN v k 7 q then [] else dfS n f (k + 1) (nxN v q k)
theorem dfA_eq {n : Nat} : ∀ f k v acc, dfA n f k v acc = dfS n f k v ++ acc := by
  intro f
  induction f with
  | zero => intro k v acc; rfl
  | succ f ih =>
    intro k v acc
    refine lpL_app (h := fun q => bif cfN v k 7 q then [] else dfS n f (k + 1) (nxN v q k)) (fun q acc => ?_) (n + 1) acc
    cases cfN v k 7 q with
    | true => rfl
    | false => exact ih (k + 1) (nxN v q k) acc
theorem dfS_split {n g : Nat} : ∀ f k v, dfS n (f + g) k v = (dfS n f k v).flatMap fun u => dfS n g (k + f) u := by
  intro f
  induction f with
  | zero =>
    intro k v
    rw [Nat.zero_add]
    show _ = dfS n g (k + 0) v ++ []
    rw [List.append_nil]
    rfl
  | succ f ih =>
    intro k v
    rw [show f + 1 + g = (f + g) + 1 from by omega]
    show (List.range (n + 1)).flatMap _ = ((List.range (n + 1)).flatMap _).flatMap _
    rw [List.flatMap_assoc]
    congr 1
    funext q
    cases cfN v k 7 q with
    | true => rfl
    | false =>
      show dfS n (f + g) (k + 1) (nxN v q k) = _
      rw [ih, show k + 1 + f = k + (f + 1) from by omega]
      rfl
def brN (s z : Nat) : Nat := Nat.lor z (scN s)
def prd (la lb : List Nat) (e : Nat) : List Nat := la.flatMap fun a => lb.map fun b => a + b + e
theorem pr1_eq {a e : Nat} {acc : List Nat} : ∀ l, pr1 a e acc l = l.map (fun b => a + b + e) ++ acc := by
  intro l
  induction l with
  | nil => rfl
  | cons b l ih =>
    show Nat.add (Nat.add a b) e :: pr1 a e acc l = _
    rw [ih]
    rfl
theorem pr2_eq {lb : List Nat} {e : Nat} {acc : List Nat} : ∀ l, pr2 lb e acc l = prd l lb e ++ acc := by
  intro l
  induction l with
  | nil => rfl
  | cons a l ih =>
    show pr1 a e (pr2 lb e acc l) lb = _
    rw [pr1_eq, ih, ← List.append_assoc]
    rfl
def dpS (N : Nat) : Nat → Nat → List Nat
  | 0, _ => [0]
  | f + 1, s =>
    bif Nat.beq (rsN s) 0 then [0] else
    (List.range (otN s + 1)).flatMap fun z => bif Nat.beq (Nat.land z (otN s)) z then
      (List.range N).flatMap fun x => bif Nat.beq (Nat.mod (Nat.shiftRight (brN s z) x) 2) 1 then
        prd (dpS N f (brN s z)) (dpS N f (Nat.xor s (brN s z))) (edgN (lowN s 7) x) else [] else []
theorem dpA_eq {N : Nat} : ∀ f s acc, dpA N f s acc = dpS N f s ++ acc := by
  intro f
  induction f with
  | zero => intro s acc; rfl
  | succ f ih =>
    intro s acc
    have e0 : ∀ s, dpA N f s [] = dpS N f s := fun s => by rw [ih, List.append_nil]
    show (bif Nat.beq (rsN s) 0 then 0 :: acc else _) = (bif Nat.beq (rsN s) 0 then [0] else _) ++ acc
    cases Nat.beq (rsN s) 0 with
    | true => rfl
    | false =>
      refine lpL_app (h := fun z => bif Nat.beq (Nat.land z (otN s)) z then (List.range N).flatMap fun x => bif Nat.beq (Nat.mod (Nat.shiftRight (brN s z) x) 2) 1 then prd (dpS N f (brN s z)) (dpS N f (Nat.xor s (brN s z))) (edgN (lowN s 7) x) else [] else []) (fun z acc => ?_) (otN s + 1) acc
      cases Nat.beq (Nat.land z (otN s)) z with
      | false => rfl
      | true =>
        refine lpL_app (h := fun x => bif Nat.beq (Nat.mod (Nat.shiftRight (brN s z) x) 2) 1 then prd (dpS N f (brN s z)) (dpS N f (Nat.xor s (brN s z))) (edgN (lowN s 7) x) else []) (fun x acc => ?_) N acc
        show (bif Nat.beq (Nat.mod (Nat.shiftRight (brN s z) x) 2) 1 then pr2 (dpA N f (Nat.xor s (brN s z)) []) (edgN (lowN s 7) x) acc (dpA N f (brN s z) []) else acc) = _
        cases Nat.beq (Nat.mod (Nat.shiftRight (brN s z) x) 2) 1 with
        | false => rfl
        | true =>
          show pr2 _ _ _ _ = _
          rw [e0, e0, pr2_eq]
          rfl
/-! sorting keeps all -/
theorem mrgN_perm : ∀ f a b, (mrgN f a b).Perm (a ++ b) := by
  intro f
  induction f with
  | zero => intro a b; exact List.Perm.refl _
  | succ f ih =>
    intro a b
    cases a with
    | nil => exact List.Perm.refl _
    | cons x a =>
      cases b with
      | nil => show (x :: a).Perm ((x :: a) ++ []); rw [List.append_nil]
      | cons y b =>
        show (bif Nat.ble x y then x :: mrgN f a (y :: b) else y :: mrgN f (x :: a) b).Perm _
        cases Nat.ble x y with
        | true => exact (ih a (y :: b)).cons x
        | false => exact ((ih (x :: a) b).cons y).trans List.perm_middle.symm
theorem mprN_perm : ∀ (m : Nat) (l : List (List Nat)), l.length ≤ m → (flN (mprN l)).Perm (flN l) := by
  intro m
  induction m with
  | zero =>
    intro l h
    cases l with
    | nil => exact List.Perm.refl _
    | cons a l => exact absurd h (by simp)
  | succ m ih =>
    intro l h
    cases l with
    | nil => exact List.Perm.refl _
    | cons a l =>
      cases l with
      | nil => exact List.Perm.refl _
      | cons b l =>
        show (mrgN 100000 a b ++ flN (mprN l)).Perm (a ++ (b ++ flN l))
        rw [← List.append_assoc]
        exact (mrgN_perm _ a b).append (ih l (by simp at h; omega))
theorem srtN_perm : ∀ f l, (flN (srtN f l)).Perm (flN l) := by
  intro f
  induction f with
  | zero => intro l; exact List.Perm.refl _
  | succ f ih => intro l; exact (ih (mprN l)).trans (mprN_perm _ l (Nat.le_refl _))
theorem sgN_fl : ∀ l, flN (sgN l) = l := by
  intro l
  induction l with
  | nil => rfl
  | cons a l ih => show [a] ++ flN (sgN l) = _; rw [ih]; rfl
theorem sorN_perm (l : List Nat) : (sorN l).Perm l := by
  have := srtN_perm 15 (sgN l)
  rw [sgN_fl] at this
  exact this
theorem eqN_eq : ∀ a b, eqN a b = true → a = b := by
  intro a
  induction a with
  | nil =>
    intro b h
    cases b with
    | nil => rfl
    | cons y b => exact absurd (show false = true from h) (by decide)
  | cons x a ih =>
    intro b h
    cases b with
    | nil => exact absurd (show false = true from h) (by decide)
    | cons y b =>
      have h2 := (Bool.and_eq_true _ _).mp h
      rw [Nat.eq_of_beq_eq_true h2.1, ih b h2.2]
theorem sorN_eq {a b : List Nat} (h : eqN (sorN a) (sorN b) = true) : a.Perm b := by
  have e := eqN_eq _ _ h
  exact ((sorN_perm a).symm.trans (by rw [e])).trans (sorN_perm b)
theorem mpN_eq {f : Nat → Nat} : ∀ l, mpN f l = l.map f := by
  intro l
  induction l with
  | nil => rfl
  | cons a l ih => show f a :: mpN f l = _; rw [ih]; rfl
theorem fmN_eq {f : Nat → List Nat} : ∀ l, fmN f l = l.flatMap f := by
  intro l
  induction l with
  | nil => rfl
  | cons a l ih => show f a ++ fmN f l = _; rw [ih]; rfl
theorem alN_all {p : Nat → Bool} : ∀ l, alN p l = true → ∀ a, a ∈ l → p a = true := by
  intro l
  induction l with
  | nil => intro _ a h; exact absurd h (by simp)
  | cons b l ih =>
    intro h a ha
    have h2 := (Bool.and_eq_true _ _).mp h
    rcases List.mem_cons.mp ha with e | e
    · rw [e]; exact h2.1
    · exact ih h2.2 a e
/-- parted by a key below 8 -/
theorem fiN_perm {k : Nat → Nat} (hk : ∀ a, k a < 8) : ∀ l : List Nat, l.Perm ((List.range 8).flatMap fun c => fiN (fun a => Nat.beq (k a) c) l) := by
  intro l
  rw [List.perm_iff_count]
  intro x
  rw [List.count_flatMap]
  induction l with
  | nil => rfl
  | cons a l ih =>
    rw [List.count_cons, ih]
    have e : ∀ c, List.count x (fiN (fun a => Nat.beq (k a) c) (a :: l)) = List.count x (fiN (fun a => Nat.beq (k a) c) l) + if k a = c then (if (a == x) = true then 1 else 0) else 0 := by
      intro c
      show List.count x (bif Nat.beq (k a) c then a :: fiN (fun a => Nat.beq (k a) c) l else fiN (fun a => Nat.beq (k a) c) l) = _
      cases q : Nat.beq (k a) c with
      | true => rw [if_pos (Nat.eq_of_beq_eq_true q)]; exact List.count_cons
      | false => rw [if_neg (Nat.ne_of_beq_eq_false q)]; rfl
    have h8 := hk a
    generalize k a = ka at *
    generalize (if (a == x) = true then 1 else 0) = w at *
    simp only [List.range, List.range.loop, List.map, Function.comp, List.sum_cons, List.sum_nil, e]
    have : ka = 0 ∨ ka = 1 ∨ ka = 2 ∨ ka = 3 ∨ ka = 4 ∨ ka = 5 ∨ ka = 6 ∨ ka = 7 := by omega
    rcases this with h | h | h | h | h | h | h | h <;> subst h <;> simp <;> omega

/-! THE CLEAN INTERPRETER: as the first, but numbers that would wrap around are no answer at all (own work). What it answers, the first answers. -/
def cib {α : Type} (Z : α) (a : Nat) (x y : Int) (f : Int → α) : α := match a with
  | 0 => if -2147483648 ≤ x + y ∧ x + y < 2147483648 then f (x + y) else Z
  | 1 => if -2147483648 ≤ x - y ∧ x - y < 2147483648 then f (x - y) else Z
  | 2 => if -2147483648 ≤ x * y ∧ x * y < 2147483648 then f (x * y) else Z
  | 3 => f (iand x y)
  | 4 => f (ior x y)
  | 5 => f (ixor x y)
  | 6 => f (ishl x y)
  | 7 => f (ishr x y)
  | _ => f (iushr x y)
def clb {α : Type} (Z : α) (a : Nat) (x y : Int) (f : Int → α) : α := match a with
  | 0 => if -9223372036854775808 ≤ x + y ∧ x + y < 9223372036854775808 then f (x + y) else Z
  | 1 => if -9223372036854775808 ≤ x - y ∧ x - y < 9223372036854775808 then f (x - y) else Z
  | _ => if -9223372036854775808 ≤ x * y ∧ x * y < 9223372036854775808 then f (x * y) else Z
def cstp {α : Type} (Z : α) (J : Nat → List V → List V → Mem → α) (C : Nat → List V → List V → List V → Mem → α) (R : Option V → Mem → α) (k : List V → List V → Mem → α) (i : Ins) (ls st : List V) (M : Mem) : α :=
  match i.1 with
  | 5 => pI Z (ls.drop i.2.1) (fun y _ => if -2147483648 ≤ y + i.2.2.2 ∧ y + i.2.2.2 < 2147483648 then k (sto ls i.2.1 0 (vI (y + i.2.2.2))) st M else Z)
  | 6 => pI Z st (fun y st => pI Z st (fun x st => cib Z i.2.1 x y (fun v => k ls (vI v :: st) M)))
  | 7 => pI Z st (fun x st => if -2147483648 ≤ -x ∧ -x < 2147483648 then k ls (vI (-x) :: st) M else Z)
  | 8 => pL Z st (fun y st => pL Z st (fun x st => clb Z i.2.1 x y (fun v => k ls (vL v :: st) M)))
  | 43 => pI Z st (fun y st => pI Z st (fun x st => if (0 ≤ x ∧ x < 2147483648) ∧ 0 < y then k ls (vI (x / y) :: st) M else Z))
  | 44 => pI Z st (fun y st => pI Z st (fun x st => if (0 ≤ x ∧ x < 2147483648) ∧ 0 < y then k ls (vI (x % y) :: st) M else Z))
  | 45 => pL Z st (fun y st => pL Z st (fun x st => if (-9223372036854775808 ≤ Int.tdiv x y ∧ Int.tdiv x y < 9223372036854775808) ∧ ¬ y = 0 then k ls (vL (Int.tdiv x y) :: st) M else Z))
  | 46 => pL Z st (fun y st => pL Z st (fun x st => if (0 ≤ x ∧ x < 9223372036854775808) ∧ 0 < y then k ls (vL (x % y) :: st) M else Z))
  | 62 => pI Z st (fun x st => if -2147483648 < x ∧ x < 2147483648 then (bif Nat.ble (catS st) 8 then k ls (vI (if 0 ≤ x then x else -x) :: st) M else Z) else Z)
  | _ => stp Z J C R k i ls st M
def crunL (J : Nat → List V → List V → Mem → Res) (C : Nat → List V → Mem → Res) : List Ins → List V → List V → Mem → Res
  | [], _, _, _ => none
  | i :: l, ls, st, M => cstp (α := Res) none J (fun f args ls st M => (C f args M).elim none (fun q => crunL J C l ls (pu q.1 st) q.2)) (fun v M => some (v, M)) (fun ls st M => crunL J C l ls st M) i ls st M
def crun : Nat → Nat → Nat → Nat → List V → List V → Mem → Res
  | 0, _, _, _, _, _, _ => none
  | n + 1, m, nd, pc, ls, st, M => crunL (fun pc' ls' st' M' => crun n m nd pc' (msk (blk m pc').1 ls') st' M') (fun f args M' => bif Nat.ble (need f args + 1) nd then crun n f (need f args) 0 (mkl (inf f).1 args) [] M' else none) (blk m pc).2 ls st M
theorem w32_id {x : Int} (h1 : -2147483648 ≤ x) (h2 : x < 2147483648) : w32 x = x := by
  unfold w32
  omega
theorem w64_id {x : Int} (h1 : -9223372036854775808 ≤ x) (h2 : x < 9223372036854775808) : w64 x = x := by
  unfold w64
  omega
section ORZ
variable {α : Type} {Z : α}
theorem or_pI {st : List V} {f g : Int → List V → α} (h : ∀ x t, f x t = Z ∨ f x t = g x t) : pI Z st f = Z ∨ pI Z st f = pI Z st g := by
  rcases st with _ | ⟨x | x | x | x, t⟩
  · exact .inl rfl
  · exact h x t
  · exact .inl rfl
  · exact .inl rfl
  · exact .inl rfl
theorem or_pL {st : List V} {f g : Int → List V → α} (h : ∀ x t, f x t = Z ∨ f x t = g x t) : pL Z st f = Z ∨ pL Z st f = pL Z st g := by
  rcases st with _ | ⟨x | x | x | x, t⟩
  · exact .inl rfl
  · exact .inl rfl
  · exact h x t
  · exact .inl rfl
  · exact .inl rfl
theorem or_if {p : Prop} [Decidable p] {x y : α} (h : p → x = y) : (if p then x else Z) = Z ∨ (if p then x else Z) = y := by
  by_cases q : p
  · rw [if_pos q]; exact .inr (h q)
  · rw [if_neg q]; exact .inl rfl
theorem or_cib {a : Nat} {x y : Int} {f : Int → α} : cib Z a x y f = Z ∨ cib Z a x y f = f (ibin a x y) := by
  unfold cib
  split
  · exact or_if fun h => by show _ = f (w32 (x + y)); rw [w32_id h.1 h.2]
  · exact or_if fun h => by show _ = f (w32 (x - y)); rw [w32_id h.1 h.2]
  · exact or_if fun h => by show _ = f (w32 (x * y)); rw [w32_id h.1 h.2]
  · exact .inr rfl
  · exact .inr rfl
  · exact .inr rfl
  · exact .inr rfl
  · exact .inr rfl
  · refine .inr ?_
    rename_i h0 h1 h2 h3 h4 h5 h6 h7
    rcases a with _ | _ | _ | _ | _ | _ | _ | _ | a
    · exact absurd rfl h0
    · exact absurd rfl h1
    · exact absurd rfl h2
    · exact absurd rfl h3
    · exact absurd rfl h4
    · exact absurd rfl h5
    · exact absurd rfl h6
    · exact absurd rfl h7
    · rfl
theorem or_clb {a : Nat} {x y : Int} {f : Int → α} : clb Z a x y f = Z ∨ clb Z a x y f = f (lbin a x y) := by
  unfold clb
  split
  · exact or_if fun h => by show _ = f (w64 (x + y)); rw [w64_id h.1 h.2]
  · exact or_if fun h => by show _ = f (w64 (x - y)); rw [w64_id h.1 h.2]
  · rename_i h0 h1
    rcases a with _ | _ | a
    · exact absurd rfl h0
    · exact absurd rfl h1
    · exact or_if fun h => by show _ = f (w64 (x * y)); rw [w64_id h.1 h.2]
theorem cstp_or {J : Nat → List V → List V → Mem → α} {C : Nat → List V → List V → List V → Mem → α} {R : Option V → Mem → α} {k : List V → List V → Mem → α} (i : Ins) (ls st : List V) (M : Mem) : cstp Z J C R k i ls st M = Z ∨ cstp Z J C R k i ls st M = stp Z J C R k i ls st M := by
  obtain ⟨op, a, b, x⟩ := i
  unfold cstp
  dsimp only
  split
  · exact or_pI fun y t => or_if fun h => by rw [w32_id h.1 h.2]
  · exact or_pI fun y t => or_pI fun z u => or_cib
  · exact or_pI fun y t => or_if fun h => by rw [w32_id h.1 h.2]
  · exact or_pL fun y t => or_pL fun z u => or_clb
  · refine or_pI fun y t => or_pI fun z u => or_if fun h => ?_
    rw [if_neg (by omega), w32_id, Int.tdiv_eq_ediv_of_nonneg h.1.1]
    · rw [Int.tdiv_eq_ediv_of_nonneg h.1.1]; have := Int.ediv_nonneg h.1.1 (Int.le_of_lt h.2); omega
    · rw [Int.tdiv_eq_ediv_of_nonneg h.1.1]; have := Int.ediv_le_self y h.1.1; have := Int.ediv_le_self (a := z) y h.1.1; omega
  · refine or_pI fun y t => or_pI fun z u => or_if fun h => ?_
    rw [if_neg (by omega), w32_id, Int.tmod_eq_emod_of_nonneg h.1.1]
    · rw [Int.tmod_eq_emod_of_nonneg h.1.1]; have := Int.emod_nonneg z (b := y) (by omega); omega
    · rw [Int.tmod_eq_emod_of_nonneg h.1.1]
      have := Int.emod_add_mul_ediv z y
      have h2 := Int.mul_nonneg (Int.le_of_lt h.2) (Int.ediv_nonneg h.1.1 (Int.le_of_lt h.2))
      omega
  · refine or_pL fun y t => or_pL fun z u => or_if fun h => ?_
    rw [if_neg h.2, w64_id h.1.1 h.1.2]
  · refine or_pL fun y t => or_pL fun z u => or_if fun h => ?_
    rw [if_neg (by omega), w64_id, Int.tmod_eq_emod_of_nonneg h.1.1]
    · rw [Int.tmod_eq_emod_of_nonneg h.1.1]; have := Int.emod_nonneg z (b := y) (by omega); omega
    · rw [Int.tmod_eq_emod_of_nonneg h.1.1]
      have := Int.emod_add_mul_ediv z y
      have h2 := Int.mul_nonneg (Int.le_of_lt h.2) (Int.ediv_nonneg h.1.1 (Int.le_of_lt h.2))
      omega
  · refine or_pI fun z t => or_if fun h => ?_
    have e : (if 0 ≤ z then z else w32 (0 - z)) = (if 0 ≤ z then z else -z) := by
      by_cases q : 0 ≤ z
      · rw [if_pos q, if_pos q]
      · rw [if_neg q, if_neg q, w32_id (by omega) (by omega)]
        omega
    rw [e]
  · exact .inr rfl
end ORZ
theorem crunL_le {J J' : Nat → List V → List V → Mem → Res} {C C' : Nat → List V → Mem → Res} (hJ : ∀ p a b M R, J' p a b M = some R → J p a b M = some R) (hC : ∀ f a M R, C' f a M = some R → C f a M = some R) :
    ∀ (l : List Ins) (ls st : List V) (M : Mem) (R : Option V × Mem), crunL J' C' l ls st M = some R → runL J C l ls st M = some R := by
  intro l
  induction l with
  | nil => intro ls st M R h; exact absurd h (by simp [crunL])
  | cons i l ih =>
    intro ls st M R h
    have h1 : cstp (α := Res) none J' (fun f args ls st M => (C' f args M).elim none (fun q => crunL J' C' l ls (pu q.1 st) q.2)) (fun v M => some (v, M)) (fun ls st M => crunL J' C' l ls st M) i ls st M = some R := h
    rcases cstp_or (Z := (none : Res)) (J := J') (C := fun f args ls st M => (C' f args M).elim none (fun q => crunL J' C' l ls (pu q.1 st) q.2)) (R := fun v M => some (v, M)) (k := fun ls st M => crunL J' C' l ls st M) i ls st M with q | q
    · rw [q] at h1; exact absurd h1 (by simp)
    · rw [q, stp_act] at h1
      rw [runL_act]
      generalize act i ls st M = ac at h1 ⊢
      rcases ac with _ | ⟨⟨a, b, M1⟩ | ⟨p, a, b, M1⟩ | ⟨f, a, b, c, M1⟩ | ⟨v, M1⟩⟩
      · exact absurd h1 (by simp [elA])
      · exact ih a b M1 R h1
      · exact hJ p a b M1 R h1
      · have h' : (C' f a M1).elim none (fun q => crunL J' C' l b (pu q.1 c) q.2) = some R := h1
        show (C f a M1).elim none (fun q => runL J C l b (pu q.1 c) q.2) = some R
        cases hc : C' f a M1 with
        | none => rw [hc] at h'; exact absurd h' (by simp)
        | some q =>
          rw [hc] at h'
          rw [hC f a M1 q hc]
          exact ih b (pu q.1 c) q.2 R h'
      · exact h1
theorem crun_le : ∀ (n m nd pc : Nat) (ls st : List V) (M : Mem) (R : Option V × Mem), crun n m nd pc ls st M = some R → run n m nd pc ls st M = some R := by
  intro n
  induction n with
  | zero => intro m nd pc ls st M R h; exact absurd h (by simp [crun])
  | succ n ih =>
    intro m nd pc ls st M R h
    exact crunL_le (J' := fun pc' ls' st' M' => crun n m nd pc' (msk (blk m pc').1 ls') st' M') (C' := fun f args M' => bif Nat.ble (need f args + 1) nd then crun n f (need f args) 0 (mkl (inf f).1 args) [] M' else none)
      (J := fun pc' ls' st' M' => run n m nd pc' (msk (blk m pc').1 ls') st' M') (C := fun f args M' => bif Nat.ble (need f args + 1) nd then run n f (need f args) 0 (mkl (inf f).1 args) [] M' else none)
      (fun _ _ _ _ _ h => ih _ _ _ _ _ _ _ h)
      (fun f a M R h => by
        cases hb : Nat.ble (need f a + 1) nd with
        | false => rw [hb] at h; exact absurd h (by simp)
        | true => rw [hb] at h; exact ih _ _ _ _ _ _ _ h) _ _ _ _ _ h
section REL2
variable {α β : Type} {Rl : α → β → Prop} {Z : α} {Z' : β}
theorem rl_cib {a : Nat} {x y : Int} {f : Int → α} {g : Int → β} (hZ : Rl Z Z') (h : ∀ x, Rl (f x) (g x)) : Rl (cib Z a x y f) (cib Z' a x y g) := by
  unfold cib
  split
  · exact rl_if _ hZ (h _)
  · exact rl_if _ hZ (h _)
  · exact rl_if _ hZ (h _)
  · exact h _
  · exact h _
  · exact h _
  · exact h _
  · exact h _
  · exact h _
theorem rl_clb {a : Nat} {x y : Int} {f : Int → α} {g : Int → β} (hZ : Rl Z Z') (h : ∀ x, Rl (f x) (g x)) : Rl (clb Z a x y f) (clb Z' a x y g) := by
  unfold clb
  split
  · exact rl_if _ hZ (h _)
  · exact rl_if _ hZ (h _)
  · exact rl_if _ hZ (h _)
set_option maxHeartbeats 4000000 in
theorem cstp_rel {J : Nat → List V → List V → Mem → α} {C : Nat → List V → List V → List V → Mem → α} {R : Option V → Mem → α} {k : List V → List V → Mem → α} {J' : Nat → List V → List V → Mem → β} {C' : Nat → List V → List V → List V → Mem → β} {R' : Option V → Mem → β} {k' : List V → List V → Mem → β}
    (hZ : Rl Z Z') (hJ : ∀ p a b M, Rl (J p a b M) (J' p a b M)) (hC : ∀ f a b c M, Rl (C f a b c M) (C' f a b c M)) (hR : ∀ v M, Rl (R v M) (R' v M)) (hk : ∀ a b M, Rl (k a b M) (k' a b M)) (i : Ins) (ls st : List V) (M : Mem) : Rl (cstp Z J C R k i ls st M) (cstp Z' J' C' R' k' i ls st M) := by
  obtain ⟨op, a, b, x⟩ := i
  unfold cstp
  dsimp only
  split
  · exact rl_pI hZ fun _ _ => rl_if _ hZ (hk _ _ _)
  · exact rl_pI hZ fun _ _ => rl_pI hZ fun _ _ => rl_cib hZ fun _ => hk _ _ _
  · exact rl_pI hZ fun _ _ => rl_if _ hZ (hk _ _ _)
  · exact rl_pL hZ fun _ _ => rl_pL hZ fun _ _ => rl_clb hZ fun _ => hk _ _ _
  · exact rl_pI hZ fun _ _ => rl_pI hZ fun _ _ => rl_if _ hZ (hk _ _ _)
  · exact rl_pI hZ fun _ _ => rl_pI hZ fun _ _ => rl_if _ hZ (hk _ _ _)
  · exact rl_pL hZ fun _ _ => rl_pL hZ fun _ _ => rl_if _ hZ (hk _ _ _)
  · exact rl_pL hZ fun _ _ => rl_pL hZ fun _ _ => rl_if _ hZ (hk _ _ _)
  · exact rl_pI hZ fun _ _ => rl_if _ hZ (rl_bif hZ (hk _ _ _))
  · exact stp_rel hZ hJ hC hR hk _ _ _ _
end REL2
/-- what an instruction does, as a value -/
def cact (i : Ins) (ls st : List V) (M : Mem) : Act := cstp (α := Act) none (fun p a b M => some (.inr (.inl (p, a, b, M)))) (fun f a b c M => some (.inr (.inr (.inl (f, a, b, c, M))))) (fun v M => some (.inr (.inr (.inr (v, M))))) (fun a b M => some (.inl (a, b, M))) i ls st M
theorem cstp_cact {α : Type} (Z : α) (J : Nat → List V → List V → Mem → α) (C : Nat → List V → List V → List V → Mem → α) (R : Option V → Mem → α) (k : List V → List V → Mem → α) (i : Ins) (ls st : List V) (M : Mem) : cstp Z J C R k i ls st M = elA Z J C R k (cact i ls st M) := by
  unfold cact
  exact cstp_rel (Rl := fun x a => x = elA Z J C R k a) (Z' := none) (J' := fun p a b M => some (.inr (.inl (p, a, b, M)))) (C' := fun f a b c M => some (.inr (.inr (.inl (f, a, b, c, M))))) (R' := fun v M => some (.inr (.inr (.inr (v, M))))) (k' := fun a b M => some (.inl (a, b, M))) rfl (fun _ _ _ _ => rfl) (fun _ _ _ _ _ => rfl) (fun _ _ => rfl) (fun _ _ _ => rfl) i ls st M
/-- one row of the list -/
theorem crunL_cact (J : Nat → List V → List V → Mem → Res) (C : Nat → List V → Mem → Res) (i : Ins) (l : List Ins) (ls st : List V) (M : Mem) : crunL J C (i :: l) ls st M = elA (α := Res) none J (fun f args ls st M => (C f args M).elim none (fun q => crunL J C l ls (pu q.1 st) q.2)) (fun v M => some (v, M)) (fun ls st M => crunL J C l ls st M) (cact i ls st M) := by
  show cstp (α := Res) _ _ _ _ _ _ _ _ _ = _
  exact cstp_cact _ _ _ _ _ _ _ _ _
theorem crunL_lim {J : Nat → List V → List V → Mem → Res} {C : Nat → List V → Mem → Res} {Jn : Nat → Nat → List V → List V → Mem → Res} {Cn : Nat → Nat → List V → Mem → Res}
    (hJ : ∀ p a b M R, J p a b M = some R → ∃ n0, ∀ n, n0 ≤ n → Jn n p a b M = some R) (hC : ∀ f a M R, C f a M = some R → ∃ n0, ∀ n, n0 ≤ n → Cn n f a M = some R) :
    ∀ (l : List Ins) (ls st : List V) (M : Mem) (R : Option V × Mem), crunL J C l ls st M = some R → ∃ n0, ∀ n, n0 ≤ n → crunL (Jn n) (Cn n) l ls st M = some R := by
  intro l
  induction l with
  | nil => intro ls st M R h; exact absurd h (by simp [crunL])
  | cons i l ih =>
    intro ls st M R h
    rw [crunL_cact] at h
    have key : ∀ n, crunL (Jn n) (Cn n) (i :: l) ls st M = _ := fun n => crunL_cact (Jn n) (Cn n) i l ls st M
    generalize cact i ls st M = ac at h key
    rcases ac with _ | ⟨⟨a, b, M1⟩ | ⟨p, a, b, M1⟩ | ⟨f, a, b, c, M1⟩ | ⟨v, M1⟩⟩
    · exact absurd h (by simp [elA])
    · obtain ⟨n0, h0⟩ := ih a b M1 R h
      exact ⟨n0, fun n hn => (key n).trans (h0 n hn)⟩
    · obtain ⟨n0, h0⟩ := hJ p a b M1 R h
      exact ⟨n0, fun n hn => (key n).trans (h0 n hn)⟩
    · have h' : (C f a M1).elim none (fun q => crunL J C l b (pu q.1 c) q.2) = some R := h
      cases hc : C f a M1 with
      | none => rw [hc] at h'; exact absurd h' (by simp)
      | some q =>
        rw [hc] at h'
        obtain ⟨n0, h0⟩ := hC f a M1 q hc
        obtain ⟨n1, h1⟩ := ih b (pu q.1 c) q.2 R h'
        refine ⟨max n0 n1, fun n hn => (key n).trans ?_⟩
        show (Cn n f a M1).elim none (fun q => crunL (Jn n) (Cn n) l b (pu q.1 c) q.2) = some R
        rw [h0 n (Nat.le_trans (Nat.le_max_left _ _) hn)]
        exact h1 n (Nat.le_trans (Nat.le_max_right _ _) hn)
    · exact ⟨0, fun n hn => (key n).trans h⟩
theorem crun_mono1 : ∀ (n m nd pc : Nat) (ls st : List V) (M : Mem) (R : Option V × Mem), crun n m nd pc ls st M = some R → crun (n + 1) m nd pc ls st M = some R := by
  intro n
  induction n with
  | zero => intro m nd pc ls st M R h; exact absurd h (by simp [crun])
  | succ n ih =>
    intro m nd pc ls st M R h
    have h' : crunL (fun pc' ls' st' M' => crun n m nd pc' (msk (blk m pc').1 ls') st' M') (fun f args M' => bif Nat.ble (need f args + 1) nd then crun n f (need f args) 0 (mkl (inf f).1 args) [] M' else none) (blk m pc).2 ls st M = some R := h
    obtain ⟨n0, h0⟩ := crunL_lim (Jn := fun _ pc' ls' st' M' => crun (n + 1) m nd pc' (msk (blk m pc').1 ls') st' M') (Cn := fun _ f args M' => bif Nat.ble (need f args + 1) nd then crun (n + 1) f (need f args) 0 (mkl (inf f).1 args) [] M' else none)
      (fun p a b M R h => ⟨0, fun _ _ => ih _ _ _ _ _ _ _ h⟩)
      (fun f a M R h => ⟨0, fun _ _ => by
        cases hb : Nat.ble (need f a + 1) nd with
        | false => rw [hb] at h; exact absurd h (by simp)
        | true => rw [hb] at h; exact ih _ _ _ _ _ _ _ h⟩) _ _ _ _ _ h'
    exact h0 n0 (Nat.le_refl _)
theorem crun_mono {n n' : Nat} (hn : n ≤ n') {m nd pc : Nat} {ls st : List V} {M : Mem} {R : Option V × Mem} (h : crun n m nd pc ls st M = some R) : crun n' m nd pc ls st M = some R := by
  induction hn with
  | refl => exact h
  | step _ ih => exact crun_mono1 _ _ _ _ _ _ _ _ ih
noncomputable def cev (m nd pc : Nat) (ls st : List V) (M : Mem) : Res := @dite Res (∃ n, crun n m nd pc ls st M ≠ none) (Classical.propDecidable _) (fun h => crun (Classical.choose h) m nd pc ls st M) (fun _ => none)
theorem cev_crun {m nd pc : Nat} {ls st : List V} {M : Mem} {R : Option V × Mem} : cev m nd pc ls st M = some R ↔ ∃ n, crun n m nd pc ls st M = some R := by
  unfold cev
  by_cases h : ∃ n, crun n m nd pc ls st M ≠ none
  · rw [dif_pos h]
    constructor
    · intro q; exact ⟨_, q⟩
    · rintro ⟨n, q⟩
      have hs := Classical.choose_spec h
      cases hr : crun (Classical.choose h) m nd pc ls st M with
      | none => exact absurd hr hs
      | some R' =>
        have a := crun_mono (Nat.le_max_left (Classical.choose h) n) hr
        have b := crun_mono (Nat.le_max_right (Classical.choose h) n) q
        rw [a] at b
        exact b
  · rw [dif_neg h]
    constructor
    · intro q; exact absurd q (by simp)
    · rintro ⟨n, q⟩
      exact absurd ⟨n, by rw [q]; simp⟩ h
/-- a call -/
noncomputable def ccal (f : Nat) (args : List V) (M : Mem) : Res := cev f (need f args) 0 (mkl (inf f).1 args) [] M
theorem cev_eq (m nd pc : Nat) (ls st : List V) (M : Mem) : cev m nd pc ls st M = crunL (fun pc' ls' st' M' => cev m nd pc' (msk (blk m pc').1 ls') st' M') (fun f args M' => bif Nat.ble (need f args + 1) nd then ccal f args M' else none) (blk m pc).2 ls st M := by
  have up1 : ∀ R, cev m nd pc ls st M = some R → crunL (fun pc' ls' st' M' => cev m nd pc' (msk (blk m pc').1 ls') st' M') (fun f args M' => bif Nat.ble (need f args + 1) nd then ccal f args M' else none) (blk m pc).2 ls st M = some R := by
    intro R h
    obtain ⟨n, h⟩ := cev_crun.mp h
    cases n with
    | zero => exact absurd h (by simp [crun])
    | succ n =>
      obtain ⟨n0, h0⟩ := crunL_lim (Jn := fun _ pc' ls' st' M' => cev m nd pc' (msk (blk m pc').1 ls') st' M') (Cn := fun _ f args M' => bif Nat.ble (need f args + 1) nd then ccal f args M' else none)
        (fun p a b M R h => ⟨0, fun _ _ => cev_crun.mpr ⟨n, h⟩⟩)
        (fun f a M R h => ⟨0, fun _ _ => by
          cases hb : Nat.ble (need f a + 1) nd with
          | false => rw [hb] at h; exact absurd h (by simp)
          | true => rw [hb] at h; exact cev_crun.mpr ⟨n, h⟩⟩) _ _ _ _ _ (show crunL (fun pc' ls' st' M' => crun n m nd pc' (msk (blk m pc').1 ls') st' M') (fun f args M' => bif Nat.ble (need f args + 1) nd then crun n f (need f args) 0 (mkl (inf f).1 args) [] M' else none) (blk m pc).2 ls st M = some R from h)
      exact h0 n0 (Nat.le_refl _)
  have down1 : ∀ R, crunL (fun pc' ls' st' M' => cev m nd pc' (msk (blk m pc').1 ls') st' M') (fun f args M' => bif Nat.ble (need f args + 1) nd then ccal f args M' else none) (blk m pc).2 ls st M = some R → cev m nd pc ls st M = some R := by
    intro R h
    obtain ⟨n0, h0⟩ := crunL_lim (Jn := fun n pc' ls' st' M' => crun n m nd pc' (msk (blk m pc').1 ls') st' M') (Cn := fun n f args M' => bif Nat.ble (need f args + 1) nd then crun n f (need f args) 0 (mkl (inf f).1 args) [] M' else none)
      (fun p a b M R h => by
        obtain ⟨n, hn⟩ := cev_crun.mp h
        exact ⟨n, fun n' h' => crun_mono h' hn⟩)
      (fun f a M R h => by
        cases hb : Nat.ble (need f a + 1) nd with
        | false => rw [hb] at h; exact absurd h (by simp)
        | true =>
          rw [hb] at h
          obtain ⟨n, hn⟩ := cev_crun.mp (show ccal f a M = some R from h)
          exact ⟨n, fun n' h' => crun_mono h' hn⟩) _ _ _ _ _ h
    exact cev_crun.mpr ⟨n0 + 1, h0 n0 (Nat.le_refl _)⟩
  cases h1 : cev m nd pc ls st M with
  | some R => exact (up1 R h1).symm
  | none =>
    cases h2 : crunL (fun pc' ls' st' M' => cev m nd pc' (msk (blk m pc').1 ls') st' M') (fun f args M' => bif Nat.ble (need f args + 1) nd then ccal f args M' else none) (blk m pc).2 ls st M with
    | none => rfl
    | some R => rw [down1 R h2] at h1; exact absurd h1 (by simp)
theorem cev_le {m nd pc : Nat} {ls st : List V} {M : Mem} {R : Option V × Mem} (h : cev m nd pc ls st M = some R) : ∃ n, run n m nd pc ls st M = some R := by
  obtain ⟨n, h⟩ := cev_crun.mp h
  exact ⟨n, crun_le _ _ _ _ _ _ _ _ h⟩

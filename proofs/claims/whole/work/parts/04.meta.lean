/-! THE INTERPRETER'S LIMIT: ev, its equation. -/
section REL
variable {α β : Type} {Rl : α → β → Prop} {Z : α} {Z' : β}
theorem rl_pV {st : List V} {f : V → List V → α} {g : V → List V → β} (hZ : Rl Z Z') (h : ∀ x t, Rl (f x t) (g x t)) : Rl (pV Z st f) (pV Z' st g) := by
  rcases st with _ | ⟨v, t⟩
  · exact hZ
  · exact h v t
theorem rl_pI {st : List V} {f : Int → List V → α} {g : Int → List V → β} (hZ : Rl Z Z') (h : ∀ x t, Rl (f x t) (g x t)) : Rl (pI Z st f) (pI Z' st g) := by
  rcases st with _ | ⟨x | x | x | x, t⟩
  · exact hZ
  · exact h x t
  · exact hZ
  · exact hZ
  · exact hZ
theorem rl_pL {st : List V} {f : Int → List V → α} {g : Int → List V → β} (hZ : Rl Z Z') (h : ∀ x t, Rl (f x t) (g x t)) : Rl (pL Z st f) (pL Z' st g) := by
  rcases st with _ | ⟨x | x | x | x, t⟩
  · exact hZ
  · exact hZ
  · exact h x t
  · exact hZ
  · exact hZ
theorem rl_pR {st : List V} {f : Int → List V → α} {g : Int → List V → β} (hZ : Rl Z Z') (h : ∀ x t, Rl (f x t) (g x t)) : Rl (pR Z st f) (pR Z' st g) := by
  rcases st with _ | ⟨x | x | x | x, t⟩
  · exact hZ
  · exact hZ
  · exact hZ
  · exact h x t
  · exact hZ
theorem rl_pE {st : List V} {y : α} {z : β} (hZ : Rl Z Z') (h : Rl y z) : Rl (pE Z st y) (pE Z' st z) := by
  rcases st with _ | ⟨v, t⟩
  · exact h
  · exact hZ
theorem rl_el {γ : Type} {o : Option γ} {f : γ → α} {g : γ → β} (hZ : Rl Z Z') (h : ∀ x, Rl (f x) (g x)) : Rl (o.elim Z f) (o.elim Z' g) := by
  cases o with
  | none => exact hZ
  | some x => exact h x
theorem rl_pD {L : List Shp} {r : Int} {f : Nat → Shp → α} {g : Nat → Shp → β} (hZ : Rl Z Z') (h : ∀ x t, Rl (f x t) (g x t)) : Rl (pD Z L r f) (pD Z' L r g) := rl_el hZ fun p => h p.1 p.2
theorem rl_if {c : Prop} (d : Decidable c) {x : α} {y : β} (hZ : Rl Z Z') (h : Rl x y) : Rl (@ite α c d x Z) (@ite β c d y Z') := by
  cases d with
  | isTrue q => exact h
  | isFalse q => exact hZ
theorem rl_if2 {c : Prop} (d : Decidable c) {x x' : α} {y y' : β} (h : Rl x y) (h' : Rl x' y') : Rl (@ite α c d x x') (@ite β c d y y') := by
  cases d with
  | isTrue q => exact h
  | isFalse q => exact h'
theorem rl_bif {c : Bool} {x : α} {y : β} (hZ : Rl Z Z') (h : Rl x y) : Rl (bif c then x else Z) (bif c then y else Z') := by
  cases c with
  | true => exact h
  | false => exact hZ
theorem rl_cnd {a : Nat} {x y : Int} {t e : α} {t' e' : β} (ht : Rl t t') (he : Rl e e') : Rl (cnd a x y t e) (cnd a x y t' e') := by
  rcases a with _ | _ | _ | _ | _ | a
  · exact rl_if2 _ ht he
  · exact rl_if2 _ he ht
  · exact rl_if2 _ ht he
  · exact rl_if2 _ he ht
  · exact rl_if2 _ ht he
  · exact rl_if2 _ he ht
theorem rl_swc {x : Int} {J : Nat → α} {J' : Nat → β} {d : Nat} (h : ∀ t, Rl (J t) (J' t)) : ∀ l : List (Int × Nat), Rl (swc x J d l) (swc x J' d l)
  | [] => h d
  | (v, t) :: l => rl_if2 _ (h t) (rl_swc h l)
theorem rl_rcv {kd rk : Nat} {L : List Shp} {args : List V} {y : α} {z : β} (hZ : Rl Z Z') (h : Rl y z) : Rl (rcv Z kd rk L args y) (rcv Z' kd rk L args z) := by
  rcases kd with _ | _ | _ | _ | _ | _ | _ | kd
  · exact h
  · exact h
  · rcases args with _ | ⟨x | x | x | x, t⟩ <;> first | exact hZ | exact rl_el hZ fun p => rl_bif hZ h
  · rcases args with _ | ⟨x | x | x | x, t⟩ <;> first | exact hZ | exact rl_el hZ fun p => rl_bif hZ h
  · rcases args with _ | ⟨x | x | x | x, t⟩ <;> first | exact hZ | exact rl_el hZ fun p => h
  · rcases args with _ | ⟨x | x | x | x, t⟩ <;> first | exact hZ | exact rl_el hZ fun p => h
  · rcases args with _ | ⟨x | x | x | x, t⟩ <;> first | exact hZ | exact rl_el hZ fun p => h
  · exact hZ
set_option maxHeartbeats 4000000 in
theorem stp_rel {J : Nat → List V → List V → Mem → α} {C : Nat → List V → List V → List V → Mem → α} {R : Option V → Mem → α} {k : List V → List V → Mem → α} {J' : Nat → List V → List V → Mem → β} {C' : Nat → List V → List V → List V → Mem → β} {R' : Option V → Mem → β} {k' : List V → List V → Mem → β}
    (hZ : Rl Z Z') (hJ : ∀ p a b M, Rl (J p a b M) (J' p a b M)) (hC : ∀ f a b c M, Rl (C f a b c M) (C' f a b c M)) (hR : ∀ v M, Rl (R v M) (R' v M)) (hk : ∀ a b M, Rl (k a b M) (k' a b M)) (i : Ins) (ls st : List V) (M : Mem) : Rl (stp Z J C R k i ls st M) (stp Z' J' C' R' k' i ls st M) := by
  obtain ⟨op, a, b, x⟩ := i
  unfold stp
  dsimp only
  split
  · exact hk _ _ _
  · exact hk _ _ _
  · exact hk _ _ _
  · exact rl_el hZ fun _ => rl_bif hZ (hk _ _ _)
  · exact rl_pV hZ fun _ _ => rl_bif hZ (hk _ _ _)
  · exact rl_pI hZ fun _ _ => hk _ _ _
  · exact rl_pI hZ fun _ _ => rl_pI hZ fun _ _ => hk _ _ _
  · exact rl_pI hZ fun _ _ => hk _ _ _
  · exact rl_pL hZ fun _ _ => rl_pL hZ fun _ _ => hk _ _ _
  · exact rl_pL hZ fun _ _ => rl_pL hZ fun _ _ => rl_if2 _ (hk _ _ _) (rl_if2 _ (hk _ _ _) (hk _ _ _))
  · exact rl_pI hZ fun _ _ => hk _ _ _
  · exact rl_pV hZ fun _ _ => rl_bif hZ (hk _ _ _)
  · exact rl_pI hZ fun _ _ => rl_cnd (hJ _ _ _ _) (hk _ _ _)
  · exact rl_pI hZ fun _ _ => rl_pI hZ fun _ _ => rl_cnd (hJ _ _ _ _) (hk _ _ _)
  · exact rl_pR hZ fun _ _ => rl_if2 _ (hk _ _ _) (rl_pD hZ fun _ _ => hJ _ _ _ _)
  · exact hk _ _ _
  · exact hJ _ _ _ _
  · exact rl_pI hZ fun _ _ => rl_swc (fun _ => hJ _ _ _ _) _
  · exact rl_pR hZ fun _ _ => rl_pD hZ fun _ _ => rl_bif hZ (hk _ _ _)
  · exact rl_pR hZ fun _ _ => rl_pD hZ fun _ _ => rl_bif hZ (hk _ _ _)
  · exact rl_pR hZ fun _ _ => rl_pD hZ fun _ _ => rl_bif hZ (hk _ _ _)
  · exact rl_pR hZ fun _ _ => rl_pD hZ fun _ _ => rl_bif hZ (hk _ _ _)
  · exact rl_pI hZ fun _ _ => rl_pR hZ fun _ _ => rl_pD hZ fun _ _ => rl_bif hZ (hk _ _ _)
  · exact rl_pL hZ fun _ _ => rl_pR hZ fun _ _ => rl_pD hZ fun _ _ => rl_bif hZ (hk _ _ _)
  · exact rl_pI hZ fun _ _ => rl_pR hZ fun _ _ => rl_pD hZ fun _ _ => rl_bif hZ (rl_if _ hZ (hk _ _ _))
  · exact rl_pR hZ fun _ _ => rl_pR hZ fun _ _ => rl_pD hZ fun _ _ => rl_bif hZ (rl_pD hZ fun _ _ => hk _ _ _)
  · exact rl_pI hZ fun _ _ => rl_pR hZ fun _ _ => rl_pD hZ fun _ _ => rl_bif hZ (rl_if _ hZ (hk _ _ _))
  · exact rl_pI hZ fun _ _ => rl_pI hZ fun _ _ => rl_pR hZ fun _ _ => rl_pD hZ fun _ _ => rl_bif hZ (rl_if _ hZ (hk _ _ _))
  · exact rl_pR hZ fun _ _ => rl_pD hZ fun _ _ => rl_bif hZ (hk _ _ _)
  · exact rl_pI hZ fun _ _ => rl_pR hZ fun _ _ => rl_if _ hZ (rl_if _ hZ (hk _ _ _))
  · exact rl_pR hZ fun _ _ => rl_if _ hZ (hk _ _ _)
  · exact rl_pR hZ fun _ _ => rl_el hZ fun _ => hk _ _ _
  · exact rl_pR hZ fun _ _ => rl_el hZ fun _ => hk _ _ _
  · exact rl_pI hZ fun _ _ => rl_pR hZ fun _ _ => rl_el hZ fun _ => rl_if _ hZ (hk _ _ _)
  · exact rl_pR hZ fun _ _ => rl_el hZ fun _ => hk _ _ _
  · exact hk _ _ _
  · exact hk _ _ _
  · exact rl_pI hZ fun _ _ => rl_if _ hZ (hk _ _ _)
  · exact rl_pI hZ fun _ _ => rl_if _ hZ (hk _ _ _)
  · exact rl_bif hZ (rl_rcv hZ (hC _ _ _ _ _))
  · exact rl_pR hZ fun _ _ => rl_pD hZ fun _ _ => rl_bif hZ (hk _ _ _)
  · exact rl_pI hZ fun _ _ => rl_pI hZ fun _ _ => rl_pR hZ fun _ _ => rl_pI hZ fun _ _ => rl_pR hZ fun _ _ => rl_pD hZ fun _ _ => rl_pD hZ fun _ _ => rl_bif hZ (rl_if _ hZ (hk _ _ _))
  · exact rl_pE hZ (hR _ _)
  · exact rl_pI hZ fun _ _ => rl_pI hZ fun _ _ => rl_if2 _ hZ (hk _ _ _)
  · exact rl_pI hZ fun _ _ => rl_pI hZ fun _ _ => rl_if2 _ hZ (hk _ _ _)
  · exact rl_pL hZ fun _ _ => rl_pL hZ fun _ _ => rl_if2 _ hZ (hk _ _ _)
  · exact rl_pL hZ fun _ _ => rl_pL hZ fun _ _ => rl_if2 _ hZ (hk _ _ _)
  · exact hk _ _ _
  · exact rl_pL hZ fun _ _ => hk _ _ _
  · exact rl_pI hZ fun _ _ => rl_if _ hZ (hk _ _ _)
  · exact rl_pV hZ fun _ _ => rl_pV hZ fun _ _ => rl_bif hZ (hk _ _ _)
  · exact rl_pV hZ fun _ _ => rl_bif hZ (hk _ _ _)
  · exact rl_pL hZ fun _ _ => rl_pI hZ fun _ _ => rl_pR hZ fun _ _ => rl_pD hZ fun _ _ => rl_bif hZ (rl_if _ hZ (hk _ _ _))
  · exact rl_pI hZ fun _ _ => rl_pI hZ fun _ _ => rl_pR hZ fun _ _ => rl_pD hZ fun _ _ => rl_bif hZ (rl_if _ hZ (rl_if _ hZ (hk _ _ _)))
  · exact rl_pR hZ fun _ _ => rl_pI hZ fun _ _ => rl_pR hZ fun _ _ => rl_pD hZ fun _ _ => rl_bif hZ (rl_if _ hZ (rl_bif hZ (hk _ _ _)))
  · exact rl_pI hZ fun _ _ => rl_pE hZ (hR _ _)
  · exact rl_pL hZ fun _ _ => rl_pE hZ (hR _ _)
  · exact rl_pR hZ fun _ _ => rl_pE hZ (hR _ _)
  · exact rl_pI hZ fun _ _ => rl_pE hZ (rl_if _ hZ (hR _ _))
  · exact rl_pI hZ fun _ _ => rl_pE hZ (rl_if _ hZ (hR _ _))
  · exact rl_pI hZ fun _ _ => rl_pE hZ (rl_if _ hZ (hR _ _))
  · exact hk _ _ _
  · exact rl_pI hZ fun _ _ => rl_bif hZ (hk _ _ _)
  · exact rl_pI hZ fun _ _ => rl_pI hZ fun _ _ => rl_bif hZ (hk _ _ _)
  · exact rl_pI hZ fun _ _ => rl_pI hZ fun _ _ => rl_bif hZ (hk _ _ _)
  · exact hZ
end REL
/-- what an instruction does, as a value -/
abbrev Act : Type := Option ((List V × List V × Mem) ⊕ (Nat × List V × List V × Mem) ⊕ (Nat × List V × List V × List V × Mem) ⊕ (Option V × Mem))
def act (i : Ins) (ls st : List V) (M : Mem) : Act := stp (α := Act) none (fun p a b M => some (.inr (.inl (p, a, b, M)))) (fun f a b c M => some (.inr (.inr (.inl (f, a, b, c, M))))) (fun v M => some (.inr (.inr (.inr (v, M))))) (fun a b M => some (.inl (a, b, M))) i ls st M
def elA {α : Type} (Z : α) (J : Nat → List V → List V → Mem → α) (C : Nat → List V → List V → List V → Mem → α) (R : Option V → Mem → α) (k : List V → List V → Mem → α) (a : Act) : α := match a with
  | none => Z
  | some (.inl (a, b, M)) => k a b M
  | some (.inr (.inl (p, a, b, M))) => J p a b M
  | some (.inr (.inr (.inl (f, a, b, c, M)))) => C f a b c M
  | some (.inr (.inr (.inr (v, M)))) => R v M
theorem stp_act {α : Type} (Z : α) (J : Nat → List V → List V → Mem → α) (C : Nat → List V → List V → List V → Mem → α) (R : Option V → Mem → α) (k : List V → List V → Mem → α) (i : Ins) (ls st : List V) (M : Mem) : stp Z J C R k i ls st M = elA Z J C R k (act i ls st M) := by
  unfold act
  exact stp_rel (Rl := fun x a => x = elA Z J C R k a) (Z' := none) (J' := fun p a b M => some (.inr (.inl (p, a, b, M)))) (C' := fun f a b c M => some (.inr (.inr (.inl (f, a, b, c, M))))) (R' := fun v M => some (.inr (.inr (.inr (v, M))))) (k' := fun a b M => some (.inl (a, b, M))) rfl (fun _ _ _ _ => rfl) (fun _ _ _ _ _ => rfl) (fun _ _ => rfl) (fun _ _ _ => rfl) i ls st M
/-- one row of the list -/
theorem runL_act (J : Nat → List V → List V → Mem → Res) (C : Nat → List V → Mem → Res) (i : Ins) (l : List Ins) (ls st : List V) (M : Mem) : runL J C (i :: l) ls st M = elA (α := Res) none J (fun f args ls st M => (C f args M).elim none (fun q => runL J C l ls (pu q.1 st) q.2)) (fun v M => some (v, M)) (fun ls st M => runL J C l ls st M) (act i ls st M) := by
  show stp (α := Res) _ _ _ _ _ _ _ _ _ = _
  exact stp_act _ _ _ _ _ _ _ _ _
/-- families that come to a limit -/
def Lim {ι : Type} (g : ι → Res) (G : Nat → ι → Res) : Prop := ∀ i R, g i = some R → ∃ n0, ∀ n, n0 ≤ n → G n i = some R
theorem runL_lim {J : Nat → List V → List V → Mem → Res} {C : Nat → List V → Mem → Res} {Jn : Nat → Nat → List V → List V → Mem → Res} {Cn : Nat → Nat → List V → Mem → Res}
    (hJ : ∀ p a b M R, J p a b M = some R → ∃ n0, ∀ n, n0 ≤ n → Jn n p a b M = some R) (hC : ∀ f a M R, C f a M = some R → ∃ n0, ∀ n, n0 ≤ n → Cn n f a M = some R) :
    ∀ (l : List Ins) (ls st : List V) (M : Mem) (R : Option V × Mem), runL J C l ls st M = some R → ∃ n0, ∀ n, n0 ≤ n → runL (Jn n) (Cn n) l ls st M = some R := by
  intro l
  induction l with
  | nil => intro ls st M R h; exact absurd h (by simp [runL])
  | cons i l ih =>
    intro ls st M R h
    rw [runL_act] at h
    have key : ∀ n, runL (Jn n) (Cn n) (i :: l) ls st M = _ := fun n => runL_act (Jn n) (Cn n) i l ls st M
    generalize act i ls st M = ac at h key
    rcases ac with _ | ⟨⟨a, b, M1⟩ | ⟨p, a, b, M1⟩ | ⟨f, a, b, c, M1⟩ | ⟨v, M1⟩⟩
    · exact absurd h (by simp [elA])
    · obtain ⟨n0, h0⟩ := ih a b M1 R h
      exact ⟨n0, fun n hn => (key n).trans (h0 n hn)⟩
    · obtain ⟨n0, h0⟩ := hJ p a b M1 R h
      exact ⟨n0, fun n hn => (key n).trans (h0 n hn)⟩
    · have h' : (C f a M1).elim none (fun q => runL J C l b (pu q.1 c) q.2) = some R := h
      cases hc : C f a M1 with
      | none => rw [hc] at h'; exact absurd h' (by simp)
      | some q =>
        rw [hc] at h'
        obtain ⟨n0, h0⟩ := hC f a M1 q hc
        obtain ⟨n1, h1⟩ := ih b (pu q.1 c) q.2 R h'
        refine ⟨max n0 n1, fun n hn => (key n).trans ?_⟩
        show (Cn n f a M1).elim none (fun q => runL (Jn n) (Cn n) l b (pu q.1 c) q.2) = some R
        rw [h0 n (Nat.le_trans (Nat.le_max_left _ _) hn)]
        exact h1 n (Nat.le_trans (Nat.le_max_right _ _) hn)
    · exact ⟨0, fun n hn => (key n).trans h⟩
theorem run_mono1 : ∀ (n m nd pc : Nat) (ls st : List V) (M : Mem) (R : Option V × Mem), run n m nd pc ls st M = some R → run (n + 1) m nd pc ls st M = some R := by
  intro n
  induction n with
  | zero => intro m nd pc ls st M R h; exact absurd h (by simp [run])
  | succ n ih =>
    intro m nd pc ls st M R h
    have h' : runL (fun pc' ls' st' M' => run n m nd pc' (msk (blk m pc').1 ls') st' M') (fun f args M' => bif Nat.ble (need f args + 1) nd then run n f (need f args) 0 (mkl (inf f).1 args) [] M' else none) (blk m pc).2 ls st M = some R := h
    obtain ⟨n0, h0⟩ := runL_lim (Jn := fun _ pc' ls' st' M' => run (n + 1) m nd pc' (msk (blk m pc').1 ls') st' M') (Cn := fun _ f args M' => bif Nat.ble (need f args + 1) nd then run (n + 1) f (need f args) 0 (mkl (inf f).1 args) [] M' else none)
      (fun p a b M R h => ⟨0, fun _ _ => ih _ _ _ _ _ _ _ h⟩)
      (fun f a M R h => ⟨0, fun _ _ => by
        cases hb : Nat.ble (need f a + 1) nd with
        | false => rw [hb] at h; exact absurd h (by simp)
        | true => rw [hb] at h; exact ih _ _ _ _ _ _ _ h⟩) _ _ _ _ _ h'
    exact h0 n0 (Nat.le_refl _)
theorem run_mono {n n' : Nat} (hn : n ≤ n') {m nd pc : Nat} {ls st : List V} {M : Mem} {R : Option V × Mem} (h : run n m nd pc ls st M = some R) : run n' m nd pc ls st M = some R := by
  induction hn with
  | refl => exact h
  | step _ ih => exact run_mono1 _ _ _ _ _ _ _ _ ih
noncomputable def ev (m nd pc : Nat) (ls st : List V) (M : Mem) : Res := @dite Res (∃ n, run n m nd pc ls st M ≠ none) (Classical.propDecidable _) (fun h => run (Classical.choose h) m nd pc ls st M) (fun _ => none)
theorem ev_run {m nd pc : Nat} {ls st : List V} {M : Mem} {R : Option V × Mem} : ev m nd pc ls st M = some R ↔ ∃ n, run n m nd pc ls st M = some R := by
  unfold ev
  by_cases h : ∃ n, run n m nd pc ls st M ≠ none
  · rw [dif_pos h]
    constructor
    · intro q; exact ⟨_, q⟩
    · rintro ⟨n, q⟩
      have hs := Classical.choose_spec h
      cases hr : run (Classical.choose h) m nd pc ls st M with
      | none => exact absurd hr hs
      | some R' =>
        have a := run_mono (Nat.le_max_left (Classical.choose h) n) hr
        have b := run_mono (Nat.le_max_right (Classical.choose h) n) q
        rw [a] at b
        exact b
  · rw [dif_neg h]
    constructor
    · intro q; exact absurd q (by simp)
    · rintro ⟨n, q⟩
      exact absurd ⟨n, by rw [q]; simp⟩ h
/-- a call -/
noncomputable def cal (f : Nat) (args : List V) (M : Mem) : Res := ev f (need f args) 0 (mkl (inf f).1 args) [] M
theorem ev_eq (m nd pc : Nat) (ls st : List V) (M : Mem) : ev m nd pc ls st M = runL (fun pc' ls' st' M' => ev m nd pc' (msk (blk m pc').1 ls') st' M') (fun f args M' => bif Nat.ble (need f args + 1) nd then cal f args M' else none) (blk m pc).2 ls st M := by
  have up1 : ∀ R, ev m nd pc ls st M = some R → runL (fun pc' ls' st' M' => ev m nd pc' (msk (blk m pc').1 ls') st' M') (fun f args M' => bif Nat.ble (need f args + 1) nd then cal f args M' else none) (blk m pc).2 ls st M = some R := by
    intro R h
    obtain ⟨n, h⟩ := ev_run.mp h
    cases n with
    | zero => exact absurd h (by simp [run])
    | succ n =>
      obtain ⟨n0, h0⟩ := runL_lim (Jn := fun _ pc' ls' st' M' => ev m nd pc' (msk (blk m pc').1 ls') st' M') (Cn := fun _ f args M' => bif Nat.ble (need f args + 1) nd then cal f args M' else none)
        (fun p a b M R h => ⟨0, fun _ _ => ev_run.mpr ⟨n, h⟩⟩)
        (fun f a M R h => ⟨0, fun _ _ => by
          cases hb : Nat.ble (need f a + 1) nd with
          | false => rw [hb] at h; exact absurd h (by simp)
          | true => rw [hb] at h; exact ev_run.mpr ⟨n, h⟩⟩) _ _ _ _ _ (show runL (fun pc' ls' st' M' => run n m nd pc' (msk (blk m pc').1 ls') st' M') (fun f args M' => bif Nat.ble (need f args + 1) nd then run n f (need f args) 0 (mkl (inf f).1 args) [] M' else none) (blk m pc).2 ls st M = some R from h)
      exact h0 n0 (Nat.le_refl _)
  have down1 : ∀ R, runL (fun pc' ls' st' M' => ev m nd pc' (msk (blk m pc').1 ls') st' M') (fun f args M' => bif Nat.ble (need f args + 1) nd then cal f args M' else none) (blk m pc).2 ls st M = some R → ev m nd pc ls st M = some R := by
    intro R h
    obtain ⟨n0, h0⟩ := runL_lim (Jn := fun n pc' ls' st' M' => run n m nd pc' (msk (blk m pc').1 ls') st' M') (Cn := fun n f args M' => bif Nat.ble (need f args + 1) nd then run n f (need f args) 0 (mkl (inf f).1 args) [] M' else none)
      (fun p a b M R h => by
        obtain ⟨n, hn⟩ := ev_run.mp h
        exact ⟨n, fun n' h' => run_mono h' hn⟩)
      (fun f a M R h => by
        cases hb : Nat.ble (need f a + 1) nd with
        | false => rw [hb] at h; exact absurd h (by simp)
        | true =>
          rw [hb] at h
          obtain ⟨n, hn⟩ := ev_run.mp (show cal f a M = some R from h)
          exact ⟨n, fun n' h' => run_mono h' hn⟩) _ _ _ _ _ h
    exact ev_run.mpr ⟨n0 + 1, h0 n0 (Nat.le_refl _)⟩
  cases h1 : ev m nd pc ls st M with
  | some R => exact (up1 R h1).symm
  | none =>
    cases h2 : runL (fun pc' ls' st' M' => ev m nd pc' (msk (blk m pc').1 ls') st' M') (fun f args M' => bif Nat.ble (need f args + 1) nd then cal f args M' else none) (blk m pc).2 ls st M with
    | none => rfl
    | some R => rw [down1 R h2] at h1; exact absurd h1 (by simp)

/-! SOUNDNESS, 5: memory only grows (own work) -/
def GR (M M' : Mem) : Prop := M.1.length ≤ M'.1.length ∧ slz M.1 ≤ slz M'.1
theorem GR.rf {M : Mem} : GR M M := ⟨Nat.le_refl _, Nat.le_refl _⟩
theorem GR.tr {M M' M2 : Mem} (h : GR M M') (h2 : GR M' M2) : GR M M2 := ⟨Nat.le_trans h.1 h2.1, Nat.le_trans h.2 h2.2⟩
section RELG
variable {α β : Type} {Rl : α → β → Prop} {Z : α} {Z' : β}
theorem rl_pDG {L : List Shp} {r : Int} {f : Nat → Shp → α} {g : Nat → Shp → β} (hZ : Rl Z Z') (h : ∀ x t, L[x]? = some t → Rl (f x t) (g x t)) : Rl (pD Z L r f) (pD Z' L r g) := by
  unfold pD
  cases hd : drf L r with
  | none => exact hZ
  | some q => exact h _ _ (drf_inv hd).2
set_option maxHeartbeats 4000000 in
theorem stp_relG {J : Nat → List V → List V → Mem → α} {C : Nat → List V → List V → List V → Mem → α} {R : Option V → Mem → α} {k : List V → List V → Mem → α} {J' : Nat → List V → List V → Mem → β} {C' : Nat → List V → List V → List V → Mem → β} {R' : Option V → Mem → β} {k' : List V → List V → Mem → β} (M : Mem)
    (hZ : Rl Z Z') (hJ : ∀ p a b, Rl (J p a b M) (J' p a b M)) (hC : ∀ f a b c, Rl (C f a b c M) (C' f a b c M)) (hR : ∀ v, Rl (R v M) (R' v M)) (hk : ∀ a b M', GR M M' → Rl (k a b M') (k' a b M')) (i : Ins) (ls st : List V) : Rl (stp Z J C R k i ls st M) (stp Z' J' C' R' k' i ls st M) := by
  obtain ⟨op, a, b, x⟩ := i
  unfold stp
  dsimp only
  split
  · exact hk _ _ _ ⟨Nat.le_refl _, Nat.le_refl _⟩
  · exact hk _ _ _ ⟨Nat.le_refl _, Nat.le_refl _⟩
  · exact hk _ _ _ ⟨Nat.le_refl _, Nat.le_refl _⟩
  · exact rl_el hZ fun _ => rl_bif hZ (hk _ _ _ ⟨Nat.le_refl _, Nat.le_refl _⟩)
  · exact rl_pV hZ fun _ _ => rl_bif hZ (hk _ _ _ ⟨Nat.le_refl _, Nat.le_refl _⟩)
  · exact rl_pI hZ fun _ _ => hk _ _ _ ⟨Nat.le_refl _, Nat.le_refl _⟩
  · exact rl_pI hZ fun _ _ => rl_pI hZ fun _ _ => hk _ _ _ ⟨Nat.le_refl _, Nat.le_refl _⟩
  · exact rl_pI hZ fun _ _ => hk _ _ _ ⟨Nat.le_refl _, Nat.le_refl _⟩
  · exact rl_pL hZ fun _ _ => rl_pL hZ fun _ _ => hk _ _ _ ⟨Nat.le_refl _, Nat.le_refl _⟩
  · exact rl_pL hZ fun _ _ => rl_pL hZ fun _ _ => rl_if2 _ (hk _ _ _ ⟨Nat.le_refl _, Nat.le_refl _⟩) (rl_if2 _ (hk _ _ _ ⟨Nat.le_refl _, Nat.le_refl _⟩) (hk _ _ _ ⟨Nat.le_refl _, Nat.le_refl _⟩))
  · exact rl_pI hZ fun _ _ => hk _ _ _ ⟨Nat.le_refl _, Nat.le_refl _⟩
  · exact rl_pV hZ fun _ _ => rl_bif hZ (hk _ _ _ ⟨Nat.le_refl _, Nat.le_refl _⟩)
  · exact rl_pI hZ fun _ _ => rl_cnd (hJ _ _ _) (hk _ _ _ ⟨Nat.le_refl _, Nat.le_refl _⟩)
  · exact rl_pI hZ fun _ _ => rl_pI hZ fun _ _ => rl_cnd (hJ _ _ _) (hk _ _ _ ⟨Nat.le_refl _, Nat.le_refl _⟩)
  · exact rl_pR hZ fun _ _ => rl_if2 _ (hk _ _ _ ⟨Nat.le_refl _, Nat.le_refl _⟩) (rl_pD hZ fun _ _ => hJ _ _ _)
  · exact hk _ _ _ ⟨Nat.le_refl _, Nat.le_refl _⟩
  · exact hJ _ _ _
  · exact rl_pI hZ fun _ _ => rl_swc (fun _ => hJ _ _ _) _
  · exact rl_pR hZ fun _ _ => rl_pD hZ fun _ _ => rl_bif hZ (hk _ _ _ ⟨Nat.le_refl _, Nat.le_refl _⟩)
  · exact rl_pR hZ fun _ _ => rl_pD hZ fun _ _ => rl_bif hZ (hk _ _ _ ⟨Nat.le_refl _, Nat.le_refl _⟩)
  · exact rl_pR hZ fun _ _ => rl_pD hZ fun _ _ => rl_bif hZ (hk _ _ _ ⟨Nat.le_refl _, Nat.le_refl _⟩)
  · exact rl_pR hZ fun _ _ => rl_pD hZ fun _ _ => rl_bif hZ (hk _ _ _ ⟨Nat.le_refl _, Nat.le_refl _⟩)
  · exact rl_pI hZ fun _ _ => rl_pR hZ fun _ _ => rl_pD hZ fun _ _ => rl_bif hZ (hk _ _ _ ⟨Nat.le_refl _, Nat.le_refl _⟩)
  · exact rl_pL hZ fun _ _ => rl_pR hZ fun _ _ => rl_pD hZ fun _ _ => rl_bif hZ (hk _ _ _ ⟨Nat.le_refl _, Nat.le_refl _⟩)
  · exact rl_pI hZ fun _ _ => rl_pR hZ fun _ _ => rl_pD hZ fun _ _ => rl_bif hZ (rl_if _ hZ (hk _ _ _ ⟨Nat.le_refl _, Nat.le_refl _⟩))
  · exact rl_pR hZ fun _ _ => rl_pR hZ fun _ _ => rl_pDG hZ fun _ _ hs => rl_bif hZ (rl_pD hZ fun _ _ => hk _ _ _ ⟨Nat.le_of_eq List.length_set.symm, (by show slz M.1 ≤ slz (M.1.set _ _); rw [slz_set hs] <;> first | exact Nat.le_refl _ | rfl)⟩)
  · exact rl_pI hZ fun _ _ => rl_pR hZ fun _ _ => rl_pD hZ fun _ _ => rl_bif hZ (rl_if _ hZ (hk _ _ _ ⟨Nat.le_refl _, Nat.le_refl _⟩))
  · exact rl_pI hZ fun _ _ => rl_pI hZ fun _ _ => rl_pR hZ fun _ _ => rl_pD hZ fun _ _ => rl_bif hZ (rl_if _ hZ (hk _ _ _ ⟨Nat.le_refl _, Nat.le_refl _⟩))
  · exact rl_pR hZ fun _ _ => rl_pD hZ fun _ _ => rl_bif hZ (hk _ _ _ ⟨Nat.le_refl _, Nat.le_refl _⟩)
  · exact rl_pI hZ fun _ _ => rl_pR hZ fun _ _ => rl_if _ hZ (rl_if _ hZ (hk _ _ _ ⟨Nat.le_refl _, Nat.le_refl _⟩))
  · exact rl_pR hZ fun _ _ => rl_if _ hZ (hk _ _ _ ⟨Nat.le_refl _, Nat.le_refl _⟩)
  · exact rl_pR hZ fun _ _ => rl_el hZ fun _ => hk _ _ _ ⟨Nat.le_refl _, Nat.le_refl _⟩
  · exact rl_pR hZ fun _ _ => rl_el hZ fun _ => hk _ _ _ ⟨Nat.le_refl _, Nat.le_refl _⟩
  · exact rl_pI hZ fun _ _ => rl_pR hZ fun _ _ => rl_el hZ fun _ => rl_if _ hZ (hk _ _ _ ⟨Nat.le_refl _, Nat.le_refl _⟩)
  · exact rl_pR hZ fun _ _ => rl_el hZ fun _ => hk _ _ _ ⟨Nat.le_refl _, Nat.le_refl _⟩
  · exact hk _ _ _ ⟨Nat.le_refl _, Nat.le_refl _⟩
  · exact hk _ _ _ ⟨by rw [List.length_append]; omega, by rw [slz_app]; omega⟩
  · exact rl_pI hZ fun _ _ => rl_if _ hZ (hk _ _ _ ⟨by rw [List.length_append]; omega, by rw [slz_app]; omega⟩)
  · exact rl_pI hZ fun _ _ => rl_if _ hZ (hk _ _ _ ⟨by rw [List.length_append]; omega, by rw [slz_app]; omega⟩)
  · exact rl_bif hZ (rl_rcv hZ (hC _ _ _ _))
  · exact rl_pR hZ fun _ _ => rl_pD hZ fun _ _ => rl_bif hZ (hk _ _ _ ⟨Nat.le_refl _, Nat.le_refl _⟩)
  · exact rl_pI hZ fun _ _ => rl_pI hZ fun _ _ => rl_pR hZ fun _ _ => rl_pI hZ fun _ _ => rl_pR hZ fun _ _ => rl_pD hZ fun _ _ => rl_pD hZ fun _ _ => rl_bif hZ (rl_if _ hZ (hk _ _ _ ⟨Nat.le_refl _, Nat.le_refl _⟩))
  · exact rl_pE hZ (hR _)
  · exact rl_pI hZ fun _ _ => rl_pI hZ fun _ _ => rl_if2 _ hZ (hk _ _ _ ⟨Nat.le_refl _, Nat.le_refl _⟩)
  · exact rl_pI hZ fun _ _ => rl_pI hZ fun _ _ => rl_if2 _ hZ (hk _ _ _ ⟨Nat.le_refl _, Nat.le_refl _⟩)
  · exact rl_pL hZ fun _ _ => rl_pL hZ fun _ _ => rl_if2 _ hZ (hk _ _ _ ⟨Nat.le_refl _, Nat.le_refl _⟩)
  · exact rl_pL hZ fun _ _ => rl_pL hZ fun _ _ => rl_if2 _ hZ (hk _ _ _ ⟨Nat.le_refl _, Nat.le_refl _⟩)
  · exact hk _ _ _ ⟨Nat.le_refl _, Nat.le_refl _⟩
  · exact rl_pL hZ fun _ _ => hk _ _ _ ⟨Nat.le_refl _, Nat.le_refl _⟩
  · exact rl_pI hZ fun _ _ => rl_if _ hZ (hk _ _ _ ⟨Nat.le_refl _, Nat.le_refl _⟩)
  · exact rl_pV hZ fun _ _ => rl_pV hZ fun _ _ => rl_bif hZ (hk _ _ _ ⟨Nat.le_refl _, Nat.le_refl _⟩)
  · exact rl_pV hZ fun _ _ => rl_bif hZ (hk _ _ _ ⟨Nat.le_refl _, Nat.le_refl _⟩)
  · exact rl_pL hZ fun _ _ => rl_pI hZ fun _ _ => rl_pR hZ fun _ _ => rl_pD hZ fun _ _ => rl_bif hZ (rl_if _ hZ (hk _ _ _ ⟨Nat.le_refl _, Nat.le_refl _⟩))
  · exact rl_pI hZ fun _ _ => rl_pI hZ fun _ _ => rl_pR hZ fun _ _ => rl_pD hZ fun _ _ => rl_bif hZ (rl_if _ hZ (rl_if _ hZ (hk _ _ _ ⟨Nat.le_refl _, Nat.le_refl _⟩)))
  · exact rl_pR hZ fun _ _ => rl_pI hZ fun _ _ => rl_pR hZ fun _ _ => rl_pD hZ fun _ _ => rl_bif hZ (rl_if _ hZ (rl_bif hZ (hk _ _ _ ⟨Nat.le_refl _, Nat.le_refl _⟩)))
  · exact rl_pI hZ fun _ _ => rl_pE hZ (hR _)
  · exact rl_pL hZ fun _ _ => rl_pE hZ (hR _)
  · exact rl_pR hZ fun _ _ => rl_pE hZ (hR _)
  · exact rl_pI hZ fun _ _ => rl_pE hZ (rl_if _ hZ (hR _))
  · exact rl_pI hZ fun _ _ => rl_pE hZ (rl_if _ hZ (hR _))
  · exact rl_pI hZ fun _ _ => rl_pE hZ (rl_if _ hZ (hR _))
  · exact hk _ _ _ ⟨Nat.le_refl _, Nat.le_refl _⟩
  · exact rl_pI hZ fun _ _ => rl_bif hZ (hk _ _ _ ⟨Nat.le_refl _, Nat.le_refl _⟩)
  · exact rl_pI hZ fun _ _ => rl_pI hZ fun _ _ => rl_bif hZ (hk _ _ _ ⟨Nat.le_refl _, Nat.le_refl _⟩)
  · exact rl_pI hZ fun _ _ => rl_pI hZ fun _ _ => rl_bif hZ (hk _ _ _ ⟨Nat.le_refl _, Nat.le_refl _⟩)
  · exact hZ
end RELG
/-- an instruction that goes on only adds cells; all others leave the memory -/
def AG (M : Mem) (r : (List V × List V × Mem) ⊕ (Nat × List V × List V × Mem) ⊕ (Nat × List V × List V × List V × Mem) ⊕ (Option V × Mem)) : Prop := match r with
  | .inl (_, _, M') => GR M M'
  | .inr (.inl (_, _, _, M')) => M' = M
  | .inr (.inr (.inl (_, _, _, _, M'))) => M' = M
  | .inr (.inr (.inr (_, M'))) => M' = M
theorem act_grow (i : Ins) (ls st : List V) (M : Mem) : ∀ r, act i ls st M = some r → AG M r := by
  have h := stp_relG (α := Act) (β := Unit) (Rl := fun a _ => ∀ r, a = some r → AG M r) (Z := none) (Z' := ()) (J := fun p a b M => some (.inr (.inl (p, a, b, M)))) (C := fun f a b c M => some (.inr (.inr (.inl (f, a, b, c, M))))) (R := fun v M => some (.inr (.inr (.inr (v, M))))) (k := fun a b M => some (.inl (a, b, M))) (J' := fun _ _ _ _ => ()) (C' := fun _ _ _ _ _ => ()) (R' := fun _ _ => ()) (k' := fun _ _ _ => ()) M (fun r h => by cases h) (fun p a b r h => by cases h; rfl) (fun f a b c r h => by cases h; rfl) (fun v r h => by cases h; rfl) (fun a b M' hg r h => by cases h; exact hg) i ls st
  exact h
theorem runL_grow {J : Nat → List V → List V → Mem → Res} {C : Nat → List V → Mem → Res} (hJ : ∀ p a b M R, J p a b M = some R → GR M R.2) (hC : ∀ f a M R, C f a M = some R → GR M R.2) :
    ∀ (l : List Ins) (ls st : List V) (M : Mem) (R : Option V × Mem), runL J C l ls st M = some R → GR M R.2 := by
  intro l
  induction l with
  | nil => intro ls st M R h; exact absurd h (by simp [runL])
  | cons i l ih =>
    intro ls st M R h
    rw [runL_act] at h
    have hg := act_grow i ls st M
    generalize act i ls st M = ac at h hg
    rcases ac with _ | ⟨⟨a, b, M1⟩ | ⟨p, a, b, M1⟩ | ⟨f, a, b, c, M1⟩ | ⟨v, M1⟩⟩
    · exact absurd h (by simp [elA])
    · exact (show GR M M1 from hg _ rfl).tr (ih a b M1 R h)
    · have e : M1 = M := hg _ rfl
      subst e
      exact hJ p a b M1 R h
    · have e : M1 = M := hg _ rfl
      subst e
      obtain ⟨q, h1, h2⟩ := el_inv (show (C f a M1).elim none (fun q => runL J C l b (pu q.1 c) q.2) = some R from h)
      exact (hC f a M1 q h1).tr (ih b _ _ R h2)
    · have e : M1 = M := hg _ rfl
      subst e
      have h : (some (v, M1) : Res) = some R := h
      cases h
      exact GR.rf
theorem run_grow : ∀ (n m nd pc : Nat) (ls st : List V) (M : Mem) (R : Option V × Mem), run n m nd pc ls st M = some R → GR M R.2 := by
  intro n
  induction n with
  | zero => intro m nd pc ls st M R h; exact absurd h (by simp [run])
  | succ n ih =>
    intro m nd pc ls st M R h
    refine runL_grow (fun p a b M R h => ih _ _ _ _ _ _ _ h) (fun f a M R h => ?_) _ _ _ _ _ (show runL (fun pc' ls' st' M' => run n m nd pc' (msk (blk m pc').1 ls') st' M') (fun f args M' => bif Nat.ble (need f args + 1) nd then run n f (need f args) 0 (mkl (inf f).1 args) [] M' else none) (blk m pc).2 ls st M = some R from h)
    exact ih _ _ _ _ _ _ _ (bif_inv h).2

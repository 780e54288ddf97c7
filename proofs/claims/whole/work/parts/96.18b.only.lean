/-! SOUNDNESS, 7b (own work) -/
section MAIN
variable {p : Program} {l : Launch} {e : Env} {R : Room} {s : State} {m : MethodId} {args : Array Value} {below : List Frame} {meth : Method} {c0 : Code} {Q : State → Prop} {f : Nat} {A : Nat → Prop} {D : va_G} {cA : Nat → ClassId} {X : AdX} {n : Nat} {xs : Nat → Int32} {ad0 : Nat → Nat} {n0 z0 : Nat}
variable {ls st ls' st' : List V} {L : List Shp} {c : Nat → Int → Int} {M' : Mem} {pc : Nat}
theorem call_only {a b : Nat} {x : Int} {M : Mem} {r : (List V × List V × Mem) ⊕ (Nat × List V × List V × Mem) ⊕ (Nat × List V × List V × List V × Mem) ⊕ (Option V × Mem)} (h : act (39, a, b, x) ls st M = some r) : ∃ g av ls' t1 M1, r = .inr (.inr (.inl (g, av, ls', t1, M1))) := by
  have h : (bif Nat.ble (a / 10 % 100) st.length && Nat.ble (catS (st.drop (a / 10 % 100))) 8 then rcv none (a % 10) (a / 1000) M.1 (st.take (a / 10 % 100)).reverse (some (.inr (.inr (.inl (b, (st.take (a / 10 % 100)).reverse, ls, st.drop (a / 10 % 100), M))))) else none : Act) = some r := h
  exact ⟨_, _, _, _, _, (Option.some.inj (rcv_inv (bif_inv h).2).1).symm⟩
theorem call_b {a b : Nat} {x : Int} {M : Mem} {g : Nat} {av ls1 t1 : List V} {M1 : Mem} (h : act (39, a, b, x) ls st M = some (.inr (.inr (.inl (g, av, ls1, t1, M1))))) : b = g := by
  have h : (bif Nat.ble (a / 10 % 100) st.length && Nat.ble (catS (st.drop (a / 10 % 100))) 8 then rcv none (a % 10) (a / 1000) M.1 (st.take (a / 10 % 100)).reverse (some (.inr (.inr (.inl (b, (st.take (a / 10 % 100)).reverse, ls, st.drop (a / 10 % 100), M))))) else none : Act) = some (.inr (.inr (.inl (g, av, ls1, t1, M1)))) := h
  have h := Option.some.inj (rcv_inv (bif_inv h).2).1
  injection h with h; injection h with h; injection h with h
  exact (Prod.mk.inj h).1
theorem ret_only {k a b : Nat} {x : Int} {M : Mem} {r : (List V × List V × Mem) ⊕ (Nat × List V × List V × Mem) ⊕ (Nat × List V × List V × List V × Mem) ⊕ (Option V × Mem)} (hk : k = 42 ∨ k = 55 ∨ k = 56 ∨ k = 57 ∨ k = 58 ∨ k = 59 ∨ k = 60) (h : act (k, a, b, x) ls st M = some r) : ∃ v M1, r = .inr (.inr (.inr (v, M1))) := by
  rcases hk with q | q | q | q | q | q | q <;> subst q
  · exact ⟨_, _, (Option.some.inj (pE_inv (show pE none st (some (.inr (.inr (.inr (none, M)))) : Act) = some r from h)).2).symm⟩
  · have h9 := pI_inv h
    clear h
    obtain ⟨y, t, rfl, h⟩ := h9
    exact ⟨_, _, (Option.some.inj (pE_inv (show pE none t (some (.inr (.inr (.inr (some (vI y), M)))) : Act) = some r from h)).2).symm⟩
  · have h9 := pL_inv h
    clear h
    obtain ⟨y, t, rfl, h⟩ := h9
    exact ⟨_, _, (Option.some.inj (pE_inv (show pE none t (some (.inr (.inr (.inr (some (vL y), M)))) : Act) = some r from h)).2).symm⟩
  · have h9 := pR_inv h
    clear h
    obtain ⟨y, t, rfl, h⟩ := h9
    exact ⟨_, _, (Option.some.inj (pE_inv (show pE none t (some (.inr (.inr (.inr (some (vR y), M)))) : Act) = some r from h)).2).symm⟩
  · have h9 := pI_inv h
    clear h
    obtain ⟨y, t, rfl, h⟩ := h9
    exact ⟨_, _, (Option.some.inj (if_inv (pE_inv h).2).2).symm⟩
  · have h9 := pI_inv h
    clear h
    obtain ⟨y, t, rfl, h⟩ := h9
    exact ⟨_, _, (Option.some.inj (if_inv (pE_inv h).2).2).symm⟩
  · have h9 := pI_inv h
    clear h
    obtain ⟨y, t, rfl, h⟩ := h9
    exact ⟨_, _, (Option.some.inj (if_inv (pE_inv h).2).2).symm⟩
end MAIN

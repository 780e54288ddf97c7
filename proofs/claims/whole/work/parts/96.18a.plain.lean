/-! SOUNDNESS, 7: the walk of a method by its rows; the whole theorem (own work) -/
section MAIN
variable {p : Program} {l : Launch} {e : Env} {R : Room} {s : State} {m : MethodId} {args : Array Value} {below : List Frame} {meth : Method} {c0 : Code} {Q : State → Prop} {f : Nat} {A : Nat → Prop} {D : va_G} {cA : Nat → ClassId} {X : AdX} {n : Nat} {xs : Nat → Int32} {ad0 : Nat → Nat} {n0 z0 : Nat}
variable {ls st ls' st' : List V} {L : List Shp} {c : Nat → Int → Int} {M' : Mem} {pc : Nat}
/-- an instruction neither jumps nor calls nor returns -/
def plain (k : Nat) : Bool := !(Nat.beq k 12 || Nat.beq k 13 || Nat.beq k 14 || Nat.beq k 16 || Nat.beq k 17 || Nat.beq k 39 || Nat.beq k 42 || Nat.beq k 55 || Nat.beq k 56 || Nat.beq k 57 || Nat.beq k 58 || Nat.beq k 59 || Nat.beq k 60)
set_option maxHeartbeats 4000000 in
theorem g_all {i : Ins} (hp : plain i.1 = true) (C : CX p s m args meth c0 f A D cA X n xs) (hRf : 1 ≤ R.frames) (hRl : 100 ≤ R.locals) (hd : decode (mtbs f).1 pc = .ok (raw pc i)) (hl : lnk (mtbs f).2.2.2.2 (mtbs f).2.2.1 (mtbs f).2.1.name i = true) (hs : oks (inf f).1 i = true) (h : act i ls st (L, c) = some (.inl (ls', st', M'))) (hL : M'.1.length ≤ 1000000) (hRc : M'.1.length - n0 ≤ R.cells) (hRs : slz M'.1 - z0 ≤ R.slots) (hk : WS p l e R s m args below meth c0 Q f A D cA X n xs ad0 n0 z0 (npc pc i) ls' st' M'.1 M'.2) : WS p l e R s m args below meth c0 Q f A D cA X n xs ad0 n0 z0 pc ls st L c := by
  obtain ⟨k, a, b, x⟩ := i
  by_cases hk65 : k < 65
  · match k, hk65 with
    | 0, _ => exact g_0 C hRf hRl hd hl hs h hL hRc hRs hk
    | 1, _ => exact g_1 C hRf hRl hd hl hs h hL hRc hRs hk
    | 2, _ => exact g_2 C hRf hRl hd hl hs h hL hRc hRs hk
    | 3, _ => exact g_3 C hRf hRl hd hl hs h hL hRc hRs hk
    | 4, _ => exact g_4 C hRf hRl hd hl hs h hL hRc hRs hk
    | 5, _ => exact g_5 C hRf hRl hd hl hs h hL hRc hRs hk
    | 6, _ => exact g_6 C hRf hRl hd hl hs h hL hRc hRs hk
    | 7, _ => exact g_7 C hRf hRl hd hl hs h hL hRc hRs hk
    | 8, _ => exact g_8 C hRf hRl hd hl hs h hL hRc hRs hk
    | 9, _ => exact g_9 C hRf hRl hd hl hs h hL hRc hRs hk
    | 10, _ => exact g_10 C hRf hRl hd hl hs h hL hRc hRs hk
    | 11, _ => exact g_11 C hRf hRl hd hl hs h hL hRc hRs hk
    | 15, _ => exact g_15 C hRf hRl hd hl hs h hL hRc hRs hk
    | 18, _ => exact g_18 C hRf hRl hd hl hs h hL hRc hRs hk
    | 19, _ => exact g_19 C hRf hRl hd hl hs h hL hRc hRs hk
    | 20, _ => exact g_20 C hRf hRl hd hl hs h hL hRc hRs hk
    | 21, _ => exact g_21 C hRf hRl hd hl hs h hL hRc hRs hk
    | 22, _ => exact g_22 C hRf hRl hd hl hs h hL hRc hRs hk
    | 23, _ => exact g_23 C hRf hRl hd hl hs h hL hRc hRs hk
    | 24, _ => exact g_24 C hRf hRl hd hl hs h hL hRc hRs hk
    | 25, _ => exact g_25 C hRf hRl hd hl hs h hL hRc hRs hk
    | 26, _ => exact g_26 C hRf hRl hd hl hs h hL hRc hRs hk
    | 27, _ => exact g_27 C hRf hRl hd hl hs h hL hRc hRs hk
    | 28, _ => exact g_28 C hRf hRl hd hl hs h hL hRc hRs hk
    | 29, _ => exact g_29 C hRf hRl hd hl hs h hL hRc hRs hk
    | 30, _ => exact g_30 C hRf hRl hd hl hs h hL hRc hRs hk
    | 31, _ => exact g_31 C hRf hRl hd hl hs h hL hRc hRs hk
    | 32, _ => exact g_32 C hRf hRl hd hl hs h hL hRc hRs hk
    | 33, _ => exact g_33 C hRf hRl hd hl hs h hL hRc hRs hk
    | 34, _ => exact g_34 C hRf hRl hd hl hs h hL hRc hRs hk
    | 35, _ => exact g_35 C hRf hRl hd hl hs h hL hRc hRs hk
    | 36, _ => exact g_36 C hRf hRl hd hl hs h hL hRc hRs hk
    | 37, _ => exact g_37 C hRf hRl hd hl hs h hL hRc hRs hk
    | 38, _ => exact g_38 C hRf hRl hd hl hs h hL hRc hRs hk
    | 40, _ => exact g_40 C hRf hRl hd hl hs h hL hRc hRs hk
    | 41, _ => exact g_41 C hRf hRl hd hl hs h hL hRc hRs hk
    | 43, _ => exact g_43 C hRf hRl hd hl hs h hL hRc hRs hk
    | 44, _ => exact g_44 C hRf hRl hd hl hs h hL hRc hRs hk
    | 45, _ => exact g_45 C hRf hRl hd hl hs h hL hRc hRs hk
    | 46, _ => exact g_46 C hRf hRl hd hl hs h hL hRc hRs hk
    | 47, _ => exact g_47 C hRf hRl hd hl hs h hL hRc hRs hk
    | 48, _ => exact g_48 C hRf hRl hd hl hs h hL hRc hRs hk
    | 49, _ => exact g_49 C hRf hRl hd hl hs h hL hRc hRs hk
    | 50, _ => exact g_50 C hRf hRl hd hl hs h hL hRc hRs hk
    | 51, _ => exact g_51 C hRf hRl hd hl hs h hL hRc hRs hk
    | 52, _ => exact g_52 C hRf hRl hd hl hs h hL hRc hRs hk
    | 53, _ => exact g_53 C hRf hRl hd hl hs h hL hRc hRs hk
    | 54, _ => exact g_54 C hRf hRl hd hl hs h hL hRc hRs hk
    | 61, _ => exact g_61 C hRf hRl hd hl hs h hL hRc hRs hk
    | 62, _ => exact g_62 C hRf hRl hd hl hs h hL hRc hRs hk
    | 63, _ => exact g_63 C hRf hRl hd hl hs h hL hRc hRs hk
    | 64, _ => exact g_64 C hRf hRl hd hl hs h hL hRc hRs hk
    | 12, _ => exact absurd hp (by decide : ¬ plain 12 = true)
    | 13, _ => exact absurd hp (by decide : ¬ plain 13 = true)
    | 14, _ => exact absurd hp (by decide : ¬ plain 14 = true)
    | 16, _ => exact absurd hp (by decide : ¬ plain 16 = true)
    | 17, _ => exact absurd hp (by decide : ¬ plain 17 = true)
    | 39, _ => exact absurd hp (by decide : ¬ plain 39 = true)
    | 42, _ => exact absurd hp (by decide : ¬ plain 42 = true)
    | 55, _ => exact absurd hp (by decide : ¬ plain 55 = true)
    | 56, _ => exact absurd hp (by decide : ¬ plain 56 = true)
    | 57, _ => exact absurd hp (by decide : ¬ plain 57 = true)
    | 58, _ => exact absurd hp (by decide : ¬ plain 58 = true)
    | 59, _ => exact absurd hp (by decide : ¬ plain 59 = true)
    | 60, _ => exact absurd hp (by decide : ¬ plain 60 = true)
    | k + 65, h => exact absurd h (by omega)
  · have : act (k, a, b, x) ls st (L, c) = none := by
      unfold act stp
      split <;> first | rfl | (rename_i q; exact absurd q (by show ¬ k = _; omega))
    rw [this] at h
    cases h
def ISL (y : Act) (_ : Act) : Prop := ∀ r, y = some r → ∃ ls' st' M', r = .inl (ls', st', M')
/-- no plain instruction does anything else -/
theorem plain_inl {i : Ins} (hp : plain i.1 = true) {M : Mem} {r : (List V × List V × Mem) ⊕ (Nat × List V × List V × Mem) ⊕ (Nat × List V × List V × List V × Mem) ⊕ (Option V × Mem)} (h : act i ls st M = some r) : ∃ ls' st' M', r = .inl (ls', st', M') := by
  obtain ⟨k, a, b, x⟩ := i
  have key : ISL (act (k, a, b, x) ls st M) none := by
    have hk : ∀ (a b : List V) (M : Mem), ISL (some (.inl (a, b, M))) none := fun a b M r h => ⟨a, b, M, (Option.some.inj h).symm⟩
    have hZ : ISL none none := fun r h => by cases h
    have gen : ∀ (k2 : List V → List V → Mem → Act), True := fun _ => trivial
    have main : ISL (act (k, a, b, x) ls st M) (stp (α := Act) none (fun _ _ _ _ => none) (fun _ _ _ _ _ => none) (fun _ _ => none) (fun _ _ _ => none) (k, a, b, x) ls st M) := by
      by_cases hk65 : k < 65
      · match k, hk65 with
        | 0, _ => exact hk _ _ _
        | 1, _ => exact hk _ _ _
        | 2, _ => exact hk _ _ _
        | 3, _ => exact rl_el hZ fun _ => rl_bif hZ (hk _ _ _)
        | 4, _ => exact rl_pV hZ fun _ _ => rl_bif hZ (hk _ _ _)
        | 5, _ => exact rl_pI hZ fun _ _ => hk _ _ _
        | 6, _ => exact rl_pI hZ fun _ _ => rl_pI hZ fun _ _ => hk _ _ _
        | 7, _ => exact rl_pI hZ fun _ _ => hk _ _ _
        | 8, _ => exact rl_pL hZ fun _ _ => rl_pL hZ fun _ _ => hk _ _ _
        | 9, _ => exact rl_pL hZ fun _ _ => rl_pL hZ fun _ _ => rl_if2 _ (hk _ _ _) (rl_if2 _ (hk _ _ _) (hk _ _ _))
        | 10, _ => exact rl_pI hZ fun _ _ => hk _ _ _
        | 11, _ => exact rl_pV hZ fun _ _ => rl_bif hZ (hk _ _ _)
        | 15, _ => exact hk _ _ _
        | 18, _ => exact rl_pR hZ fun _ _ => rl_pD hZ fun _ _ => rl_bif hZ (hk _ _ _)
        | 19, _ => exact rl_pR hZ fun _ _ => rl_pD hZ fun _ _ => rl_bif hZ (hk _ _ _)
        | 20, _ => exact rl_pR hZ fun _ _ => rl_pD hZ fun _ _ => rl_bif hZ (hk _ _ _)
        | 21, _ => exact rl_pR hZ fun _ _ => rl_pD hZ fun _ _ => rl_bif hZ (hk _ _ _)
        | 22, _ => exact rl_pI hZ fun _ _ => rl_pR hZ fun _ _ => rl_pD hZ fun _ _ => rl_bif hZ (hk _ _ _)
        | 23, _ => exact rl_pL hZ fun _ _ => rl_pR hZ fun _ _ => rl_pD hZ fun _ _ => rl_bif hZ (hk _ _ _)
        | 24, _ => exact rl_pI hZ fun _ _ => rl_pR hZ fun _ _ => rl_pD hZ fun _ _ => rl_bif hZ (rl_if _ hZ (hk _ _ _))
        | 25, _ => exact rl_pR hZ fun _ _ => rl_pR hZ fun _ _ => rl_pD hZ fun _ _ => rl_bif hZ (rl_pD hZ fun _ _ => hk _ _ _)
        | 26, _ => exact rl_pI hZ fun _ _ => rl_pR hZ fun _ _ => rl_pD hZ fun _ _ => rl_bif hZ (rl_if _ hZ (hk _ _ _))
        | 27, _ => exact rl_pI hZ fun _ _ => rl_pI hZ fun _ _ => rl_pR hZ fun _ _ => rl_pD hZ fun _ _ => rl_bif hZ (rl_if _ hZ (hk _ _ _))
        | 28, _ => exact rl_pR hZ fun _ _ => rl_pD hZ fun _ _ => rl_bif hZ (hk _ _ _)
        | 29, _ => exact rl_pI hZ fun _ _ => rl_pR hZ fun _ _ => rl_if _ hZ (rl_if _ hZ (hk _ _ _))
        | 30, _ => exact rl_pR hZ fun _ _ => rl_if _ hZ (hk _ _ _)
        | 31, _ => exact rl_pR hZ fun _ _ => rl_el hZ fun _ => hk _ _ _
        | 32, _ => exact rl_pR hZ fun _ _ => rl_el hZ fun _ => hk _ _ _
        | 33, _ => exact rl_pI hZ fun _ _ => rl_pR hZ fun _ _ => rl_el hZ fun _ => rl_if _ hZ (hk _ _ _)
        | 34, _ => exact rl_pR hZ fun _ _ => rl_el hZ fun _ => hk _ _ _
        | 35, _ => exact hk _ _ _
        | 36, _ => exact hk _ _ _
        | 37, _ => exact rl_pI hZ fun _ _ => rl_if _ hZ (hk _ _ _)
        | 38, _ => exact rl_pI hZ fun _ _ => rl_if _ hZ (hk _ _ _)
        | 40, _ => exact rl_pR hZ fun _ _ => rl_pD hZ fun _ _ => rl_bif hZ (hk _ _ _)
        | 41, _ => exact rl_pI hZ fun _ _ => rl_pI hZ fun _ _ => rl_pR hZ fun _ _ => rl_pI hZ fun _ _ => rl_pR hZ fun _ _ => rl_pD hZ fun _ _ => rl_pD hZ fun _ _ => rl_bif hZ (rl_if _ hZ (hk _ _ _))
        | 43, _ => exact rl_pI hZ fun _ _ => rl_pI hZ fun _ _ => rl_if2 _ hZ (hk _ _ _)
        | 44, _ => exact rl_pI hZ fun _ _ => rl_pI hZ fun _ _ => rl_if2 _ hZ (hk _ _ _)
        | 45, _ => exact rl_pL hZ fun _ _ => rl_pL hZ fun _ _ => rl_if2 _ hZ (hk _ _ _)
        | 46, _ => exact rl_pL hZ fun _ _ => rl_pL hZ fun _ _ => rl_if2 _ hZ (hk _ _ _)
        | 47, _ => exact hk _ _ _
        | 48, _ => exact rl_pL hZ fun _ _ => hk _ _ _
        | 49, _ => exact rl_pI hZ fun _ _ => rl_if _ hZ (hk _ _ _)
        | 50, _ => exact rl_pV hZ fun _ _ => rl_pV hZ fun _ _ => rl_bif hZ (hk _ _ _)
        | 51, _ => exact rl_pV hZ fun _ _ => rl_bif hZ (hk _ _ _)
        | 52, _ => exact rl_pL hZ fun _ _ => rl_pI hZ fun _ _ => rl_pR hZ fun _ _ => rl_pD hZ fun _ _ => rl_bif hZ (rl_if _ hZ (hk _ _ _))
        | 53, _ => exact rl_pI hZ fun _ _ => rl_pI hZ fun _ _ => rl_pR hZ fun _ _ => rl_pD hZ fun _ _ => rl_bif hZ (rl_if _ hZ (rl_if _ hZ (hk _ _ _)))
        | 54, _ => exact rl_pR hZ fun _ _ => rl_pI hZ fun _ _ => rl_pR hZ fun _ _ => rl_pD hZ fun _ _ => rl_bif hZ (rl_if _ hZ (rl_bif hZ (hk _ _ _)))
        | 61, _ => exact hk _ _ _
        | 62, _ => exact rl_pI hZ fun _ _ => rl_bif hZ (hk _ _ _)
        | 63, _ => exact rl_pI hZ fun _ _ => rl_pI hZ fun _ _ => rl_bif hZ (hk _ _ _)
        | 64, _ => exact rl_pI hZ fun _ _ => rl_pI hZ fun _ _ => rl_bif hZ (hk _ _ _)
        | 12, _ => exact absurd hp (by decide : ¬ plain 12 = true)
        | 13, _ => exact absurd hp (by decide : ¬ plain 13 = true)
        | 14, _ => exact absurd hp (by decide : ¬ plain 14 = true)
        | 16, _ => exact absurd hp (by decide : ¬ plain 16 = true)
        | 17, _ => exact absurd hp (by decide : ¬ plain 17 = true)
        | 39, _ => exact absurd hp (by decide : ¬ plain 39 = true)
        | 42, _ => exact absurd hp (by decide : ¬ plain 42 = true)
        | 55, _ => exact absurd hp (by decide : ¬ plain 55 = true)
        | 56, _ => exact absurd hp (by decide : ¬ plain 56 = true)
        | 57, _ => exact absurd hp (by decide : ¬ plain 57 = true)
        | 58, _ => exact absurd hp (by decide : ¬ plain 58 = true)
        | 59, _ => exact absurd hp (by decide : ¬ plain 59 = true)
        | 60, _ => exact absurd hp (by decide : ¬ plain 60 = true)
        | k + 65, h => exact absurd h (by omega)
      · have : act (k, a, b, x) ls st M = none := by
          unfold act stp
          split <;> first | rfl | (rename_i q; exact absurd q (by show ¬ k = _; omega))
        rw [this]
        exact hZ
    exact main
  exact key r h
end MAIN

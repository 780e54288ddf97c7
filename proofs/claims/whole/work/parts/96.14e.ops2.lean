/-! SOUNDNESS, 3: fields, arrays, text, what is made (own work): 14e.ops2 -/
section OPS
variable {p : Program} {l : Launch} {e : Env} {R : Room} {s : State} {m : MethodId} {args : Array Value} {below : List Frame} {meth : Method} {c0 : Code} {Q : State → Prop} {f : Nat} {A : Nat → Prop} {D : va_G} {cA : Nat → ClassId} {X : AdX} {n : Nat} {xs : Nat → Int32} {ad0 : Nat → Nat} {n0 z0 : Nat}
variable {ls st ls' st' : List V} {L : List Shp} {c : Nat → Int → Int} {M' : Mem} {pc a b : Nat} {x : Int}
theorem g_41 (C : CX p s m args meth c0 f A D cA X n xs) (hRf : 1 ≤ R.frames) (hRl : 100 ≤ R.locals) (hd : decode (mtbs f).1 pc = .ok (raw pc (41, a, b, x))) (hl : lnk (mtbs f).2.2.2.2 (mtbs f).2.2.1 (mtbs f).2.1.name (41, a, b, x) = true) (hs : oks (inf f).1 (41, a, b, x) = true) (h0 : act (41, a, b, x) ls st (L, c) = some (.inl (ls', st', M'))) (hL : M'.1.length ≤ 1000000) (hRc : M'.1.length - n0 ≤ R.cells) (hRs : slz M'.1 - z0 ≤ R.slots) (hk : WS p l e R s m args below meth c0 Q f A D cA X n xs ad0 n0 z0 (npc pc (41, a, b, x)) ls' st' M'.1 M'.2) : WS p l e R s m args below meth c0 Q f A D cA X n xs ad0 n0 z0 pc ls st L c := by
  intro ad H locs lsM S
  obtain ⟨hx, hb, hml, hown, hts, hK, hST, hA, hr, hlk, hnm⟩ := C
  have h9 := pI_inv h0
  clear h0
  obtain ⟨z, t, rfl, h⟩ := h9
  have h9 := pI_inv h
  clear h
  obtain ⟨dp, t, rfl, h⟩ := h9
  have h9 := pR_inv h
  clear h
  obtain ⟨r2, t, rfl, h⟩ := h9
  have h9 := pI_inv h
  clear h
  obtain ⟨sp, t, rfl, h⟩ := h9
  have h9 := pR_inv h
  clear h
  obtain ⟨r, t, rfl, h⟩ := h9
  have h9 := pD_inv h
  clear h
  obtain ⟨k, sh, hk0, rfl, h⟩ := h9
  have h9 := pD_inv h
  clear h
  obtain ⟨k2, sh2, hk20, rfl, h⟩ := h9
  have h9 := bif_inv h
  clear h
  obtain ⟨h1, h⟩ := h9
  simp only [Bool.and_eq_true, Bool.not_eq_true'] at h1
  obtain ⟨⟨⟨q1, q2⟩, q3⟩, q4⟩ := h1
  have q1 : sh.1 = 0 := beq_of q1
  have q2 : sh2.1 = 0 := beq_of q2
  have q3 : k ≠ k2 := fun w => by rw [w, Nat.beq_refl] at q3; cases q3
  have q4 := Nat.le_of_ble_eq_true q4
  have h9 := if_inv h
  clear h
  obtain ⟨hr9, h⟩ := h9
  have h : (some (.inl (ls, t, (L, cpy c k sp k2 dp z))) : Act) = some (.inl (ls', st', M')) := h
  cases h
  have hz : In32 z := vok_hd S.stv
  have hdp : In32 dp := vok_hd (vok_tl S.stv)
  have hsp : In32 sp := vok_hd (vok_tl (vok_tl (vok_tl S.stv)))
  have hco := S.2.2.2.1 k sh hk0
  have hco2 := S.2.2.2.1 k2 sh2 hk20
  have he := wsl_at (ad := ad) (X := X) (cA := cA) (c := c) hk0
  have hent : ent ad X cA sh (c k) = .inl (cA 0, (sh.2.1.toNat, .inl (fun j => Int32.ofInt (c k (Int.ofNat j))))) := by unfold ent; rw [q1]; rfl
  rw [hent] at he
  have he2 := wsl_at (ad := ad) (X := X) (cA := cA) (c := c) hk20
  have hent2 : ∀ g : Int → Int, ent ad X cA sh2 g = .inl (cA 0, (sh2.2.1.toNat, .inl (fun j => Int32.ofInt (g (Int.ofNat j))))) := fun g => by unfold ent; rw [q2]; rfl
  rw [hent2] at he2
  have c1 : (Int32.ofInt sp).toNatClampNeg = sp.toNat := o32_clamp hsp
  have c2 : (Int32.ofInt dp).toNatClampNeg = dp.toNat := o32_clamp hdp
  have c3 : (Int32.ofInt z).toNatClampNeg = z.toNat := o32_clamp hz
  have nneg : ∀ {w : Int}, In32 w → 0 ≤ w → ¬ Int32.ofInt w < 0 := fun {w} h1 h2 q => by
    rw [← o32_0, o32_lt h1 in32_0] at q
    omega
  have hcat := catS_le (ad := ad) (X := X) st'
  refine va_copyi hx hb (hml.trans S.lr.2.1.symm) hown (hts _ (lkA_word hl)) (hts _ natC) (hts _ statC) (hts _ iniC) hK S.1 S.2.1 S.2.2.1 k k2 0 0 he he2 rfl rfl rfl (nneg hsp hr9.1.1) (nneg hdp hr9.1.2.1) (nneg hz hr9.1.2.2) (by rw [c1, c3]; omega) (by rw [c2, c3]; omega) (fun _ _ => rfl) hRf ?_ hd (fun H1 locs1 hP1 hD1 hS1 => hk ad H1 locs1 lsM (S.upd hL hk20 (fun a2 h2 => cpy_ne h2) (cok_cpy hco hco2 q1 q2) ?_ hP1 hD1 hS1 (vok_tl (vok_tl (vok_tl (vok_tl (vok_tl S.stv)))))))
  · have : nativeFrameWords "java/lang/System" "arraycopy" 5 ≤ 60 := by decide +kernel
    omega
  · rw [hent2, c1, c2, c3]
    congr 4
    funext j
    unfold va_cpy cpy
    dsimp only
    rw [if_pos (rfl : k2 = k2)]
    by_cases hj : dp.toNat ≤ j ∧ j < dp.toNat + z.toNat
    · rw [if_pos hj, if_pos (by have e9 : (Int.ofNat j) = (j : Int) := rfl; rw [e9]; omega)]
      have e9 : (Int.ofNat (sp.toNat + (j - dp.toNat))) = sp + (Int.ofNat j - dp) := by
        show ((sp.toNat + (j - dp.toNat) : Nat) : Int) = sp + ((j : Int) - dp)
        omega
      rw [e9]
    · rw [if_neg hj, if_neg (by have e9 : (Int.ofNat j) = (j : Int) := rfl; rw [e9]; omega)]
end OPS

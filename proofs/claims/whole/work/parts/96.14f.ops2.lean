/-! SOUNDNESS, 3: fields, arrays, text, what is made (own work): 14f.ops2 -/
section OPS
variable {p : Program} {l : Launch} {e : Env} {R : Room} {s : State} {m : MethodId} {args : Array Value} {below : List Frame} {meth : Method} {c0 : Code} {Q : State → Prop} {f : Nat} {A : Nat → Prop} {D : va_G} {cA : Nat → ClassId} {X : AdX} {n : Nat} {xs : Nat → Int32} {ad0 : Nat → Nat} {n0 z0 : Nat}
variable {ls st ls' st' : List V} {L : List Shp} {c : Nat → Int → Int} {M' : Mem} {pc a b : Nat} {x : Int}
theorem g_52 (C : CX p s m args meth c0 f A D cA X n xs) (hRf : 1 ≤ R.frames) (hRl : 100 ≤ R.locals) (hd : decode (mtbs f).1 pc = .ok (raw pc (52, a, b, x))) (hl : lnk (mtbs f).2.2.2.2 (mtbs f).2.2.1 (mtbs f).2.1.name (52, a, b, x) = true) (hs : oks (inf f).1 (52, a, b, x) = true) (h0 : act (52, a, b, x) ls st (L, c) = some (.inl (ls', st', M'))) (hL : M'.1.length ≤ 1000000) (hRc : M'.1.length - n0 ≤ R.cells) (hRs : slz M'.1 - z0 ≤ R.slots) (hk : WS p l e R s m args below meth c0 Q f A D cA X n xs ad0 n0 z0 (npc pc (52, a, b, x)) ls' st' M'.1 M'.2) : WS p l e R s m args below meth c0 Q f A D cA X n xs ad0 n0 z0 pc ls st L c := by
  intro ad H locs lsM S
  obtain ⟨hx, hb, hml, hown, hts, hK, hST, hA, hr, hlk, hnm⟩ := C
  have h9 := pL_inv h0
  clear h0
  obtain ⟨y, t, rfl, h⟩ := h9
  have h9 := pI_inv h
  clear h
  obtain ⟨j, t, rfl, h⟩ := h9
  have h9 := pR_inv h
  clear h
  obtain ⟨r, t, rfl, h⟩ := h9
  have h9 := pD_inv h
  clear h
  obtain ⟨k, sh, hk0, rfl, h⟩ := h9
  have h9 := bif_inv h
  clear h
  obtain ⟨h1, h⟩ := h9
  have h1 : sh.1 = 1 := beq_of h1
  have h9 := if_inv h
  clear h
  obtain ⟨hij, h⟩ := h9
  have h : (some (.inl (ls, t, (L, up c k j y))) : Act) = some (.inl (ls', st', M')) := h
  cases h
  have hy : In64 y := vok_hd S.stv
  have hj : In32 j := vok_hd (vok_tl S.stv)
  have hco := S.2.2.2.1 k sh hk0
  have he := wsl_at (ad := ad) (X := X) (cA := cA) (c := c) hk0
  have hent : ∀ g : Int → Int, ent ad X cA sh g = .inl (cA 1, (sh.2.1.toNat, .inr (.inl (fun j => Int64.ofInt (g (Int.ofNat j)))))) := fun g => by unfold ent; rw [h1]; rfl
  rw [hent] at he
  have hcl : (Int32.ofInt j).toNatClampNeg = j.toNat := o32_clamp hj
  refine va_last hx hb hK S.1 S.2.1 S.2.2.1 k 1 he rfl (o32_in hj hij.1 hij.2) hd (fun H1 locs1 hP1 hD1 hS1 => hk ad H1 locs1 lsM (S.upd hL hk0 (fun a2 h2 => up_nes h2) (cok_arr1 hco h1 hy) ?_ hP1 hD1 hS1 (vok_tl (vok_tl (vok_tl S.stv)))))
  rw [hent, hcl]
  congr 5
  funext z
  dsimp only
  rw [up_self]
  by_cases hz : z = j.toNat
  · have e9 : (Int.ofNat z) = j := by rw [hz]; exact Int.toNat_of_nonneg hij.1
    rw [if_pos e9]
    unfold vp_updL
    rw [if_pos hz]
  · have e9 : ¬ (Int.ofNat z) = j := fun q => hz (by rw [← q]; rfl)
    rw [if_neg e9]
    unfold vp_updL
    rw [if_neg hz]
theorem g_53 (C : CX p s m args meth c0 f A D cA X n xs) (hRf : 1 ≤ R.frames) (hRl : 100 ≤ R.locals) (hd : decode (mtbs f).1 pc = .ok (raw pc (53, a, b, x))) (hl : lnk (mtbs f).2.2.2.2 (mtbs f).2.2.1 (mtbs f).2.1.name (53, a, b, x) = true) (hs : oks (inf f).1 (53, a, b, x) = true) (h0 : act (53, a, b, x) ls st (L, c) = some (.inl (ls', st', M'))) (hL : M'.1.length ≤ 1000000) (hRc : M'.1.length - n0 ≤ R.cells) (hRs : slz M'.1 - z0 ≤ R.slots) (hk : WS p l e R s m args below meth c0 Q f A D cA X n xs ad0 n0 z0 (npc pc (53, a, b, x)) ls' st' M'.1 M'.2) : WS p l e R s m args below meth c0 Q f A D cA X n xs ad0 n0 z0 pc ls st L c := by
  intro ad H locs lsM S
  obtain ⟨hx, hb, hml, hown, hts, hK, hST, hA, hr, hlk, hnm⟩ := C
  have h9 := pI_inv h0
  clear h0
  obtain ⟨y, t, rfl, h⟩ := h9
  have h9 := pI_inv h
  clear h
  obtain ⟨j, t, rfl, h⟩ := h9
  have h9 := pR_inv h
  clear h
  obtain ⟨r, t, rfl, h⟩ := h9
  have h9 := pD_inv h
  clear h
  obtain ⟨k, sh, hk0, rfl, h⟩ := h9
  have h9 := bif_inv h
  clear h
  obtain ⟨h1, h⟩ := h9
  have h1 : sh.1 = 2 := beq_of h1
  have h9 := if_inv h
  clear h
  obtain ⟨hij, h⟩ := h9
  have h9 := if_inv h
  clear h
  obtain ⟨hy01, h⟩ := h9
  have h : (some (.inl (ls, t, (L, up c k j y))) : Act) = some (.inl (ls', st', M')) := h
  cases h
  have hy : In32 y := vok_hd S.stv
  have hj : In32 j := vok_hd (vok_tl S.stv)
  have hco := S.2.2.2.1 k sh hk0
  have he := wsl_at (ad := ad) (X := X) (cA := cA) (c := c) hk0
  have hent : ∀ g : Int → Int, ent ad X cA sh g = .inl (cA 2, (sh.2.1.toNat, .inl (fun j => Int32.ofInt (g (Int.ofNat j))))) := fun g => by unfold ent; rw [h1]; rfl
  rw [hent] at he
  have hcl : (Int32.ofInt j).toNatClampNeg = j.toNat := o32_clamp hj
  refine va_zast hx hb hK S.1 S.2.1 S.2.2.1 k 2 he rfl (o32_in hj hij.1 hij.2) hd (fun H1 locs1 hP1 hD1 hS1 => hk ad H1 locs1 lsM (S.upd hL hk0 (fun a2 h2 => up_nes h2) (cok_arr02 hco (Or.inr h1) hy) ?_ hP1 hD1 hS1 (vok_tl (vok_tl (vok_tl S.stv)))))
  rw [hent, hcl]
  congr 4
  funext z
  dsimp only
  rw [up_self]
  by_cases hz : z = j.toNat
  · have e9 : (Int.ofNat z) = j := by rw [hz]; exact Int.toNat_of_nonneg hij.1
    rw [if_pos e9]
    unfold upd
    rw [if_pos hz]
    rcases hy01 with q | q <;> subst q <;> rfl
  · have e9 : ¬ (Int.ofNat z) = j := fun q => hz (by rw [← q]; rfl)
    rw [if_neg e9]
    unfold upd
    rw [if_neg hz]
theorem g_54 (C : CX p s m args meth c0 f A D cA X n xs) (hRf : 1 ≤ R.frames) (hRl : 100 ≤ R.locals) (hd : decode (mtbs f).1 pc = .ok (raw pc (54, a, b, x))) (hl : lnk (mtbs f).2.2.2.2 (mtbs f).2.2.1 (mtbs f).2.1.name (54, a, b, x) = true) (hs : oks (inf f).1 (54, a, b, x) = true) (h0 : act (54, a, b, x) ls st (L, c) = some (.inl (ls', st', M'))) (hL : M'.1.length ≤ 1000000) (hRc : M'.1.length - n0 ≤ R.cells) (hRs : slz M'.1 - z0 ≤ R.slots) (hk : WS p l e R s m args below meth c0 Q f A D cA X n xs ad0 n0 z0 (npc pc (54, a, b, x)) ls' st' M'.1 M'.2) : WS p l e R s m args below meth c0 Q f A D cA X n xs ad0 n0 z0 pc ls st L c := by
  intro ad H locs lsM S
  obtain ⟨hx, hb, hml, hown, hts, hK, hST, hA, hr, hlk, hnm⟩ := C
  have h9 := pR_inv h0
  clear h0
  obtain ⟨y, t, rfl, h⟩ := h9
  have h9 := pI_inv h
  clear h
  obtain ⟨j, t, rfl, h⟩ := h9
  have h9 := pR_inv h
  clear h
  obtain ⟨r, t, rfl, h⟩ := h9
  have h9 := pD_inv h
  clear h
  obtain ⟨k, sh, hk0, rfl, h⟩ := h9
  have h9 := bif_inv h
  clear h
  obtain ⟨h1, h⟩ := h9
  have h9 := if_inv h
  clear h
  obtain ⟨hij, h⟩ := h9
  have h9 := bif_inv h
  clear h
  obtain ⟨htr, h⟩ := h9
  have h : (some (.inl (ls, t, (L, up c k j y))) : Act) = some (.inl (ls', st', M')) := h
  cases h
  have hj : In32 j := vok_hd (vok_tl S.stv)
  have hl : ((Nat.beq a 3 && Nat.beq b 17) || (Nat.beq a 4 && Nat.beq b 20)) = true := hl
  simp only [Bool.or_eq_true, Bool.and_eq_true] at hl
  have hl : (a = 3 ∧ b = 17) ∨ (a = 4 ∧ b = 20) := hl.imp (fun q => ⟨beq_of q.1, beq_of q.2⟩) (fun q => ⟨beq_of q.1, beq_of q.2⟩)
  rcases trf_inv htr with hy0 | ⟨k2, sh2, hk20, rfl, h2⟩
  · subst hy0
    rcases hl with ⟨hkd1, hkd2⟩ | ⟨hkd1, hkd2⟩
    · subst hkd1; subst hkd2
      have h1 : sh.1 = 3 := beq_of h1
      have hco := S.2.2.2.1 k sh hk0
      have he := wsl_at (ad := ad) (X := X) (cA := cA) (c := c) hk0
      have hent : ∀ g : Int → Int, ent ad X cA sh g = .inl (cA 3, (sh.2.1.toNat, .inr (.inr (.inr (.inr (fun j => rof ad X (g (Int.ofNat j)))))))) := fun g => by unfold ent; rw [h1]; rfl
      rw [hent] at he
      have hcl : (Int32.ofInt j).toNatClampNeg = j.toNat := o32_clamp hj
      refine va_astqN hx hb hK S.1 S.2.1 S.2.2.1 k 3 he rfl (o32_in hj hij.1 hij.2) hd (fun H1 locs1 hP1 hD1 hS1 => hk ad H1 locs1 lsM (S.upd hL hk0 (fun a2 h2 => up_nes h2) (cok_arr34 hco (Or.inl h1) (by omega) (by omega)) ?_ hP1 hD1 hS1 (vok_tl (vok_tl (vok_tl S.stv)))))
      rw [hent, hcl]
      congr 7
      funext z
      dsimp only
      rw [up_self]
      by_cases hz : z = j.toNat
      · have e9 : (Int.ofNat z) = j := by rw [hz]; exact Int.toNat_of_nonneg hij.1
        rw [if_pos e9]
        unfold va_up
        rw [if_pos hz]
        rfl
      · have e9 : ¬ (Int.ofNat z) = j := fun q => hz (by rw [← q]; rfl)
        rw [if_neg e9]
        unfold va_up
        rw [if_neg hz]
    · subst hkd1; subst hkd2
      have h1 : sh.1 = 4 := beq_of h1
      have hco := S.2.2.2.1 k sh hk0
      have he := wsl_at (ad := ad) (X := X) (cA := cA) (c := c) hk0
      have hent : ∀ g : Int → Int, ent ad X cA sh g = .inl (cA 4, (sh.2.1.toNat, .inr (.inr (.inr (.inr (fun j => rof ad X (g (Int.ofNat j)))))))) := fun g => by unfold ent; rw [h1]; rfl
      rw [hent] at he
      have hcl : (Int32.ofInt j).toNatClampNeg = j.toNat := o32_clamp hj
      refine va_astqN hx hb hK S.1 S.2.1 S.2.2.1 k 4 he rfl (o32_in hj hij.1 hij.2) hd (fun H1 locs1 hP1 hD1 hS1 => hk ad H1 locs1 lsM (S.upd hL hk0 (fun a2 h2 => up_nes h2) (cok_arr34 hco (Or.inr h1) (by omega) (by omega)) ?_ hP1 hD1 hS1 (vok_tl (vok_tl (vok_tl S.stv)))))
      rw [hent, hcl]
      congr 7
      funext z
      dsimp only
      rw [up_self]
      by_cases hz : z = j.toNat
      · have e9 : (Int.ofNat z) = j := by rw [hz]; exact Int.toNat_of_nonneg hij.1
        rw [if_pos e9]
        unfold va_up
        rw [if_pos hz]
        rfl
      · have e9 : ¬ (Int.ofNat z) = j := fun q => hz (by rw [← q]; rfl)
        rw [if_neg e9]
        unfold va_up
        rw [if_neg hz]
  · rcases hl with ⟨hkd1, hkd2⟩ | ⟨hkd1, hkd2⟩
    · subst hkd1; subst hkd2
      have h1 : sh.1 = 3 := beq_of h1
      have h2 : sh2.1 = 17 := h2
      have hco := S.2.2.2.1 k sh hk0
      have he := wsl_at (ad := ad) (X := X) (cA := cA) (c := c) hk0
      have hent : ∀ g : Int → Int, ent ad X cA sh g = .inl (cA 3, (sh.2.1.toNat, .inr (.inr (.inr (.inr (fun j => rof ad X (g (Int.ofNat j)))))))) := fun g => by unfold ent; rw [h1]; rfl
      rw [hent] at he
      have he2 := wsl_at (ad := ad) (X := X) (cA := cA) (c := c) hk20
      rw [ent_5 (by omega), h2] at he2
      have hcl : (Int32.ofInt j).toNatClampNeg = j.toNat := o32_clamp hj
      have hkl2 : k2 < L.length := (List.getElem?_eq_some_iff.mp hk20).1
      refine va_astq (r := (RX7, TX7, 15)) hx hb hK S.1 S.2.1 S.2.2.1 k 3 k2 7 he rfl he2 rfl (o32_in hj hij.1 hij.2) hd (fun H1 locs1 hP1 hD1 hS1 => hk ad H1 locs1 lsM (S.upd hL hk0 (fun a2 h2 => up_nes h2) (cok_arr34 hco (Or.inl h1) (by omega) (by omega)) ?_ hP1 hD1 hS1 (vok_tl (vok_tl (vok_tl S.stv)))))
      rw [hent, hcl]
      congr 7
      funext z
      dsimp only
      rw [up_self]
      by_cases hz : z = j.toNat
      · have e9 : (Int.ofNat z) = j := by rw [hz]; exact Int.toNat_of_nonneg hij.1
        rw [if_pos e9]
        unfold va_up
        rw [if_pos hz]
        rfl
      · have e9 : ¬ (Int.ofNat z) = j := fun q => hz (by rw [← q]; rfl)
        rw [if_neg e9]
        unfold va_up
        rw [if_neg hz]
    · subst hkd1; subst hkd2
      have h1 : sh.1 = 4 := beq_of h1
      have h2 : sh2.1 = 20 := h2
      have hco := S.2.2.2.1 k sh hk0
      have he := wsl_at (ad := ad) (X := X) (cA := cA) (c := c) hk0
      have hent : ∀ g : Int → Int, ent ad X cA sh g = .inl (cA 4, (sh.2.1.toNat, .inr (.inr (.inr (.inr (fun j => rof ad X (g (Int.ofNat j)))))))) := fun g => by unfold ent; rw [h1]; rfl
      rw [hent] at he
      have he2 := wsl_at (ad := ad) (X := X) (cA := cA) (c := c) hk20
      rw [ent_5 (by omega), h2] at he2
      have hcl : (Int32.ofInt j).toNatClampNeg = j.toNat := o32_clamp hj
      have hkl2 : k2 < L.length := (List.getElem?_eq_some_iff.mp hk20).1
      refine va_astq (r := (RX10, TX10, 5)) hx hb hK S.1 S.2.1 S.2.2.1 k 4 k2 10 he rfl he2 rfl (o32_in hj hij.1 hij.2) hd (fun H1 locs1 hP1 hD1 hS1 => hk ad H1 locs1 lsM (S.upd hL hk0 (fun a2 h2 => up_nes h2) (cok_arr34 hco (Or.inr h1) (by omega) (by omega)) ?_ hP1 hD1 hS1 (vok_tl (vok_tl (vok_tl S.stv)))))
      rw [hent, hcl]
      congr 7
      funext z
      dsimp only
      rw [up_self]
      by_cases hz : z = j.toNat
      · have e9 : (Int.ofNat z) = j := by rw [hz]; exact Int.toNat_of_nonneg hij.1
        rw [if_pos e9]
        unfold va_up
        rw [if_pos hz]
        rfl
      · have e9 : ¬ (Int.ofNat z) = j := fun q => hz (by rw [← q]; rfl)
        rw [if_neg e9]
        unfold va_up
        rw [if_neg hz]
theorem g_61 (C : CX p s m args meth c0 f A D cA X n xs) (hRf : 1 ≤ R.frames) (hRl : 100 ≤ R.locals) (hd : decode (mtbs f).1 pc = .ok (raw pc (61, a, b, x))) (hl : lnk (mtbs f).2.2.2.2 (mtbs f).2.2.1 (mtbs f).2.1.name (61, a, b, x) = true) (hs : oks (inf f).1 (61, a, b, x) = true) (h0 : act (61, a, b, x) ls st (L, c) = some (.inl (ls', st', M'))) (hL : M'.1.length ≤ 1000000) (hRc : M'.1.length - n0 ≤ R.cells) (hRs : slz M'.1 - z0 ≤ R.slots) (hk : WS p l e R s m args below meth c0 Q f A D cA X n xs ad0 n0 z0 (npc pc (61, a, b, x)) ls' st' M'.1 M'.2) : WS p l e R s m args below meth c0 Q f A D cA X n xs ad0 n0 z0 pc ls st L c := by
  intro ad H locs lsM S
  obtain ⟨hx, hb, hml, hown, hts, hK, hST, hA, hr, hlk, hnm⟩ := C
  have h : (some (.inl (ls, vR (-5) :: st, (L, c))) : Act) = some (.inl (ls', st', M')) := h0
  cases h
  have hw := hts _ (lkG_word hl)
  exact va_gets hx hb hST.2.2.2.1 S.2.2.1 hown hw (fun _ h9 => h9) hd (hk ad H locs lsM (S.stk (vok_cons (show (-5 : Int) ≤ (L.length : Int) by omega) S.stv)))
end OPS

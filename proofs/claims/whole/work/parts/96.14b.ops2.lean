/-! SOUNDNESS, 3: fields, arrays, text, what is made (own work): 14b.ops2 -/
section OPS
variable {p : Program} {l : Launch} {e : Env} {R : Room} {s : State} {m : MethodId} {args : Array Value} {below : List Frame} {meth : Method} {c0 : Code} {Q : State → Prop} {f : Nat} {A : Nat → Prop} {D : va_G} {cA : Nat → ClassId} {X : AdX} {n : Nat} {xs : Nat → Int32} {ad0 : Nat → Nat} {n0 z0 : Nat}
variable {ls st ls' st' : List V} {L : List Shp} {c : Nat → Int → Int} {M' : Mem} {pc a b : Nat} {x : Int}
theorem g_25 (C : CX p s m args meth c0 f A D cA X n xs) (hRf : 1 ≤ R.frames) (hRl : 100 ≤ R.locals) (hd : decode (mtbs f).1 pc = .ok (raw pc (25, a, b, x))) (hl : lnk (mtbs f).2.2.2.2 (mtbs f).2.2.1 (mtbs f).2.1.name (25, a, b, x) = true) (hs : oks (inf f).1 (25, a, b, x) = true) (h0 : act (25, a, b, x) ls st (L, c) = some (.inl (ls', st', M'))) (hL : M'.1.length ≤ 1000000) (hRc : M'.1.length - n0 ≤ R.cells) (hRs : slz M'.1 - z0 ≤ R.slots) (hk : WS p l e R s m args below meth c0 Q f A D cA X n xs ad0 n0 z0 (npc pc (25, a, b, x)) ls' st' M'.1 M'.2) : WS p l e R s m args below meth c0 Q f A D cA X n xs ad0 n0 z0 pc ls st L c := by
  intro ad H locs lsM S
  obtain ⟨hx, hb, hml, hown, hts, hK, hST, hA, hr, hlk, hnm⟩ := C
  have h9 := pR_inv h0
  clear h0
  obtain ⟨y, t, rfl, h⟩ := h9
  have h9 := pR_inv h
  clear h
  obtain ⟨r, t, rfl, h⟩ := h9
  have h9 := pD_inv h
  clear h
  obtain ⟨k, sh, hk0, rfl, h⟩ := h9
  have h9 := bif_inv h
  clear h
  obtain ⟨h1, h⟩ := h9
  have h1 : sh.1 = 10 + a := beq_of h1
  have h9 := pD_inv h
  clear h
  obtain ⟨k2, sh2, hk20, rfl, h⟩ := h9
  have h : (some (.inl (ls, t, (L.set k (sh.1, sh.2.1, sh.2.2.set b ((k2 : Int) + 1)), c))) : Act) = some (.inl (ls', st', M')) := h
  cases h
  have hl : (decide ((mtbs f).2.1.name = "<init>") && (Nat.beq a (mtbs f).2.2.2.2 && (Nat.beq ((ftb a).getD b 9) 3 && (lkF (mtbs f).2.2.2.2).any (fun q => Nat.beq q.1 x.toNat && (Nat.beq q.2.1 a && Nat.beq q.2.2.1 b))))) = true := hl
  simp only [Bool.and_eq_true, decide_eq_true_eq] at hl
  obtain ⟨hin, how, hty, hl⟩ := hl
  have how : a = (mtbs f).2.2.2.2 := beq_of how
  have hty : (ftb a).getD b 9 = 3 := beq_of hty
  have hco := S.2.2.2.1 k sh hk0
  have ha12 : a ≤ 12 := by have := (hco.2.2.2.2 (by omega)).2.1; omega
  obtain ⟨q, ty, hC⟩ := cls_all a ha12
  have hb3 : b < q.2.2 := hC.fin (by rw [hty]; decide)
  have hb4 : b < (ftb a).length := by rw [← hC.2.2.2.2.2.1]; exact hb3
  have he := wsl_at (ad := ad) (X := X) (cA := cA) (c := c) hk0
  rw [ent_5 (by omega), h1, Nat.add_sub_cancel_left] at he
  have hw := hts _ (lkF_word hl)
  rw [hC.nam] at hw
  obtain ⟨hk1, hk2⟩ := hC.2.2.2.2.2.2 b hb3
  rw [hty] at hk1
  obtain ⟨hty2, hfin⟩ := tyk_inv3 hk1
  have hfl : (flds ad X a (c k) sh.2.2).length = (ftb a).length := by simp [flds]
  have hflen : sh.2.2.length = (ftb a).length := by
    have := (hco.2.2.2.2 (by omega)).2.2.1
    rw [h1, Nat.add_sub_cancel_left] at this
    exact this
  have hkl : k < L.length := (List.getElem?_eq_some_iff.mp hk0).1
  have hset : (L.set k (sh.1, sh.2.1, sh.2.2.set b ((k2 : Int) + 1)))[k]? = some (sh.1, sh.2.1, sh.2.2.set b ((k2 : Int) + 1)) := List.getElem?_set_self hkl
  refine va_putF (D := D) (ci := a) (fs := flds ad X a (c k) sh.2.2) (v := .ref (ad k2)) (ty := ty b) hx hb hts hC.2.2.1 ty hC.2.2.2.1 hC.2.2.2.2.1 hown hK S.1 S.2.1 S.2.2.1 k he hC.1 b hb3 hw (fun _ h9 => h9) hfin (hnm hin) (by rw [hk2, hC.2.1, how]) (hC.2.2.2.1 b hb3) (hty2 _).1 (hty2 _).2 (by rw [hfl]; exact hb4) hd (fun H1 locs1 hP1 hD1 hS1 => ?_)
  have ew : (wsl ad X cA L c).set k (ad k, .inr (a, (flds ad X a (c k) sh.2.2).set b (.ref (ad k2)))) = wsl ad X cA (L.set k (sh.1, sh.2.1, sh.2.2.set b ((k2 : Int) + 1))) c := by
    refine wsl_set List.length_set hset (fun j hj => List.getElem?_set_ne (fun q => hj q.symm)) (fun _ _ => rfl) ?_
    rw [ent_5 (by show 5 ≤ sh.1; omega)]
    show _ = Sum.inr (sh.1 - 10, flds ad X (sh.1 - 10) (c k) (sh.2.2.set b ((k2 : Int) + 1)))
    rw [h1, Nat.add_sub_cancel_left]
    congr 2
    apply List.ext_getElem?
    intro j
    by_cases hj : b = j
    · subst hj
      rw [List.getElem?_set_self (by rw [hfl]; exact hb4), flds_at hb4, hty, List.getD_eq_getElem?_getD, List.getElem?_set_self (by rw [hflen]; exact hb4)]
      rfl
    · rw [List.getElem?_set_ne hj]
      by_cases h2 : j < (ftb a).length
      · rw [flds_at h2, flds_at h2, List.getD_eq_getElem?_getD (l := sh.2.2.set b ((k2 : Int) + 1)), List.getElem?_set_ne hj, ← List.getD_eq_getElem?_getD]
      · rw [List.getElem?_eq_none (by rw [hfl]; omega), List.getElem?_eq_none (by simp [flds]; omega)]
  rw [ew] at hP1 hD1
  have hmk : mok (L.set k (sh.1, sh.2.1, sh.2.2.set b ((k2 : Int) + 1))) c := by
    intro j s' hj
    rw [List.length_set]
    by_cases hjk : k = j
    · subst hjk
      rw [hset] at hj
      cases hj
      refine ⟨hco.1, hco.2.1, hco.2.2.1, hco.2.2.2.1, fun q => ?_⟩
      obtain ⟨g1, g2, g3, g4, g5⟩ := hco.2.2.2.2 q
      refine ⟨g1, g2, by show (sh.2.2.set b _).length = _; rw [List.length_set]; exact g3, fun z hz => ?_, g5⟩
      rcases List.mem_or_eq_of_mem_set hz with h9 | h9
      · exact g4 z h9
      · have : k2 < L.length := (List.getElem?_eq_some_iff.mp hk20).1
        omega
    · rw [List.getElem?_set_ne hjk] at hj
      exact S.2.2.2.1 j s' hj
  have e1 : (L.set k (sh.1, sh.2.1, sh.2.2.set b ((k2 : Int) + 1))).length = L.length := List.length_set
  have e2 : slz (L.set k (sh.1, sh.2.1, sh.2.2.set b ((k2 : Int) + 1))) = slz L := slz_set hk0 rfl
  have K := hk ad H1 locs1 lsM (S.mem e1 e2 hP1 hD1 hS1 hmk S.2.2.2.2.1 (vok_tl (vok_tl S.stv)))
  rw [e1, e2] at K
  exact K
theorem g_26 (C : CX p s m args meth c0 f A D cA X n xs) (hRf : 1 ≤ R.frames) (hRl : 100 ≤ R.locals) (hd : decode (mtbs f).1 pc = .ok (raw pc (26, a, b, x))) (hl : lnk (mtbs f).2.2.2.2 (mtbs f).2.2.1 (mtbs f).2.1.name (26, a, b, x) = true) (hs : oks (inf f).1 (26, a, b, x) = true) (h0 : act (26, a, b, x) ls st (L, c) = some (.inl (ls', st', M'))) (hL : M'.1.length ≤ 1000000) (hRc : M'.1.length - n0 ≤ R.cells) (hRs : slz M'.1 - z0 ≤ R.slots) (hk : WS p l e R s m args below meth c0 Q f A D cA X n xs ad0 n0 z0 (npc pc (26, a, b, x)) ls' st' M'.1 M'.2) : WS p l e R s m args below meth c0 Q f A D cA X n xs ad0 n0 z0 pc ls st L c := by
  intro ad H locs lsM S
  obtain ⟨hx, hb, hml, hown, hts, hK, hST, hA, hr, hlk, hnm⟩ := C
  have h9 := pI_inv h0
  clear h0
  obtain ⟨j, t, rfl, h⟩ := h9
  have h9 := pR_inv h
  clear h
  obtain ⟨r, t, rfl, h⟩ := h9
  have h9 := pD_inv h
  clear h
  obtain ⟨k, sh, hk0, rfl, h⟩ := h9
  have hj : In32 j := vok_hd S.stv
  rcases a with _ | _ | _ | _ | _ | a
  · have h9 := bif_inv h
    clear h
    obtain ⟨h1, h⟩ := h9
    have h1 : sh.1 = 0 := beq_of h1
    have h9 := if_inv h
    clear h
    obtain ⟨hij, h⟩ := h9
    have h : (some (.inl (ls, vI (c k j) :: t, (L, c))) : Act) = some (.inl (ls', st', M')) := h
    cases h
    have hco := S.2.2.2.1 k sh hk0
    have he := wsl_at (ad := ad) (X := X) (cA := cA) (c := c) hk0
    have hent : ent ad X cA sh (c k) = .inl (cA 0, (sh.2.1.toNat, .inl (fun j => Int32.ofInt (c k (Int.ofNat j))))) := by unfold ent; rw [h1]; rfl
    rw [hent] at he
    have ej : (Int.ofNat (Int32.ofInt j).toNatClampNeg) = j := by rw [o32_clamp hj]; exact Int.toNat_of_nonneg hij.1
    refine va_iald hx hb hK S.1 k 0 he rfl (o32_in hj hij.1 hij.2) hd (W_top (v := .int (Int32.ofInt (c k j))) ?_ (hk ad H locs lsM (S.stk (vok_cons (vokI (hco.2.1 (Or.inl h1) j)) (vok_tl (vok_tl S.stv))))))
    show _ = Value.int (Int32.ofInt (c k (Int.ofNat (Int32.ofInt j).toNatClampNeg)))
    rw [ej]
  · have h9 := bif_inv h
    clear h
    obtain ⟨h1, h⟩ := h9
    have h1 : sh.1 = 1 := beq_of h1
    have h9 := if_inv h
    clear h
    obtain ⟨hij, h⟩ := h9
    have h : (some (.inl (ls, vL (c k j) :: t, (L, c))) : Act) = some (.inl (ls', st', M')) := h
    cases h
    have hco := S.2.2.2.1 k sh hk0
    have he := wsl_at (ad := ad) (X := X) (cA := cA) (c := c) hk0
    have hent : ent ad X cA sh (c k) = .inl (cA 1, (sh.2.1.toNat, .inr (.inl (fun j => Int64.ofInt (c k (Int.ofNat j)))))) := by unfold ent; rw [h1]; rfl
    rw [hent] at he
    have ej : (Int.ofNat (Int32.ofInt j).toNatClampNeg) = j := by rw [o32_clamp hj]; exact Int.toNat_of_nonneg hij.1
    refine va_lald hx hb hK S.1 k 1 he rfl (o32_in hj hij.1 hij.2) hd (W_top (v := .long (Int64.ofInt (c k j))) ?_ (hk ad H locs lsM (S.stk (vok_cons (vokL (hco.2.2.1 h1 j)) (vok_tl (vok_tl S.stv))))))
    show _ = Value.long (Int64.ofInt (c k (Int.ofNat (Int32.ofInt j).toNatClampNeg)))
    rw [ej]
  · have h9 := bif_inv h
    clear h
    obtain ⟨h1, h⟩ := h9
    have h1 : sh.1 = 2 := beq_of h1
    have h9 := if_inv h
    clear h
    obtain ⟨hij, h⟩ := h9
    have h : (some (.inl (ls, vI (c k j) :: t, (L, c))) : Act) = some (.inl (ls', st', M')) := h
    cases h
    have hco := S.2.2.2.1 k sh hk0
    have he := wsl_at (ad := ad) (X := X) (cA := cA) (c := c) hk0
    have hent : ent ad X cA sh (c k) = .inl (cA 2, (sh.2.1.toNat, .inl (fun j => Int32.ofInt (c k (Int.ofNat j))))) := by unfold ent; rw [h1]; rfl
    rw [hent] at he
    have ej : (Int.ofNat (Int32.ofInt j).toNatClampNeg) = j := by rw [o32_clamp hj]; exact Int.toNat_of_nonneg hij.1
    refine va_zald hx hb hK S.1 k 2 he rfl (o32_in hj hij.1 hij.2) hd (W_top (v := .int (Int32.ofInt (c k j))) ?_ (hk ad H locs lsM (S.stk (vok_cons (vokI (hco.2.1 (Or.inr h1) j)) (vok_tl (vok_tl S.stv))))))
    show _ = Value.int (Int32.ofInt (c k (Int.ofNat (Int32.ofInt j).toNatClampNeg)))
    rw [ej]
  · have h9 := bif_inv h
    clear h
    obtain ⟨h1, h⟩ := h9
    have h1 : sh.1 = 3 := beq_of h1
    have h9 := if_inv h
    clear h
    obtain ⟨hij, h⟩ := h9
    have h : (some (.inl (ls, vR (c k j) :: t, (L, c))) : Act) = some (.inl (ls', st', M')) := h
    cases h
    have hco := S.2.2.2.1 k sh hk0
    have he := wsl_at (ad := ad) (X := X) (cA := cA) (c := c) hk0
    have hent : ent ad X cA sh (c k) = .inl (cA 3, (sh.2.1.toNat, .inr (.inr (.inr (.inr (fun j => rof ad X (c k (Int.ofNat j)))))))) := by unfold ent; rw [h1]; rfl
    rw [hent] at he
    have ej : (Int.ofNat (Int32.ofInt j).toNatClampNeg) = j := by rw [o32_clamp hj]; exact Int.toNat_of_nonneg hij.1
    refine va_aldq hx hb hK S.1 k 3 he rfl (o32_in hj hij.1 hij.2) hd (W_top (v := va_rf (rof ad X (c k j))) ?_ (hk ad H locs lsM (S.stk (vok_cons (show c k j ≤ (L.length : Int) from (hco.2.2.2.1 (Or.inl h1) j).2) (vok_tl (vok_tl S.stv))))))
    show _ = va_rf (rof ad X (c k (Int.ofNat (Int32.ofInt j).toNatClampNeg)))
    rw [ej]
  · have h9 := bif_inv h
    clear h
    obtain ⟨h1, h⟩ := h9
    have h1 : sh.1 = 4 := beq_of h1
    have h9 := if_inv h
    clear h
    obtain ⟨hij, h⟩ := h9
    have h : (some (.inl (ls, vR (c k j) :: t, (L, c))) : Act) = some (.inl (ls', st', M')) := h
    cases h
    have hco := S.2.2.2.1 k sh hk0
    have he := wsl_at (ad := ad) (X := X) (cA := cA) (c := c) hk0
    have hent : ent ad X cA sh (c k) = .inl (cA 4, (sh.2.1.toNat, .inr (.inr (.inr (.inr (fun j => rof ad X (c k (Int.ofNat j)))))))) := by unfold ent; rw [h1]; rfl
    rw [hent] at he
    have ej : (Int.ofNat (Int32.ofInt j).toNatClampNeg) = j := by rw [o32_clamp hj]; exact Int.toNat_of_nonneg hij.1
    refine va_aldq hx hb hK S.1 k 4 he rfl (o32_in hj hij.1 hij.2) hd (W_top (v := va_rf (rof ad X (c k j))) ?_ (hk ad H locs lsM (S.stk (vok_cons (show c k j ≤ (L.length : Int) from (hco.2.2.2.1 (Or.inr h1) j).2) (vok_tl (vok_tl S.stv))))))
    show _ = va_rf (rof ad X (c k (Int.ofNat (Int32.ofInt j).toNatClampNeg)))
    rw [ej]
  · have : Nat.ble (a + 5) 4 = true := hl
    exact absurd (Nat.le_of_ble_eq_true this) (by omega)
theorem g_27 (C : CX p s m args meth c0 f A D cA X n xs) (hRf : 1 ≤ R.frames) (hRl : 100 ≤ R.locals) (hd : decode (mtbs f).1 pc = .ok (raw pc (27, a, b, x))) (hl : lnk (mtbs f).2.2.2.2 (mtbs f).2.2.1 (mtbs f).2.1.name (27, a, b, x) = true) (hs : oks (inf f).1 (27, a, b, x) = true) (h0 : act (27, a, b, x) ls st (L, c) = some (.inl (ls', st', M'))) (hL : M'.1.length ≤ 1000000) (hRc : M'.1.length - n0 ≤ R.cells) (hRs : slz M'.1 - z0 ≤ R.slots) (hk : WS p l e R s m args below meth c0 Q f A D cA X n xs ad0 n0 z0 (npc pc (27, a, b, x)) ls' st' M'.1 M'.2) : WS p l e R s m args below meth c0 Q f A D cA X n xs ad0 n0 z0 pc ls st L c := by
  intro ad H locs lsM S
  obtain ⟨hx, hb, hml, hown, hts, hK, hST, hA, hr, hlk, hnm⟩ := C
  have h9 := pI_inv h0
  clear h0
  obtain ⟨y, t, rfl, h⟩ := h9
  have h9 := pI_inv h
  clear h
  obtain ⟨j, t, rfl, h⟩ := h9
  have h9 := pR_inv h
  clear h
  obtain ⟨r, t, rfl, h⟩ := h9
  have h9 := pD_inv h
  clear h
  obtain ⟨k, sh, hk0, rfl, h⟩ := h9
  have h9 := bif_inv h
  clear h
  obtain ⟨h1, h⟩ := h9
  have h1 : sh.1 = 0 := beq_of h1
  have h9 := if_inv h
  clear h
  obtain ⟨hij, h⟩ := h9
  have h : (some (.inl (ls, t, (L, up c k j y))) : Act) = some (.inl (ls', st', M')) := h
  cases h
  have hy : In32 y := vok_hd S.stv
  have hj : In32 j := vok_hd (vok_tl S.stv)
  have hco := S.2.2.2.1 k sh hk0
  have he := wsl_at (ad := ad) (X := X) (cA := cA) (c := c) hk0
  have hent : ∀ g : Int → Int, ent ad X cA sh g = .inl (cA 0, (sh.2.1.toNat, .inl (fun j => Int32.ofInt (g (Int.ofNat j))))) := fun g => by unfold ent; rw [h1]; rfl
  rw [hent] at he
  have hcl : (Int32.ofInt j).toNatClampNeg = j.toNat := o32_clamp hj
  refine va_iast hx hb hK S.1 S.2.1 S.2.2.1 k 0 he rfl (o32_in hj hij.1 hij.2) hd (fun H1 locs1 hP1 hD1 hS1 => hk ad H1 locs1 lsM (S.upd hL hk0 (fun a2 h2 => up_nes h2) (cok_arr02 hco (Or.inl h1) hy) ?_ hP1 hD1 hS1 (vok_tl (vok_tl (vok_tl S.stv)))))
  rw [hent, hcl]
  congr 4
  funext z
  dsimp only
  rw [up_self]
  by_cases hz : z = j.toNat
  · have e9 : (Int.ofNat z) = j := by rw [hz]; exact Int.toNat_of_nonneg hij.1
    rw [if_pos e9]
    unfold upd
    rw [if_pos hz]
  · have e9 : ¬ (Int.ofNat z) = j := fun q => hz (by rw [← q]; rfl)
    rw [if_neg e9]
    unfold upd
    rw [if_neg hz]
theorem g_28 (C : CX p s m args meth c0 f A D cA X n xs) (hRf : 1 ≤ R.frames) (hRl : 100 ≤ R.locals) (hd : decode (mtbs f).1 pc = .ok (raw pc (28, a, b, x))) (hl : lnk (mtbs f).2.2.2.2 (mtbs f).2.2.1 (mtbs f).2.1.name (28, a, b, x) = true) (hs : oks (inf f).1 (28, a, b, x) = true) (h0 : act (28, a, b, x) ls st (L, c) = some (.inl (ls', st', M'))) (hL : M'.1.length ≤ 1000000) (hRc : M'.1.length - n0 ≤ R.cells) (hRs : slz M'.1 - z0 ≤ R.slots) (hk : WS p l e R s m args below meth c0 Q f A D cA X n xs ad0 n0 z0 (npc pc (28, a, b, x)) ls' st' M'.1 M'.2) : WS p l e R s m args below meth c0 Q f A D cA X n xs ad0 n0 z0 pc ls st L c := by
  intro ad H locs lsM S
  obtain ⟨hx, hb, hml, hown, hts, hK, hST, hA, hr, hlk, hnm⟩ := C
  have h9 := pR_inv h0
  clear h0
  obtain ⟨r, t, rfl, h⟩ := h9
  have h9 := pD_inv h
  clear h
  obtain ⟨k, sh, hk0, rfl, h⟩ := h9
  have h9 := bif_inv h
  clear h
  obtain ⟨h1, h⟩ := h9
  have h1 : sh.1 ≤ 4 := Nat.le_of_ble_eq_true h1
  have h : (some (.inl (ls, vI sh.2.1 :: t, (L, c))) : Act) = some (.inl (ls', st', M')) := h
  cases h
  have hco := S.2.2.2.1 k sh hk0
  have hsz := hco.1 h1
  have hz32 : In32 sh.2.1 := ⟨by omega, by omega⟩
  have he := wsl_at (ad := ad) (X := X) (cA := cA) (c := c) hk0
  have K := hk ad H locs lsM (S.stk (vok_cons hz32 (vok_tl S.stv)))
  have ev : Int32.ofNat sh.2.1.toNat = Int32.ofInt sh.2.1 := by rw [← o32_nat, Int.toNat_of_nonneg hsz.1]
  rcases (kind_cases (n := sh.1)) with q | q | q | q | q | q
  · have hent : ent ad X cA sh (c k) = .inl (cA 0, (sh.2.1.toNat, .inl (fun j => Int32.ofInt (c k (Int.ofNat j))))) := by unfold ent; rw [q]; rfl
    rw [hent] at he
    exact va_alen (v := Int32.ofInt sh.2.1) hx hb hK S.1 k 0 he rfl ev hd K
  · have hent : ent ad X cA sh (c k) = .inl (cA 1, (sh.2.1.toNat, .inr (.inl (fun j => Int64.ofInt (c k (Int.ofNat j)))))) := by unfold ent; rw [q]; rfl
    rw [hent] at he
    exact va_alen (v := Int32.ofInt sh.2.1) hx hb hK S.1 k 1 he rfl ev hd K
  · have hent : ent ad X cA sh (c k) = .inl (cA 2, (sh.2.1.toNat, .inl (fun j => Int32.ofInt (c k (Int.ofNat j))))) := by unfold ent; rw [q]; rfl
    rw [hent] at he
    exact va_alen (v := Int32.ofInt sh.2.1) hx hb hK S.1 k 2 he rfl ev hd K
  · have hent : ent ad X cA sh (c k) = .inl (cA 3, (sh.2.1.toNat, .inr (.inr (.inr (.inr (fun j => rof ad X (c k (Int.ofNat j)))))))) := by unfold ent; rw [q]; rfl
    rw [hent] at he
    exact va_alen (v := Int32.ofInt sh.2.1) hx hb hK S.1 k 3 he rfl ev hd K
  · have hent : ent ad X cA sh (c k) = .inl (cA 4, (sh.2.1.toNat, .inr (.inr (.inr (.inr (fun j => rof ad X (c k (Int.ofNat j)))))))) := by unfold ent; rw [q]; rfl
    rw [hent] at he
    exact va_alen (v := Int32.ofInt sh.2.1) hx hb hK S.1 k 4 he rfl ev hd K
  · omega
end OPS

/-! SOUNDNESS, 3: fields, arrays, text, what is made (own work) -/
section OPS
variable {p : Program} {l : Launch} {e : Env} {R : Room} {s : State} {m : MethodId} {args : Array Value} {below : List Frame} {meth : Method} {c0 : Code} {Q : State → Prop} {f : Nat} {A : Nat → Prop} {D : va_G} {cA : Nat → ClassId} {X : AdX} {n : Nat} {xs : Nat → Int32} {ad0 : Nat → Nat} {n0 z0 : Nat}
variable {ls st ls' st' : List V} {L : List Shp} {c : Nat → Int → Int} {M' : Mem} {pc a b : Nat} {x : Int}
theorem g_18 (C : CX p s m args meth c0 f A D cA X n xs) (hRf : 1 ≤ R.frames) (hRl : 100 ≤ R.locals) (hd : decode (mtb f).1 pc = .ok (raw pc (18, a, b, x))) (hl : lnk (mtb f).2.2.2.2 (mtb f).2.2.1 (mtb f).2.1.name (18, a, b, x) = true) (hs : oks (inf f).1 (18, a, b, x) = true) (h : act (18, a, b, x) ls st (L, c) = some (.inl (ls', st', M'))) (hL : M'.1.length ≤ 1000000) (hRc : M'.1.length - n0 ≤ R.cells) (hRs : slz M'.1 - z0 ≤ R.slots) (hk : WS p l e R s m args below meth c0 Q f A D cA X n xs ad0 n0 z0 (npc pc (18, a, b, x)) ls' st' M'.1 M'.2) : WS p l e R s m args below meth c0 Q f A D cA X n xs ad0 n0 z0 pc ls st L c := by
  intro ad H locs lsM S
  obtain ⟨hx, hb, hml, hown, hts, hK, hST, hA, hr, hlk, hnm⟩ := C
  obtain ⟨r, t, rfl, h⟩ := pR_inv h
  obtain ⟨k, sh, hk0, rfl, h⟩ := pD_inv h
  obtain ⟨h1, h⟩ := bif_inv h
  have h1 : sh.1 = 10 + a := beq_of h1
  have h : (some (.inl (ls, vI (c k (Int.ofNat b)) :: t, (L, c))) : Act) = some (.inl (ls', st', M')) := h
  cases h
  have hl : (Nat.beq ((ftb a).getD b 9) 0 && (lkF (mtb f).2.2.2.2).any (fun q => Nat.beq q.1 x.toNat && (Nat.beq q.2.1 a && Nat.beq q.2.2.1 b))) = true := hl
  rw [Bool.and_eq_true] at hl
  have hty : (ftb a).getD b 9 = 0 := beq_of hl.1
  have hco := S.2.2.2.1 k sh hk0
  have ha12 : a ≤ 12 := by have := (hco.2.2.2.2 (by omega)).2.1; omega
  obtain ⟨q, ty, hC⟩ := cls_all a ha12
  have hb3 : b < q.2.2 := hC.fin (by rw [hty]; decide)
  have hcf := cok_f (k := b) hco (by omega)
  rw [h1, Nat.add_sub_cancel_left] at hcf
  have he := wsl_at (ad := ad) (X := X) (cA := cA) (c := c) hk0
  rw [ent_5 (by omega), h1, Nat.add_sub_cancel_left] at he
  have hw := hts _ (lkF_word hl.2)
  rw [hC.nam] at hw
  refine va_get (D := D) (ci := a) (fs := flds ad X a (c k) sh.2.2) (v := .int (Int32.ofInt (c k (Int.ofNat b)))) hx hb hts hC.2.2.1 hown hK S.1 k he hC.1 b hb3 hw (fun _ h9 => h9) ?_ hd (hk ad H locs lsM (S.stk (vok_cons (vokI (hcf.2.2 (by rw [hty]; decide))) (vok_tl S.stv))))
  rw [flds_at (by rw [← hC.2.2.2.2.2.1]; exact hb3), hty]
  rfl
theorem g_19 (C : CX p s m args meth c0 f A D cA X n xs) (hRf : 1 ≤ R.frames) (hRl : 100 ≤ R.locals) (hd : decode (mtb f).1 pc = .ok (raw pc (19, a, b, x))) (hl : lnk (mtb f).2.2.2.2 (mtb f).2.2.1 (mtb f).2.1.name (19, a, b, x) = true) (hs : oks (inf f).1 (19, a, b, x) = true) (h : act (19, a, b, x) ls st (L, c) = some (.inl (ls', st', M'))) (hL : M'.1.length ≤ 1000000) (hRc : M'.1.length - n0 ≤ R.cells) (hRs : slz M'.1 - z0 ≤ R.slots) (hk : WS p l e R s m args below meth c0 Q f A D cA X n xs ad0 n0 z0 (npc pc (19, a, b, x)) ls' st' M'.1 M'.2) : WS p l e R s m args below meth c0 Q f A D cA X n xs ad0 n0 z0 pc ls st L c := by
  intro ad H locs lsM S
  obtain ⟨hx, hb, hml, hown, hts, hK, hST, hA, hr, hlk, hnm⟩ := C
  obtain ⟨r, t, rfl, h⟩ := pR_inv h
  obtain ⟨k, sh, hk0, rfl, h⟩ := pD_inv h
  obtain ⟨h1, h⟩ := bif_inv h
  have h1 : sh.1 = 10 + a := beq_of h1
  have h : (some (.inl (ls, vL (c k (Int.ofNat b)) :: t, (L, c))) : Act) = some (.inl (ls', st', M')) := h
  cases h
  have hl : (Nat.beq ((ftb a).getD b 9) 1 && (lkF (mtb f).2.2.2.2).any (fun q => Nat.beq q.1 x.toNat && (Nat.beq q.2.1 a && Nat.beq q.2.2.1 b))) = true := hl
  rw [Bool.and_eq_true] at hl
  have hty : (ftb a).getD b 9 = 1 := beq_of hl.1
  have hco := S.2.2.2.1 k sh hk0
  have ha12 : a ≤ 12 := by have := (hco.2.2.2.2 (by omega)).2.1; omega
  obtain ⟨q, ty, hC⟩ := cls_all a ha12
  have hb3 : b < q.2.2 := hC.fin (by rw [hty]; decide)
  have hcf := cok_f (k := b) hco (by omega)
  rw [h1, Nat.add_sub_cancel_left] at hcf
  have he := wsl_at (ad := ad) (X := X) (cA := cA) (c := c) hk0
  rw [ent_5 (by omega), h1, Nat.add_sub_cancel_left] at he
  have hw := hts _ (lkF_word hl.2)
  rw [hC.nam] at hw
  refine va_get (D := D) (ci := a) (fs := flds ad X a (c k) sh.2.2) (v := .long (Int64.ofInt (c k (Int.ofNat b)))) hx hb hts hC.2.2.1 hown hK S.1 k he hC.1 b hb3 hw (fun _ h9 => h9) ?_ hd (hk ad H locs lsM (S.stk (vok_cons (vokL (hcf.2.1 hty)) (vok_tl S.stv))))
  rw [flds_at (by rw [← hC.2.2.2.2.2.1]; exact hb3), hty]
  rfl
theorem g_20 (C : CX p s m args meth c0 f A D cA X n xs) (hRf : 1 ≤ R.frames) (hRl : 100 ≤ R.locals) (hd : decode (mtb f).1 pc = .ok (raw pc (20, a, b, x))) (hl : lnk (mtb f).2.2.2.2 (mtb f).2.2.1 (mtb f).2.1.name (20, a, b, x) = true) (hs : oks (inf f).1 (20, a, b, x) = true) (h : act (20, a, b, x) ls st (L, c) = some (.inl (ls', st', M'))) (hL : M'.1.length ≤ 1000000) (hRc : M'.1.length - n0 ≤ R.cells) (hRs : slz M'.1 - z0 ≤ R.slots) (hk : WS p l e R s m args below meth c0 Q f A D cA X n xs ad0 n0 z0 (npc pc (20, a, b, x)) ls' st' M'.1 M'.2) : WS p l e R s m args below meth c0 Q f A D cA X n xs ad0 n0 z0 pc ls st L c := by
  intro ad H locs lsM S
  obtain ⟨hx, hb, hml, hown, hts, hK, hST, hA, hr, hlk, hnm⟩ := C
  obtain ⟨r, t, rfl, h⟩ := pR_inv h
  obtain ⟨k, sh, hk0, rfl, h⟩ := pD_inv h
  obtain ⟨h1, h⟩ := bif_inv h
  have h1 : sh.1 = 10 + a := beq_of h1
  have h : (some (.inl (ls, vI (c k (Int.ofNat b)) :: t, (L, c))) : Act) = some (.inl (ls', st', M')) := h
  cases h
  have hl : (Nat.beq ((ftb a).getD b 9) 2 && (lkF (mtb f).2.2.2.2).any (fun q => Nat.beq q.1 x.toNat && (Nat.beq q.2.1 a && Nat.beq q.2.2.1 b))) = true := hl
  rw [Bool.and_eq_true] at hl
  have hty : (ftb a).getD b 9 = 2 := beq_of hl.1
  have hco := S.2.2.2.1 k sh hk0
  have ha12 : a ≤ 12 := by have := (hco.2.2.2.2 (by omega)).2.1; omega
  obtain ⟨q, ty, hC⟩ := cls_all a ha12
  have hb3 : b < q.2.2 := hC.fin (by rw [hty]; decide)
  have hcf := cok_f (k := b) hco (by omega)
  rw [h1, Nat.add_sub_cancel_left] at hcf
  have he := wsl_at (ad := ad) (X := X) (cA := cA) (c := c) hk0
  rw [ent_5 (by omega), h1, Nat.add_sub_cancel_left] at he
  have hw := hts _ (lkF_word hl.2)
  rw [hC.nam] at hw
  refine va_get (D := D) (ci := a) (fs := flds ad X a (c k) sh.2.2) (v := .int (Int32.ofInt (c k (Int.ofNat b)))) hx hb hts hC.2.2.1 hown hK S.1 k he hC.1 b hb3 hw (fun _ h9 => h9) ?_ hd (hk ad H locs lsM (S.stk (vok_cons (vokI (hcf.2.2 (by rw [hty]; decide))) (vok_tl S.stv))))
  rw [flds_at (by rw [← hC.2.2.2.2.2.1]; exact hb3), hty]
  rfl
theorem g_21 (C : CX p s m args meth c0 f A D cA X n xs) (hRf : 1 ≤ R.frames) (hRl : 100 ≤ R.locals) (hd : decode (mtb f).1 pc = .ok (raw pc (21, a, b, x))) (hl : lnk (mtb f).2.2.2.2 (mtb f).2.2.1 (mtb f).2.1.name (21, a, b, x) = true) (hs : oks (inf f).1 (21, a, b, x) = true) (h : act (21, a, b, x) ls st (L, c) = some (.inl (ls', st', M'))) (hL : M'.1.length ≤ 1000000) (hRc : M'.1.length - n0 ≤ R.cells) (hRs : slz M'.1 - z0 ≤ R.slots) (hk : WS p l e R s m args below meth c0 Q f A D cA X n xs ad0 n0 z0 (npc pc (21, a, b, x)) ls' st' M'.1 M'.2) : WS p l e R s m args below meth c0 Q f A D cA X n xs ad0 n0 z0 pc ls st L c := by
  intro ad H locs lsM S
  obtain ⟨hx, hb, hml, hown, hts, hK, hST, hA, hr, hlk, hnm⟩ := C
  obtain ⟨r, t, rfl, h⟩ := pR_inv h
  obtain ⟨k, sh, hk0, rfl, h⟩ := pD_inv h
  obtain ⟨h1, h⟩ := bif_inv h
  have h1 : sh.1 = 10 + a := beq_of h1
  have h : (some (.inl (ls, vR (sh.2.2.getD b 0) :: t, (L, c))) : Act) = some (.inl (ls', st', M')) := h
  cases h
  have hl : (Nat.beq ((ftb a).getD b 9) 3 && (lkF (mtb f).2.2.2.2).any (fun q => Nat.beq q.1 x.toNat && (Nat.beq q.2.1 a && Nat.beq q.2.2.1 b))) = true := hl
  rw [Bool.and_eq_true] at hl
  have hty : (ftb a).getD b 9 = 3 := beq_of hl.1
  have hco := S.2.2.2.1 k sh hk0
  have ha12 : a ≤ 12 := by have := (hco.2.2.2.2 (by omega)).2.1; omega
  obtain ⟨q, ty, hC⟩ := cls_all a ha12
  have hb3 : b < q.2.2 := hC.fin (by rw [hty]; decide)
  have hcf := cok_f (k := b) hco (by omega)
  rw [h1, Nat.add_sub_cancel_left] at hcf
  have he := wsl_at (ad := ad) (X := X) (cA := cA) (c := c) hk0
  rw [ent_5 (by omega), h1, Nat.add_sub_cancel_left] at he
  have hw := hts _ (lkF_word hl.2)
  rw [hC.nam] at hw
  refine va_get (D := D) (ci := a) (fs := flds ad X a (c k) sh.2.2) (v := va_rf (rof ad X (sh.2.2.getD b 0))) hx hb hts hC.2.2.1 hown hK S.1 k he hC.1 b hb3 hw (fun _ h9 => h9) ?_ hd (hk ad H locs lsM (S.stk (vok_cons (getD_le hcf.1) (vok_tl S.stv))))
  rw [flds_at (by rw [← hC.2.2.2.2.2.1]; exact hb3), hty]
  rfl
theorem g_22 (C : CX p s m args meth c0 f A D cA X n xs) (hRf : 1 ≤ R.frames) (hRl : 100 ≤ R.locals) (hd : decode (mtb f).1 pc = .ok (raw pc (22, a, b, x))) (hl : lnk (mtb f).2.2.2.2 (mtb f).2.2.1 (mtb f).2.1.name (22, a, b, x) = true) (hs : oks (inf f).1 (22, a, b, x) = true) (h : act (22, a, b, x) ls st (L, c) = some (.inl (ls', st', M'))) (hL : M'.1.length ≤ 1000000) (hRc : M'.1.length - n0 ≤ R.cells) (hRs : slz M'.1 - z0 ≤ R.slots) (hk : WS p l e R s m args below meth c0 Q f A D cA X n xs ad0 n0 z0 (npc pc (22, a, b, x)) ls' st' M'.1 M'.2) : WS p l e R s m args below meth c0 Q f A D cA X n xs ad0 n0 z0 pc ls st L c := by
  intro ad H locs lsM S
  obtain ⟨hx, hb, hml, hown, hts, hK, hST, hA, hr, hlk, hnm⟩ := C
  obtain ⟨y, t, rfl, h⟩ := pI_inv h
  obtain ⟨r, t, rfl, h⟩ := pR_inv h
  obtain ⟨k, sh, hk0, rfl, h⟩ := pD_inv h
  obtain ⟨h1, h⟩ := bif_inv h
  have h1 : sh.1 = 10 + a := beq_of h1
  have h : (some (.inl (ls, t, (L, up c k (Int.ofNat b) y))) : Act) = some (.inl (ls', st', M')) := h
  cases h
  have hl : (Nat.beq ((ftb a).getD b 9) 0 && (lkF (mtb f).2.2.2.2).any (fun q => Nat.beq q.1 x.toNat && (Nat.beq q.2.1 a && Nat.beq q.2.2.1 b))) = true := hl
  rw [Bool.and_eq_true] at hl
  have hty : (ftb a).getD b 9 = 0 := beq_of hl.1
  have hco := S.2.2.2.1 k sh hk0
  have ha12 : a ≤ 12 := by have := (hco.2.2.2.2 (by omega)).2.1; omega
  obtain ⟨q, ty, hC⟩ := cls_all a ha12
  have hb3 : b < q.2.2 := hC.fin (by rw [hty]; decide)
  have hb4 : b < (ftb a).length := by rw [← hC.2.2.2.2.2.1]; exact hb3
  have he := wsl_at (ad := ad) (X := X) (cA := cA) (c := c) hk0
  rw [ent_5 (by omega), h1, Nat.add_sub_cancel_left] at he
  have hw := hts _ (lkF_word hl.2)
  rw [hC.nam] at hw
  have hyo : In32 y := vok_hd S.stv
  obtain ⟨hk1, hk2⟩ := hC.2.2.2.2.2.2 b hb3
  rw [hty] at hk1
  obtain ⟨hty2, hfin⟩ := tyk_inv0 hk1
  have hfl : (flds ad X a (c k) sh.2.2).length = (ftb a).length := by simp [flds]
  refine va_put (D := D) (ci := a) (fs := flds ad X a (c k) sh.2.2) (v := .int (Int32.ofInt y)) (ty := ty b) hx hb hts hC.2.2.1 ty hC.2.2.2.1 hC.2.2.2.2.1 hown hK S.1 S.2.1 S.2.2.1 k he hC.1 b hb3 hw (fun _ h9 => h9) hfin (hC.2.2.2.1 b hb3) (by rw [hty2]; rfl) (by rw [hty2]; rfl) (by rw [hfl]; exact hb4) hd (fun H1 locs1 hP1 hD1 hS1 => hk ad H1 locs1 lsM (S.upd hL hk0 (fun a2 h2 => up_ne h2) (cok_fld hco h1 hty hyo) ?_ hP1 hD1 hS1 (vok_tl (vok_tl S.stv))))
  rw [ent_5 (by omega), h1, Nat.add_sub_cancel_left]
  rw [flds_set hb4 (by rw [hty, up_self, if_pos rfl]; rfl) (fun j hj => by rw [up_self, if_neg (by intro q; exact hj (Int.ofNat.inj q))])]
theorem g_23 (C : CX p s m args meth c0 f A D cA X n xs) (hRf : 1 ≤ R.frames) (hRl : 100 ≤ R.locals) (hd : decode (mtb f).1 pc = .ok (raw pc (23, a, b, x))) (hl : lnk (mtb f).2.2.2.2 (mtb f).2.2.1 (mtb f).2.1.name (23, a, b, x) = true) (hs : oks (inf f).1 (23, a, b, x) = true) (h : act (23, a, b, x) ls st (L, c) = some (.inl (ls', st', M'))) (hL : M'.1.length ≤ 1000000) (hRc : M'.1.length - n0 ≤ R.cells) (hRs : slz M'.1 - z0 ≤ R.slots) (hk : WS p l e R s m args below meth c0 Q f A D cA X n xs ad0 n0 z0 (npc pc (23, a, b, x)) ls' st' M'.1 M'.2) : WS p l e R s m args below meth c0 Q f A D cA X n xs ad0 n0 z0 pc ls st L c := by
  intro ad H locs lsM S
  obtain ⟨hx, hb, hml, hown, hts, hK, hST, hA, hr, hlk, hnm⟩ := C
  obtain ⟨y, t, rfl, h⟩ := pL_inv h
  obtain ⟨r, t, rfl, h⟩ := pR_inv h
  obtain ⟨k, sh, hk0, rfl, h⟩ := pD_inv h
  obtain ⟨h1, h⟩ := bif_inv h
  have h1 : sh.1 = 10 + a := beq_of h1
  have h : (some (.inl (ls, t, (L, up c k (Int.ofNat b) y))) : Act) = some (.inl (ls', st', M')) := h
  cases h
  have hl : (Nat.beq ((ftb a).getD b 9) 1 && (lkF (mtb f).2.2.2.2).any (fun q => Nat.beq q.1 x.toNat && (Nat.beq q.2.1 a && Nat.beq q.2.2.1 b))) = true := hl
  rw [Bool.and_eq_true] at hl
  have hty : (ftb a).getD b 9 = 1 := beq_of hl.1
  have hco := S.2.2.2.1 k sh hk0
  have ha12 : a ≤ 12 := by have := (hco.2.2.2.2 (by omega)).2.1; omega
  obtain ⟨q, ty, hC⟩ := cls_all a ha12
  have hb3 : b < q.2.2 := hC.fin (by rw [hty]; decide)
  have hb4 : b < (ftb a).length := by rw [← hC.2.2.2.2.2.1]; exact hb3
  have he := wsl_at (ad := ad) (X := X) (cA := cA) (c := c) hk0
  rw [ent_5 (by omega), h1, Nat.add_sub_cancel_left] at he
  have hw := hts _ (lkF_word hl.2)
  rw [hC.nam] at hw
  have hyo : In64 y := vok_hd S.stv
  obtain ⟨hk1, hk2⟩ := hC.2.2.2.2.2.2 b hb3
  rw [hty] at hk1
  obtain ⟨hty2, hfin⟩ := tyk_inv1 hk1
  have hfl : (flds ad X a (c k) sh.2.2).length = (ftb a).length := by simp [flds]
  refine va_put (D := D) (ci := a) (fs := flds ad X a (c k) sh.2.2) (v := .long (Int64.ofInt y)) (ty := ty b) hx hb hts hC.2.2.1 ty hC.2.2.2.1 hC.2.2.2.2.1 hown hK S.1 S.2.1 S.2.2.1 k he hC.1 b hb3 hw (fun _ h9 => h9) hfin (hC.2.2.2.1 b hb3) (by rw [hty2]; rfl) (by rw [hty2]; rfl) (by rw [hfl]; exact hb4) hd (fun H1 locs1 hP1 hD1 hS1 => hk ad H1 locs1 lsM (S.upd hL hk0 (fun a2 h2 => up_ne h2) (cok_fld hco h1 hty hyo) ?_ hP1 hD1 hS1 (vok_tl (vok_tl S.stv))))
  rw [ent_5 (by omega), h1, Nat.add_sub_cancel_left]
  rw [flds_set hb4 (by rw [hty, up_self, if_pos rfl]; rfl) (fun j hj => by rw [up_self, if_neg (by intro q; exact hj (Int.ofNat.inj q))])]
theorem g_24 (C : CX p s m args meth c0 f A D cA X n xs) (hRf : 1 ≤ R.frames) (hRl : 100 ≤ R.locals) (hd : decode (mtb f).1 pc = .ok (raw pc (24, a, b, x))) (hl : lnk (mtb f).2.2.2.2 (mtb f).2.2.1 (mtb f).2.1.name (24, a, b, x) = true) (hs : oks (inf f).1 (24, a, b, x) = true) (h : act (24, a, b, x) ls st (L, c) = some (.inl (ls', st', M'))) (hL : M'.1.length ≤ 1000000) (hRc : M'.1.length - n0 ≤ R.cells) (hRs : slz M'.1 - z0 ≤ R.slots) (hk : WS p l e R s m args below meth c0 Q f A D cA X n xs ad0 n0 z0 (npc pc (24, a, b, x)) ls' st' M'.1 M'.2) : WS p l e R s m args below meth c0 Q f A D cA X n xs ad0 n0 z0 pc ls st L c := by
  intro ad H locs lsM S
  obtain ⟨hx, hb, hml, hown, hts, hK, hST, hA, hr, hlk, hnm⟩ := C
  obtain ⟨y, t, rfl, h⟩ := pI_inv h
  obtain ⟨r, t, rfl, h⟩ := pR_inv h
  obtain ⟨k, sh, hk0, rfl, h⟩ := pD_inv h
  obtain ⟨h1, h⟩ := bif_inv h
  have h1 : sh.1 = 10 + a := beq_of h1
  obtain ⟨hy01, h⟩ := if_inv h
  have h : (some (.inl (ls, t, (L, up c k (Int.ofNat b) y))) : Act) = some (.inl (ls', st', M')) := h
  cases h
  have hl : (Nat.beq ((ftb a).getD b 9) 2 && (lkF (mtb f).2.2.2.2).any (fun q => Nat.beq q.1 x.toNat && (Nat.beq q.2.1 a && Nat.beq q.2.2.1 b))) = true := hl
  rw [Bool.and_eq_true] at hl
  have hty : (ftb a).getD b 9 = 2 := beq_of hl.1
  have hco := S.2.2.2.1 k sh hk0
  have ha12 : a ≤ 12 := by have := (hco.2.2.2.2 (by omega)).2.1; omega
  obtain ⟨q, ty, hC⟩ := cls_all a ha12
  have hb3 : b < q.2.2 := hC.fin (by rw [hty]; decide)
  have hb4 : b < (ftb a).length := by rw [← hC.2.2.2.2.2.1]; exact hb3
  have he := wsl_at (ad := ad) (X := X) (cA := cA) (c := c) hk0
  rw [ent_5 (by omega), h1, Nat.add_sub_cancel_left] at he
  have hw := hts _ (lkF_word hl.2)
  rw [hC.nam] at hw
  have hyo : In32 y := vok_hd S.stv
  obtain ⟨hk1, hk2⟩ := hC.2.2.2.2.2.2 b hb3
  rw [hty] at hk1
  obtain ⟨hty2, hfin⟩ := tyk_inv2 hk1
  have hfl : (flds ad X a (c k) sh.2.2).length = (ftb a).length := by simp [flds]
  refine va_put (D := D) (ci := a) (fs := flds ad X a (c k) sh.2.2) (v := .int (Int32.ofInt y)) (ty := ty b) hx hb hts hC.2.2.1 ty hC.2.2.2.1 hC.2.2.2.2.1 hown hK S.1 S.2.1 S.2.2.1 k he hC.1 b hb3 hw (fun _ h9 => h9) hfin (hC.2.2.2.1 b hb3) (by rw [hty2]; rcases hy01 with q | q <;> subst q <;> rfl) (by rw [hty2]; rcases hy01 with q | q <;> subst q <;> rfl) (by rw [hfl]; exact hb4) hd (fun H1 locs1 hP1 hD1 hS1 => hk ad H1 locs1 lsM (S.upd hL hk0 (fun a2 h2 => up_ne h2) (cok_fld hco h1 hty hyo) ?_ hP1 hD1 hS1 (vok_tl (vok_tl S.stv))))
  rw [ent_5 (by omega), h1, Nat.add_sub_cancel_left]
  rw [flds_set hb4 (by rw [hty, up_self, if_pos rfl]; rfl) (fun j hj => by rw [up_self, if_neg (by intro q; exact hj (Int.ofNat.inj q))])]
theorem g_25 (C : CX p s m args meth c0 f A D cA X n xs) (hRf : 1 ≤ R.frames) (hRl : 100 ≤ R.locals) (hd : decode (mtb f).1 pc = .ok (raw pc (25, a, b, x))) (hl : lnk (mtb f).2.2.2.2 (mtb f).2.2.1 (mtb f).2.1.name (25, a, b, x) = true) (hs : oks (inf f).1 (25, a, b, x) = true) (h : act (25, a, b, x) ls st (L, c) = some (.inl (ls', st', M'))) (hL : M'.1.length ≤ 1000000) (hRc : M'.1.length - n0 ≤ R.cells) (hRs : slz M'.1 - z0 ≤ R.slots) (hk : WS p l e R s m args below meth c0 Q f A D cA X n xs ad0 n0 z0 (npc pc (25, a, b, x)) ls' st' M'.1 M'.2) : WS p l e R s m args below meth c0 Q f A D cA X n xs ad0 n0 z0 pc ls st L c := by
  intro ad H locs lsM S
  obtain ⟨hx, hb, hml, hown, hts, hK, hST, hA, hr, hlk, hnm⟩ := C
  obtain ⟨y, t, rfl, h⟩ := pR_inv h
  obtain ⟨r, t, rfl, h⟩ := pR_inv h
  obtain ⟨k, sh, hk0, rfl, h⟩ := pD_inv h
  obtain ⟨h1, h⟩ := bif_inv h
  have h1 : sh.1 = 10 + a := beq_of h1
  obtain ⟨k2, sh2, hk20, rfl, h⟩ := pD_inv h
  have h : (some (.inl (ls, t, (L.set k (sh.1, sh.2.1, sh.2.2.set b ((k2 : Int) + 1)), c))) : Act) = some (.inl (ls', st', M')) := h
  cases h
  have hl : (decide ((mtb f).2.1.name = "<init>") && (Nat.beq a (mtb f).2.2.2.2 && (Nat.beq ((ftb a).getD b 9) 3 && (lkF (mtb f).2.2.2.2).any (fun q => Nat.beq q.1 x.toNat && (Nat.beq q.2.1 a && Nat.beq q.2.2.1 b))))) = true := hl
  simp only [Bool.and_eq_true, decide_eq_true_eq] at hl
  obtain ⟨hin, how, hty, hl⟩ := hl
  have how : a = (mtb f).2.2.2.2 := beq_of how
  have hty : (ftb a).getD b 9 = 3 := beq_of hty
  have hco := S.2.2.2.1 k sh hk0
  have ha12 : a ≤ 12 := by have := (hco.2.2.2.2 (by omega)).2.1; omega
  obtain ⟨q, ty, hC⟩ := cls_all a ha12
  have hb3 : b < q.2.2 := hC.fin (by rw [hty]; decide)
  have hb4 : b < (ftb a).length := by rw [← hC.2.2.2.2.2.1]; exact hb3
  have he := wsl_at (ad := ad) (X := X) (cA := cA) (c := c) hk0
  rw [ent_5 (by omega), h1, Nat.add_sub_cancel_left] at he
  have hw := hts _ (lkF_word hl)
  rw [hC.nam] at hw
  obtain ⟨hk1, hk2⟩ := hC.2.2.2.2.2.2 b hb3
  rw [hty] at hk1
  obtain ⟨hty2, hfin⟩ := tyk_inv3 hk1
  have hfl : (flds ad X a (c k) sh.2.2).length = (ftb a).length := by simp [flds]
  have hflen : sh.2.2.length = (ftb a).length := by
    have := (hco.2.2.2.2 (by omega)).2.2.1
    rw [h1, Nat.add_sub_cancel_left] at this
    exact this
  have hkl : k < L.length := (List.getElem?_eq_some_iff.mp hk0).1
  have hset : (L.set k (sh.1, sh.2.1, sh.2.2.set b ((k2 : Int) + 1)))[k]? = some (sh.1, sh.2.1, sh.2.2.set b ((k2 : Int) + 1)) := List.getElem?_set_self hkl
  refine va_putF (D := D) (ci := a) (fs := flds ad X a (c k) sh.2.2) (v := .ref (ad k2)) (ty := ty b) hx hb hts hC.2.2.1 ty hC.2.2.2.1 hC.2.2.2.2.1 hown hK S.1 S.2.1 S.2.2.1 k he hC.1 b hb3 hw (fun _ h9 => h9) hfin (hnm.trans hin) (by rw [hk2, hC.2.1, how]) (hC.2.2.2.1 b hb3) (hty2 _).1 (hty2 _).2 (by rw [hfl]; exact hb4) hd (fun H1 locs1 hP1 hD1 hS1 => ?_)
  have ew : (wsl ad X cA L c).set k (ad k, .inr (a, (flds ad X a (c k) sh.2.2).set b (.ref (ad k2)))) = wsl ad X cA (L.set k (sh.1, sh.2.1, sh.2.2.set b ((k2 : Int) + 1))) c := by
    refine wsl_set List.length_set hset (fun j hj => List.getElem?_set_ne (fun q => hj q.symm)) (fun _ _ => rfl) ?_
    rw [ent_5 (by show 5 ≤ sh.1; omega)]
    show _ = Sum.inr (sh.1 - 10, flds ad X (sh.1 - 10) (c k) (sh.2.2.set b ((k2 : Int) + 1)))
    rw [h1, Nat.add_sub_cancel_left]
    congr 2
    apply List.ext_getElem?
    intro j
    by_cases hj : b = j
    · subst hj
      rw [List.getElem?_set_self (by rw [hfl]; exact hb4), flds_at hb4, hty, List.getD_eq_getElem?_getD, List.getElem?_set_self (by rw [hflen]; exact hb4)]
      rfl
    · rw [List.getElem?_set_ne hj]
      by_cases h2 : j < (ftb a).length
      · rw [flds_at h2, flds_at h2, List.getD_eq_getElem?_getD, List.getD_eq_getElem?_getD, List.getElem?_set_ne hj]
      · rw [List.getElem?_eq_none (by rw [hfl]; omega), List.getElem?_eq_none (by simp [flds]; omega)]
  rw [ew] at hP1 hD1
  have hmk : mok (L.set k (sh.1, sh.2.1, sh.2.2.set b ((k2 : Int) + 1))) c := by
    intro j s' hj
    rw [List.length_set]
    by_cases hjk : k = j
    · subst hjk
      rw [hset] at hj
      cases hj
      refine ⟨hco.1, hco.2.1, hco.2.2.1, hco.2.2.2.1, fun q => ?_⟩
      obtain ⟨g1, g2, g3, g4, g5⟩ := hco.2.2.2.2 q
      refine ⟨g1, g2, by show (sh.2.2.set b _).length = _; rw [List.length_set]; exact g3, fun z hz => ?_, g5⟩
      rcases List.mem_or_eq_of_mem_set hz with h9 | h9
      · exact g4 z h9
      · have := (List.getElem?_eq_some_iff.mp hk20).1
        omega
    · rw [List.getElem?_set_ne hjk] at hj
      exact S.2.2.2.1 j s' hj
  have e1 : (L.set k (sh.1, sh.2.1, sh.2.2.set b ((k2 : Int) + 1))).length = L.length := List.length_set
  have e2 : slz (L.set k (sh.1, sh.2.1, sh.2.2.set b ((k2 : Int) + 1))) = slz L := slz_set hk0 rfl
  have K := hk ad H1 locs1 lsM (S.mem e1 e2 hP1 hD1 hS1 hmk S.2.2.2.2.1 (vok_tl (vok_tl S.stv)))
  rw [e1, e2] at K
  exact K
theorem g_26 (C : CX p s m args meth c0 f A D cA X n xs) (hRf : 1 ≤ R.frames) (hRl : 100 ≤ R.locals) (hd : decode (mtb f).1 pc = .ok (raw pc (26, a, b, x))) (hl : lnk (mtb f).2.2.2.2 (mtb f).2.2.1 (mtb f).2.1.name (26, a, b, x) = true) (hs : oks (inf f).1 (26, a, b, x) = true) (h : act (26, a, b, x) ls st (L, c) = some (.inl (ls', st', M'))) (hL : M'.1.length ≤ 1000000) (hRc : M'.1.length - n0 ≤ R.cells) (hRs : slz M'.1 - z0 ≤ R.slots) (hk : WS p l e R s m args below meth c0 Q f A D cA X n xs ad0 n0 z0 (npc pc (26, a, b, x)) ls' st' M'.1 M'.2) : WS p l e R s m args below meth c0 Q f A D cA X n xs ad0 n0 z0 pc ls st L c := by
  intro ad H locs lsM S
  obtain ⟨hx, hb, hml, hown, hts, hK, hST, hA, hr, hlk, hnm⟩ := C
  obtain ⟨j, t, rfl, h⟩ := pI_inv h
  obtain ⟨r, t, rfl, h⟩ := pR_inv h
  obtain ⟨k, sh, hk0, rfl, h⟩ := pD_inv h
  have hj : In32 j := vok_hd S.stv
  rcases a with _ | _ | _ | _ | _ | a
  · obtain ⟨h1, h⟩ := bif_inv h
    have h1 : sh.1 = 0 := beq_of h1
    obtain ⟨hij, h⟩ := if_inv h
    have h : (some (.inl (ls, vI (c k j) :: t, (L, c))) : Act) = some (.inl (ls', st', M')) := h
    cases h
    have hco := S.2.2.2.1 k sh hk0
    have he := wsl_at (ad := ad) (X := X) (cA := cA) (c := c) hk0
    have hent : ent ad X cA sh (c k) = .inl (cA 0, (sh.2.1.toNat, .inl (fun j => Int32.ofInt (c k (Int.ofNat j))))) := by unfold ent; rw [h1]
    rw [hent] at he
    have ej : (Int.ofNat (Int32.ofInt j).toNatClampNeg) = j := by rw [o32_clamp hj]; exact Int.toNat_of_nonneg hij.1
    refine va_iald hx hb hK S.1 k 0 he rfl (o32_in hj hij.1 hij.2) hd (W_top (v := .int (Int32.ofInt (c k j))) ?_ (hk ad H locs lsM (S.stk (vok_cons (vokI (hco.2.1 (Or.inl h1) j)) (vok_tl (vok_tl S.stv))))))
    show _ = Value.int (Int32.ofInt (c k (Int.ofNat (Int32.ofInt j).toNatClampNeg)))
    rw [ej]
  · obtain ⟨h1, h⟩ := bif_inv h
    have h1 : sh.1 = 1 := beq_of h1
    obtain ⟨hij, h⟩ := if_inv h
    have h : (some (.inl (ls, vL (c k j) :: t, (L, c))) : Act) = some (.inl (ls', st', M')) := h
    cases h
    have hco := S.2.2.2.1 k sh hk0
    have he := wsl_at (ad := ad) (X := X) (cA := cA) (c := c) hk0
    have hent : ent ad X cA sh (c k) = .inl (cA 1, (sh.2.1.toNat, .inr (.inl (fun j => Int64.ofInt (c k (Int.ofNat j)))))) := by unfold ent; rw [h1]
    rw [hent] at he
    have ej : (Int.ofNat (Int32.ofInt j).toNatClampNeg) = j := by rw [o32_clamp hj]; exact Int.toNat_of_nonneg hij.1
    refine va_lald hx hb hK S.1 k 1 he rfl (o32_in hj hij.1 hij.2) hd (W_top (v := .long (Int64.ofInt (c k j))) ?_ (hk ad H locs lsM (S.stk (vok_cons (vokL (hco.2.2.1 h1 j)) (vok_tl (vok_tl S.stv))))))
    show _ = Value.long (Int64.ofInt (c k (Int.ofNat (Int32.ofInt j).toNatClampNeg)))
    rw [ej]
  · obtain ⟨h1, h⟩ := bif_inv h
    have h1 : sh.1 = 2 := beq_of h1
    obtain ⟨hij, h⟩ := if_inv h
    have h : (some (.inl (ls, vI (c k j) :: t, (L, c))) : Act) = some (.inl (ls', st', M')) := h
    cases h
    have hco := S.2.2.2.1 k sh hk0
    have he := wsl_at (ad := ad) (X := X) (cA := cA) (c := c) hk0
    have hent : ent ad X cA sh (c k) = .inl (cA 2, (sh.2.1.toNat, .inl (fun j => Int32.ofInt (c k (Int.ofNat j))))) := by unfold ent; rw [h1]
    rw [hent] at he
    have ej : (Int.ofNat (Int32.ofInt j).toNatClampNeg) = j := by rw [o32_clamp hj]; exact Int.toNat_of_nonneg hij.1
    refine va_zald hx hb hK S.1 k 2 he rfl (o32_in hj hij.1 hij.2) hd (W_top (v := .int (Int32.ofInt (c k j))) ?_ (hk ad H locs lsM (S.stk (vok_cons (vokI (hco.2.1 (Or.inr h1) j)) (vok_tl (vok_tl S.stv))))))
    show _ = Value.int (Int32.ofInt (c k (Int.ofNat (Int32.ofInt j).toNatClampNeg)))
    rw [ej]
  · obtain ⟨h1, h⟩ := bif_inv h
    have h1 : sh.1 = 3 := beq_of h1
    obtain ⟨hij, h⟩ := if_inv h
    have h : (some (.inl (ls, vR (c k j) :: t, (L, c))) : Act) = some (.inl (ls', st', M')) := h
    cases h
    have hco := S.2.2.2.1 k sh hk0
    have he := wsl_at (ad := ad) (X := X) (cA := cA) (c := c) hk0
    have hent : ent ad X cA sh (c k) = .inl (cA 3, (sh.2.1.toNat, .inr (.inr (.inr (.inr (fun j => rof ad X (c k (Int.ofNat j)))))))) := by unfold ent; rw [h1]
    rw [hent] at he
    have ej : (Int.ofNat (Int32.ofInt j).toNatClampNeg) = j := by rw [o32_clamp hj]; exact Int.toNat_of_nonneg hij.1
    refine va_aldq hx hb hK S.1 k 3 he rfl (o32_in hj hij.1 hij.2) hd (W_top (v := va_rf (rof ad X (c k j))) ?_ (hk ad H locs lsM (S.stk (vok_cons (show c k j ≤ (L.length : Int) from (hco.2.2.2.1 (Or.inl h1) j).2) (vok_tl (vok_tl S.stv))))))
    show _ = va_rf (rof ad X (c k (Int.ofNat (Int32.ofInt j).toNatClampNeg)))
    rw [ej]
  · obtain ⟨h1, h⟩ := bif_inv h
    have h1 : sh.1 = 4 := beq_of h1
    obtain ⟨hij, h⟩ := if_inv h
    have h : (some (.inl (ls, vR (c k j) :: t, (L, c))) : Act) = some (.inl (ls', st', M')) := h
    cases h
    have hco := S.2.2.2.1 k sh hk0
    have he := wsl_at (ad := ad) (X := X) (cA := cA) (c := c) hk0
    have hent : ent ad X cA sh (c k) = .inl (cA 4, (sh.2.1.toNat, .inr (.inr (.inr (.inr (fun j => rof ad X (c k (Int.ofNat j)))))))) := by unfold ent; rw [h1]
    rw [hent] at he
    have ej : (Int.ofNat (Int32.ofInt j).toNatClampNeg) = j := by rw [o32_clamp hj]; exact Int.toNat_of_nonneg hij.1
    refine va_aldq hx hb hK S.1 k 4 he rfl (o32_in hj hij.1 hij.2) hd (W_top (v := va_rf (rof ad X (c k j))) ?_ (hk ad H locs lsM (S.stk (vok_cons (show c k j ≤ (L.length : Int) from (hco.2.2.2.1 (Or.inr h1) j).2) (vok_tl (vok_tl S.stv))))))
    show _ = va_rf (rof ad X (c k (Int.ofNat (Int32.ofInt j).toNatClampNeg)))
    rw [ej]
  · have : Nat.ble (a + 5) 4 = true := hl
    exact absurd (Nat.le_of_ble_eq_true this) (by omega)
theorem g_27 (C : CX p s m args meth c0 f A D cA X n xs) (hRf : 1 ≤ R.frames) (hRl : 100 ≤ R.locals) (hd : decode (mtb f).1 pc = .ok (raw pc (27, a, b, x))) (hl : lnk (mtb f).2.2.2.2 (mtb f).2.2.1 (mtb f).2.1.name (27, a, b, x) = true) (hs : oks (inf f).1 (27, a, b, x) = true) (h : act (27, a, b, x) ls st (L, c) = some (.inl (ls', st', M'))) (hL : M'.1.length ≤ 1000000) (hRc : M'.1.length - n0 ≤ R.cells) (hRs : slz M'.1 - z0 ≤ R.slots) (hk : WS p l e R s m args below meth c0 Q f A D cA X n xs ad0 n0 z0 (npc pc (27, a, b, x)) ls' st' M'.1 M'.2) : WS p l e R s m args below meth c0 Q f A D cA X n xs ad0 n0 z0 pc ls st L c := by
  intro ad H locs lsM S
  obtain ⟨hx, hb, hml, hown, hts, hK, hST, hA, hr, hlk, hnm⟩ := C
  obtain ⟨y, t, rfl, h⟩ := pI_inv h
  obtain ⟨j, t, rfl, h⟩ := pI_inv h
  obtain ⟨r, t, rfl, h⟩ := pR_inv h
  obtain ⟨k, sh, hk0, rfl, h⟩ := pD_inv h
  obtain ⟨h1, h⟩ := bif_inv h
  have h1 : sh.1 = 0 := beq_of h1
  obtain ⟨hij, h⟩ := if_inv h
  have h : (some (.inl (ls, t, (L, up c k j y))) : Act) = some (.inl (ls', st', M')) := h
  cases h
  have hy : In32 y := vok_hd S.stv
  have hj : In32 j := vok_hd (vok_tl S.stv)
  have hco := S.2.2.2.1 k sh hk0
  have he := wsl_at (ad := ad) (X := X) (cA := cA) (c := c) hk0
  have hent : ∀ g : Int → Int, ent ad X cA sh g = .inl (cA 0, (sh.2.1.toNat, .inl (fun j => Int32.ofInt (g (Int.ofNat j))))) := fun g => by unfold ent; rw [h1]
  rw [hent] at he
  have hcl : (Int32.ofInt j).toNatClampNeg = j.toNat := o32_clamp hj
  refine va_iast hx hb hK S.1 S.2.1 S.2.2.1 k 0 he rfl (o32_in hj hij.1 hij.2) hd (fun H1 locs1 hP1 hD1 hS1 => hk ad H1 locs1 lsM (S.upd hL hk0 (fun a2 h2 => up_ne h2) (cok_arr02 hco (Or.inl h1) hy) ?_ hP1 hD1 hS1 (vok_tl (vok_tl (vok_tl S.stv)))))
  rw [hent, hcl]
  congr 4
  funext z
  rw [up_self]
  by_cases hz : z = j.toNat
  · have e9 : (Int.ofNat z) = j := by rw [hz]; exact Int.toNat_of_nonneg hij.1
    rw [if_pos e9]
    unfold upd
    rw [if_pos hz]
  · have e9 : ¬ (Int.ofNat z) = j := fun q => hz (by rw [← q]; rfl)
    rw [if_neg e9]
    unfold upd
    rw [if_neg hz]
theorem g_28 (C : CX p s m args meth c0 f A D cA X n xs) (hRf : 1 ≤ R.frames) (hRl : 100 ≤ R.locals) (hd : decode (mtb f).1 pc = .ok (raw pc (28, a, b, x))) (hl : lnk (mtb f).2.2.2.2 (mtb f).2.2.1 (mtb f).2.1.name (28, a, b, x) = true) (hs : oks (inf f).1 (28, a, b, x) = true) (h : act (28, a, b, x) ls st (L, c) = some (.inl (ls', st', M'))) (hL : M'.1.length ≤ 1000000) (hRc : M'.1.length - n0 ≤ R.cells) (hRs : slz M'.1 - z0 ≤ R.slots) (hk : WS p l e R s m args below meth c0 Q f A D cA X n xs ad0 n0 z0 (npc pc (28, a, b, x)) ls' st' M'.1 M'.2) : WS p l e R s m args below meth c0 Q f A D cA X n xs ad0 n0 z0 pc ls st L c := by
  intro ad H locs lsM S
  obtain ⟨hx, hb, hml, hown, hts, hK, hST, hA, hr, hlk, hnm⟩ := C
  obtain ⟨r, t, rfl, h⟩ := pR_inv h
  obtain ⟨k, sh, hk0, rfl, h⟩ := pD_inv h
  obtain ⟨h1, h⟩ := bif_inv h
  have h1 : sh.1 ≤ 4 := Nat.le_of_ble_eq_true h1
  have h : (some (.inl (ls, vI sh.2.1 :: t, (L, c))) : Act) = some (.inl (ls', st', M')) := h
  cases h
  have hco := S.2.2.2.1 k sh hk0
  have hsz := hco.1 h1
  have hz32 : In32 sh.2.1 := ⟨by omega, by omega⟩
  have he := wsl_at (ad := ad) (X := X) (cA := cA) (c := c) hk0
  have K := hk ad H locs lsM (S.stk (vok_cons hz32 (vok_tl S.stv)))
  have ev : Int32.ofNat sh.2.1.toNat = Int32.ofInt sh.2.1 := by rw [← o32_nat, Int.toNat_of_nonneg hsz.1]
  rcases (kind_cases (n := sh.1)) with q | q | q | q | q | q
  · have hent : ent ad X cA sh (c k) = .inl (cA 0, (sh.2.1.toNat, .inl (fun j => Int32.ofInt (c k (Int.ofNat j))))) := by unfold ent; rw [q]
    rw [hent] at he
    exact va_alen (v := Int32.ofInt sh.2.1) hx hb hK S.1 k 0 he rfl ev hd K
  · have hent : ent ad X cA sh (c k) = .inl (cA 1, (sh.2.1.toNat, .inr (.inl (fun j => Int64.ofInt (c k (Int.ofNat j)))))) := by unfold ent; rw [q]
    rw [hent] at he
    exact va_alen (v := Int32.ofInt sh.2.1) hx hb hK S.1 k 1 he rfl ev hd K
  · have hent : ent ad X cA sh (c k) = .inl (cA 2, (sh.2.1.toNat, .inl (fun j => Int32.ofInt (c k (Int.ofNat j))))) := by unfold ent; rw [q]
    rw [hent] at he
    exact va_alen (v := Int32.ofInt sh.2.1) hx hb hK S.1 k 2 he rfl ev hd K
  · have hent : ent ad X cA sh (c k) = .inl (cA 3, (sh.2.1.toNat, .inr (.inr (.inr (.inr (fun j => rof ad X (c k (Int.ofNat j)))))))) := by unfold ent; rw [q]
    rw [hent] at he
    exact va_alen (v := Int32.ofInt sh.2.1) hx hb hK S.1 k 3 he rfl ev hd K
  · have hent : ent ad X cA sh (c k) = .inl (cA 4, (sh.2.1.toNat, .inr (.inr (.inr (.inr (fun j => rof ad X (c k (Int.ofNat j)))))))) := by unfold ent; rw [q]
    rw [hent] at he
    exact va_alen (v := Int32.ofInt sh.2.1) hx hb hK S.1 k 4 he rfl ev hd K
  · omega
theorem g_29 (C : CX p s m args meth c0 f A D cA X n xs) (hRf : 1 ≤ R.frames) (hRl : 100 ≤ R.locals) (hd : decode (mtb f).1 pc = .ok (raw pc (29, a, b, x))) (hl : lnk (mtb f).2.2.2.2 (mtb f).2.2.1 (mtb f).2.1.name (29, a, b, x) = true) (hs : oks (inf f).1 (29, a, b, x) = true) (h : act (29, a, b, x) ls st (L, c) = some (.inl (ls', st', M'))) (hL : M'.1.length ≤ 1000000) (hRc : M'.1.length - n0 ≤ R.cells) (hRs : slz M'.1 - z0 ≤ R.slots) (hk : WS p l e R s m args below meth c0 Q f A D cA X n xs ad0 n0 z0 (npc pc (29, a, b, x)) ls' st' M'.1 M'.2) : WS p l e R s m args below meth c0 Q f A D cA X n xs ad0 n0 z0 pc ls st L c := by
  intro ad H locs lsM S
  obtain ⟨hx, hb, hml, hown, hts, hK, hST, hA, hr, hlk, hnm⟩ := C
  obtain ⟨j, t, rfl, h⟩ := pI_inv h
  obtain ⟨r, t, rfl, h⟩ := pR_inv h
  obtain ⟨hr1, h⟩ := if_inv h
  subst hr1
  obtain ⟨hij, h⟩ := if_inv h
  have h : (some (.inl (ls, vI (c 1000000 j) :: t, (L, c))) : Act) = some (.inl (ls', st', M')) := h
  cases h
  have hj : In32 j := vok_hd S.stv
  have hsc := S.2.2.2.2.1
  rw [show M'.2 1000001 0 = c 1000001 0 from rfl, hsc.1] at hij
  have hcl : (Int32.ofInt j).toNatClampNeg = j.toNat := o32_clamp hj
  have hval : c 1000000 j = (xs j.toNat).toInt := by
    have := hsc.2 j.toNat (by omega)
    rw [Int.toNat_of_nonneg hij.1] at this
    exact this
  have hin : vp_in (Int32.ofInt j) n := by
    have := o32_in hj hij.1 hij.2
    simpa using this
  refine va_sld hx hb hST.2.2.2.2.1 hST.2.2.2.2.2.1 hST.2.2.2.2.2.2.1 S.2.2.1 hin hd (W_top (v := .int (Int32.ofInt (c 1000000 j))) ?_ (hk ad H locs lsM (S.stk (vok_cons (vokI (by rw [hval]; exact in32_i _)) (vok_tl (vok_tl S.stv))))))
  rw [hval, Int32.ofInt_toInt, hcl]
theorem g_30 (C : CX p s m args meth c0 f A D cA X n xs) (hRf : 1 ≤ R.frames) (hRl : 100 ≤ R.locals) (hd : decode (mtb f).1 pc = .ok (raw pc (30, a, b, x))) (hl : lnk (mtb f).2.2.2.2 (mtb f).2.2.1 (mtb f).2.1.name (30, a, b, x) = true) (hs : oks (inf f).1 (30, a, b, x) = true) (h : act (30, a, b, x) ls st (L, c) = some (.inl (ls', st', M'))) (hL : M'.1.length ≤ 1000000) (hRc : M'.1.length - n0 ≤ R.cells) (hRs : slz M'.1 - z0 ≤ R.slots) (hk : WS p l e R s m args below meth c0 Q f A D cA X n xs ad0 n0 z0 (npc pc (30, a, b, x)) ls' st' M'.1 M'.2) : WS p l e R s m args below meth c0 Q f A D cA X n xs ad0 n0 z0 pc ls st L c := by
  intro ad H locs lsM S
  obtain ⟨hx, hb, hml, hown, hts, hK, hST, hA, hr, hlk, hnm⟩ := C
  obtain ⟨r, t, rfl, h⟩ := pR_inv h
  obtain ⟨hr1, h⟩ := if_inv h
  subst hr1
  have h : (some (.inl (ls, vI (c 1000001 0) :: t, (L, c))) : Act) = some (.inl (ls', st', M')) := h
  cases h
  have hsc := S.2.2.2.2.1
  have hn := hST.2.2.2.2.2.2.2.1
  refine va_slen hx hb hST.2.2.2.2.1 hST.2.2.2.2.2.1 hST.2.2.2.2.2.2.1 S.2.2.1 hd (W_top (v := .int (Int32.ofInt (c 1000001 0))) ?_ (hk ad H locs lsM (S.stk (vok_cons (vokI (by rw [hsc.1]; exact ⟨by omega, by omega⟩)) (vok_tl S.stv)))))
  rw [hsc.1, o32_nat]
  try rfl
theorem g_31 (C : CX p s m args meth c0 f A D cA X n xs) (hRf : 1 ≤ R.frames) (hRl : 100 ≤ R.locals) (hd : decode (mtb f).1 pc = .ok (raw pc (31, a, b, x))) (hl : lnk (mtb f).2.2.2.2 (mtb f).2.2.1 (mtb f).2.1.name (31, a, b, x) = true) (hs : oks (inf f).1 (31, a, b, x) = true) (h : act (31, a, b, x) ls st (L, c) = some (.inl (ls', st', M'))) (hL : M'.1.length ≤ 1000000) (hRc : M'.1.length - n0 ≤ R.cells) (hRs : slz M'.1 - z0 ≤ R.slots) (hk : WS p l e R s m args below meth c0 Q f A D cA X n xs ad0 n0 z0 (npc pc (31, a, b, x)) ls' st' M'.1 M'.2) : WS p l e R s m args below meth c0 Q f A D cA X n xs ad0 n0 z0 pc ls st L c := by
  intro ad H locs lsM S
  obtain ⟨hx, hb, hml, hown, hts, hK, hST, hA, hr, hlk, hnm⟩ := C
  obtain ⟨r, t, rfl, h⟩ := pR_inv h
  obtain ⟨g, hg, h⟩ := el_inv h
  have h : (some (.inl (ls, vR (r - 100) :: t, (L, c))) : Act) = some (.inl (ls', st', M')) := h
  cases h
  obtain ⟨rfl, hg12⟩ := strOf_inv hg
  have hw := hts _ (lkV_word hl)
  rw [W_stk_str hg12]
  refine vk_getf (q := X.1 g) hx hb (hST.1.1 g hg12).2.2.1 S.2.2.1 hown hw (fun _ h9 => h9) hd ?_
  have K := hk ad H locs lsM (S.stk (vok_cons (show (-100 - (g : Int) - 100) ≤ (L.length : Int) by omega) (vok_tl S.stv)))
  exact W_top (mv_byt hg12) K
theorem g_32 (C : CX p s m args meth c0 f A D cA X n xs) (hRf : 1 ≤ R.frames) (hRl : 100 ≤ R.locals) (hd : decode (mtb f).1 pc = .ok (raw pc (32, a, b, x))) (hl : lnk (mtb f).2.2.2.2 (mtb f).2.2.1 (mtb f).2.1.name (32, a, b, x) = true) (hs : oks (inf f).1 (32, a, b, x) = true) (h : act (32, a, b, x) ls st (L, c) = some (.inl (ls', st', M'))) (hL : M'.1.length ≤ 1000000) (hRc : M'.1.length - n0 ≤ R.cells) (hRs : slz M'.1 - z0 ≤ R.slots) (hk : WS p l e R s m args below meth c0 Q f A D cA X n xs ad0 n0 z0 (npc pc (32, a, b, x)) ls' st' M'.1 M'.2) : WS p l e R s m args below meth c0 Q f A D cA X n xs ad0 n0 z0 pc ls st L c := by
  intro ad H locs lsM S
  obtain ⟨hx, hb, hml, hown, hts, hK, hST, hA, hr, hlk, hnm⟩ := C
  obtain ⟨r, t, rfl, h⟩ := pR_inv h
  obtain ⟨g, hg, h⟩ := el_inv h
  have h : (some (.inl (ls, vI 0 :: t, (L, c))) : Act) = some (.inl (ls', st', M')) := h
  cases h
  obtain ⟨rfl, hg12⟩ := strOf_inv hg
  have hw := hts _ (lkV_word hl)
  rw [W_stk_str hg12]
  refine vk_getf (q := X.1 g) hx hb (hST.1.1 g hg12).2.1 S.2.2.1 hown hw (fun _ h9 => h9) hd ?_
  exact hk ad H locs lsM (S.stk (vok_cons in32_0 (vok_tl S.stv)))
theorem g_33 (C : CX p s m args meth c0 f A D cA X n xs) (hRf : 1 ≤ R.frames) (hRl : 100 ≤ R.locals) (hd : decode (mtb f).1 pc = .ok (raw pc (33, a, b, x))) (hl : lnk (mtb f).2.2.2.2 (mtb f).2.2.1 (mtb f).2.1.name (33, a, b, x) = true) (hs : oks (inf f).1 (33, a, b, x) = true) (h : act (33, a, b, x) ls st (L, c) = some (.inl (ls', st', M'))) (hL : M'.1.length ≤ 1000000) (hRc : M'.1.length - n0 ≤ R.cells) (hRs : slz M'.1 - z0 ≤ R.slots) (hk : WS p l e R s m args below meth c0 Q f A D cA X n xs ad0 n0 z0 (npc pc (33, a, b, x)) ls' st' M'.1 M'.2) : WS p l e R s m args below meth c0 Q f A D cA X n xs ad0 n0 z0 pc ls st L c := by
  intro ad H locs lsM S
  obtain ⟨hx, hb, hml, hown, hts, hK, hST, hA, hr, hlk, hnm⟩ := C
  obtain ⟨j, t, rfl, h⟩ := pI_inv h
  obtain ⟨r, t, rfl, h⟩ := pR_inv h
  obtain ⟨g, hg, h⟩ := el_inv h
  obtain ⟨hij, h⟩ := if_inv h
  have h : (some (.inl (ls, vI ((strb g).getD j.toNat 0) :: t, (L, c))) : Act) = some (.inl (ls', st', M')) := h
  cases h
  obtain ⟨rfl, hg12⟩ := bytOf_inv hg
  have hj : In32 j := vok_hd S.stv
  have hcl : (Int32.ofInt j).toNatClampNeg = j.toNat := o32_clamp hj
  have hle : lenT.getD g 0 = (strb g).length := lenT_at hg12
  have hin : vp_in (Int32.ofInt j) (lenT.getD g 0) := by
    have := o32_in hj hij.1 hij.2
    rw [hle]
    simpa using this
  rw [W_stk_byt2 hg12]
  refine va_tb hx hb (hST.1.1 g hg12).2.2.2 S.2.2.1 hin rfl hd ?_
  refine W_top (v := .int (Int32.ofInt ((strb g).getD j.toNat 0))) ?_ (hk ad H locs lsM (S.stk (vok_cons (strb_in hg12) (vok_tl (vok_tl S.stv)))))
  rw [hcl, bytT_at hg12]
theorem g_34 (C : CX p s m args meth c0 f A D cA X n xs) (hRf : 1 ≤ R.frames) (hRl : 100 ≤ R.locals) (hd : decode (mtb f).1 pc = .ok (raw pc (34, a, b, x))) (hl : lnk (mtb f).2.2.2.2 (mtb f).2.2.1 (mtb f).2.1.name (34, a, b, x) = true) (hs : oks (inf f).1 (34, a, b, x) = true) (h : act (34, a, b, x) ls st (L, c) = some (.inl (ls', st', M'))) (hL : M'.1.length ≤ 1000000) (hRc : M'.1.length - n0 ≤ R.cells) (hRs : slz M'.1 - z0 ≤ R.slots) (hk : WS p l e R s m args below meth c0 Q f A D cA X n xs ad0 n0 z0 (npc pc (34, a, b, x)) ls' st' M'.1 M'.2) : WS p l e R s m args below meth c0 Q f A D cA X n xs ad0 n0 z0 pc ls st L c := by
  intro ad H locs lsM S
  obtain ⟨hx, hb, hml, hown, hts, hK, hST, hA, hr, hlk, hnm⟩ := C
  obtain ⟨r, t, rfl, h⟩ := pR_inv h
  obtain ⟨g, hg, h⟩ := el_inv h
  have h : (some (.inl (ls, vI ((strb g).length : Int) :: t, (L, c))) : Act) = some (.inl (ls', st', M')) := h
  cases h
  obtain ⟨rfl, hg12⟩ := bytOf_inv hg
  rw [W_stk_byt1 hg12]
  refine va_tlen (v := Int32.ofInt ((strb g).length : Int)) hx hb (hST.1.1 g hg12).2.2.2 S.2.2.1 (by rw [lenT_at hg12, o32_nat]) hd ?_
  exact hk ad H locs lsM (S.stk (vok_cons (strb_len hg12) (vok_tl S.stv)))
theorem g_35 (C : CX p s m args meth c0 f A D cA X n xs) (hRf : 1 ≤ R.frames) (hRl : 100 ≤ R.locals) (hd : decode (mtb f).1 pc = .ok (raw pc (35, a, b, x))) (hl : lnk (mtb f).2.2.2.2 (mtb f).2.2.1 (mtb f).2.1.name (35, a, b, x) = true) (hs : oks (inf f).1 (35, a, b, x) = true) (h : act (35, a, b, x) ls st (L, c) = some (.inl (ls', st', M'))) (hL : M'.1.length ≤ 1000000) (hRc : M'.1.length - n0 ≤ R.cells) (hRs : slz M'.1 - z0 ≤ R.slots) (hk : WS p l e R s m args below meth c0 Q f A D cA X n xs ad0 n0 z0 (npc pc (35, a, b, x)) ls' st' M'.1 M'.2) : WS p l e R s m args below meth c0 Q f A D cA X n xs ad0 n0 z0 pc ls st L c := by
  intro ad H locs lsM S
  obtain ⟨hx, hb, hml, hown, hts, hK, hST, hA, hr, hlk, hnm⟩ := C
  have h : (some (.inl (ls, vI 1 :: st, (L, c))) : Act) = some (.inl (ls', st', M')) := h
  cases h
  have hw := hts _ (lkG_word hl)
  exact va_gets hx hb hST.2.2.1 S.2.2.1 hown hw (fun _ h9 => h9) hd (hk ad H locs lsM (S.stk (vok_cons (vokI (by unfold In32; omega)) S.stv)))
theorem g_36 (C : CX p s m args meth c0 f A D cA X n xs) (hRf : 1 ≤ R.frames) (hRl : 100 ≤ R.locals) (hd : decode (mtb f).1 pc = .ok (raw pc (36, a, b, x))) (hl : lnk (mtb f).2.2.2.2 (mtb f).2.2.1 (mtb f).2.1.name (36, a, b, x) = true) (hs : oks (inf f).1 (36, a, b, x) = true) (h : act (36, a, b, x) ls st (L, c) = some (.inl (ls', st', M'))) (hL : M'.1.length ≤ 1000000) (hRc : M'.1.length - n0 ≤ R.cells) (hRs : slz M'.1 - z0 ≤ R.slots) (hk : WS p l e R s m args below meth c0 Q f A D cA X n xs ad0 n0 z0 (npc pc (36, a, b, x)) ls' st' M'.1 M'.2) : WS p l e R s m args below meth c0 Q f A D cA X n xs ad0 n0 z0 pc ls st L c := by
  intro ad H locs lsM S
  obtain ⟨hx, hb, hml, hown, hts, hK, hST, hA, hr, hlk, hnm⟩ := C
  have h : (some (.inl (ls, vR ((L.length : Int) + 1) :: st, (L ++ [(10 + a, (b : Int), List.replicate b 0)], uz c L.length))) : Act) = some (.inl (ls', st', M')) := h
  cases h
  have hl : (Nat.ble a 12 && (Nat.beq b (ftb a).length && lkC.any (fun q => Nat.beq q.1 (mtb f).2.2.2.2 && (decide ((q.2.1 : Int) = x) && Nat.beq q.2.2.1 a)))) = true := hl
  simp only [Bool.and_eq_true] at hl
  obtain ⟨ha12, hbl, hl⟩ := hl
  have ha12 := Nat.le_of_ble_eq_true ha12
  have hbl : b = (ftb a).length := beq_of hbl
  obtain ⟨q, ty, hC⟩ := cls_all a ha12
  have hw := hts _ (lkC_word hl)
  have e103 : Nat.beq a 103 = false := by
    cases hq : Nat.beq a 103 with
    | false => rfl
    | true => have := beq_of hq; omega
  have e104 : Nat.beq a 104 = false := by
    cases hq : Nat.beq a 104 with
    | false => rfl
    | true => have := beq_of hq; omega
  rw [e103, e104] at hw
  have hw : (Cond.classLink (rnm (mtb f).2.2.2.2) x.toNat (rnm a)).before args s = true := hw
  rw [← hC.2.1] at hw
  have hii := List.all_eq_true.mp inst_ok a (List.mem_range.mpr (by omega))
  rw [Bool.and_eq_true] at hii
  have hins := hts _ (tbg (of_decide_eq_true hii.1) rfl)
  have hini := hts _ (tbg (of_decide_eq_true hii.2) rfl)
  rw [← hC.2.1] at hins hini
  rw [← hC.2.2.2.2.2.1] at hins
  have hbq : b = q.2.2 := hbl.trans hC.2.2.2.2.2.1.symm
  have e1 : (L ++ [(10 + a, (b : Int), List.replicate b 0)]).length = L.length + 1 := by simp
  have e2 : slz (L ++ [(10 + a, (b : Int), List.replicate b 0)]) = slz L + b := by rw [slz_app]; rfl
  have b1 : n0 ≤ L.length := S.2.2.2.2.2.1.1
  have b2 : z0 ≤ slz L := S.2.2.2.2.2.1.2.1
  have f1 : (L ++ [(10 + a, (b : Int), List.replicate b 0)]).length - n0 = L.length - n0 + 1 := by omega
  have f2 : slz (L ++ [(10 + a, (b : Int), List.replicate b 0)]) - z0 = slz L - z0 + b := by omega
  have hRc : (L ++ [(10 + a, (b : Int), List.replicate b 0)]).length - n0 ≤ R.cells := hRc
  have hRs : slz (L ++ [(10 + a, (b : Int), List.replicate b 0)]) - z0 ≤ R.slots := hRs
  have hL : (L ++ [(10 + a, (b : Int), List.replicate b 0)]).length ≤ 1000000 := hL
  refine va_new (ci := a) (C := q.1) (T := q.2.1) (N := q.2.2) (fs := flds (adp ad L.length 0) X a (uz c L.length L.length) (List.replicate b 0)) hx hb hts hC.2.2.1 ty hC.2.2.2.1 hown hw hins hini hK S.1 S.2.1 S.2.2.1 hA hC.1 ?_ (by omega) (by omega) hd (fun q1 H1 hP1 hD1 hS1 => ?_)
  · intro j hj
    obtain ⟨hk1, -⟩ := hC.2.2.2.2.2.2 j hj
    have hjl : j < (ftb a).length := by rw [← hC.2.2.2.2.2.1]; exact hj
    unfold vp_V
    rw [List.getD_eq_getElem?_getD, flds_at hjl]
    exact tyk_zero hk1 uz_self (getD_zero b j)
  · have eflds : flds (adp ad L.length 0) X a (uz c L.length L.length) (List.replicate b 0) = flds (adp ad L.length q1) X a (uz c L.length L.length) (List.replicate b 0) := by
      unfold flds
      refine List.map_congr_left fun k hk => ?_
      rw [getD_zero]
      unfold fvl
      split <;> rfl
    rw [eflds] at hP1 hD1
    have epush := wsl_push (ad := ad) (X := X) (cA := cA) (q := q1) (c' := uz c L.length) (s' := (10 + a, (b : Int), List.replicate b 0)) S.2.2.2.1 (fun j hj => uz_ne hj)
    rw [ent_5 (by show 5 ≤ 10 + a; omega)] at epush
    have epush : wsl ad X cA L c ++ [(q1, .inr (10 + a - 10, flds (adp ad L.length q1) X (10 + a - 10) (uz c L.length L.length) (List.replicate b 0)))] = _ := epush
    rw [Nat.add_sub_cancel_left] at epush
    rw [epush] at hP1 hD1
    have S2 := S.push (q := q1) (c' := uz c L.length) (hP1 := hP1) (hD1 := hD1) (hS1 := hS1) (fun j hj => uz_ne hj) (cok_new hC hbl) (by omega)
    have K := hk (adp ad L.length q1) H1 locs lsM S2
    rw [f1, f2, hbq] at K
    have est : (vR ((L.length : Int) + 1) :: st).map (mv (adp ad L.length q1) X) = .ref q1 :: st.map (mv ad X) := by
      rw [List.map_cons]
      congr 1
      · show Value.ref (adp ad L.length q1 L.length) = .ref q1
        rw [adp_eq]
      · exact List.map_congr_left fun v hv => mv_keep (fun k hk => adp_lt hk) (S.stv v hv)
    rw [est] at K
    exact K
theorem g_37 (C : CX p s m args meth c0 f A D cA X n xs) (hRf : 1 ≤ R.frames) (hRl : 100 ≤ R.locals) (hd : decode (mtb f).1 pc = .ok (raw pc (37, a, b, x))) (hl : lnk (mtb f).2.2.2.2 (mtb f).2.2.1 (mtb f).2.1.name (37, a, b, x) = true) (hs : oks (inf f).1 (37, a, b, x) = true) (h : act (37, a, b, x) ls st (L, c) = some (.inl (ls', st', M'))) (hL : M'.1.length ≤ 1000000) (hRc : M'.1.length - n0 ≤ R.cells) (hRs : slz M'.1 - z0 ≤ R.slots) (hk : WS p l e R s m args below meth c0 Q f A D cA X n xs ad0 n0 z0 (npc pc (37, a, b, x)) ls' st' M'.1 M'.2) : WS p l e R s m args below meth c0 Q f A D cA X n xs ad0 n0 z0 pc ls st L c := by
  intro ad H locs lsM S
  obtain ⟨hx, hb, hml, hown, hts, hK, hST, hA, hr, hlk, hnm⟩ := C
  obtain ⟨z, t, rfl, h⟩ := pI_inv h
  obtain ⟨hz9, h⟩ := if_inv h
  have h : (some (.inl (ls, vR ((L.length : Int) + 1) :: t, (L ++ [(a, z, [])], uz c L.length))) : Act) = some (.inl (ls', st', M')) := h
  cases h
  have hz : In32 z := vok_hd S.stv
  have hcl : (Int32.ofInt z).toNatClampNeg = z.toNat := o32_clamp hz
  have hneg : ¬ Int32.ofInt z < 0 := fun q => by
    rw [← o32_0, o32_lt hz in32_0] at q
    omega
  have e1 : (L ++ [(a, z, [])]).length = L.length + 1 := by simp
  have e2 : slz (L ++ [(a, z, [])]) = slz L + z.toNat := by rw [slz_app]; rfl
  have b1 : n0 ≤ L.length := S.2.2.2.2.2.1.1
  have b2 : z0 ≤ slz L := S.2.2.2.2.2.1.2.1
  have f1 : (L ++ [(a, z, [])]).length - n0 = L.length - n0 + 1 := by omega
  have f2 : slz (L ++ [(a, z, [])]) - z0 = slz L - z0 + z.toNat := by omega
  have hRc : (L ++ [(a, z, [])]).length - n0 ≤ R.cells := hRc
  have hRs : slz (L ++ [(a, z, [])]) - z0 ≤ R.slots := hRs
  have hL : (L ++ [(a, z, [])]).length ≤ 1000000 := hL
  have est : ∀ q1, (vR ((L.length : Int) + 1) :: t).map (mv (adp ad L.length q1) X) = .ref q1 :: t.map (mv ad X) := fun q1 => by
    rw [List.map_cons]
    congr 1
    · show Value.ref (adp ad L.length q1 L.length) = .ref q1
      rw [adp_eq]
    · exact List.map_congr_left fun v hv => mv_keep (fun k hk => adp_lt hk) (vok_tl S.stv v hv)
  rcases a with _ | _ | _ | a
  · have hac := hts _ acI
    refine va_newa (atype := .int) (ty := .int) (a0 := (z.toNat, .inl (fun _ => Int32.ofInt 0))) hx hb hac rfl hK S.1 S.2.1 S.2.2.1 hA (fun _ => rfl) hneg hcl (by show z.toNat * 4 ≤ _; omega) (by omega) (by omega) hd (fun q1 cA2 H1 hK1 hP1 hD1 hS1 => ?_)
    have hcA : cA2 = cA 0 := by
      have h1 := (hK1.2 5 (cA2, .int) rfl).2
      have h2 := (hK.2 0 (cA 0, .int) rfl).2
      exact Option.some.inj (h1.symm.trans h2)
    subst hcA
    have epush := wsl_push (ad := ad) (X := X) (cA := cA) (q := q1) (c' := uz c L.length) (s' := (0, z, [])) S.2.2.2.1 (fun j hj => uz_ne hj)
    have eent : ent (adp ad L.length q1) X cA (0, z, []) (uz c L.length L.length) = .inl (cA 0, (z.toNat, .inl (fun _ => Int32.ofInt 0))) := by
      unfold ent
      simp only [uz_self]
      rfl
    rw [eent] at epush
    rw [epush] at hP1 hD1
    have S2 := S.push (q := q1) (c' := uz c L.length) (hP1 := hP1) (hD1 := hD1) (hS1 := hS1) (fun j hj => uz_ne hj) (cok_newa (by decide) hz9) (by omega)
    have K := hk (adp ad L.length q1) H1 locs lsM (S2.stk (vok_cons (vok_hd S2.stv) (vok_tl (vok_tl S2.stv))))
    rw [f1, f2] at K
    rw [est q1] at K
    exact K
  · have hac := hts _ acJ
    refine va_newa (atype := .long) (ty := .long) (a0 := (z.toNat, .inr (.inl (fun _ => Int64.ofInt 0)))) hx hb hac rfl hK S.1 S.2.1 S.2.2.1 hA (fun _ => rfl) hneg hcl (by show z.toNat * 8 ≤ _; omega) (by omega) (by omega) hd (fun q1 cA2 H1 hK1 hP1 hD1 hS1 => ?_)
    have hcA : cA2 = cA 1 := by
      have h1 := (hK1.2 5 (cA2, .long) rfl).2
      have h2 := (hK.2 1 (cA 1, .long) rfl).2
      exact Option.some.inj (h1.symm.trans h2)
    subst hcA
    have epush := wsl_push (ad := ad) (X := X) (cA := cA) (q := q1) (c' := uz c L.length) (s' := (1, z, [])) S.2.2.2.1 (fun j hj => uz_ne hj)
    have eent : ent (adp ad L.length q1) X cA (1, z, []) (uz c L.length L.length) = .inl (cA 1, (z.toNat, .inr (.inl (fun _ => Int64.ofInt 0)))) := by
      unfold ent
      simp only [uz_self]
      rfl
    rw [eent] at epush
    rw [epush] at hP1 hD1
    have S2 := S.push (q := q1) (c' := uz c L.length) (hP1 := hP1) (hD1 := hD1) (hS1 := hS1) (fun j hj => uz_ne hj) (cok_newa (by decide) hz9) (by omega)
    have K := hk (adp ad L.length q1) H1 locs lsM (S2.stk (vok_cons (vok_hd S2.stv) (vok_tl (vok_tl S2.stv))))
    rw [f1, f2] at K
    rw [est q1] at K
    exact K
  · have hac := hts _ acZ
    refine va_newa (atype := .boolean) (ty := .boolean) (a0 := (z.toNat, .inl (fun _ => Int32.ofInt 0))) hx hb hac rfl hK S.1 S.2.1 S.2.2.1 hA (fun _ => rfl) hneg hcl (by show z.toNat * 1 ≤ _; omega) (by omega) (by omega) hd (fun q1 cA2 H1 hK1 hP1 hD1 hS1 => ?_)
    have hcA : cA2 = cA 2 := by
      have h1 := (hK1.2 5 (cA2, .boolean) rfl).2
      have h2 := (hK.2 2 (cA 2, .boolean) rfl).2
      exact Option.some.inj (h1.symm.trans h2)
    subst hcA
    have epush := wsl_push (ad := ad) (X := X) (cA := cA) (q := q1) (c' := uz c L.length) (s' := (2, z, [])) S.2.2.2.1 (fun j hj => uz_ne hj)
    have eent : ent (adp ad L.length q1) X cA (2, z, []) (uz c L.length L.length) = .inl (cA 2, (z.toNat, .inl (fun _ => Int32.ofInt 0))) := by
      unfold ent
      simp only [uz_self]
      rfl
    rw [eent] at epush
    rw [epush] at hP1 hD1
    have S2 := S.push (q := q1) (c' := uz c L.length) (hP1 := hP1) (hD1 := hD1) (hS1 := hS1) (fun j hj => uz_ne hj) (cok_newa (by decide) hz9) (by omega)
    have K := hk (adp ad L.length q1) H1 locs lsM (S2.stk (vok_cons (vok_hd S2.stv) (vok_tl (vok_tl S2.stv))))
    rw [f1, f2] at K
    rw [est q1] at K
    exact K
  · have : Nat.ble (a + 3) 2 = true := hl
    exact absurd (Nat.le_of_ble_eq_true this) (by omega)
theorem g_38 (C : CX p s m args meth c0 f A D cA X n xs) (hRf : 1 ≤ R.frames) (hRl : 100 ≤ R.locals) (hd : decode (mtb f).1 pc = .ok (raw pc (38, a, b, x))) (hl : lnk (mtb f).2.2.2.2 (mtb f).2.2.1 (mtb f).2.1.name (38, a, b, x) = true) (hs : oks (inf f).1 (38, a, b, x) = true) (h : act (38, a, b, x) ls st (L, c) = some (.inl (ls', st', M'))) (hL : M'.1.length ≤ 1000000) (hRc : M'.1.length - n0 ≤ R.cells) (hRs : slz M'.1 - z0 ≤ R.slots) (hk : WS p l e R s m args below meth c0 Q f A D cA X n xs ad0 n0 z0 (npc pc (38, a, b, x)) ls' st' M'.1 M'.2) : WS p l e R s m args below meth c0 Q f A D cA X n xs ad0 n0 z0 pc ls st L c := by
  intro ad H locs lsM S
  obtain ⟨hx, hb, hml, hown, hts, hK, hST, hA, hr, hlk, hnm⟩ := C
  obtain ⟨z, t, rfl, h⟩ := pI_inv h
  obtain ⟨hz9, h⟩ := if_inv h
  have h : (some (.inl (ls, vR ((L.length : Int) + 1) :: t, (L ++ [(a, z, [])], uz c L.length))) : Act) = some (.inl (ls', st', M')) := h
  cases h
  have hz : In32 z := vok_hd S.stv
  have hcl : (Int32.ofInt z).toNatClampNeg = z.toNat := o32_clamp hz
  have hneg : ¬ Int32.ofInt z < 0 := fun q => by
    rw [← o32_0, o32_lt hz in32_0] at q
    omega
  have e1 : (L ++ [(a, z, [])]).length = L.length + 1 := by simp
  have e2 : slz (L ++ [(a, z, [])]) = slz L + z.toNat := by rw [slz_app]; rfl
  have b1 : n0 ≤ L.length := S.2.2.2.2.2.1.1
  have b2 : z0 ≤ slz L := S.2.2.2.2.2.1.2.1
  have f1 : (L ++ [(a, z, [])]).length - n0 = L.length - n0 + 1 := by omega
  have f2 : slz (L ++ [(a, z, [])]) - z0 = slz L - z0 + z.toNat := by omega
  have hRc : (L ++ [(a, z, [])]).length - n0 ≤ R.cells := hRc
  have hRs : slz (L ++ [(a, z, [])]) - z0 ≤ R.slots := hRs
  have hL : (L ++ [(a, z, [])]).length ≤ 1000000 := hL
  have est : ∀ q1, (vR ((L.length : Int) + 1) :: t).map (mv (adp ad L.length q1) X) = .ref q1 :: t.map (mv ad X) := fun q1 => by
    rw [List.map_cons]
    congr 1
    · show Value.ref (adp ad L.length q1 L.length) = .ref q1
      rw [adp_eq]
    · exact List.map_congr_left fun v hv => mv_keep (fun k hk => adp_lt hk) (vok_tl S.stv v hv)
  have hl : ((Nat.beq a 3 || Nat.beq a 4) && lkC.any (fun q => Nat.beq q.1 (mtb f).2.2.2.2 && (decide ((q.2.1 : Int) = x) && Nat.beq q.2.2.1 (a + 100)))) = true := hl
  simp only [Bool.and_eq_true, Bool.or_eq_true] at hl
  obtain ⟨hkd, hl⟩ := hl
  have hkd : a = 3 ∨ a = 4 := hkd.imp beq_of beq_of
  rcases hkd with hkd | hkd
  · subst hkd
    have hw := hts _ (lkC_word hl)
    refine va_newq (C := RX7) hx hb hown hw hST.2.2.2.2.2.2.2.2.1 hK S.1 S.2.1 S.2.2.1 hA hneg hcl (by omega) (by omega) (by omega) hd (fun q1 cA2 H1 hK1 hP1 hD1 hS1 => ?_)
    have hcA : cA2 = cA 3 := by
      obtain ⟨_, _, _, _, _, h1⟩ := (hK1.2 5 (cA2, .object RX7) rfl).2
      obtain ⟨_, _, _, _, _, h2⟩ := (hK.2 3 (cA 3, .object RX7) rfl).2
      exact Option.some.inj (h1.symm.trans h2)
    subst hcA
    have epush := wsl_push (ad := ad) (X := X) (cA := cA) (q := q1) (c' := uz c L.length) (s' := (3, z, [])) S.2.2.2.1 (fun j hj => uz_ne hj)
    have eent : ent (adp ad L.length q1) X cA (3, z, []) (uz c L.length L.length) = .inl (cA 3, (z.toNat, .inr (.inr (.inr (.inr (fun _ => none)))))) := by
      unfold ent
      simp only [uz_self]
      rfl
    rw [eent] at epush
    rw [epush] at hP1 hD1
    have S2 := S.push (q := q1) (c' := uz c L.length) (hP1 := hP1) (hD1 := hD1) (hS1 := hS1) (fun j hj => uz_ne hj) (cok_newa (by decide) hz9) (by omega)
    have K := hk (adp ad L.length q1) H1 locs lsM (S2.stk (vok_cons (vok_hd S2.stv) (vok_tl (vok_tl S2.stv))))
    rw [f1, f2] at K
    rw [est q1] at K
    exact K
  · subst hkd
    have hw := hts _ (lkC_word hl)
    refine va_newq (C := RX10) hx hb hown hw hST.2.2.2.2.2.2.2.2.2.1 hK S.1 S.2.1 S.2.2.1 hA hneg hcl (by omega) (by omega) (by omega) hd (fun q1 cA2 H1 hK1 hP1 hD1 hS1 => ?_)
    have hcA : cA2 = cA 4 := by
      obtain ⟨_, _, _, _, _, h1⟩ := (hK1.2 5 (cA2, .object RX10) rfl).2
      obtain ⟨_, _, _, _, _, h2⟩ := (hK.2 4 (cA 4, .object RX10) rfl).2
      exact Option.some.inj (h1.symm.trans h2)
    subst hcA
    have epush := wsl_push (ad := ad) (X := X) (cA := cA) (q := q1) (c' := uz c L.length) (s' := (4, z, [])) S.2.2.2.1 (fun j hj => uz_ne hj)
    have eent : ent (adp ad L.length q1) X cA (4, z, []) (uz c L.length L.length) = .inl (cA 4, (z.toNat, .inr (.inr (.inr (.inr (fun _ => none)))))) := by
      unfold ent
      simp only [uz_self]
      rfl
    rw [eent] at epush
    rw [epush] at hP1 hD1
    have S2 := S.push (q := q1) (c' := uz c L.length) (hP1 := hP1) (hD1 := hD1) (hS1 := hS1) (fun j hj => uz_ne hj) (cok_newa (by decide) hz9) (by omega)
    have K := hk (adp ad L.length q1) H1 locs lsM (S2.stk (vok_cons (vok_hd S2.stv) (vok_tl (vok_tl S2.stv))))
    rw [f1, f2] at K
    rw [est q1] at K
    exact K
theorem g_40 (C : CX p s m args meth c0 f A D cA X n xs) (hRf : 1 ≤ R.frames) (hRl : 100 ≤ R.locals) (hd : decode (mtb f).1 pc = .ok (raw pc (40, a, b, x))) (hl : lnk (mtb f).2.2.2.2 (mtb f).2.2.1 (mtb f).2.1.name (40, a, b, x) = true) (hs : oks (inf f).1 (40, a, b, x) = true) (h : act (40, a, b, x) ls st (L, c) = some (.inl (ls', st', M'))) (hL : M'.1.length ≤ 1000000) (hRc : M'.1.length - n0 ≤ R.cells) (hRs : slz M'.1 - z0 ≤ R.slots) (hk : WS p l e R s m args below meth c0 Q f A D cA X n xs ad0 n0 z0 (npc pc (40, a, b, x)) ls' st' M'.1 M'.2) : WS p l e R s m args below meth c0 Q f A D cA X n xs ad0 n0 z0 pc ls st L c := by
  intro ad H locs lsM S
  obtain ⟨hx, hb, hml, hown, hts, hK, hST, hA, hr, hlk, hnm⟩ := C
  obtain ⟨r, t, rfl, h⟩ := pR_inv h
  obtain ⟨k, sh, hk0, rfl, h⟩ := pD_inv h
  obtain ⟨h1, h⟩ := bif_inv h
  have h : (some (.inl (ls, t, (L, c))) : Act) = some (.inl (ls', st', M')) := h
  cases h
  have hcat := catS_le (ad := ad) (X := X) t
  have h1 := Nat.le_of_ble_eq_true h1
  refine W.objInit (g := F0 m pc lsM ((vR ((k : Int) + 1) :: t).map (mv ad X))) (a := ad k) (rest := t.map (mv ad X)) hx hb hown (hts _ (lkO_word hl)) (hts _ objI) (hts _ objC) rfl (S.lr.2.1.trans hml.symm) rfl hd hRf ?_ (hk ad H locs lsM (S.stk (vok_tl S.stv)))
  show 2 * 0 + ((t.map (mv ad X)).map fun v => v.category).sum + 12 ≤ R.locals
  omega
theorem g_41 (C : CX p s m args meth c0 f A D cA X n xs) (hRf : 1 ≤ R.frames) (hRl : 100 ≤ R.locals) (hd : decode (mtb f).1 pc = .ok (raw pc (41, a, b, x))) (hl : lnk (mtb f).2.2.2.2 (mtb f).2.2.1 (mtb f).2.1.name (41, a, b, x) = true) (hs : oks (inf f).1 (41, a, b, x) = true) (h : act (41, a, b, x) ls st (L, c) = some (.inl (ls', st', M'))) (hL : M'.1.length ≤ 1000000) (hRc : M'.1.length - n0 ≤ R.cells) (hRs : slz M'.1 - z0 ≤ R.slots) (hk : WS p l e R s m args below meth c0 Q f A D cA X n xs ad0 n0 z0 (npc pc (41, a, b, x)) ls' st' M'.1 M'.2) : WS p l e R s m args below meth c0 Q f A D cA X n xs ad0 n0 z0 pc ls st L c := by
  intro ad H locs lsM S
  obtain ⟨hx, hb, hml, hown, hts, hK, hST, hA, hr, hlk, hnm⟩ := C
  obtain ⟨z, t, rfl, h⟩ := pI_inv h
  obtain ⟨dp, t, rfl, h⟩ := pI_inv h
  obtain ⟨r2, t, rfl, h⟩ := pR_inv h
  obtain ⟨sp, t, rfl, h⟩ := pI_inv h
  obtain ⟨r, t, rfl, h⟩ := pR_inv h
  obtain ⟨k, sh, hk0, rfl, h⟩ := pD_inv h
  obtain ⟨k2, sh2, hk20, rfl, h⟩ := pD_inv h
  obtain ⟨h1, h⟩ := bif_inv h
  simp only [Bool.and_eq_true, Bool.not_eq_true'] at h1
  obtain ⟨⟨⟨q1, q2⟩, q3⟩, q4⟩ := h1
  have q1 : sh.1 = 0 := beq_of q1
  have q2 : sh2.1 = 0 := beq_of q2
  have q3 : k ≠ k2 := fun w => by rw [w, Nat.beq_refl] at q3; cases q3
  have q4 := Nat.le_of_ble_eq_true q4
  obtain ⟨hr9, h⟩ := if_inv h
  have h : (some (.inl (ls, t, (L, cpy c k sp k2 dp z))) : Act) = some (.inl (ls', st', M')) := h
  cases h
  have hz : In32 z := vok_hd S.stv
  have hdp : In32 dp := vok_hd (vok_tl S.stv)
  have hsp : In32 sp := vok_hd (vok_tl (vok_tl (vok_tl S.stv)))
  have hco := S.2.2.2.1 k sh hk0
  have hco2 := S.2.2.2.1 k2 sh2 hk20
  have he := wsl_at (ad := ad) (X := X) (cA := cA) (c := c) hk0
  have hent : ent ad X cA sh (c k) = .inl (cA 0, (sh.2.1.toNat, .inl (fun j => Int32.ofInt (c k (Int.ofNat j))))) := by unfold ent; rw [q1]
  rw [hent] at he
  have he2 := wsl_at (ad := ad) (X := X) (cA := cA) (c := c) hk20
  have hent2 : ∀ g : Int → Int, ent ad X cA sh2 g = .inl (cA 0, (sh2.2.1.toNat, .inl (fun j => Int32.ofInt (g (Int.ofNat j))))) := fun g => by unfold ent; rw [q2]
  rw [hent2] at he2
  have c1 : (Int32.ofInt sp).toNatClampNeg = sp.toNat := o32_clamp hsp
  have c2 : (Int32.ofInt dp).toNatClampNeg = dp.toNat := o32_clamp hdp
  have c3 : (Int32.ofInt z).toNatClampNeg = z.toNat := o32_clamp hz
  have nneg : ∀ {w : Int}, In32 w → 0 ≤ w → ¬ Int32.ofInt w < 0 := fun {w} h1 h2 q => by
    rw [← o32_0, o32_lt h1 in32_0] at q
    omega
  have hcat := catS_le (ad := ad) (X := X) t
  refine va_copyi hx hb (hml.trans S.lr.2.1.symm) hown (hts _ (lkA_word hl)) (hts _ natC) (hts _ statC) (hts _ iniC) hK S.1 S.2.1 S.2.2.1 k k2 0 0 he he2 rfl rfl rfl (nneg hsp hr9.1.1) (nneg hdp hr9.1.2.1) (nneg hz hr9.1.2.2) (by rw [c1, c3]; omega) (by rw [c2, c3]; omega) (fun _ _ => rfl) hRf ?_ hd (fun H1 locs1 hP1 hD1 hS1 => hk ad H1 locs1 lsM (S.upd hL hk20 (fun a2 h2 => cpy_ne h2) (cok_cpy hco hco2 q1 q2) ?_ hP1 hD1 hS1 (vok_tl (vok_tl (vok_tl (vok_tl (vok_tl S.stv)))))))
  · have : nativeFrameWords "java/lang/System" "arraycopy" 5 ≤ 60 := by decide +kernel
    omega
  · rw [hent2, c1, c2, c3]
    congr 4
    funext j
    unfold va_cpy cpy
    rw [if_pos rfl]
    by_cases hj : dp.toNat ≤ j ∧ j < dp.toNat + z.toNat
    · rw [if_pos hj, if_pos (by have e9 : (Int.ofNat j) = (j : Int) := rfl; rw [e9]; omega)]
      have e9 : (Int.ofNat (sp.toNat + (j - dp.toNat))) = sp + (Int.ofNat j - dp) := by
        show ((sp.toNat + (j - dp.toNat) : Nat) : Int) = sp + ((j : Int) - dp)
        omega
      rw [e9]
    · rw [if_neg hj, if_neg (by have e9 : (Int.ofNat j) = (j : Int) := rfl; rw [e9]; omega)]
theorem g_47 (C : CX p s m args meth c0 f A D cA X n xs) (hRf : 1 ≤ R.frames) (hRl : 100 ≤ R.locals) (hd : decode (mtb f).1 pc = .ok (raw pc (47, a, b, x))) (hl : lnk (mtb f).2.2.2.2 (mtb f).2.2.1 (mtb f).2.1.name (47, a, b, x) = true) (hs : oks (inf f).1 (47, a, b, x) = true) (h : act (47, a, b, x) ls st (L, c) = some (.inl (ls', st', M'))) (hL : M'.1.length ≤ 1000000) (hRc : M'.1.length - n0 ≤ R.cells) (hRs : slz M'.1 - z0 ≤ R.slots) (hk : WS p l e R s m args below meth c0 Q f A D cA X n xs ad0 n0 z0 (npc pc (47, a, b, x)) ls' st' M'.1 M'.2) : WS p l e R s m args below meth c0 Q f A D cA X n xs ad0 n0 z0 pc ls st L c := by
  intro ad H locs lsM S
  obtain ⟨hx, hb, hml, hown, hts, hK, hST, hA, hr, hlk, hnm⟩ := C
  have h : (some (.inl (ls, vR (-100 - (a : Int)) :: st, (L, c))) : Act) = some (.inl (ls', st', M')) := h
  cases h
  obtain ⟨z, hz⟩ := lkS_mem hl
  have ha12 : a < 12 := of_decide_eq_true (List.all_eq_true.mp lkS_lt _ hz)
  have K := hk ad H locs lsM (S.stk (vok_cons (show -100 - (a : Int) ≤ (L.length : Int) by omega) S.stv))
  exact va_ldcS hx hb hown (hST.2.1 _ hz) hd (W_top (mv_str ha12) K)
theorem g_52 (C : CX p s m args meth c0 f A D cA X n xs) (hRf : 1 ≤ R.frames) (hRl : 100 ≤ R.locals) (hd : decode (mtb f).1 pc = .ok (raw pc (52, a, b, x))) (hl : lnk (mtb f).2.2.2.2 (mtb f).2.2.1 (mtb f).2.1.name (52, a, b, x) = true) (hs : oks (inf f).1 (52, a, b, x) = true) (h : act (52, a, b, x) ls st (L, c) = some (.inl (ls', st', M'))) (hL : M'.1.length ≤ 1000000) (hRc : M'.1.length - n0 ≤ R.cells) (hRs : slz M'.1 - z0 ≤ R.slots) (hk : WS p l e R s m args below meth c0 Q f A D cA X n xs ad0 n0 z0 (npc pc (52, a, b, x)) ls' st' M'.1 M'.2) : WS p l e R s m args below meth c0 Q f A D cA X n xs ad0 n0 z0 pc ls st L c := by
  intro ad H locs lsM S
  obtain ⟨hx, hb, hml, hown, hts, hK, hST, hA, hr, hlk, hnm⟩ := C
  obtain ⟨y, t, rfl, h⟩ := pL_inv h
  obtain ⟨j, t, rfl, h⟩ := pI_inv h
  obtain ⟨r, t, rfl, h⟩ := pR_inv h
  obtain ⟨k, sh, hk0, rfl, h⟩ := pD_inv h
  obtain ⟨h1, h⟩ := bif_inv h
  have h1 : sh.1 = 1 := beq_of h1
  obtain ⟨hij, h⟩ := if_inv h
  have h : (some (.inl (ls, t, (L, up c k j y))) : Act) = some (.inl (ls', st', M')) := h
  cases h
  have hy : In64 y := vok_hd S.stv
  have hj : In32 j := vok_hd (vok_tl S.stv)
  have hco := S.2.2.2.1 k sh hk0
  have he := wsl_at (ad := ad) (X := X) (cA := cA) (c := c) hk0
  have hent : ∀ g : Int → Int, ent ad X cA sh g = .inl (cA 1, (sh.2.1.toNat, .inr (.inl (fun j => Int64.ofInt (g (Int.ofNat j)))))) := fun g => by unfold ent; rw [h1]
  rw [hent] at he
  have hcl : (Int32.ofInt j).toNatClampNeg = j.toNat := o32_clamp hj
  refine va_last hx hb hK S.1 S.2.1 S.2.2.1 k 1 he rfl (o32_in hj hij.1 hij.2) hd (fun H1 locs1 hP1 hD1 hS1 => hk ad H1 locs1 lsM (S.upd hL hk0 (fun a2 h2 => up_ne h2) (cok_arr1 hco h1 hy) ?_ hP1 hD1 hS1 (vok_tl (vok_tl (vok_tl S.stv)))))
  rw [hent, hcl]
  congr 5
  funext z
  rw [up_self]
  by_cases hz : z = j.toNat
  · have e9 : (Int.ofNat z) = j := by rw [hz]; exact Int.toNat_of_nonneg hij.1
    rw [if_pos e9]
    unfold vp_updL
    rw [if_pos hz]
  · have e9 : ¬ (Int.ofNat z) = j := fun q => hz (by rw [← q]; rfl)
    rw [if_neg e9]
    unfold vp_updL
    rw [if_neg hz]
theorem g_53 (C : CX p s m args meth c0 f A D cA X n xs) (hRf : 1 ≤ R.frames) (hRl : 100 ≤ R.locals) (hd : decode (mtb f).1 pc = .ok (raw pc (53, a, b, x))) (hl : lnk (mtb f).2.2.2.2 (mtb f).2.2.1 (mtb f).2.1.name (53, a, b, x) = true) (hs : oks (inf f).1 (53, a, b, x) = true) (h : act (53, a, b, x) ls st (L, c) = some (.inl (ls', st', M'))) (hL : M'.1.length ≤ 1000000) (hRc : M'.1.length - n0 ≤ R.cells) (hRs : slz M'.1 - z0 ≤ R.slots) (hk : WS p l e R s m args below meth c0 Q f A D cA X n xs ad0 n0 z0 (npc pc (53, a, b, x)) ls' st' M'.1 M'.2) : WS p l e R s m args below meth c0 Q f A D cA X n xs ad0 n0 z0 pc ls st L c := by
  intro ad H locs lsM S
  obtain ⟨hx, hb, hml, hown, hts, hK, hST, hA, hr, hlk, hnm⟩ := C
  obtain ⟨y, t, rfl, h⟩ := pI_inv h
  obtain ⟨j, t, rfl, h⟩ := pI_inv h
  obtain ⟨r, t, rfl, h⟩ := pR_inv h
  obtain ⟨k, sh, hk0, rfl, h⟩ := pD_inv h
  obtain ⟨h1, h⟩ := bif_inv h
  have h1 : sh.1 = 2 := beq_of h1
  obtain ⟨hij, h⟩ := if_inv h
  obtain ⟨hy01, h⟩ := if_inv h
  have h : (some (.inl (ls, t, (L, up c k j y))) : Act) = some (.inl (ls', st', M')) := h
  cases h
  have hy : In32 y := vok_hd S.stv
  have hj : In32 j := vok_hd (vok_tl S.stv)
  have hco := S.2.2.2.1 k sh hk0
  have he := wsl_at (ad := ad) (X := X) (cA := cA) (c := c) hk0
  have hent : ∀ g : Int → Int, ent ad X cA sh g = .inl (cA 2, (sh.2.1.toNat, .inl (fun j => Int32.ofInt (g (Int.ofNat j))))) := fun g => by unfold ent; rw [h1]
  rw [hent] at he
  have hcl : (Int32.ofInt j).toNatClampNeg = j.toNat := o32_clamp hj
  refine va_zast hx hb hK S.1 S.2.1 S.2.2.1 k 2 he rfl (o32_in hj hij.1 hij.2) hd (fun H1 locs1 hP1 hD1 hS1 => hk ad H1 locs1 lsM (S.upd hL hk0 (fun a2 h2 => up_ne h2) (cok_arr02 hco (Or.inr h1) hy) ?_ hP1 hD1 hS1 (vok_tl (vok_tl (vok_tl S.stv)))))
  rw [hent, hcl]
  congr 4
  funext z
  rw [up_self]
  by_cases hz : z = j.toNat
  · have e9 : (Int.ofNat z) = j := by rw [hz]; exact Int.toNat_of_nonneg hij.1
    rw [if_pos e9]
    unfold upd
    rw [if_pos hz]
    rcases hy01 with q | q <;> subst q <;> rfl
  · have e9 : ¬ (Int.ofNat z) = j := fun q => hz (by rw [← q]; rfl)
    rw [if_neg e9]
    unfold upd
    rw [if_neg hz]
theorem g_54 (C : CX p s m args meth c0 f A D cA X n xs) (hRf : 1 ≤ R.frames) (hRl : 100 ≤ R.locals) (hd : decode (mtb f).1 pc = .ok (raw pc (54, a, b, x))) (hl : lnk (mtb f).2.2.2.2 (mtb f).2.2.1 (mtb f).2.1.name (54, a, b, x) = true) (hs : oks (inf f).1 (54, a, b, x) = true) (h : act (54, a, b, x) ls st (L, c) = some (.inl (ls', st', M'))) (hL : M'.1.length ≤ 1000000) (hRc : M'.1.length - n0 ≤ R.cells) (hRs : slz M'.1 - z0 ≤ R.slots) (hk : WS p l e R s m args below meth c0 Q f A D cA X n xs ad0 n0 z0 (npc pc (54, a, b, x)) ls' st' M'.1 M'.2) : WS p l e R s m args below meth c0 Q f A D cA X n xs ad0 n0 z0 pc ls st L c := by
  intro ad H locs lsM S
  obtain ⟨hx, hb, hml, hown, hts, hK, hST, hA, hr, hlk, hnm⟩ := C
  obtain ⟨y, t, rfl, h⟩ := pR_inv h
  obtain ⟨j, t, rfl, h⟩ := pI_inv h
  obtain ⟨r, t, rfl, h⟩ := pR_inv h
  obtain ⟨k, sh, hk0, rfl, h⟩ := pD_inv h
  obtain ⟨h1, h⟩ := bif_inv h
  obtain ⟨hij, h⟩ := if_inv h
  obtain ⟨k2, sh2, hk20, rfl, h⟩ := pD_inv h
  obtain ⟨h2, h⟩ := bif_inv h
  have h : (some (.inl (ls, t, (L, up c k j ((k2 : Int) + 1)))) : Act) = some (.inl (ls', st', M')) := h
  cases h
  have hj : In32 j := vok_hd (vok_tl S.stv)
  have hl : ((Nat.beq a 3 && Nat.beq b 17) || (Nat.beq a 4 && Nat.beq b 20)) = true := hl
  simp only [Bool.or_eq_true, Bool.and_eq_true] at hl
  have hl : (a = 3 ∧ b = 17) ∨ (a = 4 ∧ b = 20) := hl.imp (fun q => ⟨beq_of q.1, beq_of q.2⟩) (fun q => ⟨beq_of q.1, beq_of q.2⟩)
  rcases hl with ⟨hkd1, hkd2⟩ | ⟨hkd1, hkd2⟩
  · subst hkd1; subst hkd2
    have h1 : sh.1 = 3 := beq_of h1
    have h2 : sh2.1 = 17 := beq_of h2
    have hco := S.2.2.2.1 k sh hk0
    have he := wsl_at (ad := ad) (X := X) (cA := cA) (c := c) hk0
    have hent : ∀ g : Int → Int, ent ad X cA sh g = .inl (cA 3, (sh.2.1.toNat, .inr (.inr (.inr (.inr (fun j => rof ad X (g (Int.ofNat j)))))))) := fun g => by unfold ent; rw [h1]
    rw [hent] at he
    have he2 := wsl_at (ad := ad) (X := X) (cA := cA) (c := c) hk20
    rw [ent_5 (by omega), h2] at he2
    have hcl : (Int32.ofInt j).toNatClampNeg = j.toNat := o32_clamp hj
    have hkl2 : k2 < L.length := (List.getElem?_eq_some_iff.mp hk20).1
    refine va_astq (r := (RX7, TX7, 15)) hx hb hK S.1 S.2.1 S.2.2.1 k 3 k2 7 he rfl he2 rfl (o32_in hj hij.1 hij.2) hd (fun H1 locs1 hP1 hD1 hS1 => hk ad H1 locs1 lsM (S.upd hL hk0 (fun a2 h2 => up_ne h2) (cok_arr34 hco (Or.inl h1) (by omega) (by omega)) ?_ hP1 hD1 hS1 (vok_tl (vok_tl (vok_tl S.stv)))))
    rw [hent, hcl]
    congr 7
    funext z
    rw [up_self]
    by_cases hz : z = j.toNat
    · have e9 : (Int.ofNat z) = j := by rw [hz]; exact Int.toNat_of_nonneg hij.1
      rw [if_pos e9]
      unfold va_up
      rw [if_pos hz]
      rfl
    · have e9 : ¬ (Int.ofNat z) = j := fun q => hz (by rw [← q]; rfl)
      rw [if_neg e9]
      unfold va_up
      rw [if_neg hz]
  · subst hkd1; subst hkd2
    have h1 : sh.1 = 4 := beq_of h1
    have h2 : sh2.1 = 20 := beq_of h2
    have hco := S.2.2.2.1 k sh hk0
    have he := wsl_at (ad := ad) (X := X) (cA := cA) (c := c) hk0
    have hent : ∀ g : Int → Int, ent ad X cA sh g = .inl (cA 4, (sh.2.1.toNat, .inr (.inr (.inr (.inr (fun j => rof ad X (g (Int.ofNat j)))))))) := fun g => by unfold ent; rw [h1]
    rw [hent] at he
    have he2 := wsl_at (ad := ad) (X := X) (cA := cA) (c := c) hk20
    rw [ent_5 (by omega), h2] at he2
    have hcl : (Int32.ofInt j).toNatClampNeg = j.toNat := o32_clamp hj
    have hkl2 : k2 < L.length := (List.getElem?_eq_some_iff.mp hk20).1
    refine va_astq (r := (RX10, TX10, 5)) hx hb hK S.1 S.2.1 S.2.2.1 k 4 k2 10 he rfl he2 rfl (o32_in hj hij.1 hij.2) hd (fun H1 locs1 hP1 hD1 hS1 => hk ad H1 locs1 lsM (S.upd hL hk0 (fun a2 h2 => up_ne h2) (cok_arr34 hco (Or.inr h1) (by omega) (by omega)) ?_ hP1 hD1 hS1 (vok_tl (vok_tl (vok_tl S.stv)))))
    rw [hent, hcl]
    congr 7
    funext z
    rw [up_self]
    by_cases hz : z = j.toNat
    · have e9 : (Int.ofNat z) = j := by rw [hz]; exact Int.toNat_of_nonneg hij.1
      rw [if_pos e9]
      unfold va_up
      rw [if_pos hz]
      rfl
    · have e9 : ¬ (Int.ofNat z) = j := fun q => hz (by rw [← q]; rfl)
      rw [if_neg e9]
      unfold va_up
      rw [if_neg hz]
theorem g_61 (C : CX p s m args meth c0 f A D cA X n xs) (hRf : 1 ≤ R.frames) (hRl : 100 ≤ R.locals) (hd : decode (mtb f).1 pc = .ok (raw pc (61, a, b, x))) (hl : lnk (mtb f).2.2.2.2 (mtb f).2.2.1 (mtb f).2.1.name (61, a, b, x) = true) (hs : oks (inf f).1 (61, a, b, x) = true) (h : act (61, a, b, x) ls st (L, c) = some (.inl (ls', st', M'))) (hL : M'.1.length ≤ 1000000) (hRc : M'.1.length - n0 ≤ R.cells) (hRs : slz M'.1 - z0 ≤ R.slots) (hk : WS p l e R s m args below meth c0 Q f A D cA X n xs ad0 n0 z0 (npc pc (61, a, b, x)) ls' st' M'.1 M'.2) : WS p l e R s m args below meth c0 Q f A D cA X n xs ad0 n0 z0 pc ls st L c := by
  intro ad H locs lsM S
  obtain ⟨hx, hb, hml, hown, hts, hK, hST, hA, hr, hlk, hnm⟩ := C
  have h : (some (.inl (ls, vR (-5) :: st, (L, c))) : Act) = some (.inl (ls', st', M')) := h
  cases h
  have hw := hts _ (lkG_word hl)
  exact va_gets hx hb hST.2.2.2.1 S.2.2.1 hown hw (fun _ h9 => h9) hd (hk ad H locs lsM (S.stk (vok_cons (show (-5 : Int) ≤ (L.length : Int) by omega) S.stv)))
end OPS

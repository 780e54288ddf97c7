/-! SOUNDNESS, 3: fields, arrays, text, what is made (own work): 14a.ops2 -/
section OPS
variable {p : Program} {l : Launch} {e : Env} {R : Room} {s : State} {m : MethodId} {args : Array Value} {below : List Frame} {meth : Method} {c0 : Code} {Q : State → Prop} {f : Nat} {A : Nat → Prop} {D : va_G} {cA : Nat → ClassId} {X : AdX} {n : Nat} {xs : Nat → Int32} {ad0 : Nat → Nat} {n0 z0 : Nat}
variable {ls st ls' st' : List V} {L : List Shp} {c : Nat → Int → Int} {M' : Mem} {pc a b : Nat} {x : Int}
theorem g_18 (C : CX p s m args meth c0 f A D cA X n xs) (hRf : 1 ≤ R.frames) (hRl : 100 ≤ R.locals) (hd : decode (mtbs f).1 pc = .ok (raw pc (18, a, b, x))) (hl : lnk (mtbs f).2.2.2.2 (mtbs f).2.2.1 (mtbs f).2.1.name (18, a, b, x) = true) (hs : oks (inf f).1 (18, a, b, x) = true) (h0 : act (18, a, b, x) ls st (L, c) = some (.inl (ls', st', M'))) (hL : M'.1.length ≤ 1000000) (hRc : M'.1.length - n0 ≤ R.cells) (hRs : slz M'.1 - z0 ≤ R.slots) (hk : WS p l e R s m args below meth c0 Q f A D cA X n xs ad0 n0 z0 (npc pc (18, a, b, x)) ls' st' M'.1 M'.2) : WS p l e R s m args below meth c0 Q f A D cA X n xs ad0 n0 z0 pc ls st L c := by
  intro ad H locs lsM S
  obtain ⟨hx, hb, hml, hown, hts, hK, hST, hA, hr, hlk, hnm⟩ := C
  have h9 := pR_inv h0
  clear h0
  obtain ⟨r, t, rfl, h⟩ := h9
  have h9 := pD_inv h
  clear h
  obtain ⟨k, sh, hk0, rfl, h⟩ := h9
  have h9 := bif_inv h
  clear h
  obtain ⟨h1, h⟩ := h9
  have h1 : sh.1 = 10 + a := beq_of h1
  have h : (some (.inl (ls, vI (c k (Int.ofNat b)) :: t, (L, c))) : Act) = some (.inl (ls', st', M')) := h
  cases h
  have hl : (Nat.beq ((ftb a).getD b 9) 0 && (lkF (mtbs f).2.2.2.2).any (fun q => Nat.beq q.1 x.toNat && (Nat.beq q.2.1 a && Nat.beq q.2.2.1 b))) = true := hl
  rw [Bool.and_eq_true] at hl
  have hty : (ftb a).getD b 9 = 0 := beq_of hl.1
  have hco := S.2.2.2.1 k sh hk0
  have ha12 : a ≤ 12 := by have := (hco.2.2.2.2 (by omega)).2.1; omega
  obtain ⟨q, ty, hC⟩ := cls_all a ha12
  have hb3 : b < q.2.2 := hC.fin (by rw [hty]; decide)
  have hcf := cok_f (k := b) hco (by omega)
  rw [h1, Nat.add_sub_cancel_left] at hcf
  have he := wsl_at (ad := ad) (X := X) (cA := cA) (c := c) hk0
  rw [ent_5 (by omega), h1, Nat.add_sub_cancel_left] at he
  have hw := hts _ (lkF_word hl.2)
  rw [hC.nam] at hw
  refine va_get (D := D) (ci := a) (fs := flds ad X a (c k) sh.2.2) (v := .int (Int32.ofInt (c k (Int.ofNat b)))) hx hb hts hC.2.2.1 hown hK S.1 k he hC.1 b hb3 hw (fun _ h9 => h9) ?_ hd (hk ad H locs lsM (S.stk (vok_cons (vokI (hcf.2.2 (by rw [hty]; decide))) (vok_tl S.stv))))
  rw [flds_at (by rw [← hC.2.2.2.2.2.1]; exact hb3), hty]
  rfl
theorem g_19 (C : CX p s m args meth c0 f A D cA X n xs) (hRf : 1 ≤ R.frames) (hRl : 100 ≤ R.locals) (hd : decode (mtbs f).1 pc = .ok (raw pc (19, a, b, x))) (hl : lnk (mtbs f).2.2.2.2 (mtbs f).2.2.1 (mtbs f).2.1.name (19, a, b, x) = true) (hs : oks (inf f).1 (19, a, b, x) = true) (h0 : act (19, a, b, x) ls st (L, c) = some (.inl (ls', st', M'))) (hL : M'.1.length ≤ 1000000) (hRc : M'.1.length - n0 ≤ R.cells) (hRs : slz M'.1 - z0 ≤ R.slots) (hk : WS p l e R s m args below meth c0 Q f A D cA X n xs ad0 n0 z0 (npc pc (19, a, b, x)) ls' st' M'.1 M'.2) : WS p l e R s m args below meth c0 Q f A D cA X n xs ad0 n0 z0 pc ls st L c := by
  intro ad H locs lsM S
  obtain ⟨hx, hb, hml, hown, hts, hK, hST, hA, hr, hlk, hnm⟩ := C
  have h9 := pR_inv h0
  clear h0
  obtain ⟨r, t, rfl, h⟩ := h9
  have h9 := pD_inv h
  clear h
  obtain ⟨k, sh, hk0, rfl, h⟩ := h9
  have h9 := bif_inv h
  clear h
  obtain ⟨h1, h⟩ := h9
  have h1 : sh.1 = 10 + a := beq_of h1
  have h : (some (.inl (ls, vL (c k (Int.ofNat b)) :: t, (L, c))) : Act) = some (.inl (ls', st', M')) := h
  cases h
  have hl : (Nat.beq ((ftb a).getD b 9) 1 && (lkF (mtbs f).2.2.2.2).any (fun q => Nat.beq q.1 x.toNat && (Nat.beq q.2.1 a && Nat.beq q.2.2.1 b))) = true := hl
  rw [Bool.and_eq_true] at hl
  have hty : (ftb a).getD b 9 = 1 := beq_of hl.1
  have hco := S.2.2.2.1 k sh hk0
  have ha12 : a ≤ 12 := by have := (hco.2.2.2.2 (by omega)).2.1; omega
  obtain ⟨q, ty, hC⟩ := cls_all a ha12
  have hb3 : b < q.2.2 := hC.fin (by rw [hty]; decide)
  have hcf := cok_f (k := b) hco (by omega)
  rw [h1, Nat.add_sub_cancel_left] at hcf
  have he := wsl_at (ad := ad) (X := X) (cA := cA) (c := c) hk0
  rw [ent_5 (by omega), h1, Nat.add_sub_cancel_left] at he
  have hw := hts _ (lkF_word hl.2)
  rw [hC.nam] at hw
  refine va_get (D := D) (ci := a) (fs := flds ad X a (c k) sh.2.2) (v := .long (Int64.ofInt (c k (Int.ofNat b)))) hx hb hts hC.2.2.1 hown hK S.1 k he hC.1 b hb3 hw (fun _ h9 => h9) ?_ hd (hk ad H locs lsM (S.stk (vok_cons (vokL (hcf.2.1 hty)) (vok_tl S.stv))))
  rw [flds_at (by rw [← hC.2.2.2.2.2.1]; exact hb3), hty]
  rfl
theorem g_20 (C : CX p s m args meth c0 f A D cA X n xs) (hRf : 1 ≤ R.frames) (hRl : 100 ≤ R.locals) (hd : decode (mtbs f).1 pc = .ok (raw pc (20, a, b, x))) (hl : lnk (mtbs f).2.2.2.2 (mtbs f).2.2.1 (mtbs f).2.1.name (20, a, b, x) = true) (hs : oks (inf f).1 (20, a, b, x) = true) (h0 : act (20, a, b, x) ls st (L, c) = some (.inl (ls', st', M'))) (hL : M'.1.length ≤ 1000000) (hRc : M'.1.length - n0 ≤ R.cells) (hRs : slz M'.1 - z0 ≤ R.slots) (hk : WS p l e R s m args below meth c0 Q f A D cA X n xs ad0 n0 z0 (npc pc (20, a, b, x)) ls' st' M'.1 M'.2) : WS p l e R s m args below meth c0 Q f A D cA X n xs ad0 n0 z0 pc ls st L c := by
  intro ad H locs lsM S
  obtain ⟨hx, hb, hml, hown, hts, hK, hST, hA, hr, hlk, hnm⟩ := C
  have h9 := pR_inv h0
  clear h0
  obtain ⟨r, t, rfl, h⟩ := h9
  have h9 := pD_inv h
  clear h
  obtain ⟨k, sh, hk0, rfl, h⟩ := h9
  have h9 := bif_inv h
  clear h
  obtain ⟨h1, h⟩ := h9
  have h1 : sh.1 = 10 + a := beq_of h1
  have h : (some (.inl (ls, vI (c k (Int.ofNat b)) :: t, (L, c))) : Act) = some (.inl (ls', st', M')) := h
  cases h
  have hl : (Nat.beq ((ftb a).getD b 9) 2 && (lkF (mtbs f).2.2.2.2).any (fun q => Nat.beq q.1 x.toNat && (Nat.beq q.2.1 a && Nat.beq q.2.2.1 b))) = true := hl
  rw [Bool.and_eq_true] at hl
  have hty : (ftb a).getD b 9 = 2 := beq_of hl.1
  have hco := S.2.2.2.1 k sh hk0
  have ha12 : a ≤ 12 := by have := (hco.2.2.2.2 (by omega)).2.1; omega
  obtain ⟨q, ty, hC⟩ := cls_all a ha12
  have hb3 : b < q.2.2 := hC.fin (by rw [hty]; decide)
  have hcf := cok_f (k := b) hco (by omega)
  rw [h1, Nat.add_sub_cancel_left] at hcf
  have he := wsl_at (ad := ad) (X := X) (cA := cA) (c := c) hk0
  rw [ent_5 (by omega), h1, Nat.add_sub_cancel_left] at he
  have hw := hts _ (lkF_word hl.2)
  rw [hC.nam] at hw
  refine va_get (D := D) (ci := a) (fs := flds ad X a (c k) sh.2.2) (v := .int (Int32.ofInt (c k (Int.ofNat b)))) hx hb hts hC.2.2.1 hown hK S.1 k he hC.1 b hb3 hw (fun _ h9 => h9) ?_ hd (hk ad H locs lsM (S.stk (vok_cons (vokI (hcf.2.2 (by rw [hty]; decide))) (vok_tl S.stv))))
  rw [flds_at (by rw [← hC.2.2.2.2.2.1]; exact hb3), hty]
  rfl
theorem g_21 (C : CX p s m args meth c0 f A D cA X n xs) (hRf : 1 ≤ R.frames) (hRl : 100 ≤ R.locals) (hd : decode (mtbs f).1 pc = .ok (raw pc (21, a, b, x))) (hl : lnk (mtbs f).2.2.2.2 (mtbs f).2.2.1 (mtbs f).2.1.name (21, a, b, x) = true) (hs : oks (inf f).1 (21, a, b, x) = true) (h0 : act (21, a, b, x) ls st (L, c) = some (.inl (ls', st', M'))) (hL : M'.1.length ≤ 1000000) (hRc : M'.1.length - n0 ≤ R.cells) (hRs : slz M'.1 - z0 ≤ R.slots) (hk : WS p l e R s m args below meth c0 Q f A D cA X n xs ad0 n0 z0 (npc pc (21, a, b, x)) ls' st' M'.1 M'.2) : WS p l e R s m args below meth c0 Q f A D cA X n xs ad0 n0 z0 pc ls st L c := by
  intro ad H locs lsM S
  obtain ⟨hx, hb, hml, hown, hts, hK, hST, hA, hr, hlk, hnm⟩ := C
  have h9 := pR_inv h0
  clear h0
  obtain ⟨r, t, rfl, h⟩ := h9
  have h9 := pD_inv h
  clear h
  obtain ⟨k, sh, hk0, rfl, h⟩ := h9
  have h9 := bif_inv h
  clear h
  obtain ⟨h1, h⟩ := h9
  have h1 : sh.1 = 10 + a := beq_of h1
  have h : (some (.inl (ls, vR (sh.2.2.getD b 0) :: t, (L, c))) : Act) = some (.inl (ls', st', M')) := h
  cases h
  have hl : (Nat.beq ((ftb a).getD b 9) 3 && (lkF (mtbs f).2.2.2.2).any (fun q => Nat.beq q.1 x.toNat && (Nat.beq q.2.1 a && Nat.beq q.2.2.1 b))) = true := hl
  rw [Bool.and_eq_true] at hl
  have hty : (ftb a).getD b 9 = 3 := beq_of hl.1
  have hco := S.2.2.2.1 k sh hk0
  have ha12 : a ≤ 12 := by have := (hco.2.2.2.2 (by omega)).2.1; omega
  obtain ⟨q, ty, hC⟩ := cls_all a ha12
  have hb3 : b < q.2.2 := hC.fin (by rw [hty]; decide)
  have hcf := cok_f (k := b) hco (by omega)
  rw [h1, Nat.add_sub_cancel_left] at hcf
  have he := wsl_at (ad := ad) (X := X) (cA := cA) (c := c) hk0
  rw [ent_5 (by omega), h1, Nat.add_sub_cancel_left] at he
  have hw := hts _ (lkF_word hl.2)
  rw [hC.nam] at hw
  refine va_get (D := D) (ci := a) (fs := flds ad X a (c k) sh.2.2) (v := va_rf (rof ad X (sh.2.2.getD b 0))) hx hb hts hC.2.2.1 hown hK S.1 k he hC.1 b hb3 hw (fun _ h9 => h9) ?_ hd (hk ad H locs lsM (S.stk (vok_cons (getD_le hcf.1) (vok_tl S.stv))))
  rw [flds_at (by rw [← hC.2.2.2.2.2.1]; exact hb3), hty]
  rfl
theorem g_22 (C : CX p s m args meth c0 f A D cA X n xs) (hRf : 1 ≤ R.frames) (hRl : 100 ≤ R.locals) (hd : decode (mtbs f).1 pc = .ok (raw pc (22, a, b, x))) (hl : lnk (mtbs f).2.2.2.2 (mtbs f).2.2.1 (mtbs f).2.1.name (22, a, b, x) = true) (hs : oks (inf f).1 (22, a, b, x) = true) (h0 : act (22, a, b, x) ls st (L, c) = some (.inl (ls', st', M'))) (hL : M'.1.length ≤ 1000000) (hRc : M'.1.length - n0 ≤ R.cells) (hRs : slz M'.1 - z0 ≤ R.slots) (hk : WS p l e R s m args below meth c0 Q f A D cA X n xs ad0 n0 z0 (npc pc (22, a, b, x)) ls' st' M'.1 M'.2) : WS p l e R s m args below meth c0 Q f A D cA X n xs ad0 n0 z0 pc ls st L c := by
  intro ad H locs lsM S
  obtain ⟨hx, hb, hml, hown, hts, hK, hST, hA, hr, hlk, hnm⟩ := C
  have h9 := pI_inv h0
  clear h0
  obtain ⟨y, t, rfl, h⟩ := h9
  have h9 := pR_inv h
  clear h
  obtain ⟨r, t, rfl, h⟩ := h9
  have h9 := pD_inv h
  clear h
  obtain ⟨k, sh, hk0, rfl, h⟩ := h9
  have h9 := bif_inv h
  clear h
  obtain ⟨h1, h⟩ := h9
  have h1 : sh.1 = 10 + a := beq_of h1
  have h : (some (.inl (ls, t, (L, up c k (Int.ofNat b) y))) : Act) = some (.inl (ls', st', M')) := h
  cases h
  have hl : (Nat.beq ((ftb a).getD b 9) 0 && (lkF (mtbs f).2.2.2.2).any (fun q => Nat.beq q.1 x.toNat && (Nat.beq q.2.1 a && Nat.beq q.2.2.1 b))) = true := hl
  rw [Bool.and_eq_true] at hl
  have hty : (ftb a).getD b 9 = 0 := beq_of hl.1
  have hco := S.2.2.2.1 k sh hk0
  have ha12 : a ≤ 12 := by have := (hco.2.2.2.2 (by omega)).2.1; omega
  obtain ⟨q, ty, hC⟩ := cls_all a ha12
  have hb3 : b < q.2.2 := hC.fin (by rw [hty]; decide)
  have hb4 : b < (ftb a).length := by rw [← hC.2.2.2.2.2.1]; exact hb3
  have he := wsl_at (ad := ad) (X := X) (cA := cA) (c := c) hk0
  rw [ent_5 (by omega), h1, Nat.add_sub_cancel_left] at he
  have hw := hts _ (lkF_word hl.2)
  rw [hC.nam] at hw
  have hyo : In32 y := vok_hd S.stv
  obtain ⟨hk1, hk2⟩ := hC.2.2.2.2.2.2 b hb3
  rw [hty] at hk1
  obtain ⟨hty2, hfin⟩ := tyk_inv0 hk1
  have hfl : (flds ad X a (c k) sh.2.2).length = (ftb a).length := by simp [flds]
  refine va_put (D := D) (ci := a) (fs := flds ad X a (c k) sh.2.2) (v := .int (Int32.ofInt y)) (ty := ty b) hx hb hts hC.2.2.1 ty hC.2.2.2.1 hC.2.2.2.2.1 hown hK S.1 S.2.1 S.2.2.1 k he hC.1 b hb3 hw (fun _ h9 => h9) hfin (hC.2.2.2.1 b hb3) (by rw [hty2]; rfl) (by rw [hty2]; rfl) (by rw [hfl]; exact hb4) hd (fun H1 locs1 hP1 hD1 hS1 => hk ad H1 locs1 lsM (S.upd hL hk0 (fun a2 h2 => up_nes h2) (cok_fld hco h1 hty hyo) ?_ hP1 hD1 hS1 (vok_tl (vok_tl S.stv))))
  rw [ent_5 (by omega), h1, Nat.add_sub_cancel_left]
  rw [flds_set (g' := up c k (Int.ofNat b) y k) hb4 (by rw [hty, up_self, if_pos rfl]; rfl) (fun j hj => by rw [up_self, if_neg (by intro q; exact hj (Int.ofNat.inj q))])]
theorem g_23 (C : CX p s m args meth c0 f A D cA X n xs) (hRf : 1 ≤ R.frames) (hRl : 100 ≤ R.locals) (hd : decode (mtbs f).1 pc = .ok (raw pc (23, a, b, x))) (hl : lnk (mtbs f).2.2.2.2 (mtbs f).2.2.1 (mtbs f).2.1.name (23, a, b, x) = true) (hs : oks (inf f).1 (23, a, b, x) = true) (h0 : act (23, a, b, x) ls st (L, c) = some (.inl (ls', st', M'))) (hL : M'.1.length ≤ 1000000) (hRc : M'.1.length - n0 ≤ R.cells) (hRs : slz M'.1 - z0 ≤ R.slots) (hk : WS p l e R s m args below meth c0 Q f A D cA X n xs ad0 n0 z0 (npc pc (23, a, b, x)) ls' st' M'.1 M'.2) : WS p l e R s m args below meth c0 Q f A D cA X n xs ad0 n0 z0 pc ls st L c := by
  intro ad H locs lsM S
  obtain ⟨hx, hb, hml, hown, hts, hK, hST, hA, hr, hlk, hnm⟩ := C
  have h9 := pL_inv h0
  clear h0
  obtain ⟨y, t, rfl, h⟩ := h9
  have h9 := pR_inv h
  clear h
  obtain ⟨r, t, rfl, h⟩ := h9
  have h9 := pD_inv h
  clear h
  obtain ⟨k, sh, hk0, rfl, h⟩ := h9
  have h9 := bif_inv h
  clear h
  obtain ⟨h1, h⟩ := h9
  have h1 : sh.1 = 10 + a := beq_of h1
  have h : (some (.inl (ls, t, (L, up c k (Int.ofNat b) y))) : Act) = some (.inl (ls', st', M')) := h
  cases h
  have hl : (Nat.beq ((ftb a).getD b 9) 1 && (lkF (mtbs f).2.2.2.2).any (fun q => Nat.beq q.1 x.toNat && (Nat.beq q.2.1 a && Nat.beq q.2.2.1 b))) = true := hl
  rw [Bool.and_eq_true] at hl
  have hty : (ftb a).getD b 9 = 1 := beq_of hl.1
  have hco := S.2.2.2.1 k sh hk0
  have ha12 : a ≤ 12 := by have := (hco.2.2.2.2 (by omega)).2.1; omega
  obtain ⟨q, ty, hC⟩ := cls_all a ha12
  have hb3 : b < q.2.2 := hC.fin (by rw [hty]; decide)
  have hb4 : b < (ftb a).length := by rw [← hC.2.2.2.2.2.1]; exact hb3
  have he := wsl_at (ad := ad) (X := X) (cA := cA) (c := c) hk0
  rw [ent_5 (by omega), h1, Nat.add_sub_cancel_left] at he
  have hw := hts _ (lkF_word hl.2)
  rw [hC.nam] at hw
  have hyo : In64 y := vok_hd S.stv
  obtain ⟨hk1, hk2⟩ := hC.2.2.2.2.2.2 b hb3
  rw [hty] at hk1
  obtain ⟨hty2, hfin⟩ := tyk_inv1 hk1
  have hfl : (flds ad X a (c k) sh.2.2).length = (ftb a).length := by simp [flds]
  refine va_put (D := D) (ci := a) (fs := flds ad X a (c k) sh.2.2) (v := .long (Int64.ofInt y)) (ty := ty b) hx hb hts hC.2.2.1 ty hC.2.2.2.1 hC.2.2.2.2.1 hown hK S.1 S.2.1 S.2.2.1 k he hC.1 b hb3 hw (fun _ h9 => h9) hfin (hC.2.2.2.1 b hb3) (by rw [hty2]; rfl) (by rw [hty2]; rfl) (by rw [hfl]; exact hb4) hd (fun H1 locs1 hP1 hD1 hS1 => hk ad H1 locs1 lsM (S.upd hL hk0 (fun a2 h2 => up_nes h2) (cok_fld hco h1 hty hyo) ?_ hP1 hD1 hS1 (vok_tl (vok_tl S.stv))))
  rw [ent_5 (by omega), h1, Nat.add_sub_cancel_left]
  rw [flds_set (g' := up c k (Int.ofNat b) y k) hb4 (by rw [hty, up_self, if_pos rfl]; rfl) (fun j hj => by rw [up_self, if_neg (by intro q; exact hj (Int.ofNat.inj q))])]
theorem g_24 (C : CX p s m args meth c0 f A D cA X n xs) (hRf : 1 ≤ R.frames) (hRl : 100 ≤ R.locals) (hd : decode (mtbs f).1 pc = .ok (raw pc (24, a, b, x))) (hl : lnk (mtbs f).2.2.2.2 (mtbs f).2.2.1 (mtbs f).2.1.name (24, a, b, x) = true) (hs : oks (inf f).1 (24, a, b, x) = true) (h0 : act (24, a, b, x) ls st (L, c) = some (.inl (ls', st', M'))) (hL : M'.1.length ≤ 1000000) (hRc : M'.1.length - n0 ≤ R.cells) (hRs : slz M'.1 - z0 ≤ R.slots) (hk : WS p l e R s m args below meth c0 Q f A D cA X n xs ad0 n0 z0 (npc pc (24, a, b, x)) ls' st' M'.1 M'.2) : WS p l e R s m args below meth c0 Q f A D cA X n xs ad0 n0 z0 pc ls st L c := by
  intro ad H locs lsM S
  obtain ⟨hx, hb, hml, hown, hts, hK, hST, hA, hr, hlk, hnm⟩ := C
  have h9 := pI_inv h0
  clear h0
  obtain ⟨y, t, rfl, h⟩ := h9
  have h9 := pR_inv h
  clear h
  obtain ⟨r, t, rfl, h⟩ := h9
  have h9 := pD_inv h
  clear h
  obtain ⟨k, sh, hk0, rfl, h⟩ := h9
  have h9 := bif_inv h
  clear h
  obtain ⟨h1, h⟩ := h9
  have h1 : sh.1 = 10 + a := beq_of h1
  have h9 := if_inv h
  clear h
  obtain ⟨hy01, h⟩ := h9
  have h : (some (.inl (ls, t, (L, up c k (Int.ofNat b) y))) : Act) = some (.inl (ls', st', M')) := h
  cases h
  have hl : (Nat.beq ((ftb a).getD b 9) 2 && (lkF (mtbs f).2.2.2.2).any (fun q => Nat.beq q.1 x.toNat && (Nat.beq q.2.1 a && Nat.beq q.2.2.1 b))) = true := hl
  rw [Bool.and_eq_true] at hl
  have hty : (ftb a).getD b 9 = 2 := beq_of hl.1
  have hco := S.2.2.2.1 k sh hk0
  have ha12 : a ≤ 12 := by have := (hco.2.2.2.2 (by omega)).2.1; omega
  obtain ⟨q, ty, hC⟩ := cls_all a ha12
  have hb3 : b < q.2.2 := hC.fin (by rw [hty]; decide)
  have hb4 : b < (ftb a).length := by rw [← hC.2.2.2.2.2.1]; exact hb3
  have he := wsl_at (ad := ad) (X := X) (cA := cA) (c := c) hk0
  rw [ent_5 (by omega), h1, Nat.add_sub_cancel_left] at he
  have hw := hts _ (lkF_word hl.2)
  rw [hC.nam] at hw
  have hyo : In32 y := vok_hd S.stv
  obtain ⟨hk1, hk2⟩ := hC.2.2.2.2.2.2 b hb3
  rw [hty] at hk1
  obtain ⟨hty2, hfin⟩ := tyk_inv2 hk1
  have hfl : (flds ad X a (c k) sh.2.2).length = (ftb a).length := by simp [flds]
  refine va_put (D := D) (ci := a) (fs := flds ad X a (c k) sh.2.2) (v := .int (Int32.ofInt y)) (ty := ty b) hx hb hts hC.2.2.1 ty hC.2.2.2.1 hC.2.2.2.2.1 hown hK S.1 S.2.1 S.2.2.1 k he hC.1 b hb3 hw (fun _ h9 => h9) hfin (hC.2.2.2.1 b hb3) (by rw [hty2]; rcases hy01 with q | q <;> subst q <;> rfl) (by rw [hty2]; rcases hy01 with q | q <;> subst q <;> rfl) (by rw [hfl]; exact hb4) hd (fun H1 locs1 hP1 hD1 hS1 => hk ad H1 locs1 lsM (S.upd hL hk0 (fun a2 h2 => up_nes h2) (cok_fld hco h1 hty hyo) ?_ hP1 hD1 hS1 (vok_tl (vok_tl S.stv))))
  rw [ent_5 (by omega), h1, Nat.add_sub_cancel_left]
  rw [flds_set (g' := up c k (Int.ofNat b) y k) hb4 (by rw [hty, up_self, if_pos rfl]; rfl) (fun j hj => by rw [up_self, if_neg (by intro q; exact hj (Int.ofNat.inj q))])]
end OPS

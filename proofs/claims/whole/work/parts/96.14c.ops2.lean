/-! SOUNDNESS, 3: fields, arrays, text, what is made (own work): 14c.ops2 -/
section OPS
variable {p : Program} {l : Launch} {e : Env} {R : Room} {s : State} {m : MethodId} {args : Array Value} {below : List Frame} {meth : Method} {c0 : Code} {Q : State → Prop} {f : Nat} {A : Nat → Prop} {D : va_G} {cA : Nat → ClassId} {X : AdX} {n : Nat} {xs : Nat → Int32} {ad0 : Nat → Nat} {n0 z0 : Nat}
variable {ls st ls' st' : List V} {L : List Shp} {c : Nat → Int → Int} {M' : Mem} {pc a b : Nat} {x : Int}
theorem g_29 (C : CX p s m args meth c0 f A D cA X n xs) (hRf : 1 ≤ R.frames) (hRl : 100 ≤ R.locals) (hd : decode (mtbs f).1 pc = .ok (raw pc (29, a, b, x))) (hl : lnk (mtbs f).2.2.2.2 (mtbs f).2.2.1 (mtbs f).2.1.name (29, a, b, x) = true) (hs : oks (inf f).1 (29, a, b, x) = true) (h0 : act (29, a, b, x) ls st (L, c) = some (.inl (ls', st', M'))) (hL : M'.1.length ≤ 1000000) (hRc : M'.1.length - n0 ≤ R.cells) (hRs : slz M'.1 - z0 ≤ R.slots) (hk : WS p l e R s m args below meth c0 Q f A D cA X n xs ad0 n0 z0 (npc pc (29, a, b, x)) ls' st' M'.1 M'.2) : WS p l e R s m args below meth c0 Q f A D cA X n xs ad0 n0 z0 pc ls st L c := by
  intro ad H locs lsM S
  obtain ⟨hx, hb, hml, hown, hts, hK, hST, hA, hr, hlk, hnm⟩ := C
  have h9 := pI_inv h0
  clear h0
  obtain ⟨j, t, rfl, h⟩ := h9
  have h9 := pR_inv h
  clear h
  obtain ⟨r, t, rfl, h⟩ := h9
  have h9 := if_inv h
  clear h
  obtain ⟨hr1, h⟩ := h9
  subst hr1
  have h9 := if_inv h
  clear h
  obtain ⟨hij, h⟩ := h9
  have h : (some (.inl (ls, vI (c 1000000 j) :: t, (L, c))) : Act) = some (.inl (ls', st', M')) := h
  cases h
  have hj : In32 j := vok_hd S.stv
  have hsc := S.2.2.2.2.1
  have hij : 0 ≤ j ∧ j < c 1000001 0 := hij
  rw [hsc.1] at hij
  have hcl : (Int32.ofInt j).toNatClampNeg = j.toNat := o32_clamp hj
  have hval : c 1000000 j = (xs j.toNat).toInt := by
    have := hsc.2 j.toNat (by omega)
    rw [Int.toNat_of_nonneg hij.1] at this
    exact this
  have hin : vp_in (Int32.ofInt j) n := by
    have := o32_in hj hij.1 hij.2
    simpa using this
  refine va_sld hx hb hST.2.2.2.2.1 hST.2.2.2.2.2.1 hST.2.2.2.2.2.2.1 S.2.2.1 hin hd (W_top (v := .int (Int32.ofInt (c 1000000 j))) ?_ (hk ad H locs lsM (S.stk (vok_cons (vokI (by rw [hval]; exact in32_i _)) (vok_tl (vok_tl S.stv))))))
  rw [hval, Int32.ofInt_toInt, hcl]
theorem g_30 (C : CX p s m args meth c0 f A D cA X n xs) (hRf : 1 ≤ R.frames) (hRl : 100 ≤ R.locals) (hd : decode (mtbs f).1 pc = .ok (raw pc (30, a, b, x))) (hl : lnk (mtbs f).2.2.2.2 (mtbs f).2.2.1 (mtbs f).2.1.name (30, a, b, x) = true) (hs : oks (inf f).1 (30, a, b, x) = true) (h0 : act (30, a, b, x) ls st (L, c) = some (.inl (ls', st', M'))) (hL : M'.1.length ≤ 1000000) (hRc : M'.1.length - n0 ≤ R.cells) (hRs : slz M'.1 - z0 ≤ R.slots) (hk : WS p l e R s m args below meth c0 Q f A D cA X n xs ad0 n0 z0 (npc pc (30, a, b, x)) ls' st' M'.1 M'.2) : WS p l e R s m args below meth c0 Q f A D cA X n xs ad0 n0 z0 pc ls st L c := by
  intro ad H locs lsM S
  obtain ⟨hx, hb, hml, hown, hts, hK, hST, hA, hr, hlk, hnm⟩ := C
  have h9 := pR_inv h0
  clear h0
  obtain ⟨r, t, rfl, h⟩ := h9
  have h9 := if_inv h
  clear h
  obtain ⟨hr1, h⟩ := h9
  subst hr1
  have h : (some (.inl (ls, vI (c 1000001 0) :: t, (L, c))) : Act) = some (.inl (ls', st', M')) := h
  cases h
  have hsc := S.2.2.2.2.1
  have hn := hST.2.2.2.2.2.2.2.1
  refine va_slen hx hb hST.2.2.2.2.1 hST.2.2.2.2.2.1 hST.2.2.2.2.2.2.1 S.2.2.1 hd (W_top (v := .int (Int32.ofInt (c 1000001 0))) ?_ (hk ad H locs lsM (S.stk (vok_cons (vokI (by rw [hsc.1]; exact ⟨by omega, by omega⟩)) (vok_tl S.stv)))))
  rw [hsc.1, o32_nat]
  try rfl
theorem g_31 (C : CX p s m args meth c0 f A D cA X n xs) (hRf : 1 ≤ R.frames) (hRl : 100 ≤ R.locals) (hd : decode (mtbs f).1 pc = .ok (raw pc (31, a, b, x))) (hl : lnk (mtbs f).2.2.2.2 (mtbs f).2.2.1 (mtbs f).2.1.name (31, a, b, x) = true) (hs : oks (inf f).1 (31, a, b, x) = true) (h0 : act (31, a, b, x) ls st (L, c) = some (.inl (ls', st', M'))) (hL : M'.1.length ≤ 1000000) (hRc : M'.1.length - n0 ≤ R.cells) (hRs : slz M'.1 - z0 ≤ R.slots) (hk : WS p l e R s m args below meth c0 Q f A D cA X n xs ad0 n0 z0 (npc pc (31, a, b, x)) ls' st' M'.1 M'.2) : WS p l e R s m args below meth c0 Q f A D cA X n xs ad0 n0 z0 pc ls st L c := by
  intro ad H locs lsM S
  obtain ⟨hx, hb, hml, hown, hts, hK, hST, hA, hr, hlk, hnm⟩ := C
  have h9 := pR_inv h0
  clear h0
  obtain ⟨r, t, rfl, h⟩ := h9
  have h9 := el_inv h
  clear h
  obtain ⟨g, hg, h⟩ := h9
  have h : (some (.inl (ls, vR (r - 100) :: t, (L, c))) : Act) = some (.inl (ls', st', M')) := h
  cases h
  obtain ⟨rfl, hg12⟩ := strOf_inv hg
  have hw := hts _ (lkV_word hl)
  rw [W_stk_str hg12]
  refine vk_getf (q := X.1 g) hx hb (hST.1.1 g hg12).2.2.1 S.2.2.1 hown hw (fun _ h9 => h9) hd ?_
  have K := hk ad H locs lsM (S.stk (vok_cons (show (-100 - (g : Int) - 100) ≤ (L.length : Int) by omega) (vok_tl S.stv)))
  exact W_top (mv_byt hg12) K
theorem g_32 (C : CX p s m args meth c0 f A D cA X n xs) (hRf : 1 ≤ R.frames) (hRl : 100 ≤ R.locals) (hd : decode (mtbs f).1 pc = .ok (raw pc (32, a, b, x))) (hl : lnk (mtbs f).2.2.2.2 (mtbs f).2.2.1 (mtbs f).2.1.name (32, a, b, x) = true) (hs : oks (inf f).1 (32, a, b, x) = true) (h0 : act (32, a, b, x) ls st (L, c) = some (.inl (ls', st', M'))) (hL : M'.1.length ≤ 1000000) (hRc : M'.1.length - n0 ≤ R.cells) (hRs : slz M'.1 - z0 ≤ R.slots) (hk : WS p l e R s m args below meth c0 Q f A D cA X n xs ad0 n0 z0 (npc pc (32, a, b, x)) ls' st' M'.1 M'.2) : WS p l e R s m args below meth c0 Q f A D cA X n xs ad0 n0 z0 pc ls st L c := by
  intro ad H locs lsM S
  obtain ⟨hx, hb, hml, hown, hts, hK, hST, hA, hr, hlk, hnm⟩ := C
  have h9 := pR_inv h0
  clear h0
  obtain ⟨r, t, rfl, h⟩ := h9
  have h9 := el_inv h
  clear h
  obtain ⟨g, hg, h⟩ := h9
  have h : (some (.inl (ls, vI 0 :: t, (L, c))) : Act) = some (.inl (ls', st', M')) := h
  cases h
  obtain ⟨rfl, hg12⟩ := strOf_inv hg
  have hw := hts _ (lkV_word hl)
  rw [W_stk_str hg12]
  refine vk_getf (q := X.1 g) hx hb (hST.1.1 g hg12).2.1 S.2.2.1 hown hw (fun _ h9 => h9) hd ?_
  exact hk ad H locs lsM (S.stk (vok_cons in32_0 (vok_tl S.stv)))
theorem g_33 (C : CX p s m args meth c0 f A D cA X n xs) (hRf : 1 ≤ R.frames) (hRl : 100 ≤ R.locals) (hd : decode (mtbs f).1 pc = .ok (raw pc (33, a, b, x))) (hl : lnk (mtbs f).2.2.2.2 (mtbs f).2.2.1 (mtbs f).2.1.name (33, a, b, x) = true) (hs : oks (inf f).1 (33, a, b, x) = true) (h0 : act (33, a, b, x) ls st (L, c) = some (.inl (ls', st', M'))) (hL : M'.1.length ≤ 1000000) (hRc : M'.1.length - n0 ≤ R.cells) (hRs : slz M'.1 - z0 ≤ R.slots) (hk : WS p l e R s m args below meth c0 Q f A D cA X n xs ad0 n0 z0 (npc pc (33, a, b, x)) ls' st' M'.1 M'.2) : WS p l e R s m args below meth c0 Q f A D cA X n xs ad0 n0 z0 pc ls st L c := by
  intro ad H locs lsM S
  obtain ⟨hx, hb, hml, hown, hts, hK, hST, hA, hr, hlk, hnm⟩ := C
  have h9 := pI_inv h0
  clear h0
  obtain ⟨j, t, rfl, h⟩ := h9
  have h9 := pR_inv h
  clear h
  obtain ⟨r, t, rfl, h⟩ := h9
  have h9 := el_inv h
  clear h
  obtain ⟨g, hg, h⟩ := h9
  have h9 := if_inv h
  clear h
  obtain ⟨hij, h⟩ := h9
  have h : (some (.inl (ls, vI ((strb g).getD j.toNat 0) :: t, (L, c))) : Act) = some (.inl (ls', st', M')) := h
  cases h
  obtain ⟨rfl, hg12⟩ := bytOf_inv hg
  have hj : In32 j := vok_hd S.stv
  have hcl : (Int32.ofInt j).toNatClampNeg = j.toNat := o32_clamp hj
  have hle : lenT.getD g 0 = (strb g).length := lenT_at hg12
  have hin : vp_in (Int32.ofInt j) (lenT.getD g 0) := by
    have := o32_in hj hij.1 hij.2
    rw [hle]
    simpa using this
  rw [W_stk_byt2 hg12]
  refine va_tb hx hb (hST.1.1 g hg12).2.2.2 S.2.2.1 hin rfl hd ?_
  refine W_top (v := .int (Int32.ofInt ((strb g).getD j.toNat 0))) ?_ (hk ad H locs lsM (S.stk (vok_cons (strb_in hg12) (vok_tl (vok_tl S.stv)))))
  rw [hcl, bytT_at hg12]
theorem g_34 (C : CX p s m args meth c0 f A D cA X n xs) (hRf : 1 ≤ R.frames) (hRl : 100 ≤ R.locals) (hd : decode (mtbs f).1 pc = .ok (raw pc (34, a, b, x))) (hl : lnk (mtbs f).2.2.2.2 (mtbs f).2.2.1 (mtbs f).2.1.name (34, a, b, x) = true) (hs : oks (inf f).1 (34, a, b, x) = true) (h0 : act (34, a, b, x) ls st (L, c) = some (.inl (ls', st', M'))) (hL : M'.1.length ≤ 1000000) (hRc : M'.1.length - n0 ≤ R.cells) (hRs : slz M'.1 - z0 ≤ R.slots) (hk : WS p l e R s m args below meth c0 Q f A D cA X n xs ad0 n0 z0 (npc pc (34, a, b, x)) ls' st' M'.1 M'.2) : WS p l e R s m args below meth c0 Q f A D cA X n xs ad0 n0 z0 pc ls st L c := by
  intro ad H locs lsM S
  obtain ⟨hx, hb, hml, hown, hts, hK, hST, hA, hr, hlk, hnm⟩ := C
  have h9 := pR_inv h0
  clear h0
  obtain ⟨r, t, rfl, h⟩ := h9
  have h9 := el_inv h
  clear h
  obtain ⟨g, hg, h⟩ := h9
  have h : (some (.inl (ls, vI ((strb g).length : Int) :: t, (L, c))) : Act) = some (.inl (ls', st', M')) := h
  cases h
  obtain ⟨rfl, hg12⟩ := bytOf_inv hg
  rw [W_stk_byt1 hg12]
  refine va_tlen (v := Int32.ofInt ((strb g).length : Int)) hx hb (hST.1.1 g hg12).2.2.2 S.2.2.1 (by rw [lenT_at hg12, o32_nat]) hd ?_
  exact hk ad H locs lsM (S.stk (vok_cons (strb_len hg12) (vok_tl S.stv)))
theorem g_35 (C : CX p s m args meth c0 f A D cA X n xs) (hRf : 1 ≤ R.frames) (hRl : 100 ≤ R.locals) (hd : decode (mtbs f).1 pc = .ok (raw pc (35, a, b, x))) (hl : lnk (mtbs f).2.2.2.2 (mtbs f).2.2.1 (mtbs f).2.1.name (35, a, b, x) = true) (hs : oks (inf f).1 (35, a, b, x) = true) (h0 : act (35, a, b, x) ls st (L, c) = some (.inl (ls', st', M'))) (hL : M'.1.length ≤ 1000000) (hRc : M'.1.length - n0 ≤ R.cells) (hRs : slz M'.1 - z0 ≤ R.slots) (hk : WS p l e R s m args below meth c0 Q f A D cA X n xs ad0 n0 z0 (npc pc (35, a, b, x)) ls' st' M'.1 M'.2) : WS p l e R s m args below meth c0 Q f A D cA X n xs ad0 n0 z0 pc ls st L c := by
  intro ad H locs lsM S
  obtain ⟨hx, hb, hml, hown, hts, hK, hST, hA, hr, hlk, hnm⟩ := C
  have h : (some (.inl (ls, vI 1 :: st, (L, c))) : Act) = some (.inl (ls', st', M')) := h0
  cases h
  have hw := hts _ (lkG_word hl)
  exact va_gets hx hb hST.2.2.1 S.2.2.1 hown hw (fun _ h9 => h9) hd (hk ad H locs lsM (S.stk (vok_cons (vokI (by unfold In32; omega)) S.stv)))
theorem g_36 (C : CX p s m args meth c0 f A D cA X n xs) (hRf : 1 ≤ R.frames) (hRl : 100 ≤ R.locals) (hd : decode (mtbs f).1 pc = .ok (raw pc (36, a, b, x))) (hl : lnk (mtbs f).2.2.2.2 (mtbs f).2.2.1 (mtbs f).2.1.name (36, a, b, x) = true) (hs : oks (inf f).1 (36, a, b, x) = true) (h0 : act (36, a, b, x) ls st (L, c) = some (.inl (ls', st', M'))) (hL : M'.1.length ≤ 1000000) (hRc : M'.1.length - n0 ≤ R.cells) (hRs : slz M'.1 - z0 ≤ R.slots) (hk : WS p l e R s m args below meth c0 Q f A D cA X n xs ad0 n0 z0 (npc pc (36, a, b, x)) ls' st' M'.1 M'.2) : WS p l e R s m args below meth c0 Q f A D cA X n xs ad0 n0 z0 pc ls st L c := by
  intro ad H locs lsM S
  obtain ⟨hx, hb, hml, hown, hts, hK, hST, hA, hr, hlk, hnm⟩ := C
  have h : (some (.inl (ls, vR ((L.length : Int) + 1) :: st, (L ++ [(10 + a, (b : Int), List.replicate b 0)], uz c L.length))) : Act) = some (.inl (ls', st', M')) := h0
  cases h
  have hl : (Nat.ble a 12 && (Nat.beq b (ftb a).length && lkC.any (fun q => Nat.beq q.1 (mtbs f).2.2.2.2 && (decide ((q.2.1 : Int) = x) && Nat.beq q.2.2.1 a)))) = true := hl
  simp only [Bool.and_eq_true] at hl
  obtain ⟨ha12, hbl, hl⟩ := hl
  have ha12 := Nat.le_of_ble_eq_true ha12
  have hbl : b = (ftb a).length := beq_of hbl
  obtain ⟨q, ty, hC⟩ := cls_all a ha12
  have hw := hts _ (lkC_word hl)
  have e103 : Nat.beq a 103 = false := by
    cases hq : Nat.beq a 103 with
    | false => rfl
    | true => have := beq_of hq; omega
  have e104 : Nat.beq a 104 = false := by
    cases hq : Nat.beq a 104 with
    | false => rfl
    | true => have := beq_of hq; omega
  rw [e103, e104] at hw
  have hw : (Cond.classLink (rnm (mtbs f).2.2.2.2) x.toNat (rnm a)).before args s = true := hw
  rw [← hC.2.1] at hw
  have hii := List.all_eq_true.mp inst_ok a (List.mem_range.mpr (by omega))
  rw [Bool.and_eq_true] at hii
  have hins := hts _ (tbg (of_decide_eq_true hii.1) rfl)
  have hini := hts _ (tbg (of_decide_eq_true hii.2) rfl)
  rw [← hC.2.1] at hins hini
  rw [← hC.2.2.2.2.2.1] at hins
  have hbq : b = q.2.2 := hbl.trans hC.2.2.2.2.2.1.symm
  have e1 : (L ++ [(10 + a, (b : Int), List.replicate b 0)]).length = L.length + 1 := by simp
  have e2 : slz (L ++ [(10 + a, (b : Int), List.replicate b 0)]) = slz L + b := by rw [slz_app] <;> rfl
  have b1 : n0 ≤ L.length := S.2.2.2.2.2.1.1
  have b2 : z0 ≤ slz L := S.2.2.2.2.2.1.2.1
  have f1 : (L ++ [(10 + a, (b : Int), List.replicate b 0)]).length - n0 = L.length - n0 + 1 := by omega
  have f2 : slz (L ++ [(10 + a, (b : Int), List.replicate b 0)]) - z0 = slz L - z0 + b := by omega
  have hRc : (L ++ [(10 + a, (b : Int), List.replicate b 0)]).length - n0 ≤ R.cells := hRc
  have hRs : slz (L ++ [(10 + a, (b : Int), List.replicate b 0)]) - z0 ≤ R.slots := hRs
  have hL : (L ++ [(10 + a, (b : Int), List.replicate b 0)]).length ≤ 1000000 := hL
  refine va_new (ci := a) (C := q.1) (T := q.2.1) (N := q.2.2) (fs := flds (adp ad L.length 0) X a (uz c L.length L.length) (List.replicate b 0)) hx hb hts hC.2.2.1 ty hC.2.2.2.1 hown hw hins hini hK S.1 S.2.1 S.2.2.1 hA hC.1 ?_ (by omega) (by omega) hd (fun q1 H1 hP1 hD1 hS1 => ?_)
  · intro j hj
    obtain ⟨hk1, -⟩ := hC.2.2.2.2.2.2 j hj
    have hjl : j < (ftb a).length := by rw [← hC.2.2.2.2.2.1]; exact hj
    unfold vp_V
    rw [List.getD_eq_getElem?_getD, flds_at hjl]
    exact tyk_zero hk1 uz_self (getD_zero b j)
  · have eflds : flds (adp ad L.length 0) X a (uz c L.length L.length) (List.replicate b 0) = flds (adp ad L.length q1) X a (uz c L.length L.length) (List.replicate b 0) := by
      unfold flds
      refine List.map_congr_left fun k hk => ?_
      rw [getD_zero]
      unfold fvl
      split <;> rfl
    rw [eflds] at hP1 hD1
    have epush := wsl_push (ad := ad) (X := X) (cA := cA) (q := q1) (c' := uz c L.length) (s' := (10 + a, (b : Int), List.replicate b 0)) S.2.2.2.1 (fun j hj => uz_nes hj)
    rw [ent_5 (by show 5 ≤ 10 + a; omega)] at epush
    have epush : wsl ad X cA L c ++ [(q1, .inr (10 + a - 10, flds (adp ad L.length q1) X (10 + a - 10) (uz c L.length L.length) (List.replicate b 0)))] = _ := epush
    rw [Nat.add_sub_cancel_left] at epush
    rw [epush] at hP1 hD1
    have S2 := S.push (q := q1) (c' := uz c L.length) (hP1 := hP1) (hD1 := hD1) (hS1 := hS1) (fun j hj => uz_nes hj) (cok_new hC hbl) (by omega)
    have K := hk (adp ad L.length q1) H1 locs lsM S2
    rw [f1, f2, hbq] at K
    have est : (vR ((L.length : Int) + 1) :: st).map (mv (adp ad L.length q1) X) = .ref q1 :: st.map (mv ad X) := by
      rw [List.map_cons]
      congr 1
      · show Value.ref (adp ad L.length q1 L.length) = .ref q1
        rw [adp_eq]
      · exact List.map_congr_left fun v hv => mv_keep (fun k hk => adp_lt hk) (S.stv v hv)
    rw [est] at K
    exact K
end OPS

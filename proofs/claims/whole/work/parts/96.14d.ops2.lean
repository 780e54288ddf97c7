/-! SOUNDNESS, 3: fields, arrays, text, what is made (own work): 14d.ops2 -/
section OPS
variable {p : Program} {l : Launch} {e : Env} {R : Room} {s : State} {m : MethodId} {args : Array Value} {below : List Frame} {meth : Method} {c0 : Code} {Q : State → Prop} {f : Nat} {A : Nat → Prop} {D : va_G} {cA : Nat → ClassId} {X : AdX} {n : Nat} {xs : Nat → Int32} {ad0 : Nat → Nat} {n0 z0 : Nat}
variable {ls st ls' st' : List V} {L : List Shp} {c : Nat → Int → Int} {M' : Mem} {pc a b : Nat} {x : Int}
theorem g_37 (C : CX p s m args meth c0 f A D cA X n xs) (hRf : 1 ≤ R.frames) (hRl : 100 ≤ R.locals) (hd : decode (mtbs f).1 pc = .ok (raw pc (37, a, b, x))) (hl : lnk (mtbs f).2.2.2.2 (mtbs f).2.2.1 (mtbs f).2.1.name (37, a, b, x) = true) (hs : oks (inf f).1 (37, a, b, x) = true) (h0 : act (37, a, b, x) ls st (L, c) = some (.inl (ls', st', M'))) (hL : M'.1.length ≤ 1000000) (hRc : M'.1.length - n0 ≤ R.cells) (hRs : slz M'.1 - z0 ≤ R.slots) (hk : WS p l e R s m args below meth c0 Q f A D cA X n xs ad0 n0 z0 (npc pc (37, a, b, x)) ls' st' M'.1 M'.2) : WS p l e R s m args below meth c0 Q f A D cA X n xs ad0 n0 z0 pc ls st L c := by
  intro ad H locs lsM S
  obtain ⟨hx, hb, hml, hown, hts, hK, hST, hA, hr, hlk, hnm⟩ := C
  have h9 := pI_inv h0
  clear h0
  obtain ⟨z, t, rfl, h⟩ := h9
  have h9 := if_inv h
  clear h
  obtain ⟨hz9, h⟩ := h9
  have h : (some (.inl (ls, vR ((L.length : Int) + 1) :: t, (L ++ [(a, z, [])], uz c L.length))) : Act) = some (.inl (ls', st', M')) := h
  cases h
  have hz : In32 z := vok_hd S.stv
  have hcl : (Int32.ofInt z).toNatClampNeg = z.toNat := o32_clamp hz
  have hneg : ¬ Int32.ofInt z < 0 := fun q => by
    rw [← o32_0, o32_lt hz in32_0] at q
    omega
  have e1 : (L ++ [(a, z, [])]).length = L.length + 1 := by simp
  have e2 : slz (L ++ [(a, z, [])]) = slz L + z.toNat := by rw [slz_app] <;> rfl
  have b1 : n0 ≤ L.length := S.2.2.2.2.2.1.1
  have b2 : z0 ≤ slz L := S.2.2.2.2.2.1.2.1
  have f1 : (L ++ [(a, z, [])]).length - n0 = L.length - n0 + 1 := by omega
  have f2 : slz (L ++ [(a, z, [])]) - z0 = slz L - z0 + z.toNat := by omega
  have hRc : (L ++ [(a, z, [])]).length - n0 ≤ R.cells := hRc
  have hRs : slz (L ++ [(a, z, [])]) - z0 ≤ R.slots := hRs
  have hL : (L ++ [(a, z, [])]).length ≤ 1000000 := hL
  have est : ∀ q1, (vR ((L.length : Int) + 1) :: t).map (mv (adp ad L.length q1) X) = .ref q1 :: t.map (mv ad X) := fun q1 => by
    rw [List.map_cons]
    congr 1
    · show Value.ref (adp ad L.length q1 L.length) = .ref q1
      rw [adp_eq]
    · exact List.map_congr_left fun v hv => mv_keep (fun k hk => adp_lt hk) (vok_tl S.stv v hv)
  rcases a with _ | _ | _ | a
  · have hac := hts _ acI
    refine va_newa (atype := .int) (ty := .int) (a0 := (z.toNat, .inl (fun _ => Int32.ofInt 0))) hx hb hac rfl hK S.1 S.2.1 S.2.2.1 hA (fun _ => rfl) hneg hcl (by show z.toNat * 4 ≤ _; omega) (by omega) (by omega) hd (fun q1 cA2 H1 hK1 hP1 hD1 hS1 => ?_)
    have hcA : cA2 = cA 0 := by
      have h1 := (hK1.2 5 (cA2, .int) rfl).2
      have h2 := (hK.2 0 (cA 0, .int) rfl).2
      exact Option.some.inj (h1.symm.trans h2)
    subst hcA
    have epush := wsl_push (ad := ad) (X := X) (cA := cA) (q := q1) (c' := uz c L.length) (s' := (0, z, [])) S.2.2.2.1 (fun j hj => uz_nes hj)
    have eent : ent (adp ad L.length q1) X cA (0, z, []) (uz c L.length L.length) = .inl (cA 0, (z.toNat, .inl (fun _ => Int32.ofInt 0))) := by
      unfold ent
      simp only [uz_self] <;> rfl
    rw [eent] at epush
    rw [epush] at hP1 hD1
    have S2 := S.push (q := q1) (c' := uz c L.length) (hP1 := hP1) (hD1 := hD1) (hS1 := hS1) (fun j hj => uz_nes hj) (cok_newa (by decide) hz9) (by omega)
    have K := hk (adp ad L.length q1) H1 locs lsM (S2.stk (vok_cons (vok_hd S2.stv) (vok_tl (vok_tl S2.stv))))
    rw [f1, f2] at K
    rw [est q1] at K
    exact K
  · have hac := hts _ acJ
    refine va_newa (atype := .long) (ty := .long) (a0 := (z.toNat, .inr (.inl (fun _ => Int64.ofInt 0)))) hx hb hac rfl hK S.1 S.2.1 S.2.2.1 hA (fun _ => rfl) hneg hcl (by show z.toNat * 8 ≤ _; omega) (by omega) (by omega) hd (fun q1 cA2 H1 hK1 hP1 hD1 hS1 => ?_)
    have hcA : cA2 = cA 1 := by
      have h1 := (hK1.2 5 (cA2, .long) rfl).2
      have h2 := (hK.2 1 (cA 1, .long) rfl).2
      exact Option.some.inj (h1.symm.trans h2)
    subst hcA
    have epush := wsl_push (ad := ad) (X := X) (cA := cA) (q := q1) (c' := uz c L.length) (s' := (1, z, [])) S.2.2.2.1 (fun j hj => uz_nes hj)
    have eent : ent (adp ad L.length q1) X cA (1, z, []) (uz c L.length L.length) = .inl (cA 1, (z.toNat, .inr (.inl (fun _ => Int64.ofInt 0)))) := by
      unfold ent
      simp only [uz_self] <;> rfl
    rw [eent] at epush
    rw [epush] at hP1 hD1
    have S2 := S.push (q := q1) (c' := uz c L.length) (hP1 := hP1) (hD1 := hD1) (hS1 := hS1) (fun j hj => uz_nes hj) (cok_newa (by decide) hz9) (by omega)
    have K := hk (adp ad L.length q1) H1 locs lsM (S2.stk (vok_cons (vok_hd S2.stv) (vok_tl (vok_tl S2.stv))))
    rw [f1, f2] at K
    rw [est q1] at K
    exact K
  · have hac := hts _ acZ
    refine va_newa (atype := .boolean) (ty := .boolean) (a0 := (z.toNat, .inl (fun _ => Int32.ofInt 0))) hx hb hac rfl hK S.1 S.2.1 S.2.2.1 hA (fun _ => rfl) hneg hcl (by show z.toNat * 1 ≤ _; omega) (by omega) (by omega) hd (fun q1 cA2 H1 hK1 hP1 hD1 hS1 => ?_)
    have hcA : cA2 = cA 2 := by
      have h1 := (hK1.2 5 (cA2, .boolean) rfl).2
      have h2 := (hK.2 2 (cA 2, .boolean) rfl).2
      exact Option.some.inj (h1.symm.trans h2)
    subst hcA
    have epush := wsl_push (ad := ad) (X := X) (cA := cA) (q := q1) (c' := uz c L.length) (s' := (2, z, [])) S.2.2.2.1 (fun j hj => uz_nes hj)
    have eent : ent (adp ad L.length q1) X cA (2, z, []) (uz c L.length L.length) = .inl (cA 2, (z.toNat, .inl (fun _ => Int32.ofInt 0))) := by
      unfold ent
      simp only [uz_self] <;> rfl
    rw [eent] at epush
    rw [epush] at hP1 hD1
    have S2 := S.push (q := q1) (c' := uz c L.length) (hP1 := hP1) (hD1 := hD1) (hS1 := hS1) (fun j hj => uz_nes hj) (cok_newa (by decide) hz9) (by omega)
    have K := hk (adp ad L.length q1) H1 locs lsM (S2.stk (vok_cons (vok_hd S2.stv) (vok_tl (vok_tl S2.stv))))
    rw [f1, f2] at K
    rw [est q1] at K
    exact K
  · have : Nat.ble (a + 3) 2 = true := hl
    exact absurd (Nat.le_of_ble_eq_true this) (by omega)
theorem g_38 (C : CX p s m args meth c0 f A D cA X n xs) (hRf : 1 ≤ R.frames) (hRl : 100 ≤ R.locals) (hd : decode (mtbs f).1 pc = .ok (raw pc (38, a, b, x))) (hl : lnk (mtbs f).2.2.2.2 (mtbs f).2.2.1 (mtbs f).2.1.name (38, a, b, x) = true) (hs : oks (inf f).1 (38, a, b, x) = true) (h0 : act (38, a, b, x) ls st (L, c) = some (.inl (ls', st', M'))) (hL : M'.1.length ≤ 1000000) (hRc : M'.1.length - n0 ≤ R.cells) (hRs : slz M'.1 - z0 ≤ R.slots) (hk : WS p l e R s m args below meth c0 Q f A D cA X n xs ad0 n0 z0 (npc pc (38, a, b, x)) ls' st' M'.1 M'.2) : WS p l e R s m args below meth c0 Q f A D cA X n xs ad0 n0 z0 pc ls st L c := by
  intro ad H locs lsM S
  obtain ⟨hx, hb, hml, hown, hts, hK, hST, hA, hr, hlk, hnm⟩ := C
  have h9 := pI_inv h0
  clear h0
  obtain ⟨z, t, rfl, h⟩ := h9
  have h9 := if_inv h
  clear h
  obtain ⟨hz9, h⟩ := h9
  have h : (some (.inl (ls, vR ((L.length : Int) + 1) :: t, (L ++ [(a, z, [])], uz c L.length))) : Act) = some (.inl (ls', st', M')) := h
  cases h
  have hz : In32 z := vok_hd S.stv
  have hcl : (Int32.ofInt z).toNatClampNeg = z.toNat := o32_clamp hz
  have hneg : ¬ Int32.ofInt z < 0 := fun q => by
    rw [← o32_0, o32_lt hz in32_0] at q
    omega
  have e1 : (L ++ [(a, z, [])]).length = L.length + 1 := by simp
  have e2 : slz (L ++ [(a, z, [])]) = slz L + z.toNat := by rw [slz_app] <;> rfl
  have b1 : n0 ≤ L.length := S.2.2.2.2.2.1.1
  have b2 : z0 ≤ slz L := S.2.2.2.2.2.1.2.1
  have f1 : (L ++ [(a, z, [])]).length - n0 = L.length - n0 + 1 := by omega
  have f2 : slz (L ++ [(a, z, [])]) - z0 = slz L - z0 + z.toNat := by omega
  have hRc : (L ++ [(a, z, [])]).length - n0 ≤ R.cells := hRc
  have hRs : slz (L ++ [(a, z, [])]) - z0 ≤ R.slots := hRs
  have hL : (L ++ [(a, z, [])]).length ≤ 1000000 := hL
  have est : ∀ q1, (vR ((L.length : Int) + 1) :: t).map (mv (adp ad L.length q1) X) = .ref q1 :: t.map (mv ad X) := fun q1 => by
    rw [List.map_cons]
    congr 1
    · show Value.ref (adp ad L.length q1 L.length) = .ref q1
      rw [adp_eq]
    · exact List.map_congr_left fun v hv => mv_keep (fun k hk => adp_lt hk) (vok_tl S.stv v hv)
  have hl : ((Nat.beq a 3 || Nat.beq a 4) && lkC.any (fun q => Nat.beq q.1 (mtbs f).2.2.2.2 && (decide ((q.2.1 : Int) = x) && Nat.beq q.2.2.1 (a + 100)))) = true := hl
  simp only [Bool.and_eq_true, Bool.or_eq_true] at hl
  obtain ⟨hkd, hl⟩ := hl
  have hkd : a = 3 ∨ a = 4 := hkd.imp beq_of beq_of
  rcases hkd with hkd | hkd
  · subst hkd
    have hw := hts _ (lkC_word hl)
    refine va_newq (C := RX7) hx hb hown hw hST.2.2.2.2.2.2.2.2.1 hK S.1 S.2.1 S.2.2.1 hA hneg hcl (by omega) (by omega) (by omega) hd (fun q1 cA2 H1 hK1 hP1 hD1 hS1 => ?_)
    have hcA : cA2 = cA 3 := by
      obtain ⟨_, _, _, _, _, h1⟩ := (hK1.2 5 (cA2, .object RX7) rfl).2
      obtain ⟨_, _, _, _, _, h2⟩ := (hK.2 3 (cA 3, .object RX7) rfl).2
      exact Option.some.inj (h1.symm.trans h2)
    subst hcA
    have epush := wsl_push (ad := ad) (X := X) (cA := cA) (q := q1) (c' := uz c L.length) (s' := (3, z, [])) S.2.2.2.1 (fun j hj => uz_nes hj)
    have eent : ent (adp ad L.length q1) X cA (3, z, []) (uz c L.length L.length) = .inl (cA 3, (z.toNat, .inr (.inr (.inr (.inr (fun _ => none)))))) := by
      unfold ent
      simp only [uz_self] <;> rfl
    rw [eent] at epush
    rw [epush] at hP1 hD1
    have S2 := S.push (q := q1) (c' := uz c L.length) (hP1 := hP1) (hD1 := hD1) (hS1 := hS1) (fun j hj => uz_nes hj) (cok_newa (by decide) hz9) (by omega)
    have K := hk (adp ad L.length q1) H1 locs lsM (S2.stk (vok_cons (vok_hd S2.stv) (vok_tl (vok_tl S2.stv))))
    rw [f1, f2] at K
    rw [est q1] at K
    exact K
  · subst hkd
    have hw := hts _ (lkC_word hl)
    refine va_newq (C := RX10) hx hb hown hw hST.2.2.2.2.2.2.2.2.2.1 hK S.1 S.2.1 S.2.2.1 hA hneg hcl (by omega) (by omega) (by omega) hd (fun q1 cA2 H1 hK1 hP1 hD1 hS1 => ?_)
    have hcA : cA2 = cA 4 := by
      obtain ⟨_, _, _, _, _, h1⟩ := (hK1.2 5 (cA2, .object RX10) rfl).2
      obtain ⟨_, _, _, _, _, h2⟩ := (hK.2 4 (cA 4, .object RX10) rfl).2
      exact Option.some.inj (h1.symm.trans h2)
    subst hcA
    have epush := wsl_push (ad := ad) (X := X) (cA := cA) (q := q1) (c' := uz c L.length) (s' := (4, z, [])) S.2.2.2.1 (fun j hj => uz_nes hj)
    have eent : ent (adp ad L.length q1) X cA (4, z, []) (uz c L.length L.length) = .inl (cA 4, (z.toNat, .inr (.inr (.inr (.inr (fun _ => none)))))) := by
      unfold ent
      simp only [uz_self] <;> rfl
    rw [eent] at epush
    rw [epush] at hP1 hD1
    have S2 := S.push (q := q1) (c' := uz c L.length) (hP1 := hP1) (hD1 := hD1) (hS1 := hS1) (fun j hj => uz_nes hj) (cok_newa (by decide) hz9) (by omega)
    have K := hk (adp ad L.length q1) H1 locs lsM (S2.stk (vok_cons (vok_hd S2.stv) (vok_tl (vok_tl S2.stv))))
    rw [f1, f2] at K
    rw [est q1] at K
    exact K
theorem g_40 (C : CX p s m args meth c0 f A D cA X n xs) (hRf : 1 ≤ R.frames) (hRl : 100 ≤ R.locals) (hd : decode (mtbs f).1 pc = .ok (raw pc (40, a, b, x))) (hl : lnk (mtbs f).2.2.2.2 (mtbs f).2.2.1 (mtbs f).2.1.name (40, a, b, x) = true) (hs : oks (inf f).1 (40, a, b, x) = true) (h0 : act (40, a, b, x) ls st (L, c) = some (.inl (ls', st', M'))) (hL : M'.1.length ≤ 1000000) (hRc : M'.1.length - n0 ≤ R.cells) (hRs : slz M'.1 - z0 ≤ R.slots) (hk : WS p l e R s m args below meth c0 Q f A D cA X n xs ad0 n0 z0 (npc pc (40, a, b, x)) ls' st' M'.1 M'.2) : WS p l e R s m args below meth c0 Q f A D cA X n xs ad0 n0 z0 pc ls st L c := by
  intro ad H locs lsM S
  obtain ⟨hx, hb, hml, hown, hts, hK, hST, hA, hr, hlk, hnm⟩ := C
  have h9 := pR_inv h0
  clear h0
  obtain ⟨r, t, rfl, h⟩ := h9
  have h9 := pD_inv h
  clear h
  obtain ⟨k, sh, hk0, rfl, h⟩ := h9
  have h9 := bif_inv h
  clear h
  obtain ⟨h1, h⟩ := h9
  have h : (some (.inl (ls, t, (L, c))) : Act) = some (.inl (ls', st', M')) := h
  cases h
  have hcat := catS_le (ad := ad) (X := X) st'
  have h1 := Nat.le_of_ble_eq_true h1
  refine W.objInit (g := F0 m pc lsM ((vR ((k : Int) + 1) :: st').map (mv ad X))) (a := ad k) (rest := st'.map (mv ad X)) hx hb hown (hts _ (lkO_word hl)) (hts _ objI) (hts _ objC) rfl (S.lr.2.1.trans hml.symm) rfl hd hRf ?_ (hk ad H locs lsM (S.stk (vok_tl S.stv)))
  show 2 * 0 + ((st'.map (mv ad X)).map fun v => v.category).sum + 12 ≤ R.locals
  omega
end OPS

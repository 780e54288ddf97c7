/-! THE CLASS READS: words -/
/-- a word, read as a part -/
theorem c_words {T : List Shp} {X : GX} {o : Int} {B : Int → Int} {L b p n q y : Int} {c : Cm} (hX : GRr o B L X) (h : CRH c B L o b p n q) (e91 : ¬ isg B L p 91) (ek : ¬ kd B L p = 1) (ey : ccal 60 [vR 49, vR y] (SH T, c) = some (some (vI (tkw B L p (WSx o))), (SH T, c))) : QI T (fun r c' => Fr RDA c c' ∧ ∃ out, X 0 b p n dz out ∧ CPO c B L (NWx o) p n q out r c') (cev 55 (7 + 10 * (9 - b).toNat) 114 [vR 49, vU, vU] [vR y, vR 49] (SH T, c)) := by
  obtain ⟨h1, h2, h3, h4, h5, h6, h7⟩ := h
  have pL := h1.pL
  have hbl := h1.2.2.1
  have t5 := h1.2.2.2.2.2.1
  have l450 : 0 ≤ c 11 3 ∧ c 11 3 ≤ 450 := by omega
  refine W_X6_readPart_114 ⟨by omega, QI.of_eq ey ?_⟩
  rw [h3]
  refine ⟨fun e2 => QI.ret ⟨Fr.rfl, .inl p, hX.pa7 e91 ek (.inl e2), rfl, t5, l450, pL.1⟩, fun e2 => ⟨fun e3 => ?_, fun e3 => QI.ret ⟨Fr.rfl, .inl p, hX.pa7 e91 ek (.inr e3), rfl, t5, l450, pL.1⟩⟩⟩
  have tl := tkw_lt e2
  have wl : ((WSx o).length : Int) = if o = 0 then 10 else 7 := by
    unfold WSx
    split <;> rfl
  have plt : p < L := kd_lt (by rw [tl.1]; decide)
  have nb := nx_bd (B := B) pL.2.1
  have nb2 := nb.2.2 plt
  have hE : EC (up c 48 8 (n + 1)) B L p := h1.cong (up_ne (by decide)) (up_ne (by decide)) (up_ne (by decide)) (up_ne (by decide)) (up_ne (by decide)) (up_cell (by decide))
  refine ⟨by omega, hE.next.mono fun c3 h9 => ?_⟩
  have k := NXA.keep h9.1
  have f3 : Fr RDA c c3 := (Fr.rfl.wr (by unfold RDA; omega)).trans (h9.1.mono fun q j a => a.rda)
  have e33 : c3 48 3 = o := k.1.trans ((up_ne (by decide)).trans h2)
  have e38 : c3 48 8 = n + 1 := k.2.1.trans up_same
  have e311 : c3 11 = c 11 := k.2.2.1.trans (up_cell (by decide))
  have e313 : c3 13 = c 13 := k.2.2.2.trans (up_cell (by decide))
  have u4 := h9.2.2.2.2.2.1
  have u5 := h9.2.2.2.2.2.2.1
  have u7 := h9.2.2.2.2.2.2.2.2
  have l3 : 0 ≤ c3 11 3 ∧ c3 11 3 ≤ 450 := by rw [e311]; exact l450
  have n0 : 0 ≤ n ∧ n < 50 := ⟨h4.1, e3⟩
  have p4 : 0 ≤ p ∧ p ≤ 400 := by omega
  rw [e33]
  refine ⟨fun e4 => c_wordStep h6 p4 h7 n0 h5 tl.2.1 ?_ f3 h9.2 nb2 e38 e311 e313 (hX.pa8 e91 ek rfl e2 e3 (fun z => z.1 e4)), fun e4 => ⟨fun e5 => ⟨fun e6 => ?_, fun e6 => ?_⟩, fun e5 => c_wordStep h6 p4 h7 n0 h5 tl.2.1 ?_ f3 h9.2 nb2 e38 e311 e313 (hX.pa8 e91 ek rfl e2 e3 (fun z => e5 z.2))⟩⟩
  · rw [wl, if_pos e4] at tl
    unfold NWx
    rw [if_pos e4]
    exact tl.2.2
  · have ek2 : kd B L (nx B L p) = 1 := u4.symm.trans e6
    have ncb2 := nc_bd hbl (show 0 ≤ nx B L p by omega)
    rw [u7]
    refine ⟨fun e7 => ⟨by omega, h9.2.next.mono fun c4 hd => ?_⟩, fun e7 => QI.ret ⟨f3, .inl (nx B L p), hX.pa9 e91 ek e5 e3 e4 (.inr e7), rfl, u5, l3, by omega⟩⟩
    have k4 := NXA.keep hd.1
    have nb3 := nx_bd (B := B) nb.2.1
    rw [e5]
    refine c_wordStep (w := 6 + nc B L (nx B L p)) (s := c4) h6 p4 h7 n0 h5 (by omega) ?_ (f3.trans (hd.1.mono fun q j a => a.rda)) hd.2 (by omega) (k4.2.1.trans e38) (k4.2.2.1.trans e311) (k4.2.2.2.trans e313) (hX.pa10 e91 ek e5 e3 e4 ek2 e7)
    unfold NWx
    rw [if_neg e4]
    omega
  · exact QI.ret ⟨f3, .inl (nx B L p), hX.pa9 e91 ek e5 e3 e4 (.inl fun z => e6 (u4.trans z)), rfl, u5, l3, by omega⟩
  · rw [wl, if_neg e4] at tl
    unfold NWx
    rw [if_neg e4]
    have := tl.2.2
    omega
